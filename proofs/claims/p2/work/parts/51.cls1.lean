/-! THE CLASS over the typed memory: each method answers, keeps the invariant, changes what fw_.. names (printed by wip/zv.py) -/
theorem g_b_isPlace_sp {x0 : Int} {x1 : Int} {σ : zS} : zOp (g_b_isPlace x0 x1 σ) σ (fun v => v ≠ 0 → 0 ≤ x0 ∧ x0 ≤ 31 ∧ 0 ≤ x1 ∧ x1 ≤ 31) := by
  unfold g_b_isPlace
  try dsimp +instances only
  refine zOp.ite (fun c_1 => ?_) (fun c_1 => ?_)
  ·
    try dsimp +instances only
    exact zOp.ret (by omega)
  ·
    try dsimp +instances only
    refine zOp.ite (fun c_2 => ?_) (fun c_2 => ?_)
    ·
      try dsimp +instances only
      exact zOp.ret (by omega)
    ·
      try dsimp +instances only
      refine zOp.ite (fun c_3 => ?_) (fun c_3 => ?_)
      ·
        try dsimp +instances only
        exact zOp.ret (by omega)
      ·
        try dsimp +instances only
        refine zOp.ite (fun c_4 => ?_) (fun c_4 => ?_)
        ·
          try dsimp +instances only
          exact zOp.ret (by omega)
        ·
          try dsimp +instances only
          exact zOp.ret (by omega)
theorem g_b_isBox_sp {x0 : Int} {x1 : Int} {x2 : Int} {x3 : Int} {σ : zS} : zOp (g_b_isBox x0 x1 x2 x3 σ) σ (fun v => True) := by
  unfold g_b_isBox
  try dsimp +instances only
  refine zOp.bindp (g_b_isPlace_sp) (fun r_2 p_2 => ?_)
  try dsimp +instances only
  refine zOp.ite (fun c_2 => ?_) (fun c_2 => ?_)
  ·
    try dsimp +instances only
    exact zOp.ret trivial
  ·
    try dsimp +instances only
    refine zOp.bindp (g_b_isPlace_sp) (fun r_10 p_10 => ?_)
    try dsimp +instances only
    refine zOp.ite (fun c_4 => ?_) (fun c_4 => ?_)
    ·
      try dsimp +instances only
      exact zOp.ret trivial
    ·
      try dsimp +instances only
      refine zOp.ite (fun c_5 => ?_) (fun c_5 => ?_)
      ·
        try dsimp +instances only
        exact zOp.ret trivial
      ·
        try dsimp +instances only
        refine zOp.ite (fun c_6 => ?_) (fun c_6 => ?_)
        ·
          try dsimp +instances only
          exact zOp.ret trivial
        ·
          try dsimp +instances only
          exact zOp.ret trivial
theorem g_b_of_sp {x0 : Int} {x1 : Int} {x2 : Int} {x3 : Int} {σ : zS} : zOp (g_b_of x0 x1 x2 x3 σ) σ (fun v => True) := by
  unfold g_b_of
  try dsimp +instances only
  exact zOp.ret trivial
theorem g_b_area_sp {x0 : Int} {σ : zS} : zOp (g_b_area x0 σ) σ (fun v => True) := by
  unfold g_b_area
  try dsimp +instances only
  refine zOp.bindp (g_b_x1_sp) (fun r_1 p_1 => ?_)
  try dsimp +instances only
  refine zOp.bindp (g_b_x0_sp) (fun r_5 p_5 => ?_)
  try dsimp +instances only
  refine zOp.bindp (g_b_y1_sp) (fun r_12 p_12 => ?_)
  try dsimp +instances only
  refine zOp.bindp (g_b_y0_sp) (fun r_16 p_16 => ?_)
  try dsimp +instances only
  try have ew_5 := w32_id (x := r_1 - r_5) (by omega) (by omega)
  try have ew_6 := w32_id (x := r_12 - r_16) (by omega) (by omega)
  try have ew_7 := w32_id (x := (w32 (r_1 - r_5)) + 1) (by omega) (by omega)
  try have ew_8 := w32_id (x := (w32 (r_12 - r_16)) + 1) (by omega) (by omega)
  try have ew_9 := w32_id (x := (w32 ((w32 (r_1 - r_5)) + 1)) * (w32 ((w32 (r_12 - r_16)) + 1))) (by omega) (by omega)
  exact zOp.ret trivial
theorem g_b_meet_sp {x0 : Int} {x1 : Int} {σ : zS} : zOp (g_b_meet x0 x1 σ) σ (fun v => True) := by
  unfold g_b_meet
  try dsimp +instances only
  refine zOp.ite (fun c_1 => ?_) (fun c_1 => ?_)
  ·
    try dsimp +instances only
    exact zOp.ret trivial
  ·
    try dsimp +instances only
    refine zOp.ite (fun c_2 => ?_) (fun c_2 => ?_)
    ·
      try dsimp +instances only
      exact zOp.ret trivial
    ·
      try dsimp +instances only
      refine zOp.bindp (g_b_x0_sp) (fun r_11 p_11 => ?_)
      try dsimp +instances only
      refine zOp.bindp (g_b_x1_sp) (fun r_15 p_15 => ?_)
      try dsimp +instances only
      refine zOp.ite (fun c_5 => ?_) (fun c_5 => ?_)
      ·
        try dsimp +instances only
        exact zOp.ret trivial
      ·
        try dsimp +instances only
        refine zOp.bindp (g_b_x0_sp) (fun r_22 p_22 => ?_)
        try dsimp +instances only
        refine zOp.bindp (g_b_x1_sp) (fun r_26 p_26 => ?_)
        try dsimp +instances only
        refine zOp.ite (fun c_8 => ?_) (fun c_8 => ?_)
        ·
          try dsimp +instances only
          exact zOp.ret trivial
        ·
          try dsimp +instances only
          refine zOp.bindp (g_b_y0_sp) (fun r_33 p_33 => ?_)
          try dsimp +instances only
          refine zOp.bindp (g_b_y1_sp) (fun r_37 p_37 => ?_)
          try dsimp +instances only
          refine zOp.ite (fun c_11 => ?_) (fun c_11 => ?_)
          ·
            try dsimp +instances only
            exact zOp.ret trivial
          ·
            try dsimp +instances only
            refine zOp.bindp (g_b_y0_sp) (fun r_44 p_44 => ?_)
            try dsimp +instances only
            refine zOp.bindp (g_b_y1_sp) (fun r_48 p_48 => ?_)
            try dsimp +instances only
            refine zOp.ite (fun c_14 => ?_) (fun c_14 => ?_)
            ·
              try dsimp +instances only
              exact zOp.ret trivial
            ·
              try dsimp +instances only
              exact zOp.ret trivial
theorem g_jMath_max_289_sp {x0 : Int} {x1 : Int} {σ : zS} : zOp (g_jMath_max_289 x0 x1 σ) σ (fun v => x0 ≤ v ∧ x1 ≤ v ∧ (v = x0 ∨ v = x1)) := by
  unfold g_jMath_max_289
  try dsimp +instances only
  refine zOp.ite (fun c_1 => ?_) (fun c_1 => ?_)
  ·
    try dsimp +instances only
    exact zOp.ret (by omega)
  ·
    try dsimp +instances only
    exact zOp.ret (by omega)
theorem g_jMath_min_291_sp {x0 : Int} {x1 : Int} {σ : zS} : zOp (g_jMath_min_291 x0 x1 σ) σ (fun v => v ≤ x0 ∧ v ≤ x1 ∧ (v = x0 ∨ v = x1)) := by
  unfold g_jMath_min_291
  try dsimp +instances only
  refine zOp.ite (fun c_1 => ?_) (fun c_1 => ?_)
  ·
    try dsimp +instances only
    exact zOp.ret (by omega)
  ·
    try dsimp +instances only
    exact zOp.ret (by omega)
theorem g_b_common_sp {x0 : Int} {x1 : Int} {σ : zS} : zOp (g_b_common x0 x1 σ) σ (fun v => True) := by
  unfold g_b_common
  try dsimp +instances only
  refine zOp.bindp (g_b_meet_sp) (fun r_2 p_2 => ?_)
  try dsimp +instances only
  refine zOp.ite (fun c_2 => ?_) (fun c_2 => ?_)
  ·
    try dsimp +instances only
    refine zOp.bindp (g_b_x0_sp) (fun r_11 p_11 => ?_)
    try dsimp +instances only
    refine zOp.bindp (g_b_x0_sp) (fun r_15 p_15 => ?_)
    try dsimp +instances only
    refine zOp.bindp (g_jMath_max_289_sp) (fun r_18 p_18 => ?_)
    try dsimp +instances only
    refine zOp.bindp (g_b_x1_sp) (fun r_22 p_22 => ?_)
    try dsimp +instances only
    refine zOp.bindp (g_b_x1_sp) (fun r_26 p_26 => ?_)
    try dsimp +instances only
    refine zOp.bindp (g_jMath_min_291_sp) (fun r_29 p_29 => ?_)
    try dsimp +instances only
    refine zOp.bindp (g_b_y0_sp) (fun r_33 p_33 => ?_)
    try dsimp +instances only
    refine zOp.bindp (g_b_y0_sp) (fun r_37 p_37 => ?_)
    try dsimp +instances only
    refine zOp.bindp (g_jMath_max_289_sp) (fun r_40 p_40 => ?_)
    try dsimp +instances only
    refine zOp.bindp (g_b_y1_sp) (fun r_44 p_44 => ?_)
    try dsimp +instances only
    refine zOp.bindp (g_b_y1_sp) (fun r_48 p_48 => ?_)
    try dsimp +instances only
    refine zOp.bindp (g_jMath_min_291_sp) (fun r_51 p_51 => ?_)
    try dsimp +instances only
    refine zOp.bindp (g_b_of_sp) (fun r_54 p_54 => ?_)
    try dsimp +instances only
    exact zOp.ret trivial
  ·
    try dsimp +instances only
    exact zOp.ret trivial
theorem g_b_around_sp {x0 : Int} {x1 : Int} {σ : zS} : zOp (g_b_around x0 x1 σ) σ (fun v => True) := by
  unfold g_b_around
  try dsimp +instances only
  refine zOp.ite (fun c_1 => ?_) (fun c_1 => ?_)
  ·
    try dsimp +instances only
    refine zOp.ite (fun c_2 => ?_) (fun c_2 => ?_)
    ·
      try dsimp +instances only
      refine zOp.bindp (g_b_x0_sp) (fun r_15 p_15 => ?_)
      try dsimp +instances only
      refine zOp.bindp (g_b_x0_sp) (fun r_19 p_19 => ?_)
      try dsimp +instances only
      refine zOp.bindp (g_jMath_min_291_sp) (fun r_22 p_22 => ?_)
      try dsimp +instances only
      refine zOp.bindp (g_b_x1_sp) (fun r_26 p_26 => ?_)
      try dsimp +instances only
      refine zOp.bindp (g_b_x1_sp) (fun r_30 p_30 => ?_)
      try dsimp +instances only
      refine zOp.bindp (g_jMath_max_289_sp) (fun r_33 p_33 => ?_)
      try dsimp +instances only
      refine zOp.bindp (g_b_y0_sp) (fun r_37 p_37 => ?_)
      try dsimp +instances only
      refine zOp.bindp (g_b_y0_sp) (fun r_41 p_41 => ?_)
      try dsimp +instances only
      refine zOp.bindp (g_jMath_min_291_sp) (fun r_44 p_44 => ?_)
      try dsimp +instances only
      refine zOp.bindp (g_b_y1_sp) (fun r_48 p_48 => ?_)
      try dsimp +instances only
      refine zOp.bindp (g_b_y1_sp) (fun r_52 p_52 => ?_)
      try dsimp +instances only
      refine zOp.bindp (g_jMath_max_289_sp) (fun r_55 p_55 => ?_)
      try dsimp +instances only
      refine zOp.bindp (g_b_of_sp) (fun r_58 p_58 => ?_)
      try dsimp +instances only
      exact zOp.ret trivial
    ·
      try dsimp +instances only
      exact zOp.ret trivial
  ·
    try dsimp +instances only
    exact zOp.ret trivial
theorem g_b_join_sp {x0 : Int} {x1 : Int} {σ : zS} : zOp (g_b_join x0 x1 σ) σ (fun v => True) := by
  unfold g_b_join
  try dsimp +instances only
  refine zOp.bindp (g_b_x1_sp) (fun r_1 p_1 => ?_)
  try dsimp +instances only
  refine zOp.bindp (g_b_x0_sp) (fun r_7 p_7 => ?_)
  try dsimp +instances only
  try have ew_3 := w32_id (x := r_1 + 1) (by omega) (by omega)
  refine zOp.ite (fun c_4 => ?_) (fun c_4 => ?_)
  ·
    try dsimp +instances only
    unfold g_b_join_L26
    try dsimp +instances only
    unfold g_b_join_L31
    try dsimp +instances only
    refine zOp.bindp (g_b_y1_sp) (fun r_33 p_33 => ?_)
    try dsimp +instances only
    refine zOp.bindp (g_b_y0_sp) (fun r_39 p_39 => ?_)
    try dsimp +instances only
    try have ew_7 := w32_id (x := r_33 + 1) (by omega) (by omega)
    refine zOp.ite (fun c_8 => ?_) (fun c_8 => ?_)
    ·
      try dsimp +instances only
      unfold g_b_join_L58
      try dsimp +instances only
      unfold g_b_join_L63
      try dsimp +instances only
      refine zOp.ite (fun c_9 => ?_) (fun c_9 => ?_)
      ·
        try dsimp +instances only
        unfold g_b_join_L82
        try dsimp +instances only
        refine zOp.ite (fun c_10 => ?_) (fun c_10 => ?_)
        ·
          try dsimp +instances only
          unfold g_b_join_L100
          try dsimp +instances only
          refine zOp.ite (fun c_11 => ?_) (fun c_11 => ?_)
          ·
            try dsimp +instances only
            unfold g_b_join_L111
            try dsimp +instances only
            refine zOp.ite (fun c_12 => ?_) (fun c_12 => ?_)
            ·
              try dsimp +instances only
              exact zOp.ret trivial
            ·
              try dsimp +instances only
              refine zOp.ite (fun c_13 => ?_) (fun c_13 => ?_)
              ·
                try dsimp +instances only
                exact zOp.ret trivial
              ·
                try dsimp +instances only
                exact zOp.ret trivial
          ·
            try dsimp +instances only
            refine zOp.ite (fun c_14 => ?_) (fun c_14 => ?_)
            ·
              try dsimp +instances only
              exact zOp.ret trivial
            ·
              try dsimp +instances only
              unfold g_b_join_L111
              try dsimp +instances only
              refine zOp.ite (fun c_15 => ?_) (fun c_15 => ?_)
              ·
                try dsimp +instances only
                exact zOp.ret trivial
              ·
                try dsimp +instances only
                refine zOp.ite (fun c_16 => ?_) (fun c_16 => ?_)
                ·
                  try dsimp +instances only
                  exact zOp.ret trivial
                ·
                  try dsimp +instances only
                  exact zOp.ret trivial
        ·
          try dsimp +instances only
          unfold g_b_join_L100
          try dsimp +instances only
          refine zOp.ite (fun c_17 => ?_) (fun c_17 => ?_)
          ·
            try dsimp +instances only
            unfold g_b_join_L111
            try dsimp +instances only
            refine zOp.ite (fun c_18 => ?_) (fun c_18 => ?_)
            ·
              try dsimp +instances only
              exact zOp.ret trivial
            ·
              try dsimp +instances only
              refine zOp.ite (fun c_19 => ?_) (fun c_19 => ?_)
              ·
                try dsimp +instances only
                exact zOp.ret trivial
              ·
                try dsimp +instances only
                exact zOp.ret trivial
          ·
            try dsimp +instances only
            refine zOp.ite (fun c_20 => ?_) (fun c_20 => ?_)
            ·
              try dsimp +instances only
              exact zOp.ret trivial
            ·
              try dsimp +instances only
              unfold g_b_join_L111
              try dsimp +instances only
              refine zOp.ite (fun c_21 => ?_) (fun c_21 => ?_)
              ·
                try dsimp +instances only
                exact zOp.ret trivial
              ·
                try dsimp +instances only
                refine zOp.ite (fun c_22 => ?_) (fun c_22 => ?_)
                ·
                  try dsimp +instances only
                  exact zOp.ret trivial
                ·
                  try dsimp +instances only
                  exact zOp.ret trivial
      ·
        try dsimp +instances only
        unfold g_b_join_L82
        try dsimp +instances only
        refine zOp.ite (fun c_23 => ?_) (fun c_23 => ?_)
        ·
          try dsimp +instances only
          unfold g_b_join_L100
          try dsimp +instances only
          refine zOp.ite (fun c_24 => ?_) (fun c_24 => ?_)
          ·
            try dsimp +instances only
            unfold g_b_join_L111
            try dsimp +instances only
            refine zOp.ite (fun c_25 => ?_) (fun c_25 => ?_)
            ·
              try dsimp +instances only
              exact zOp.ret trivial
            ·
              try dsimp +instances only
              refine zOp.ite (fun c_26 => ?_) (fun c_26 => ?_)
              ·
                try dsimp +instances only
                exact zOp.ret trivial
              ·
                try dsimp +instances only
                exact zOp.ret trivial
          ·
            try dsimp +instances only
            refine zOp.ite (fun c_27 => ?_) (fun c_27 => ?_)
            ·
              try dsimp +instances only
              exact zOp.ret trivial
            ·
              try dsimp +instances only
              unfold g_b_join_L111
              try dsimp +instances only
              refine zOp.ite (fun c_28 => ?_) (fun c_28 => ?_)
              ·
                try dsimp +instances only
                exact zOp.ret trivial
              ·
                try dsimp +instances only
                refine zOp.ite (fun c_29 => ?_) (fun c_29 => ?_)
                ·
                  try dsimp +instances only
                  exact zOp.ret trivial
                ·
                  try dsimp +instances only
                  exact zOp.ret trivial
        ·
          try dsimp +instances only
          unfold g_b_join_L100
          try dsimp +instances only
          refine zOp.ite (fun c_30 => ?_) (fun c_30 => ?_)
          ·
            try dsimp +instances only
            unfold g_b_join_L111
            try dsimp +instances only
            refine zOp.ite (fun c_31 => ?_) (fun c_31 => ?_)
            ·
              try dsimp +instances only
              exact zOp.ret trivial
            ·
              try dsimp +instances only
              refine zOp.ite (fun c_32 => ?_) (fun c_32 => ?_)
              ·
                try dsimp +instances only
                exact zOp.ret trivial
              ·
                try dsimp +instances only
                exact zOp.ret trivial
          ·
            try dsimp +instances only
            refine zOp.ite (fun c_33 => ?_) (fun c_33 => ?_)
            ·
              try dsimp +instances only
              exact zOp.ret trivial
            ·
              try dsimp +instances only
              unfold g_b_join_L111
              try dsimp +instances only
              refine zOp.ite (fun c_34 => ?_) (fun c_34 => ?_)
              ·
                try dsimp +instances only
                exact zOp.ret trivial
              ·
                try dsimp +instances only
                refine zOp.ite (fun c_35 => ?_) (fun c_35 => ?_)
                ·
                  try dsimp +instances only
                  exact zOp.ret trivial
                ·
                  try dsimp +instances only
                  exact zOp.ret trivial
    ·
      try dsimp +instances only
      refine zOp.bindp (g_b_y1_sp) (fun r_46 p_46 => ?_)
      try dsimp +instances only
      refine zOp.bindp (g_b_y0_sp) (fun r_52 p_52 => ?_)
      try dsimp +instances only
      try have ew_38 := w32_id (x := r_46 + 1) (by omega) (by omega)
      refine zOp.ite (fun c_39 => ?_) (fun c_39 => ?_)
      ·
        try dsimp +instances only
        unfold g_b_join_L63
        try dsimp +instances only
        refine zOp.ite (fun c_40 => ?_) (fun c_40 => ?_)
        ·
          try dsimp +instances only
          unfold g_b_join_L82
          try dsimp +instances only
          refine zOp.ite (fun c_41 => ?_) (fun c_41 => ?_)
          ·
            try dsimp +instances only
            unfold g_b_join_L100
            try dsimp +instances only
            refine zOp.ite (fun c_42 => ?_) (fun c_42 => ?_)
            ·
              try dsimp +instances only
              unfold g_b_join_L111
              try dsimp +instances only
              refine zOp.ite (fun c_43 => ?_) (fun c_43 => ?_)
              ·
                try dsimp +instances only
                exact zOp.ret trivial
              ·
                try dsimp +instances only
                refine zOp.ite (fun c_44 => ?_) (fun c_44 => ?_)
                ·
                  try dsimp +instances only
                  exact zOp.ret trivial
                ·
                  try dsimp +instances only
                  exact zOp.ret trivial
            ·
              try dsimp +instances only
              refine zOp.ite (fun c_45 => ?_) (fun c_45 => ?_)
              ·
                try dsimp +instances only
                exact zOp.ret trivial
              ·
                try dsimp +instances only
                unfold g_b_join_L111
                try dsimp +instances only
                refine zOp.ite (fun c_46 => ?_) (fun c_46 => ?_)
                ·
                  try dsimp +instances only
                  exact zOp.ret trivial
                ·
                  try dsimp +instances only
                  refine zOp.ite (fun c_47 => ?_) (fun c_47 => ?_)
                  ·
                    try dsimp +instances only
                    exact zOp.ret trivial
                  ·
                    try dsimp +instances only
                    exact zOp.ret trivial
          ·
            try dsimp +instances only
            unfold g_b_join_L100
            try dsimp +instances only
            refine zOp.ite (fun c_48 => ?_) (fun c_48 => ?_)
            ·
              try dsimp +instances only
              unfold g_b_join_L111
              try dsimp +instances only
              refine zOp.ite (fun c_49 => ?_) (fun c_49 => ?_)
              ·
                try dsimp +instances only
                exact zOp.ret trivial
              ·
                try dsimp +instances only
                refine zOp.ite (fun c_50 => ?_) (fun c_50 => ?_)
                ·
                  try dsimp +instances only
                  exact zOp.ret trivial
                ·
                  try dsimp +instances only
                  exact zOp.ret trivial
            ·
              try dsimp +instances only
              refine zOp.ite (fun c_51 => ?_) (fun c_51 => ?_)
              ·
                try dsimp +instances only
                exact zOp.ret trivial
              ·
                try dsimp +instances only
                unfold g_b_join_L111
                try dsimp +instances only
                refine zOp.ite (fun c_52 => ?_) (fun c_52 => ?_)
                ·
                  try dsimp +instances only
                  exact zOp.ret trivial
                ·
                  try dsimp +instances only
                  refine zOp.ite (fun c_53 => ?_) (fun c_53 => ?_)
                  ·
                    try dsimp +instances only
                    exact zOp.ret trivial
                  ·
                    try dsimp +instances only
                    exact zOp.ret trivial
        ·
          try dsimp +instances only
          unfold g_b_join_L82
          try dsimp +instances only
          refine zOp.ite (fun c_54 => ?_) (fun c_54 => ?_)
          ·
            try dsimp +instances only
            unfold g_b_join_L100
            try dsimp +instances only
            refine zOp.ite (fun c_55 => ?_) (fun c_55 => ?_)
            ·
              try dsimp +instances only
              unfold g_b_join_L111
              try dsimp +instances only
              refine zOp.ite (fun c_56 => ?_) (fun c_56 => ?_)
              ·
                try dsimp +instances only
                exact zOp.ret trivial
              ·
                try dsimp +instances only
                refine zOp.ite (fun c_57 => ?_) (fun c_57 => ?_)
                ·
                  try dsimp +instances only
                  exact zOp.ret trivial
                ·
                  try dsimp +instances only
                  exact zOp.ret trivial
            ·
              try dsimp +instances only
              refine zOp.ite (fun c_58 => ?_) (fun c_58 => ?_)
              ·
                try dsimp +instances only
                exact zOp.ret trivial
              ·
                try dsimp +instances only
                unfold g_b_join_L111
                try dsimp +instances only
                refine zOp.ite (fun c_59 => ?_) (fun c_59 => ?_)
                ·
                  try dsimp +instances only
                  exact zOp.ret trivial
                ·
                  try dsimp +instances only
                  refine zOp.ite (fun c_60 => ?_) (fun c_60 => ?_)
                  ·
                    try dsimp +instances only
                    exact zOp.ret trivial
                  ·
                    try dsimp +instances only
                    exact zOp.ret trivial
          ·
            try dsimp +instances only
            unfold g_b_join_L100
            try dsimp +instances only
            refine zOp.ite (fun c_61 => ?_) (fun c_61 => ?_)
            ·
              try dsimp +instances only
              unfold g_b_join_L111
              try dsimp +instances only
              refine zOp.ite (fun c_62 => ?_) (fun c_62 => ?_)
              ·
                try dsimp +instances only
                exact zOp.ret trivial
              ·
                try dsimp +instances only
                refine zOp.ite (fun c_63 => ?_) (fun c_63 => ?_)
                ·
                  try dsimp +instances only
                  exact zOp.ret trivial
                ·
                  try dsimp +instances only
                  exact zOp.ret trivial
            ·
              try dsimp +instances only
              refine zOp.ite (fun c_64 => ?_) (fun c_64 => ?_)
              ·
                try dsimp +instances only
                exact zOp.ret trivial
              ·
                try dsimp +instances only
                unfold g_b_join_L111
                try dsimp +instances only
                refine zOp.ite (fun c_65 => ?_) (fun c_65 => ?_)
                ·
                  try dsimp +instances only
                  exact zOp.ret trivial
                ·
                  try dsimp +instances only
                  refine zOp.ite (fun c_66 => ?_) (fun c_66 => ?_)
                  ·
                    try dsimp +instances only
                    exact zOp.ret trivial
                  ·
                    try dsimp +instances only
                    exact zOp.ret trivial
      ·
        try dsimp +instances only
        unfold g_b_join_L58
        try dsimp +instances only
        unfold g_b_join_L63
        try dsimp +instances only
        refine zOp.ite (fun c_67 => ?_) (fun c_67 => ?_)
        ·
          try dsimp +instances only
          unfold g_b_join_L82
          try dsimp +instances only
          refine zOp.ite (fun c_68 => ?_) (fun c_68 => ?_)
          ·
            try dsimp +instances only
            unfold g_b_join_L100
            try dsimp +instances only
            refine zOp.ite (fun c_69 => ?_) (fun c_69 => ?_)
            ·
              try dsimp +instances only
              unfold g_b_join_L111
              try dsimp +instances only
              refine zOp.ite (fun c_70 => ?_) (fun c_70 => ?_)
              ·
                try dsimp +instances only
                exact zOp.ret trivial
              ·
                try dsimp +instances only
                refine zOp.ite (fun c_71 => ?_) (fun c_71 => ?_)
                ·
                  try dsimp +instances only
                  exact zOp.ret trivial
                ·
                  try dsimp +instances only
                  exact zOp.ret trivial
            ·
              try dsimp +instances only
              refine zOp.ite (fun c_72 => ?_) (fun c_72 => ?_)
              ·
                try dsimp +instances only
                exact zOp.ret trivial
              ·
                try dsimp +instances only
                unfold g_b_join_L111
                try dsimp +instances only
                refine zOp.ite (fun c_73 => ?_) (fun c_73 => ?_)
                ·
                  try dsimp +instances only
                  exact zOp.ret trivial
                ·
                  try dsimp +instances only
                  refine zOp.ite (fun c_74 => ?_) (fun c_74 => ?_)
                  ·
                    try dsimp +instances only
                    exact zOp.ret trivial
                  ·
                    try dsimp +instances only
                    exact zOp.ret trivial
          ·
            try dsimp +instances only
            unfold g_b_join_L100
            try dsimp +instances only
            refine zOp.ite (fun c_75 => ?_) (fun c_75 => ?_)
            ·
              try dsimp +instances only
              unfold g_b_join_L111
              try dsimp +instances only
              refine zOp.ite (fun c_76 => ?_) (fun c_76 => ?_)
              ·
                try dsimp +instances only
                exact zOp.ret trivial
              ·
                try dsimp +instances only
                refine zOp.ite (fun c_77 => ?_) (fun c_77 => ?_)
                ·
                  try dsimp +instances only
                  exact zOp.ret trivial
                ·
                  try dsimp +instances only
                  exact zOp.ret trivial
            ·
              try dsimp +instances only
              refine zOp.ite (fun c_78 => ?_) (fun c_78 => ?_)
              ·
                try dsimp +instances only
                exact zOp.ret trivial
              ·
                try dsimp +instances only
                unfold g_b_join_L111
                try dsimp +instances only
                refine zOp.ite (fun c_79 => ?_) (fun c_79 => ?_)
                ·
                  try dsimp +instances only
                  exact zOp.ret trivial
                ·
                  try dsimp +instances only
                  refine zOp.ite (fun c_80 => ?_) (fun c_80 => ?_)
                  ·
                    try dsimp +instances only
                    exact zOp.ret trivial
                  ·
                    try dsimp +instances only
                    exact zOp.ret trivial
        ·
          try dsimp +instances only
          unfold g_b_join_L82
          try dsimp +instances only
          refine zOp.ite (fun c_81 => ?_) (fun c_81 => ?_)
          ·
            try dsimp +instances only
            unfold g_b_join_L100
            try dsimp +instances only
            refine zOp.ite (fun c_82 => ?_) (fun c_82 => ?_)
            ·
              try dsimp +instances only
              unfold g_b_join_L111
              try dsimp +instances only
              refine zOp.ite (fun c_83 => ?_) (fun c_83 => ?_)
              ·
                try dsimp +instances only
                exact zOp.ret trivial
              ·
                try dsimp +instances only
                refine zOp.ite (fun c_84 => ?_) (fun c_84 => ?_)
                ·
                  try dsimp +instances only
                  exact zOp.ret trivial
                ·
                  try dsimp +instances only
                  exact zOp.ret trivial
            ·
              try dsimp +instances only
              refine zOp.ite (fun c_85 => ?_) (fun c_85 => ?_)
              ·
                try dsimp +instances only
                exact zOp.ret trivial
              ·
                try dsimp +instances only
                unfold g_b_join_L111
                try dsimp +instances only
                refine zOp.ite (fun c_86 => ?_) (fun c_86 => ?_)
                ·
                  try dsimp +instances only
                  exact zOp.ret trivial
                ·
                  try dsimp +instances only
                  refine zOp.ite (fun c_87 => ?_) (fun c_87 => ?_)
                  ·
                    try dsimp +instances only
                    exact zOp.ret trivial
                  ·
                    try dsimp +instances only
                    exact zOp.ret trivial
          ·
            try dsimp +instances only
            unfold g_b_join_L100
            try dsimp +instances only
            refine zOp.ite (fun c_88 => ?_) (fun c_88 => ?_)
            ·
              try dsimp +instances only
              unfold g_b_join_L111
              try dsimp +instances only
              refine zOp.ite (fun c_89 => ?_) (fun c_89 => ?_)
              ·
                try dsimp +instances only
                exact zOp.ret trivial
              ·
                try dsimp +instances only
                refine zOp.ite (fun c_90 => ?_) (fun c_90 => ?_)
                ·
                  try dsimp +instances only
                  exact zOp.ret trivial
                ·
                  try dsimp +instances only
                  exact zOp.ret trivial
            ·
              try dsimp +instances only
              refine zOp.ite (fun c_91 => ?_) (fun c_91 => ?_)
              ·
                try dsimp +instances only
                exact zOp.ret trivial
              ·
                try dsimp +instances only
                unfold g_b_join_L111
                try dsimp +instances only
                refine zOp.ite (fun c_92 => ?_) (fun c_92 => ?_)
                ·
                  try dsimp +instances only
                  exact zOp.ret trivial
                ·
                  try dsimp +instances only
                  refine zOp.ite (fun c_93 => ?_) (fun c_93 => ?_)
                  ·
                    try dsimp +instances only
                    exact zOp.ret trivial
                  ·
                    try dsimp +instances only
                    exact zOp.ret trivial
  ·
    try dsimp +instances only
    refine zOp.bindp (g_b_x1_sp) (fun r_14 p_14 => ?_)
    try dsimp +instances only
    refine zOp.bindp (g_b_x0_sp) (fun r_20 p_20 => ?_)
    try dsimp +instances only
    try have ew_96 := w32_id (x := r_14 + 1) (by omega) (by omega)
    refine zOp.ite (fun c_97 => ?_) (fun c_97 => ?_)
    ·
      try dsimp +instances only
      unfold g_b_join_L31
      try dsimp +instances only
      refine zOp.bindp (g_b_y1_sp) (fun r_33 p_33 => ?_)
      try dsimp +instances only
      refine zOp.bindp (g_b_y0_sp) (fun r_39 p_39 => ?_)
      try dsimp +instances only
      try have ew_100 := w32_id (x := r_33 + 1) (by omega) (by omega)
      refine zOp.ite (fun c_101 => ?_) (fun c_101 => ?_)
      ·
        try dsimp +instances only
        unfold g_b_join_L58
        try dsimp +instances only
        unfold g_b_join_L63
        try dsimp +instances only
        refine zOp.ite (fun c_102 => ?_) (fun c_102 => ?_)
        ·
          try dsimp +instances only
          unfold g_b_join_L82
          try dsimp +instances only
          refine zOp.ite (fun c_103 => ?_) (fun c_103 => ?_)
          ·
            try dsimp +instances only
            unfold g_b_join_L100
            try dsimp +instances only
            refine zOp.ite (fun c_104 => ?_) (fun c_104 => ?_)
            ·
              try dsimp +instances only
              unfold g_b_join_L111
              try dsimp +instances only
              refine zOp.ite (fun c_105 => ?_) (fun c_105 => ?_)
              ·
                try dsimp +instances only
                exact zOp.ret trivial
              ·
                try dsimp +instances only
                refine zOp.ite (fun c_106 => ?_) (fun c_106 => ?_)
                ·
                  try dsimp +instances only
                  exact zOp.ret trivial
                ·
                  try dsimp +instances only
                  exact zOp.ret trivial
            ·
              try dsimp +instances only
              refine zOp.ite (fun c_107 => ?_) (fun c_107 => ?_)
              ·
                try dsimp +instances only
                exact zOp.ret trivial
              ·
                try dsimp +instances only
                unfold g_b_join_L111
                try dsimp +instances only
                refine zOp.ite (fun c_108 => ?_) (fun c_108 => ?_)
                ·
                  try dsimp +instances only
                  exact zOp.ret trivial
                ·
                  try dsimp +instances only
                  refine zOp.ite (fun c_109 => ?_) (fun c_109 => ?_)
                  ·
                    try dsimp +instances only
                    exact zOp.ret trivial
                  ·
                    try dsimp +instances only
                    exact zOp.ret trivial
          ·
            try dsimp +instances only
            unfold g_b_join_L100
            try dsimp +instances only
            refine zOp.ite (fun c_110 => ?_) (fun c_110 => ?_)
            ·
              try dsimp +instances only
              unfold g_b_join_L111
              try dsimp +instances only
              refine zOp.ite (fun c_111 => ?_) (fun c_111 => ?_)
              ·
                try dsimp +instances only
                exact zOp.ret trivial
              ·
                try dsimp +instances only
                refine zOp.ite (fun c_112 => ?_) (fun c_112 => ?_)
                ·
                  try dsimp +instances only
                  exact zOp.ret trivial
                ·
                  try dsimp +instances only
                  exact zOp.ret trivial
            ·
              try dsimp +instances only
              refine zOp.ite (fun c_113 => ?_) (fun c_113 => ?_)
              ·
                try dsimp +instances only
                exact zOp.ret trivial
              ·
                try dsimp +instances only
                unfold g_b_join_L111
                try dsimp +instances only
                refine zOp.ite (fun c_114 => ?_) (fun c_114 => ?_)
                ·
                  try dsimp +instances only
                  exact zOp.ret trivial
                ·
                  try dsimp +instances only
                  refine zOp.ite (fun c_115 => ?_) (fun c_115 => ?_)
                  ·
                    try dsimp +instances only
                    exact zOp.ret trivial
                  ·
                    try dsimp +instances only
                    exact zOp.ret trivial
        ·
          try dsimp +instances only
          unfold g_b_join_L82
          try dsimp +instances only
          refine zOp.ite (fun c_116 => ?_) (fun c_116 => ?_)
          ·
            try dsimp +instances only
            unfold g_b_join_L100
            try dsimp +instances only
            refine zOp.ite (fun c_117 => ?_) (fun c_117 => ?_)
            ·
              try dsimp +instances only
              unfold g_b_join_L111
              try dsimp +instances only
              refine zOp.ite (fun c_118 => ?_) (fun c_118 => ?_)
              ·
                try dsimp +instances only
                exact zOp.ret trivial
              ·
                try dsimp +instances only
                refine zOp.ite (fun c_119 => ?_) (fun c_119 => ?_)
                ·
                  try dsimp +instances only
                  exact zOp.ret trivial
                ·
                  try dsimp +instances only
                  exact zOp.ret trivial
            ·
              try dsimp +instances only
              refine zOp.ite (fun c_120 => ?_) (fun c_120 => ?_)
              ·
                try dsimp +instances only
                exact zOp.ret trivial
              ·
                try dsimp +instances only
                unfold g_b_join_L111
                try dsimp +instances only
                refine zOp.ite (fun c_121 => ?_) (fun c_121 => ?_)
                ·
                  try dsimp +instances only
                  exact zOp.ret trivial
                ·
                  try dsimp +instances only
                  refine zOp.ite (fun c_122 => ?_) (fun c_122 => ?_)
                  ·
                    try dsimp +instances only
                    exact zOp.ret trivial
                  ·
                    try dsimp +instances only
                    exact zOp.ret trivial
          ·
            try dsimp +instances only
            unfold g_b_join_L100
            try dsimp +instances only
            refine zOp.ite (fun c_123 => ?_) (fun c_123 => ?_)
            ·
              try dsimp +instances only
              unfold g_b_join_L111
              try dsimp +instances only
              refine zOp.ite (fun c_124 => ?_) (fun c_124 => ?_)
              ·
                try dsimp +instances only
                exact zOp.ret trivial
              ·
                try dsimp +instances only
                refine zOp.ite (fun c_125 => ?_) (fun c_125 => ?_)
                ·
                  try dsimp +instances only
                  exact zOp.ret trivial
                ·
                  try dsimp +instances only
                  exact zOp.ret trivial
            ·
              try dsimp +instances only
              refine zOp.ite (fun c_126 => ?_) (fun c_126 => ?_)
              ·
                try dsimp +instances only
                exact zOp.ret trivial
              ·
                try dsimp +instances only
                unfold g_b_join_L111
                try dsimp +instances only
                refine zOp.ite (fun c_127 => ?_) (fun c_127 => ?_)
                ·
                  try dsimp +instances only
                  exact zOp.ret trivial
                ·
                  try dsimp +instances only
                  refine zOp.ite (fun c_128 => ?_) (fun c_128 => ?_)
                  ·
                    try dsimp +instances only
                    exact zOp.ret trivial
                  ·
                    try dsimp +instances only
                    exact zOp.ret trivial
      ·
        try dsimp +instances only
        refine zOp.bindp (g_b_y1_sp) (fun r_46 p_46 => ?_)
        try dsimp +instances only
        refine zOp.bindp (g_b_y0_sp) (fun r_52 p_52 => ?_)
        try dsimp +instances only
        try have ew_131 := w32_id (x := r_46 + 1) (by omega) (by omega)
        refine zOp.ite (fun c_132 => ?_) (fun c_132 => ?_)
        ·
          try dsimp +instances only
          unfold g_b_join_L63
          try dsimp +instances only
          refine zOp.ite (fun c_133 => ?_) (fun c_133 => ?_)
          ·
            try dsimp +instances only
            unfold g_b_join_L82
            try dsimp +instances only
            refine zOp.ite (fun c_134 => ?_) (fun c_134 => ?_)
            ·
              try dsimp +instances only
              unfold g_b_join_L100
              try dsimp +instances only
              refine zOp.ite (fun c_135 => ?_) (fun c_135 => ?_)
              ·
                try dsimp +instances only
                unfold g_b_join_L111
                try dsimp +instances only
                refine zOp.ite (fun c_136 => ?_) (fun c_136 => ?_)
                ·
                  try dsimp +instances only
                  exact zOp.ret trivial
                ·
                  try dsimp +instances only
                  refine zOp.ite (fun c_137 => ?_) (fun c_137 => ?_)
                  ·
                    try dsimp +instances only
                    exact zOp.ret trivial
                  ·
                    try dsimp +instances only
                    exact zOp.ret trivial
              ·
                try dsimp +instances only
                refine zOp.ite (fun c_138 => ?_) (fun c_138 => ?_)
                ·
                  try dsimp +instances only
                  exact zOp.ret trivial
                ·
                  try dsimp +instances only
                  unfold g_b_join_L111
                  try dsimp +instances only
                  refine zOp.ite (fun c_139 => ?_) (fun c_139 => ?_)
                  ·
                    try dsimp +instances only
                    exact zOp.ret trivial
                  ·
                    try dsimp +instances only
                    refine zOp.ite (fun c_140 => ?_) (fun c_140 => ?_)
                    ·
                      try dsimp +instances only
                      exact zOp.ret trivial
                    ·
                      try dsimp +instances only
                      exact zOp.ret trivial
            ·
              try dsimp +instances only
              unfold g_b_join_L100
              try dsimp +instances only
              refine zOp.ite (fun c_141 => ?_) (fun c_141 => ?_)
              ·
                try dsimp +instances only
                unfold g_b_join_L111
                try dsimp +instances only
                refine zOp.ite (fun c_142 => ?_) (fun c_142 => ?_)
                ·
                  try dsimp +instances only
                  exact zOp.ret trivial
                ·
                  try dsimp +instances only
                  refine zOp.ite (fun c_143 => ?_) (fun c_143 => ?_)
                  ·
                    try dsimp +instances only
                    exact zOp.ret trivial
                  ·
                    try dsimp +instances only
                    exact zOp.ret trivial
              ·
                try dsimp +instances only
                refine zOp.ite (fun c_144 => ?_) (fun c_144 => ?_)
                ·
                  try dsimp +instances only
                  exact zOp.ret trivial
                ·
                  try dsimp +instances only
                  unfold g_b_join_L111
                  try dsimp +instances only
                  refine zOp.ite (fun c_145 => ?_) (fun c_145 => ?_)
                  ·
                    try dsimp +instances only
                    exact zOp.ret trivial
                  ·
                    try dsimp +instances only
                    refine zOp.ite (fun c_146 => ?_) (fun c_146 => ?_)
                    ·
                      try dsimp +instances only
                      exact zOp.ret trivial
                    ·
                      try dsimp +instances only
                      exact zOp.ret trivial
          ·
            try dsimp +instances only
            unfold g_b_join_L82
            try dsimp +instances only
            refine zOp.ite (fun c_147 => ?_) (fun c_147 => ?_)
            ·
              try dsimp +instances only
              unfold g_b_join_L100
              try dsimp +instances only
              refine zOp.ite (fun c_148 => ?_) (fun c_148 => ?_)
              ·
                try dsimp +instances only
                unfold g_b_join_L111
                try dsimp +instances only
                refine zOp.ite (fun c_149 => ?_) (fun c_149 => ?_)
                ·
                  try dsimp +instances only
                  exact zOp.ret trivial
                ·
                  try dsimp +instances only
                  refine zOp.ite (fun c_150 => ?_) (fun c_150 => ?_)
                  ·
                    try dsimp +instances only
                    exact zOp.ret trivial
                  ·
                    try dsimp +instances only
                    exact zOp.ret trivial
              ·
                try dsimp +instances only
                refine zOp.ite (fun c_151 => ?_) (fun c_151 => ?_)
                ·
                  try dsimp +instances only
                  exact zOp.ret trivial
                ·
                  try dsimp +instances only
                  unfold g_b_join_L111
                  try dsimp +instances only
                  refine zOp.ite (fun c_152 => ?_) (fun c_152 => ?_)
                  ·
                    try dsimp +instances only
                    exact zOp.ret trivial
                  ·
                    try dsimp +instances only
                    refine zOp.ite (fun c_153 => ?_) (fun c_153 => ?_)
                    ·
                      try dsimp +instances only
                      exact zOp.ret trivial
                    ·
                      try dsimp +instances only
                      exact zOp.ret trivial
            ·
              try dsimp +instances only
              unfold g_b_join_L100
              try dsimp +instances only
              refine zOp.ite (fun c_154 => ?_) (fun c_154 => ?_)
              ·
                try dsimp +instances only
                unfold g_b_join_L111
                try dsimp +instances only
                refine zOp.ite (fun c_155 => ?_) (fun c_155 => ?_)
                ·
                  try dsimp +instances only
                  exact zOp.ret trivial
                ·
                  try dsimp +instances only
                  refine zOp.ite (fun c_156 => ?_) (fun c_156 => ?_)
                  ·
                    try dsimp +instances only
                    exact zOp.ret trivial
                  ·
                    try dsimp +instances only
                    exact zOp.ret trivial
              ·
                try dsimp +instances only
                refine zOp.ite (fun c_157 => ?_) (fun c_157 => ?_)
                ·
                  try dsimp +instances only
                  exact zOp.ret trivial
                ·
                  try dsimp +instances only
                  unfold g_b_join_L111
                  try dsimp +instances only
                  refine zOp.ite (fun c_158 => ?_) (fun c_158 => ?_)
                  ·
                    try dsimp +instances only
                    exact zOp.ret trivial
                  ·
                    try dsimp +instances only
                    refine zOp.ite (fun c_159 => ?_) (fun c_159 => ?_)
                    ·
                      try dsimp +instances only
                      exact zOp.ret trivial
                    ·
                      try dsimp +instances only
                      exact zOp.ret trivial
        ·
          try dsimp +instances only
          unfold g_b_join_L58
          try dsimp +instances only
          unfold g_b_join_L63
          try dsimp +instances only
          refine zOp.ite (fun c_160 => ?_) (fun c_160 => ?_)
          ·
            try dsimp +instances only
            unfold g_b_join_L82
            try dsimp +instances only
            refine zOp.ite (fun c_161 => ?_) (fun c_161 => ?_)
            ·
              try dsimp +instances only
              unfold g_b_join_L100
              try dsimp +instances only
              refine zOp.ite (fun c_162 => ?_) (fun c_162 => ?_)
              ·
                try dsimp +instances only
                unfold g_b_join_L111
                try dsimp +instances only
                refine zOp.ite (fun c_163 => ?_) (fun c_163 => ?_)
                ·
                  try dsimp +instances only
                  exact zOp.ret trivial
                ·
                  try dsimp +instances only
                  refine zOp.ite (fun c_164 => ?_) (fun c_164 => ?_)
                  ·
                    try dsimp +instances only
                    exact zOp.ret trivial
                  ·
                    try dsimp +instances only
                    exact zOp.ret trivial
              ·
                try dsimp +instances only
                refine zOp.ite (fun c_165 => ?_) (fun c_165 => ?_)
                ·
                  try dsimp +instances only
                  exact zOp.ret trivial
                ·
                  try dsimp +instances only
                  unfold g_b_join_L111
                  try dsimp +instances only
                  refine zOp.ite (fun c_166 => ?_) (fun c_166 => ?_)
                  ·
                    try dsimp +instances only
                    exact zOp.ret trivial
                  ·
                    try dsimp +instances only
                    refine zOp.ite (fun c_167 => ?_) (fun c_167 => ?_)
                    ·
                      try dsimp +instances only
                      exact zOp.ret trivial
                    ·
                      try dsimp +instances only
                      exact zOp.ret trivial
            ·
              try dsimp +instances only
              unfold g_b_join_L100
              try dsimp +instances only
              refine zOp.ite (fun c_168 => ?_) (fun c_168 => ?_)
              ·
                try dsimp +instances only
                unfold g_b_join_L111
                try dsimp +instances only
                refine zOp.ite (fun c_169 => ?_) (fun c_169 => ?_)
                ·
                  try dsimp +instances only
                  exact zOp.ret trivial
                ·
                  try dsimp +instances only
                  refine zOp.ite (fun c_170 => ?_) (fun c_170 => ?_)
                  ·
                    try dsimp +instances only
                    exact zOp.ret trivial
                  ·
                    try dsimp +instances only
                    exact zOp.ret trivial
              ·
                try dsimp +instances only
                refine zOp.ite (fun c_171 => ?_) (fun c_171 => ?_)
                ·
                  try dsimp +instances only
                  exact zOp.ret trivial
                ·
                  try dsimp +instances only
                  unfold g_b_join_L111
                  try dsimp +instances only
                  refine zOp.ite (fun c_172 => ?_) (fun c_172 => ?_)
                  ·
                    try dsimp +instances only
                    exact zOp.ret trivial
                  ·
                    try dsimp +instances only
                    refine zOp.ite (fun c_173 => ?_) (fun c_173 => ?_)
                    ·
                      try dsimp +instances only
                      exact zOp.ret trivial
                    ·
                      try dsimp +instances only
                      exact zOp.ret trivial
          ·
            try dsimp +instances only
            unfold g_b_join_L82
            try dsimp +instances only
            refine zOp.ite (fun c_174 => ?_) (fun c_174 => ?_)
            ·
              try dsimp +instances only
              unfold g_b_join_L100
              try dsimp +instances only
              refine zOp.ite (fun c_175 => ?_) (fun c_175 => ?_)
              ·
                try dsimp +instances only
                unfold g_b_join_L111
                try dsimp +instances only
                refine zOp.ite (fun c_176 => ?_) (fun c_176 => ?_)
                ·
                  try dsimp +instances only
                  exact zOp.ret trivial
                ·
                  try dsimp +instances only
                  refine zOp.ite (fun c_177 => ?_) (fun c_177 => ?_)
                  ·
                    try dsimp +instances only
                    exact zOp.ret trivial
                  ·
                    try dsimp +instances only
                    exact zOp.ret trivial
              ·
                try dsimp +instances only
                refine zOp.ite (fun c_178 => ?_) (fun c_178 => ?_)
                ·
                  try dsimp +instances only
                  exact zOp.ret trivial
                ·
                  try dsimp +instances only
                  unfold g_b_join_L111
                  try dsimp +instances only
                  refine zOp.ite (fun c_179 => ?_) (fun c_179 => ?_)
                  ·
                    try dsimp +instances only
                    exact zOp.ret trivial
                  ·
                    try dsimp +instances only
                    refine zOp.ite (fun c_180 => ?_) (fun c_180 => ?_)
                    ·
                      try dsimp +instances only
                      exact zOp.ret trivial
                    ·
                      try dsimp +instances only
                      exact zOp.ret trivial
            ·
              try dsimp +instances only
              unfold g_b_join_L100
              try dsimp +instances only
              refine zOp.ite (fun c_181 => ?_) (fun c_181 => ?_)
              ·
                try dsimp +instances only
                unfold g_b_join_L111
                try dsimp +instances only
                refine zOp.ite (fun c_182 => ?_) (fun c_182 => ?_)
                ·
                  try dsimp +instances only
                  exact zOp.ret trivial
                ·
                  try dsimp +instances only
                  refine zOp.ite (fun c_183 => ?_) (fun c_183 => ?_)
                  ·
                    try dsimp +instances only
                    exact zOp.ret trivial
                  ·
                    try dsimp +instances only
                    exact zOp.ret trivial
              ·
                try dsimp +instances only
                refine zOp.ite (fun c_184 => ?_) (fun c_184 => ?_)
                ·
                  try dsimp +instances only
                  exact zOp.ret trivial
                ·
                  try dsimp +instances only
                  unfold g_b_join_L111
                  try dsimp +instances only
                  refine zOp.ite (fun c_185 => ?_) (fun c_185 => ?_)
                  ·
                    try dsimp +instances only
                    exact zOp.ret trivial
                  ·
                    try dsimp +instances only
                    refine zOp.ite (fun c_186 => ?_) (fun c_186 => ?_)
                    ·
                      try dsimp +instances only
                      exact zOp.ret trivial
                    ·
                      try dsimp +instances only
                      exact zOp.ret trivial
    ·
      try dsimp +instances only
      unfold g_b_join_L26
      try dsimp +instances only
      unfold g_b_join_L31
      try dsimp +instances only
      refine zOp.bindp (g_b_y1_sp) (fun r_33 p_33 => ?_)
      try dsimp +instances only
      refine zOp.bindp (g_b_y0_sp) (fun r_39 p_39 => ?_)
      try dsimp +instances only
      try have ew_189 := w32_id (x := r_33 + 1) (by omega) (by omega)
      refine zOp.ite (fun c_190 => ?_) (fun c_190 => ?_)
      ·
        try dsimp +instances only
        unfold g_b_join_L58
        try dsimp +instances only
        unfold g_b_join_L63
        try dsimp +instances only
        refine zOp.ite (fun c_191 => ?_) (fun c_191 => ?_)
        ·
          try dsimp +instances only
          unfold g_b_join_L82
          try dsimp +instances only
          refine zOp.ite (fun c_192 => ?_) (fun c_192 => ?_)
          ·
            try dsimp +instances only
            unfold g_b_join_L100
            try dsimp +instances only
            refine zOp.ite (fun c_193 => ?_) (fun c_193 => ?_)
            ·
              try dsimp +instances only
              unfold g_b_join_L111
              try dsimp +instances only
              refine zOp.ite (fun c_194 => ?_) (fun c_194 => ?_)
              ·
                try dsimp +instances only
                exact zOp.ret trivial
              ·
                try dsimp +instances only
                refine zOp.ite (fun c_195 => ?_) (fun c_195 => ?_)
                ·
                  try dsimp +instances only
                  exact zOp.ret trivial
                ·
                  try dsimp +instances only
                  exact zOp.ret trivial
            ·
              try dsimp +instances only
              refine zOp.ite (fun c_196 => ?_) (fun c_196 => ?_)
              ·
                try dsimp +instances only
                exact zOp.ret trivial
              ·
                try dsimp +instances only
                unfold g_b_join_L111
                try dsimp +instances only
                refine zOp.ite (fun c_197 => ?_) (fun c_197 => ?_)
                ·
                  try dsimp +instances only
                  exact zOp.ret trivial
                ·
                  try dsimp +instances only
                  refine zOp.ite (fun c_198 => ?_) (fun c_198 => ?_)
                  ·
                    try dsimp +instances only
                    exact zOp.ret trivial
                  ·
                    try dsimp +instances only
                    exact zOp.ret trivial
          ·
            try dsimp +instances only
            unfold g_b_join_L100
            try dsimp +instances only
            refine zOp.ite (fun c_199 => ?_) (fun c_199 => ?_)
            ·
              try dsimp +instances only
              unfold g_b_join_L111
              try dsimp +instances only
              refine zOp.ite (fun c_200 => ?_) (fun c_200 => ?_)
              ·
                try dsimp +instances only
                exact zOp.ret trivial
              ·
                try dsimp +instances only
                refine zOp.ite (fun c_201 => ?_) (fun c_201 => ?_)
                ·
                  try dsimp +instances only
                  exact zOp.ret trivial
                ·
                  try dsimp +instances only
                  exact zOp.ret trivial
            ·
              try dsimp +instances only
              refine zOp.ite (fun c_202 => ?_) (fun c_202 => ?_)
              ·
                try dsimp +instances only
                exact zOp.ret trivial
              ·
                try dsimp +instances only
                unfold g_b_join_L111
                try dsimp +instances only
                refine zOp.ite (fun c_203 => ?_) (fun c_203 => ?_)
                ·
                  try dsimp +instances only
                  exact zOp.ret trivial
                ·
                  try dsimp +instances only
                  refine zOp.ite (fun c_204 => ?_) (fun c_204 => ?_)
                  ·
                    try dsimp +instances only
                    exact zOp.ret trivial
                  ·
                    try dsimp +instances only
                    exact zOp.ret trivial
        ·
          try dsimp +instances only
          unfold g_b_join_L82
          try dsimp +instances only
          refine zOp.ite (fun c_205 => ?_) (fun c_205 => ?_)
          ·
            try dsimp +instances only
            unfold g_b_join_L100
            try dsimp +instances only
            refine zOp.ite (fun c_206 => ?_) (fun c_206 => ?_)
            ·
              try dsimp +instances only
              unfold g_b_join_L111
              try dsimp +instances only
              refine zOp.ite (fun c_207 => ?_) (fun c_207 => ?_)
              ·
                try dsimp +instances only
                exact zOp.ret trivial
              ·
                try dsimp +instances only
                refine zOp.ite (fun c_208 => ?_) (fun c_208 => ?_)
                ·
                  try dsimp +instances only
                  exact zOp.ret trivial
                ·
                  try dsimp +instances only
                  exact zOp.ret trivial
            ·
              try dsimp +instances only
              refine zOp.ite (fun c_209 => ?_) (fun c_209 => ?_)
              ·
                try dsimp +instances only
                exact zOp.ret trivial
              ·
                try dsimp +instances only
                unfold g_b_join_L111
                try dsimp +instances only
                refine zOp.ite (fun c_210 => ?_) (fun c_210 => ?_)
                ·
                  try dsimp +instances only
                  exact zOp.ret trivial
                ·
                  try dsimp +instances only
                  refine zOp.ite (fun c_211 => ?_) (fun c_211 => ?_)
                  ·
                    try dsimp +instances only
                    exact zOp.ret trivial
                  ·
                    try dsimp +instances only
                    exact zOp.ret trivial
          ·
            try dsimp +instances only
            unfold g_b_join_L100
            try dsimp +instances only
            refine zOp.ite (fun c_212 => ?_) (fun c_212 => ?_)
            ·
              try dsimp +instances only
              unfold g_b_join_L111
              try dsimp +instances only
              refine zOp.ite (fun c_213 => ?_) (fun c_213 => ?_)
              ·
                try dsimp +instances only
                exact zOp.ret trivial
              ·
                try dsimp +instances only
                refine zOp.ite (fun c_214 => ?_) (fun c_214 => ?_)
                ·
                  try dsimp +instances only
                  exact zOp.ret trivial
                ·
                  try dsimp +instances only
                  exact zOp.ret trivial
            ·
              try dsimp +instances only
              refine zOp.ite (fun c_215 => ?_) (fun c_215 => ?_)
              ·
                try dsimp +instances only
                exact zOp.ret trivial
              ·
                try dsimp +instances only
                unfold g_b_join_L111
                try dsimp +instances only
                refine zOp.ite (fun c_216 => ?_) (fun c_216 => ?_)
                ·
                  try dsimp +instances only
                  exact zOp.ret trivial
                ·
                  try dsimp +instances only
                  refine zOp.ite (fun c_217 => ?_) (fun c_217 => ?_)
                  ·
                    try dsimp +instances only
                    exact zOp.ret trivial
                  ·
                    try dsimp +instances only
                    exact zOp.ret trivial
      ·
        try dsimp +instances only
        refine zOp.bindp (g_b_y1_sp) (fun r_46 p_46 => ?_)
        try dsimp +instances only
        refine zOp.bindp (g_b_y0_sp) (fun r_52 p_52 => ?_)
        try dsimp +instances only
        try have ew_220 := w32_id (x := r_46 + 1) (by omega) (by omega)
        refine zOp.ite (fun c_221 => ?_) (fun c_221 => ?_)
        ·
          try dsimp +instances only
          unfold g_b_join_L63
          try dsimp +instances only
          refine zOp.ite (fun c_222 => ?_) (fun c_222 => ?_)
          ·
            try dsimp +instances only
            unfold g_b_join_L82
            try dsimp +instances only
            refine zOp.ite (fun c_223 => ?_) (fun c_223 => ?_)
            ·
              try dsimp +instances only
              unfold g_b_join_L100
              try dsimp +instances only
              refine zOp.ite (fun c_224 => ?_) (fun c_224 => ?_)
              ·
                try dsimp +instances only
                unfold g_b_join_L111
                try dsimp +instances only
                refine zOp.ite (fun c_225 => ?_) (fun c_225 => ?_)
                ·
                  try dsimp +instances only
                  exact zOp.ret trivial
                ·
                  try dsimp +instances only
                  refine zOp.ite (fun c_226 => ?_) (fun c_226 => ?_)
                  ·
                    try dsimp +instances only
                    exact zOp.ret trivial
                  ·
                    try dsimp +instances only
                    exact zOp.ret trivial
              ·
                try dsimp +instances only
                refine zOp.ite (fun c_227 => ?_) (fun c_227 => ?_)
                ·
                  try dsimp +instances only
                  exact zOp.ret trivial
                ·
                  try dsimp +instances only
                  unfold g_b_join_L111
                  try dsimp +instances only
                  refine zOp.ite (fun c_228 => ?_) (fun c_228 => ?_)
                  ·
                    try dsimp +instances only
                    exact zOp.ret trivial
                  ·
                    try dsimp +instances only
                    refine zOp.ite (fun c_229 => ?_) (fun c_229 => ?_)
                    ·
                      try dsimp +instances only
                      exact zOp.ret trivial
                    ·
                      try dsimp +instances only
                      exact zOp.ret trivial
            ·
              try dsimp +instances only
              unfold g_b_join_L100
              try dsimp +instances only
              refine zOp.ite (fun c_230 => ?_) (fun c_230 => ?_)
              ·
                try dsimp +instances only
                unfold g_b_join_L111
                try dsimp +instances only
                refine zOp.ite (fun c_231 => ?_) (fun c_231 => ?_)
                ·
                  try dsimp +instances only
                  exact zOp.ret trivial
                ·
                  try dsimp +instances only
                  refine zOp.ite (fun c_232 => ?_) (fun c_232 => ?_)
                  ·
                    try dsimp +instances only
                    exact zOp.ret trivial
                  ·
                    try dsimp +instances only
                    exact zOp.ret trivial
              ·
                try dsimp +instances only
                refine zOp.ite (fun c_233 => ?_) (fun c_233 => ?_)
                ·
                  try dsimp +instances only
                  exact zOp.ret trivial
                ·
                  try dsimp +instances only
                  unfold g_b_join_L111
                  try dsimp +instances only
                  refine zOp.ite (fun c_234 => ?_) (fun c_234 => ?_)
                  ·
                    try dsimp +instances only
                    exact zOp.ret trivial
                  ·
                    try dsimp +instances only
                    refine zOp.ite (fun c_235 => ?_) (fun c_235 => ?_)
                    ·
                      try dsimp +instances only
                      exact zOp.ret trivial
                    ·
                      try dsimp +instances only
                      exact zOp.ret trivial
          ·
            try dsimp +instances only
            unfold g_b_join_L82
            try dsimp +instances only
            refine zOp.ite (fun c_236 => ?_) (fun c_236 => ?_)
            ·
              try dsimp +instances only
              unfold g_b_join_L100
              try dsimp +instances only
              refine zOp.ite (fun c_237 => ?_) (fun c_237 => ?_)
              ·
                try dsimp +instances only
                unfold g_b_join_L111
                try dsimp +instances only
                refine zOp.ite (fun c_238 => ?_) (fun c_238 => ?_)
                ·
                  try dsimp +instances only
                  exact zOp.ret trivial
                ·
                  try dsimp +instances only
                  refine zOp.ite (fun c_239 => ?_) (fun c_239 => ?_)
                  ·
                    try dsimp +instances only
                    exact zOp.ret trivial
                  ·
                    try dsimp +instances only
                    exact zOp.ret trivial
              ·
                try dsimp +instances only
                refine zOp.ite (fun c_240 => ?_) (fun c_240 => ?_)
                ·
                  try dsimp +instances only
                  exact zOp.ret trivial
                ·
                  try dsimp +instances only
                  unfold g_b_join_L111
                  try dsimp +instances only
                  refine zOp.ite (fun c_241 => ?_) (fun c_241 => ?_)
                  ·
                    try dsimp +instances only
                    exact zOp.ret trivial
                  ·
                    try dsimp +instances only
                    refine zOp.ite (fun c_242 => ?_) (fun c_242 => ?_)
                    ·
                      try dsimp +instances only
                      exact zOp.ret trivial
                    ·
                      try dsimp +instances only
                      exact zOp.ret trivial
            ·
              try dsimp +instances only
              unfold g_b_join_L100
              try dsimp +instances only
              refine zOp.ite (fun c_243 => ?_) (fun c_243 => ?_)
              ·
                try dsimp +instances only
                unfold g_b_join_L111
                try dsimp +instances only
                refine zOp.ite (fun c_244 => ?_) (fun c_244 => ?_)
                ·
                  try dsimp +instances only
                  exact zOp.ret trivial
                ·
                  try dsimp +instances only
                  refine zOp.ite (fun c_245 => ?_) (fun c_245 => ?_)
                  ·
                    try dsimp +instances only
                    exact zOp.ret trivial
                  ·
                    try dsimp +instances only
                    exact zOp.ret trivial
              ·
                try dsimp +instances only
                refine zOp.ite (fun c_246 => ?_) (fun c_246 => ?_)
                ·
                  try dsimp +instances only
                  exact zOp.ret trivial
                ·
                  try dsimp +instances only
                  unfold g_b_join_L111
                  try dsimp +instances only
                  refine zOp.ite (fun c_247 => ?_) (fun c_247 => ?_)
                  ·
                    try dsimp +instances only
                    exact zOp.ret trivial
                  ·
                    try dsimp +instances only
                    refine zOp.ite (fun c_248 => ?_) (fun c_248 => ?_)
                    ·
                      try dsimp +instances only
                      exact zOp.ret trivial
                    ·
                      try dsimp +instances only
                      exact zOp.ret trivial
        ·
          try dsimp +instances only
          unfold g_b_join_L58
          try dsimp +instances only
          unfold g_b_join_L63
          try dsimp +instances only
          refine zOp.ite (fun c_249 => ?_) (fun c_249 => ?_)
          ·
            try dsimp +instances only
            unfold g_b_join_L82
            try dsimp +instances only
            refine zOp.ite (fun c_250 => ?_) (fun c_250 => ?_)
            ·
              try dsimp +instances only
              unfold g_b_join_L100
              try dsimp +instances only
              refine zOp.ite (fun c_251 => ?_) (fun c_251 => ?_)
              ·
                try dsimp +instances only
                unfold g_b_join_L111
                try dsimp +instances only
                refine zOp.ite (fun c_252 => ?_) (fun c_252 => ?_)
                ·
                  try dsimp +instances only
                  exact zOp.ret trivial
                ·
                  try dsimp +instances only
                  refine zOp.ite (fun c_253 => ?_) (fun c_253 => ?_)
                  ·
                    try dsimp +instances only
                    exact zOp.ret trivial
                  ·
                    try dsimp +instances only
                    exact zOp.ret trivial
              ·
                try dsimp +instances only
                refine zOp.ite (fun c_254 => ?_) (fun c_254 => ?_)
                ·
                  try dsimp +instances only
                  exact zOp.ret trivial
                ·
                  try dsimp +instances only
                  unfold g_b_join_L111
                  try dsimp +instances only
                  refine zOp.ite (fun c_255 => ?_) (fun c_255 => ?_)
                  ·
                    try dsimp +instances only
                    exact zOp.ret trivial
                  ·
                    try dsimp +instances only
                    refine zOp.ite (fun c_256 => ?_) (fun c_256 => ?_)
                    ·
                      try dsimp +instances only
                      exact zOp.ret trivial
                    ·
                      try dsimp +instances only
                      exact zOp.ret trivial
            ·
              try dsimp +instances only
              unfold g_b_join_L100
              try dsimp +instances only
              refine zOp.ite (fun c_257 => ?_) (fun c_257 => ?_)
              ·
                try dsimp +instances only
                unfold g_b_join_L111
                try dsimp +instances only
                refine zOp.ite (fun c_258 => ?_) (fun c_258 => ?_)
                ·
                  try dsimp +instances only
                  exact zOp.ret trivial
                ·
                  try dsimp +instances only
                  refine zOp.ite (fun c_259 => ?_) (fun c_259 => ?_)
                  ·
                    try dsimp +instances only
                    exact zOp.ret trivial
                  ·
                    try dsimp +instances only
                    exact zOp.ret trivial
              ·
                try dsimp +instances only
                refine zOp.ite (fun c_260 => ?_) (fun c_260 => ?_)
                ·
                  try dsimp +instances only
                  exact zOp.ret trivial
                ·
                  try dsimp +instances only
                  unfold g_b_join_L111
                  try dsimp +instances only
                  refine zOp.ite (fun c_261 => ?_) (fun c_261 => ?_)
                  ·
                    try dsimp +instances only
                    exact zOp.ret trivial
                  ·
                    try dsimp +instances only
                    refine zOp.ite (fun c_262 => ?_) (fun c_262 => ?_)
                    ·
                      try dsimp +instances only
                      exact zOp.ret trivial
                    ·
                      try dsimp +instances only
                      exact zOp.ret trivial
          ·
            try dsimp +instances only
            unfold g_b_join_L82
            try dsimp +instances only
            refine zOp.ite (fun c_263 => ?_) (fun c_263 => ?_)
            ·
              try dsimp +instances only
              unfold g_b_join_L100
              try dsimp +instances only
              refine zOp.ite (fun c_264 => ?_) (fun c_264 => ?_)
              ·
                try dsimp +instances only
                unfold g_b_join_L111
                try dsimp +instances only
                refine zOp.ite (fun c_265 => ?_) (fun c_265 => ?_)
                ·
                  try dsimp +instances only
                  exact zOp.ret trivial
                ·
                  try dsimp +instances only
                  refine zOp.ite (fun c_266 => ?_) (fun c_266 => ?_)
                  ·
                    try dsimp +instances only
                    exact zOp.ret trivial
                  ·
                    try dsimp +instances only
                    exact zOp.ret trivial
              ·
                try dsimp +instances only
                refine zOp.ite (fun c_267 => ?_) (fun c_267 => ?_)
                ·
                  try dsimp +instances only
                  exact zOp.ret trivial
                ·
                  try dsimp +instances only
                  unfold g_b_join_L111
                  try dsimp +instances only
                  refine zOp.ite (fun c_268 => ?_) (fun c_268 => ?_)
                  ·
                    try dsimp +instances only
                    exact zOp.ret trivial
                  ·
                    try dsimp +instances only
                    refine zOp.ite (fun c_269 => ?_) (fun c_269 => ?_)
                    ·
                      try dsimp +instances only
                      exact zOp.ret trivial
                    ·
                      try dsimp +instances only
                      exact zOp.ret trivial
            ·
              try dsimp +instances only
              unfold g_b_join_L100
              try dsimp +instances only
              refine zOp.ite (fun c_270 => ?_) (fun c_270 => ?_)
              ·
                try dsimp +instances only
                unfold g_b_join_L111
                try dsimp +instances only
                refine zOp.ite (fun c_271 => ?_) (fun c_271 => ?_)
                ·
                  try dsimp +instances only
                  exact zOp.ret trivial
                ·
                  try dsimp +instances only
                  refine zOp.ite (fun c_272 => ?_) (fun c_272 => ?_)
                  ·
                    try dsimp +instances only
                    exact zOp.ret trivial
                  ·
                    try dsimp +instances only
                    exact zOp.ret trivial
              ·
                try dsimp +instances only
                refine zOp.ite (fun c_273 => ?_) (fun c_273 => ?_)
                ·
                  try dsimp +instances only
                  exact zOp.ret trivial
                ·
                  try dsimp +instances only
                  unfold g_b_join_L111
                  try dsimp +instances only
                  refine zOp.ite (fun c_274 => ?_) (fun c_274 => ?_)
                  ·
                    try dsimp +instances only
                    exact zOp.ret trivial
                  ·
                    try dsimp +instances only
                    refine zOp.ite (fun c_275 => ?_) (fun c_275 => ?_)
                    ·
                      try dsimp +instances only
                      exact zOp.ret trivial
                    ·
                      try dsimp +instances only
                      exact zOp.ret trivial
theorem g_jMath_max_290_sp {y0 : Int} {y2 : Int} {σ : zS} : zOp (g_jMath_max_290 y0 y2 σ) σ (fun v => True) := by
  unfold g_jMath_max_290
  try dsimp +instances only
  refine zOp.ite (fun c_1 => ?_) (fun c_1 => ?_)
  ·
    try dsimp +instances only
    exact zOp.ret trivial
  ·
    try dsimp +instances only
    exact zOp.ret trivial
theorem g_jMath_min_292_sp {y0 : Int} {y2 : Int} {σ : zS} : zOp (g_jMath_min_292 y0 y2 σ) σ (fun v => True) := by
  unfold g_jMath_min_292
  try dsimp +instances only
  refine zOp.ite (fun c_1 => ?_) (fun c_1 => ?_)
  ·
    try dsimp +instances only
    exact zOp.ret trivial
  ·
    try dsimp +instances only
    exact zOp.ret trivial
theorem g_jMath_floorDiv_sp {y0 : Int} {y2 : Int} {σ : zS} (hp : y2 ≠ 0) : zOp (g_jMath_floorDiv y0 y2 σ) σ (fun v => True) := by
  unfold g_jMath_floorDiv
  try dsimp +instances only
  refine zOp.ite (fun c_1 => ?_) (fun c_1 => ?_)
  ·
    try dsimp +instances only
    exfalso; omega
  ·
    try dsimp +instances only
    refine zOp.ite (fun c_2 => ?_) (fun c_2 => ?_)
    ·
      try dsimp +instances only
      exact zOp.ret trivial
    ·
      try dsimp +instances only
      refine zOp.ite (fun c_3 => ?_) (fun c_3 => ?_)
      ·
        try dsimp +instances only
        exact zOp.ret trivial
      ·
        try dsimp +instances only
        exact zOp.ret trivial
theorem g_jLong_compare_sp {y0 : Int} {y2 : Int} {σ : zS} : zOp (g_jLong_compare y0 y2 σ) σ (fun v => True) := by
  unfold g_jLong_compare
  try dsimp +instances only
  refine zOp.ite (fun c_1 => ?_) (fun c_1 => ?_)
  ·
    try dsimp +instances only
    refine zOp.ite (fun c_2 => ?_) (fun c_2 => ?_)
    ·
      try dsimp +instances only
      exact zOp.ret trivial
    ·
      try dsimp +instances only
      exact zOp.ret trivial
  ·
    try dsimp +instances only
    exact zOp.ret trivial
theorem g_fi_isMeasure_sp {x0 : Int} {σ : zS} : zOp (g_fi_isMeasure x0 σ) σ (fun v => True) := by
  unfold g_fi_isMeasure
  try dsimp +instances only
  refine zOp.ite (fun c_1 => ?_) (fun c_1 => ?_)
  ·
    try dsimp +instances only
    exact zOp.ret trivial
  ·
    try dsimp +instances only
    refine zOp.ite (fun c_2 => ?_) (fun c_2 => ?_)
    ·
      try dsimp +instances only
      exact zOp.ret trivial
    ·
      try dsimp +instances only
      exact zOp.ret trivial
theorem g_so_isRow_sp {x0 : Int} {σ : zS} : zOp (g_so_isRow x0 σ) σ (fun v => v ≠ 0 → 0 ≤ x0 ∧ x0 < 60) := by
  unfold g_so_isRow
  try dsimp +instances only
  refine zOp.ite (fun c_1 => ?_) (fun c_1 => ?_)
  ·
    try dsimp +instances only
    exact zOp.ret (by omega)
  ·
    try dsimp +instances only
    refine zOp.ite (fun c_2 => ?_) (fun c_2 => ?_)
    ·
      try dsimp +instances only
      exact zOp.ret (by omega)
    ·
      try dsimp +instances only
      exact zOp.ret (by omega)
theorem g_li_isList_sp {x0 : Int} {σ : zS} : zOp (g_li_isList x0 σ) σ (fun v => v ≠ 0 ↔ (0 ≤ x0 ∧ x0 < 6)) := by
  unfold g_li_isList
  try dsimp +instances only
  refine zOp.ite (fun c_1 => ?_) (fun c_1 => ?_)
  ·
    try dsimp +instances only
    exact zOp.ret (by omega)
  ·
    try dsimp +instances only
    refine zOp.ite (fun c_2 => ?_) (fun c_2 => ?_)
    ·
      try dsimp +instances only
      exact zOp.ret (by omega)
    ·
      try dsimp +instances only
      exact zOp.ret (by omega)
theorem g_so_rowsIn_sp {x1 : Int} {σ : zS} : zOp (g_so_rowsIn x1 σ) σ (fun v => True) := by
  unfold g_so_rowsIn
  try dsimp +instances only
  refine zOp.bindp (g_b_x1_sp) (fun r_5 p_5 => ?_)
  try dsimp +instances only
  try have ew_2 := w32_id (x := r_5 + 1) (by omega) (by omega)
  refine zOp.gd (by omega) ?_
  try dsimp +instances only
  generalize hv_v_10 : σ 46 (w32 (r_5 + 1)) = v_10
  refine zOp.bindp (g_b_x0_sp) (fun r_16 p_16 => ?_)
  try dsimp +instances only
  refine zOp.gd (by omega) ?_
  try dsimp +instances only
  generalize hv_v_19 : σ 46 r_16 = v_19
  refine zOp.bindp (g_b_y1_sp) (fun r_30 p_30 => ?_)
  try dsimp +instances only
  try have ew_5 := w32_id (x := r_30 + 1) (by omega) (by omega)
  refine zOp.gd (by omega) ?_
  try dsimp +instances only
  generalize hv_v_35 : σ 47 (w32 (r_30 + 1)) = v_35
  refine zOp.bindp (g_b_y0_sp) (fun r_42 p_42 => ?_)
  try dsimp +instances only
  refine zOp.gd (by omega) ?_
  try dsimp +instances only
  generalize hv_v_45 : σ 47 r_42 = v_45
  exact zOp.ret trivial
theorem g_ca_sizeOf_sp {a0 : Nat} (ha0 : a0 = 48 ∨ a0 = 106) {x1 : Int} {σ : zS} : zOp (g_ca_sizeOf a0 x1 σ) σ (fun v => True) := by
  unfold g_ca_sizeOf
  try dsimp +instances only
  refine zOp.bindp (g_so_rowsIn_sp) (fun r_6 p_6 => ?_)
  try dsimp +instances only
  refine zOp.bindp (g_jLong_bitCount_sp) (fun r_9 p_9 => ?_)
  try dsimp +instances only
  try have ew_3 := w32_id (x := 1 + r_9) (by omega) (by omega)
  exact zOp.ret trivial
theorem g_se_of_sp {a0 : Nat} (ha0 : a0 = 49 ∨ a0 = 82 ∨ a0 = 107 ∨ a0 = 118) {x1 : Int} {σ : zS} : zOp (g_se_of a0 x1 σ) σ (fun v => True) := by
  unfold g_se_of
  try dsimp +instances only
  refine zOp.ite (fun c_1 => ?_) (fun c_1 => ?_)
  ·
    try dsimp +instances only
    exact zOp.ret trivial
  ·
    try dsimp +instances only
    refine zOp.ite (fun c_2 => ?_) (fun c_2 => ?_)
    ·
      try dsimp +instances only
      exact zOp.ret trivial
    ·
      try dsimp +instances only
      refine zOp.gd (by omega) ?_
      try dsimp +instances only
      generalize hv_v_15 : σ (a0 + 1) x1 = v_15
      exact zOp.ret trivial
theorem g_ca_costOf_sp {a0 : Nat} (ha0 : a0 = 48 ∨ a0 = 106) {x1 : Int} {σ : zS} : zOp (g_ca_costOf a0 x1 σ) σ (fun v => -2147483648 ≤ v ∧ v ≤ 2147483647) := by
  unfold g_ca_costOf
  try dsimp +instances only
  refine zOp.bindp (g_se_of_sp (by omega)) (fun r_5 p_5 => ?_)
  try dsimp +instances only
  refine zOp.bindp (g_so_rowsIn_sp) (fun r_13 p_13 => ?_)
  try dsimp +instances only
  refine zOp.bindp (g_jLong_bitCount_sp) (fun r_16 p_16 => ?_)
  try dsimp +instances only
  try have ew_4 := w32_id (x := r_5 + r_16) (by omega) (by omega)
  have bw_5 := w32_bd (r_5 + r_16)
  exact zOp.ret (by omega)
set_option maxHeartbeats 4000000 in
theorem g_ca_sizes_L7_sp {a0 : Nat} (ha0 : a0 = 48 ∨ a0 = 106) {σ : zS} : ∀ (n : Nat) (x1 : Int) (x2 : Int) (H : CI σ), (0 ≤ x2 ∧ x2 ≤ 181) → (181 - x2) < (n : Int) → zOp (g_ca_sizes_L7 a0 n x1 x2 σ) σ (fun v => True)
  | 0, _, _, _, hi, hm => by exfalso; omega
  | n + 1, x1, x2, H, hi, hm => by
    unfold g_ca_sizes_L7
    try dsimp +instances only
    generalize hv_v_9 : σ a0 2 = v_9
    have rv_v_9 := CI.c2 (a := a0) H (by omega)
    rw [hv_v_9] at rv_v_9
    refine zOp.ite (fun c_1 => ?_) (fun c_1 => ?_)
    ·
      try dsimp +instances only
      exact zOp.ret trivial
    ·
      try dsimp +instances only
      refine zOp.gd (by omega) ?_
      try dsimp +instances only
      generalize hv_v_25 : σ (a0 + 4) x2 = v_25
      refine zOp.bindp (g_so_rowsIn_sp) (fun r_26 p_26 => ?_)
      try dsimp +instances only
      refine zOp.bindp (g_jLong_bitCount_sp) (fun r_29 p_29 => ?_)
      try dsimp +instances only
      try have ew_4 := w32_id (x := x2 + 1) (by omega) (by omega)
      try have ew_5 := w32_id (x := x1 + r_29) (by omega) (by omega)
      exact g_ca_sizes_L7_sp (by omega) n (w32 (x1 + r_29)) (w32 (x2 + 1)) H (by omega) (by omega)
theorem g_ca_sizes_sp {a0 : Nat} (ha0 : a0 = 48 ∨ a0 = 106) {σ : zS} (H : CI σ) : zOp (g_ca_sizes a0 σ) σ (fun v => True) := by
  unfold g_ca_sizes
  try dsimp +instances only
  generalize hv_v_1 : σ a0 2 = v_1
  have rv_v_1 := CI.c2 (a := a0) H (by omega)
  rw [hv_v_1] at rv_v_1
  exact g_ca_sizes_L7_sp (by omega) zK v_1 0 H (by omega) (by show _ < (1000000 : Int); omega)
set_option maxHeartbeats 4000000 in
theorem g_ca_otherBehind_L4_sp {a0 : Nat} (ha0 : a0 = 48 ∨ a0 = 106) {σ : zS} : ∀ (n : Nat) (x1 : Int) (x2 : Int) (H : CI σ), (0 ≤ x1 ∧ x1 < 181 ∧ x1 < x2 ∧ x2 ≤ 181) → (181 - x2) < (n : Int) → zOp (g_ca_otherBehind_L4 a0 n x1 x2 σ) σ (fun v => v = -1 ∨ (x1 < v ∧ v < σ a0 2))
  | 0, _, _, _, hi, hm => by exfalso; omega
  | n + 1, x1, x2, H, hi, hm => by
    have ri_a0_2 := CI.c2 (a := a0) H (by omega)
    unfold g_ca_otherBehind_L4
    try dsimp +instances only
    generalize hv_v_6 : σ a0 2 = v_6
    have rv_v_6 := CI.c2 (a := a0) H (by omega)
    rw [hv_v_6] at rv_v_6
    refine zOp.ite (fun c_1 => ?_) (fun c_1 => ?_)
    ·
      try dsimp +instances only
      exact zOp.ret (by omega)
    ·
      try dsimp +instances only
      refine zOp.gd (by omega) ?_
      try dsimp +instances only
      generalize hv_v_17 : σ (a0 + 4) x1 = v_17
      refine zOp.gd (by omega) ?_
      try dsimp +instances only
      generalize hv_v_23 : σ (a0 + 4) x2 = v_23
      refine zOp.bindp (g_b_join_sp) (fun r_24 p_24 => ?_)
      try dsimp +instances only
      refine zOp.ite (fun c_3 => ?_) (fun c_3 => ?_)
      ·
        try dsimp +instances only
        try have ew_4 := w32_id (x := x2 + 1) (by omega) (by omega)
        exact zOp.imp (g_ca_otherBehind_L4_sp (by omega) n x1 (w32 (x2 + 1)) H (by omega) (by omega)) (fun v p => by omega)
      ·
        try dsimp +instances only
        exact zOp.ret (by omega)
theorem g_ca_otherBehind_sp {a0 : Nat} (ha0 : a0 = 48 ∨ a0 = 106) {x1 : Int} {σ : zS} (H : CI σ) (hp : 0 ≤ x1 ∧ x1 < σ a0 2) : zOp (g_ca_otherBehind a0 x1 σ) σ (fun v => v = -1 ∨ (x1 < v ∧ v < σ a0 2)) := by
  have ri_a0_2 := CI.c2 (a := a0) H (by omega)
  unfold g_ca_otherBehind
  try dsimp +instances only
  try have ew_5 := w32_id (x := x1 + 1) (by omega) (by omega)
  exact zOp.imp (g_ca_otherBehind_L4_sp (by omega) zK x1 (w32 (x1 + 1)) H (by omega) (by show _ < (1000000 : Int); omega)) (fun v p => by omega)
set_option maxHeartbeats 4000000 in
theorem g_ca_earliestFor_L2_sp {a0 : Nat} (ha0 : a0 = 48 ∨ a0 = 106) {σ : zS} : ∀ (n : Nat) (x1 : Int) (x2 : Int) (H : CI σ), (0 ≤ x1 ∧ x1 < 181 ∧ 0 ≤ x2 ∧ x2 ≤ x1) → (181 - x2) < (n : Int) → zOp (g_ca_earliestFor_L2 a0 n x1 x2 σ) σ (fun v => 0 ≤ v ∧ v ≤ x1)
  | 0, _, _, _, hi, hm => by exfalso; omega
  | n + 1, x1, x2, H, hi, hm => by
    unfold g_ca_earliestFor_L2
    try dsimp +instances only
    refine zOp.ite (fun c_1 => ?_) (fun c_1 => ?_)
    ·
      try dsimp +instances only
      exact zOp.ret (by omega)
    ·
      try dsimp +instances only
      refine zOp.gd (by omega) ?_
      try dsimp +instances only
      generalize hv_v_12 : σ (a0 + 4) x2 = v_12
      refine zOp.gd (by omega) ?_
      try dsimp +instances only
      generalize hv_v_18 : σ (a0 + 4) x1 = v_18
      refine zOp.bindp (g_b_join_sp) (fun r_19 p_19 => ?_)
      try dsimp +instances only
      refine zOp.ite (fun c_3 => ?_) (fun c_3 => ?_)
      ·
        try dsimp +instances only
        try have ew_4 := w32_id (x := x2 + 1) (by omega) (by omega)
        exact zOp.imp (g_ca_earliestFor_L2_sp (by omega) n x1 (w32 (x2 + 1)) H (by omega) (by omega)) (fun v p => by omega)
      ·
        try dsimp +instances only
        exact zOp.ret (by omega)
theorem g_ca_earliestFor_sp {a0 : Nat} (ha0 : a0 = 48 ∨ a0 = 106) {x1 : Int} {σ : zS} (H : CI σ) (hp : 0 ≤ x1 ∧ x1 < 181) : zOp (g_ca_earliestFor a0 x1 σ) σ (fun v => 0 ≤ v ∧ v ≤ x1) := by
  unfold g_ca_earliestFor
  try dsimp +instances only
  exact zOp.imp (g_ca_earliestFor_L2_sp (by omega) zK x1 0 H (by omega) (by show _ < (1000000 : Int); omega)) (fun v p => by omega)
set_option maxHeartbeats 4000000 in
theorem g_ca_lightest_L4_sp {a0 : Nat} (ha0 : a0 = 48 ∨ a0 = 106) {σ : zS} : ∀ (n : Nat) (x1 : Int) (x2 : Int) (H : CI σ), (0 ≤ x1 ∧ x1 < σ a0 2 ∧ 0 ≤ x2 ∧ x2 ≤ 181) → (181 - x2) < (n : Int) → zOp (g_ca_lightest_L4 a0 n x1 x2 σ) σ (fun v => 0 ≤ v ∧ v < σ a0 2)
  | 0, _, _, _, hi, hm => by exfalso; omega
  | n + 1, x1, x2, H, hi, hm => by
    have ri_a0_2 := CI.c2 (a := a0) H (by omega)
    unfold g_ca_lightest_L4
    try dsimp +instances only
    generalize hv_v_6 : σ a0 2 = v_6
    have rv_v_6 := CI.c2 (a := a0) H (by omega)
    rw [hv_v_6] at rv_v_6
    refine zOp.ite (fun c_1 => ?_) (fun c_1 => ?_)
    ·
      try dsimp +instances only
      exact zOp.ret (by omega)
    ·
      try dsimp +instances only
      refine zOp.gd (by omega) ?_
      try dsimp +instances only
      generalize hv_v_17 : σ (a0 + 7) x2 = v_17
      refine zOp.gd (by omega) ?_
      try dsimp +instances only
      generalize hv_v_23 : σ (a0 + 7) x1 = v_23
      refine zOp.ite (fun c_2 => ?_) (fun c_2 => ?_)
      ·
        try dsimp +instances only
        unfold g_ca_lightest_L30
        try dsimp +instances only
        try have ew_3 := w32_id (x := x2 + 1) (by omega) (by omega)
        exact zOp.imp (g_ca_lightest_L4_sp (by omega) n x1 (w32 (x2 + 1)) H (by omega) (by omega)) (fun v p => by omega)
      ·
        try dsimp +instances only
        unfold g_ca_lightest_L30
        try dsimp +instances only
        try have ew_4 := w32_id (x := x2 + 1) (by omega) (by omega)
        exact zOp.imp (g_ca_lightest_L4_sp (by omega) n x2 (w32 (x2 + 1)) H (by omega) (by omega)) (fun v p => by omega)
theorem g_ca_lightest_sp {a0 : Nat} (ha0 : a0 = 48 ∨ a0 = 106) {σ : zS} (H : CI σ) (hp : 0 < σ a0 2) : zOp (g_ca_lightest a0 σ) σ (fun v => 0 ≤ v ∧ v < σ a0 2) := by
  have ri_a0_2 := CI.c2 (a := a0) H (by omega)
  unfold g_ca_lightest
  try dsimp +instances only
  exact zOp.imp (g_ca_lightest_L4_sp (by omega) zK 0 1 H (by omega) (by show _ < (1000000 : Int); omega)) (fun v p => by omega)
theorem g_ca_isTooMuch_sp {a0 : Nat} (ha0 : a0 = 48 ∨ a0 = 106) {σ : zS} (H : CI σ) : zOp (g_ca_isTooMuch a0 σ) σ (fun v => True) := by
  unfold g_ca_isTooMuch
  try dsimp +instances only
  generalize hv_v_1 : σ a0 2 = v_1
  have rv_v_1 := CI.c2 (a := a0) H (by omega)
  rw [hv_v_1] at rv_v_1
  refine zOp.bindp (g_se_of_sp (by omega)) (fun r_9 p_9 => ?_)
  try dsimp +instances only
  refine zOp.ite (fun c_2 => ?_) (fun c_2 => ?_)
  ·
    try dsimp +instances only
    exact zOp.ret trivial
  ·
    try dsimp +instances only
    refine zOp.bindp (g_ca_sizes_sp (by omega) H) (fun r_16 p_16 => ?_)
    try dsimp +instances only
    refine zOp.bindp (g_se_of_sp (by omega)) (fun r_24 p_24 => ?_)
    try dsimp +instances only
    refine zOp.ite (fun c_5 => ?_) (fun c_5 => ?_)
    ·
      try dsimp +instances only
      exact zOp.ret trivial
    ·
      try dsimp +instances only
      exact zOp.ret trivial
set_option maxHeartbeats 4000000 in
theorem g_ca_regionAt_L2_sp {a0 : Nat} (ha0 : a0 = 48 ∨ a0 = 106) {σ : zS} : ∀ (n : Nat) (x1 : Int) (x2 : Int) (H : CI σ), (0 ≤ x2 ∧ x2 ≤ 181) → (181 - x2) < (n : Int) → zOp (g_ca_regionAt_L2 a0 n x1 x2 σ) σ (fun v => v = -1 ∨ (0 ≤ v ∧ v < σ a0 2))
  | 0, _, _, _, hi, hm => by exfalso; omega
  | n + 1, x1, x2, H, hi, hm => by
    have ri_a0_2 := CI.c2 (a := a0) H (by omega)
    unfold g_ca_regionAt_L2
    try dsimp +instances only
    generalize hv_v_4 : σ a0 2 = v_4
    have rv_v_4 := CI.c2 (a := a0) H (by omega)
    rw [hv_v_4] at rv_v_4
    refine zOp.ite (fun c_1 => ?_) (fun c_1 => ?_)
    ·
      try dsimp +instances only
      exact zOp.ret (by omega)
    ·
      try dsimp +instances only
      refine zOp.gd (by omega) ?_
      try dsimp +instances only
      generalize hv_v_15 : σ (a0 + 4) x2 = v_15
      refine zOp.bindp (g_b_meet_sp) (fun r_17 p_17 => ?_)
      try dsimp +instances only
      refine zOp.ite (fun c_3 => ?_) (fun c_3 => ?_)
      ·
        try dsimp +instances only
        try have ew_4 := w32_id (x := x2 + 1) (by omega) (by omega)
        exact zOp.imp (g_ca_regionAt_L2_sp (by omega) n x1 (w32 (x2 + 1)) H (by omega) (by omega)) (fun v p => by omega)
      ·
        try dsimp +instances only
        exact zOp.ret (by omega)
theorem g_ca_regionAt_sp {a0 : Nat} (ha0 : a0 = 48 ∨ a0 = 106) {x1 : Int} {σ : zS} (H : CI σ) : zOp (g_ca_regionAt a0 x1 σ) σ (fun v => v = -1 ∨ (0 ≤ v ∧ v < σ a0 2)) := by
  have ri_a0_2 := CI.c2 (a := a0) H (by omega)
  unfold g_ca_regionAt
  try dsimp +instances only
  exact zOp.imp (g_ca_regionAt_L2_sp (by omega) zK x1 0 H (by omega) (by show _ < (1000000 : Int); omega)) (fun v p => by omega)
set_option maxHeartbeats 4000000 in
theorem g_ca_bestSet_L32_sp {a0 : Nat} (ha0 : a0 = 48 ∨ a0 = 106) {g7 : Int → Int → Int → Int → zS → Option (Int × zS)} {X5 : Int} {σ : zS} (hg : ∀ y0 y1 y2 y3 : Int, (1 ≤ y3 ∧ y3 = X5 + 1) → zOp (g7 y0 y1 y2 y3 σ) σ (fun v => True)) : ∀ (n : Nat) (x1 : Int) (x2 : Int) (y3 : Int) (x5 : Int) (x6 : Int) (y7 : Int) (x9 : Int) (H : CI σ), (0 ≤ x9 ∧ x9 ≤ 181 ∧ 1 ≤ x5 ∧ x5 < 4096 ∧ x5 = X5) → (181 - x9) < (n : Int) → zOp (g_ca_bestSet_L32 a0 g7 n x1 x2 y3 x5 x6 y7 x9 σ) σ (fun v => True)
  | 0, _, _, _, _, _, _, _, _, hi, hm => by exfalso; omega
  | n + 1, x1, x2, y3, x5, x6, y7, x9, H, hi, hm => by
    unfold g_ca_bestSet_L32
    try dsimp +instances only
    generalize hv_v_35 : σ a0 2 = v_35
    have rv_v_35 := CI.c2 (a := a0) H (by omega)
    rw [hv_v_35] at rv_v_35
    refine zOp.ite (fun c_1 => ?_) (fun c_1 => ?_)
    ·
      try dsimp +instances only
      unfold g_ca_bestSet_L122
      try dsimp +instances only
      refine zOp.ite (fun c_2 => ?_) (fun c_2 => ?_)
      ·
        try dsimp +instances only
        unfold g_ca_bestSet_L141
        try dsimp +instances only
        try have ew_3 := w32_id (x := x5 + 1) (by omega) (by omega)
        exact hg x1 x2 y3 (w32 (x5 + 1)) (by omega)
      ·
        try dsimp +instances only
        refine zOp.ite (fun c_4 => ?_) (fun c_4 => ?_)
        ·
          try dsimp +instances only
          unfold g_ca_bestSet_L141
          try dsimp +instances only
          try have ew_5 := w32_id (x := x5 + 1) (by omega) (by omega)
          exact hg x1 x2 y3 (w32 (x5 + 1)) (by omega)
        ·
          try dsimp +instances only
          unfold g_ca_bestSet_L141
          try dsimp +instances only
          try have ew_6 := w32_id (x := x5 + 1) (by omega) (by omega)
          exact hg x1 x5 y7 (w32 (x5 + 1)) (by omega)
    ·
      try dsimp +instances only
      refine zOp.ite (fun c_7 => ?_) (fun c_7 => ?_)
      ·
        try dsimp +instances only
        unfold g_ca_bestSet_L122
        try dsimp +instances only
        refine zOp.ite (fun c_8 => ?_) (fun c_8 => ?_)
        ·
          try dsimp +instances only
          unfold g_ca_bestSet_L141
          try dsimp +instances only
          try have ew_9 := w32_id (x := x5 + 1) (by omega) (by omega)
          exact hg x1 x2 y3 (w32 (x5 + 1)) (by omega)
        ·
          try dsimp +instances only
          refine zOp.ite (fun c_10 => ?_) (fun c_10 => ?_)
          ·
            try dsimp +instances only
            unfold g_ca_bestSet_L141
            try dsimp +instances only
            try have ew_11 := w32_id (x := x5 + 1) (by omega) (by omega)
            exact hg x1 x2 y3 (w32 (x5 + 1)) (by omega)
          ·
            try dsimp +instances only
            unfold g_ca_bestSet_L141
            try dsimp +instances only
            try have ew_12 := w32_id (x := x5 + 1) (by omega) (by omega)
            exact hg x1 x5 y7 (w32 (x5 + 1)) (by omega)
      ·
        try dsimp +instances only
        refine zOp.ite (fun c_13 => ?_) (fun c_13 => ?_)
        ·
          try dsimp +instances only
          refine zOp.gd (by omega) ?_
          try dsimp +instances only
          generalize hv_v_70 : σ (a0 + 4) x9 = v_70
          refine zOp.bindp (g_so_rowsIn_sp) (fun r_71 p_71 => ?_)
          try dsimp +instances only
          refine zOp.bindp (g_jLong_bitCount_sp) (fun r_74 p_74 => ?_)
          try dsimp +instances only
          refine zOp.bindp (g_se_of_sp (by omega)) (fun r_95 p_95 => ?_)
          try dsimp +instances only
          refine zOp.gd (by omega) ?_
          try dsimp +instances only
          generalize hv_v_109 : σ (a0 + 5) x9 = v_109
          try have ew_17 := w32_id (x := 1 + r_74) (by omega) (by omega)
          try have ew_18 := w32_id (x := r_95 + r_74) (by omega) (by omega)
          try have ew_19 := w32_id (x := x6 + (w32 (1 + r_74))) (by omega) (by omega)
          unfold g_ca_bestSet_L116
          try dsimp +instances only
          try have ew_20 := w32_id (x := x9 + 1) (by omega) (by omega)
          exact g_ca_bestSet_L32_sp (by omega) hg n x1 x2 y3 x5 (w32 (x6 + (w32 (1 + r_74)))) (w64 (y7 + (w64 ((w32 (r_95 + r_74)) * (w64 (1 + v_109)))))) (w32 (x9 + 1)) H (by omega) (by omega)
        ·
          try dsimp +instances only
          unfold g_ca_bestSet_L116
          try dsimp +instances only
          try have ew_21 := w32_id (x := x9 + 1) (by omega) (by omega)
          exact g_ca_bestSet_L32_sp (by omega) hg n x1 x2 y3 x5 x6 y7 (w32 (x9 + 1)) H (by omega) (by omega)
set_option maxHeartbeats 4000000 in
theorem g_ca_bestSet_L7_sp {a0 : Nat} (ha0 : a0 = 48 ∨ a0 = 106) {σ : zS} : ∀ (n : Nat) (x1 : Int) (x2 : Int) (y3 : Int) (x5 : Int) (H : CI σ), (1 ≤ x5 ∧ x5 ≤ 4096) → (4096 - x5) < (n : Int) → zOp (g_ca_bestSet_L7 a0 n x1 x2 y3 x5 σ) σ (fun v => True)
  | 0, _, _, _, _, _, hi, hm => by exfalso; omega
  | n + 1, x1, x2, y3, x5, H, hi, hm => by
    unfold g_ca_bestSet_L7
    try dsimp +instances only
    generalize hv_v_11 : σ a0 2 = v_11
    have rv_v_11 := CI.c2 (a := a0) H (by omega)
    rw [hv_v_11] at rv_v_11
    refine zOp.bindp (g_jMath_min_291_sp) (fun r_16 p_16 => ?_)
    try dsimp +instances only
    have hh := shl12 (x := r_16) (by omega) (by omega)
    refine zOp.ite (fun c_23 => ?_) (fun c_23 => ?_)
    ·
      try dsimp +instances only
      exact zOp.ret trivial
    ·
      try dsimp +instances only
      exact g_ca_bestSet_L32_sp (X5 := x5) (by omega) (fun y0 y1 y2 y3 hc => g_ca_bestSet_L7_sp (by omega) n y0 y1 y2 y3 H (by omega) (by omega)) zK x1 x2 y3 x5 0 0 0 H (by omega) (by show _ < (1000000 : Int); omega)
theorem g_ca_bestSet_sp {a0 : Nat} (ha0 : a0 = 48 ∨ a0 = 106) {x1 : Int} {σ : zS} (H : CI σ) : zOp (g_ca_bestSet a0 x1 σ) σ (fun v => True) := by
  unfold g_ca_bestSet
  try dsimp +instances only
  exact g_ca_bestSet_L7_sp (by omega) zK x1 0 0 1 H (by omega) (by show _ < (1000000 : Int); omega)
