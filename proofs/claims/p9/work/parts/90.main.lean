/-! THE LAW: its loop keeps what stands between the calls (printed by wip/zw.py) -/
set_option maxHeartbeats 4000000 in
theorem z_loop {xl : Nat} {xs : Nat → Int32} (hxl : xl ≤ 3072) (hx : ∀ X : Int32, -2147483648 ≤ X.toInt ∧ X.toInt < 2147483648) : ∀ (n : Nat) (x3 : Int) (σ : zS), InvS σ → 0 ≤ x3 → x3 ≤ (xl : Int) → (xl : Int) - x3 < (n : Int) → zO (g_jRangeAnswersLaw_law_L18 xl xs n x3 σ) (fun v _ => v = 1)
  | 0, _, _, _, _, _, _ => by exfalso; omega
  | n + 1, x3, σ, I, h1, h2, h3 => by
    unfold g_jRangeAnswersLaw_law_L18
    have w0 := w32_id (x := (xl : Int) - 6) (by omega) (by omega)
    refine zO.ite (fun _ => zO.ret rfl) (fun c0 => ?_)
    try dsimp +instances only
    refine zO.gd (by omega) ?_
    try dsimp +instances only
    have g1 : 0 ≤ w32 (x3 + 1) ∧ w32 (x3 + 1) < (xl : Int) := by rw [w32_id (x := x3 + 1) (by omega) (by omega)]; omega
    have g2 : 0 ≤ w32 (x3 + 2) ∧ w32 (x3 + 2) < (xl : Int) := by rw [w32_id (x := x3 + 2) (by omega) (by omega)]; omega
    have g3 : 0 ≤ w32 (x3 + 3) ∧ w32 (x3 + 3) < (xl : Int) := by rw [w32_id (x := x3 + 3) (by omega) (by omega)]; omega
    have g4 : 0 ≤ w32 (x3 + 4) ∧ w32 (x3 + 4) < (xl : Int) := by rw [w32_id (x := x3 + 4) (by omega) (by omega)]; omega
    have g5 : 0 ≤ w32 (x3 + 5) ∧ w32 (x3 + 5) < (xl : Int) := by rw [w32_id (x := x3 + 5) (by omega) (by omega)]; omega
    have w6 := w32_id (x := x3 + 6) (by omega) (by omega)
    have k1 : 0 ≤ x3 + 6 := by omega
    have k2 : x3 + 6 ≤ (xl : Int) := by omega
    have k3 : (xl : Int) - (x3 + 6) < (n : Int) := by omega
    clear w0 c0 h1 h2 h3
    refine zO.ite (fun c => ?_) (fun c => ?_)
    · clear c
      try dsimp +instances only
      refine zO.gd g1 ?_
      try dsimp +instances only
      refine zO.gd g2 ?_
      try dsimp +instances only
      refine zO.gd g3 ?_
      try dsimp +instances only
      refine zO.gd g4 ?_
      try dsimp +instances only
      refine zO.gd g5 ?_
      try dsimp +instances only
      refine zO.bind (qs_put (lOr_ok _ _) I) (fun v s1 p => ?_)
      try dsimp +instances only
      refine zO.gd g1 ?_
      try dsimp +instances only
      refine zO.gd g2 ?_
      try dsimp +instances only
      refine zO.gd g3 ?_
      try dsimp +instances only
      refine zO.gd g4 ?_
      try dsimp +instances only
      refine zO.gd g5 ?_
      try dsimp +instances only
      refine zO.bind p (fun w s2 q => ?_)
      try dsimp +instances only
      unfold g_jRangeAnswersLaw_law_L1367
      rw [w6]
      exact z_loop hxl hx n (x3 + 6) s2 q k1 k2 k3
    · clear c
      try dsimp +instances only
      refine zO.ite (fun c => ?_) (fun c => ?_)
      · clear c
        try dsimp +instances only
        refine zO.gd g1 ?_
        try dsimp +instances only
        refine zO.bind (qs_take I) (fun v s1 p => ?_)
        try dsimp +instances only
        refine zO.gd g1 ?_
        try dsimp +instances only
        refine zO.bind p (fun w s2 q => ?_)
        try dsimp +instances only
        unfold g_jRangeAnswersLaw_law_L1367
        rw [w6]
        exact z_loop hxl hx n (x3 + 6) s2 q k1 k2 k3
      · clear c
        try dsimp +instances only
        refine zO.ite (fun c => ?_) (fun c => ?_)
        · clear c
          try dsimp +instances only
          refine zO.gd g1 ?_
          try dsimp +instances only
          refine zO.gd g2 ?_
          try dsimp +instances only
          refine zO.bind (qs_row I) (fun v s1 p => ?_)
          try dsimp +instances only
          refine zO.gd g1 ?_
          try dsimp +instances only
          refine zO.gd g2 ?_
          try dsimp +instances only
          refine zO.bind p (fun w s2 q => ?_)
          try dsimp +instances only
          unfold g_jRangeAnswersLaw_law_L1367
          rw [w6]
          exact z_loop hxl hx n (x3 + 6) s2 q.1 k1 k2 k3
        · clear c
          try dsimp +instances only
          refine zO.ite (fun c => ?_) (fun c => ?_)
          · clear c
            try dsimp +instances only
            refine zO.gd g1 ?_
            try dsimp +instances only
            refine zO.bind (qs_worth I) (fun v s1 p => ?_)
            try dsimp +instances only
            refine zO.gd g1 ?_
            try dsimp +instances only
            refine zO.bind p (fun w s2 q => ?_)
            try dsimp +instances only
            unfold g_jRangeAnswersLaw_law_L1367
            rw [w6]
            exact z_loop hxl hx n (x3 + 6) s2 q.1 k1 k2 k3
          · clear c
            try dsimp +instances only
            refine zO.ite (fun c => ?_) (fun c => ?_)
            · clear c
              try dsimp +instances only
              refine zO.gd g1 ?_
              try dsimp +instances only
              refine zO.bind (qs_feed I) (fun v s1 p => ?_)
              try dsimp +instances only
              refine zO.gd g1 ?_
              try dsimp +instances only
              refine zO.bind p (fun w s2 q => ?_)
              try dsimp +instances only
              unfold g_jRangeAnswersLaw_law_L1367
              rw [w6]
              exact z_loop hxl hx n (x3 + 6) s2 q.1 k1 k2 k3
            · clear c
              try dsimp +instances only
              refine zO.ite (fun c => ?_) (fun c => ?_)
              · clear c
                try dsimp +instances only
                refine zO.bind (qs_clear I) (fun v s1 p => ?_)
                try dsimp +instances only
                refine zO.bind p (fun w s2 q => ?_)
                try dsimp +instances only
                unfold g_jRangeAnswersLaw_law_L1367
                rw [w6]
                exact z_loop hxl hx n (x3 + 6) s2 q.1 k1 k2 k3
              · clear c
                try dsimp +instances only
                refine zO.ite (fun c => ?_) (fun c => ?_)
                · clear c
                  try dsimp +instances only
                  refine zO.bind (qs_settings I) (fun v s1 p => ?_)
                  try dsimp +instances only
                  refine zO.bind p (fun w s2 q => ?_)
                  try dsimp +instances only
                  unfold g_jRangeAnswersLaw_law_L1367
                  rw [w6]
                  exact z_loop hxl hx n (x3 + 6) s2 q.1 k1 k2 k3
                · clear c
                  try dsimp +instances only
                  refine zO.ite (fun c => ?_) (fun c => ?_)
                  · clear c
                    try dsimp +instances only
                    refine zO.gd g1 ?_
                    try dsimp +instances only
                    refine zO.bind (qs_setting I) (fun v s1 p => ?_)
                    try dsimp +instances only
                    refine zO.gd g1 ?_
                    try dsimp +instances only
                    refine zO.bind p (fun w s2 q => ?_)
                    try dsimp +instances only
                    refine zO.ite (fun _ => ?_) (fun c => absurd q.2 c)
                    try dsimp +instances only
                    unfold g_jRangeAnswersLaw_law_L1367
                    rw [w6]
                    exact z_loop hxl hx n (x3 + 6) s2 q.1 k1 k2 k3
                  · clear c
                    try dsimp +instances only
                    refine zO.ite (fun c => ?_) (fun c => ?_)
                    · clear c
                      try dsimp +instances only
                      refine zO.bind (qs_run I) (fun v s1 p => ?_)
                      try dsimp +instances only
                      refine zO.bind p (fun w s2 q => ?_)
                      try dsimp +instances only
                      unfold g_jRangeAnswersLaw_law_L1367
                      rw [w6]
                      exact z_loop hxl hx n (x3 + 6) s2 q k1 k2 k3
                    · clear c
                      try dsimp +instances only
                      refine zO.ite (fun c => ?_) (fun c => ?_)
                      · clear c
                        try dsimp +instances only
                        refine zO.gd g1 ?_
                        try dsimp +instances only
                        refine zO.bind (qs_answer I) (fun v s1 p => ?_)
                        try dsimp +instances only
                        refine zO.gd g1 ?_
                        try dsimp +instances only
                        refine zO.bind p (fun w s2 q => ?_)
                        try dsimp +instances only
                        unfold g_jRangeAnswersLaw_law_L1367
                        rw [w6]
                        exact z_loop hxl hx n (x3 + 6) s2 q k1 k2 k3
                      · clear c
                        try dsimp +instances only
                        refine zO.ite (fun c => ?_) (fun c => ?_)
                        · clear c
                          try dsimp +instances only
                          refine zO.bind (qs_spell I) (fun v s1 p => ?_)
                          try dsimp +instances only
                          refine zO.bind p (fun w s2 q => ?_)
                          try dsimp +instances only
                          unfold g_jRangeAnswersLaw_law_L1367
                          rw [w6]
                          exact z_loop hxl hx n (x3 + 6) s2 q k1 k2 k3
                        · clear c
                          try dsimp +instances only
                          refine zO.ite (fun c => ?_) (fun c => ?_)
                          · clear c
                            try dsimp +instances only
                            refine zO.bind (qs_load I) (fun v s1 p => ?_)
                            try dsimp +instances only
                            refine zO.bind p (fun w s2 q => ?_)
                            try dsimp +instances only
                            unfold g_jRangeAnswersLaw_law_L1367
                            rw [w6]
                            exact z_loop hxl hx n (x3 + 6) s2 q k1 k2 k3
                          · clear c
                            try dsimp +instances only
                            refine zO.ite (fun c => ?_) (fun c => ?_)
                            · clear c
                              try dsimp +instances only
                              refine zO.gd g1 ?_
                              try dsimp +instances only
                              refine zO.gd g2 ?_
                              try dsimp +instances only
                              refine zO.gd g3 ?_
                              try dsimp +instances only
                              refine zO.gd g4 ?_
                              try dsimp +instances only
                              refine zO.bind (qs_explain I) (fun v s1 p => ?_)
                              try dsimp +instances only
                              refine zO.gd g1 ?_
                              try dsimp +instances only
                              refine zO.gd g2 ?_
                              try dsimp +instances only
                              refine zO.gd g3 ?_
                              try dsimp +instances only
                              refine zO.gd g4 ?_
                              try dsimp +instances only
                              refine zO.bind p (fun w s2 q => ?_)
                              try dsimp +instances only
                              unfold g_jRangeAnswersLaw_law_L1367
                              rw [w6]
                              exact z_loop hxl hx n (x3 + 6) s2 q k1 k2 k3
                            · clear c
                              try dsimp +instances only
                              refine zO.ite (fun c => ?_) (fun c => ?_)
                              · clear c
                                try dsimp +instances only
                                refine zO.gd g1 ?_
                                try dsimp +instances only
                                refine zO.bind (qs_paper I) (fun v s1 p => ?_)
                                try dsimp +instances only
                                refine zO.gd g1 ?_
                                try dsimp +instances only
                                refine zO.bind p (fun w s2 q => ?_)
                                try dsimp +instances only
                                unfold g_jRangeAnswersLaw_law_L1367
                                rw [w6]
                                exact z_loop hxl hx n (x3 + 6) s2 q k1 k2 k3
                              · clear c
                                try dsimp +instances only
                                refine zO.ite (fun c => ?_) (fun c => ?_)
                                · clear c
                                  try dsimp +instances only
                                  refine zO.gd g1 ?_
                                  try dsimp +instances only
                                  refine zO.gd g2 ?_
                                  try dsimp +instances only
                                  refine zO.gd g3 ?_
                                  try dsimp +instances only
                                  refine zO.gd g4 ?_
                                  try dsimp +instances only
                                  refine zO.gd g5 ?_
                                  try dsimp +instances only
                                  refine zO.bind (qs_query I) (fun v s1 p => ?_)
                                  try dsimp +instances only
                                  refine zO.gd g1 ?_
                                  try dsimp +instances only
                                  refine zO.gd g2 ?_
                                  try dsimp +instances only
                                  refine zO.gd g3 ?_
                                  try dsimp +instances only
                                  refine zO.gd g4 ?_
                                  try dsimp +instances only
                                  refine zO.gd g5 ?_
                                  try dsimp +instances only
                                  refine zO.bind p (fun w s2 q => ?_)
                                  try dsimp +instances only
                                  unfold g_jRangeAnswersLaw_law_L1367
                                  rw [w6]
                                  exact z_loop hxl hx n (x3 + 6) s2 q.1 k1 k2 k3
                                · clear c
                                  try dsimp +instances only
                                  refine zO.ite (fun c => ?_) (fun c => ?_)
                                  · clear c
                                    try dsimp +instances only
                                    refine zO.gd g1 ?_
                                    try dsimp +instances only
                                    refine zO.bind (qs_find I) (fun v s1 p => ?_)
                                    try dsimp +instances only
                                    refine zO.gd g1 ?_
                                    try dsimp +instances only
                                    refine zO.bind p (fun w s2 q => ?_)
                                    try dsimp +instances only
                                    unfold g_jRangeAnswersLaw_law_L1367
                                    rw [w6]
                                    exact z_loop hxl hx n (x3 + 6) s2 q k1 k2 k3
                                  · clear c
                                    try dsimp +instances only
                                    refine zO.ite (fun c => ?_) (fun c => ?_)
                                    · clear c
                                      try dsimp +instances only
                                      refine zO.gd g1 ?_
                                      try dsimp +instances only
                                      refine zO.gd g2 ?_
                                      try dsimp +instances only
                                      refine zO.gd g3 ?_
                                      try dsimp +instances only
                                      refine zO.gd g4 ?_
                                      try dsimp +instances only
                                      refine zO.bind (qs_probe I) (fun v s1 p => ?_)
                                      try dsimp +instances only
                                      refine zO.gd g1 ?_
                                      try dsimp +instances only
                                      refine zO.gd g2 ?_
                                      try dsimp +instances only
                                      refine zO.gd g3 ?_
                                      try dsimp +instances only
                                      refine zO.gd g4 ?_
                                      try dsimp +instances only
                                      refine zO.bind p (fun w s2 q => ?_)
                                      try dsimp +instances only
                                      unfold g_jRangeAnswersLaw_law_L1367
                                      rw [w6]
                                      exact z_loop hxl hx n (x3 + 6) s2 q k1 k2 k3
                                    · clear c
                                      try dsimp +instances only
                                      refine zO.ite (fun c => ?_) (fun c => ?_)
                                      · clear c
                                        try dsimp +instances only
                                        refine zO.gd g1 ?_
                                        try dsimp +instances only
                                        refine zO.gd g2 ?_
                                        try dsimp +instances only
                                        refine zO.bind (qs_piece I) (fun v s1 p => ?_)
                                        try dsimp +instances only
                                        refine zO.gd g1 ?_
                                        try dsimp +instances only
                                        refine zO.gd g2 ?_
                                        try dsimp +instances only
                                        refine zO.bind p (fun w s2 q => ?_)
                                        try dsimp +instances only
                                        unfold g_jRangeAnswersLaw_law_L1367
                                        rw [w6]
                                        exact z_loop hxl hx n (x3 + 6) s2 q k1 k2 k3
                                      · clear c
                                        try dsimp +instances only
                                        refine zO.ite (fun c => ?_) (fun c => ?_)
                                        · clear c
                                          try dsimp +instances only
                                          refine zO.gd g1 ?_
                                          try dsimp +instances only
                                          refine zO.gd g2 ?_
                                          try dsimp +instances only
                                          refine zO.bind (qs_region I) (fun v s1 p => ?_)
                                          try dsimp +instances only
                                          refine zO.gd g1 ?_
                                          try dsimp +instances only
                                          refine zO.gd g2 ?_
                                          try dsimp +instances only
                                          refine zO.bind p (fun w s2 q => ?_)
                                          try dsimp +instances only
                                          unfold g_jRangeAnswersLaw_law_L1367
                                          rw [w6]
                                          exact z_loop hxl hx n (x3 + 6) s2 q k1 k2 k3
                                        · clear c
                                          try dsimp +instances only
                                          refine zO.ite (fun c => ?_) (fun c => ?_)
                                          · clear c
                                            try dsimp +instances only
                                            refine zO.gd g1 ?_
                                            try dsimp +instances only
                                            refine zO.bind (qs_weight I) (fun v s1 p => ?_)
                                            try dsimp +instances only
                                            refine zO.gd g1 ?_
                                            try dsimp +instances only
                                            refine zO.bind p (fun w s2 q => ?_)
                                            try dsimp +instances only
                                            unfold g_jRangeAnswersLaw_law_L1367
                                            rw [w6]
                                            exact z_loop hxl hx n (x3 + 6) s2 q k1 k2 k3
                                          · clear c
                                            try dsimp +instances only
                                            refine zO.ite (fun c => ?_) (fun c => ?_)
                                            · clear c
                                              try dsimp +instances only
                                              refine zO.gd g1 ?_
                                              try dsimp +instances only
                                              refine zO.bind (qs_told I) (fun v s1 p => ?_)
                                              try dsimp +instances only
                                              refine zO.gd g1 ?_
                                              try dsimp +instances only
                                              refine zO.bind p (fun w s2 q => ?_)
                                              try dsimp +instances only
                                              unfold g_jRangeAnswersLaw_law_L1367
                                              rw [w6]
                                              exact z_loop hxl hx n (x3 + 6) s2 q k1 k2 k3
                                            · clear c
                                              try dsimp +instances only
                                              refine zO.ite (fun c => ?_) (fun c => ?_)
                                              · clear c
                                                try dsimp +instances only
                                                refine zO.bind (qs_flush I) (fun v s1 p => ?_)
                                                try dsimp +instances only
                                                refine zO.bind p (fun w s2 q => ?_)
                                                try dsimp +instances only
                                                unfold g_jRangeAnswersLaw_law_L1367
                                                rw [w6]
                                                exact z_loop hxl hx n (x3 + 6) s2 q k1 k2 k3
                                              · clear c
                                                try dsimp +instances only
                                                refine zO.ite (fun c => ?_) (fun c => ?_)
                                                · clear c
                                                  try dsimp +instances only
                                                  refine zO.gd g1 ?_
                                                  try dsimp +instances only
                                                  refine zO.bind (qs_keep I) (fun v s1 p => ?_)
                                                  try dsimp +instances only
                                                  refine zO.gd g1 ?_
                                                  try dsimp +instances only
                                                  refine zO.bind p (fun w s2 q => ?_)
                                                  try dsimp +instances only
                                                  unfold g_jRangeAnswersLaw_law_L1367
                                                  rw [w6]
                                                  exact z_loop hxl hx n (x3 + 6) s2 q k1 k2 k3
                                                · clear c
                                                  try dsimp +instances only
                                                  refine zO.ite (fun c => ?_) (fun c => ?_)
                                                  · clear c
                                                    try dsimp +instances only
                                                    refine zO.gd g1 ?_
                                                    try dsimp +instances only
                                                    refine zO.gd g2 ?_
                                                    try dsimp +instances only
                                                    refine zO.gd g3 ?_
                                                    try dsimp +instances only
                                                    refine zO.gd g4 ?_
                                                    try dsimp +instances only
                                                    refine zO.bind (qs_trace I) (fun v s1 p => ?_)
                                                    try dsimp +instances only
                                                    refine zO.gd g1 ?_
                                                    try dsimp +instances only
                                                    refine zO.gd g2 ?_
                                                    try dsimp +instances only
                                                    refine zO.gd g3 ?_
                                                    try dsimp +instances only
                                                    refine zO.gd g4 ?_
                                                    try dsimp +instances only
                                                    refine zO.bind p (fun w s2 q => ?_)
                                                    try dsimp +instances only
                                                    unfold g_jRangeAnswersLaw_law_L1367
                                                    rw [w6]
                                                    exact z_loop hxl hx n (x3 + 6) s2 q.1 k1 k2 k3
                                                  · clear c
                                                    try dsimp +instances only
                                                    refine zO.ite (fun c => ?_) (fun c => ?_)
                                                    · clear c
                                                      try dsimp +instances only
                                                      refine zO.gd g1 ?_
                                                      try dsimp +instances only
                                                      refine zO.gd g2 ?_
                                                      try dsimp +instances only
                                                      refine zO.bind (qs_again I) (fun v s1 p => ?_)
                                                      try dsimp +instances only
                                                      refine zO.gd g1 ?_
                                                      try dsimp +instances only
                                                      refine zO.gd g2 ?_
                                                      try dsimp +instances only
                                                      refine zO.bind p (fun w s2 q => ?_)
                                                      try dsimp +instances only
                                                      unfold g_jRangeAnswersLaw_law_L1367
                                                      rw [w6]
                                                      exact z_loop hxl hx n (x3 + 6) s2 q k1 k2 k3
                                                    · clear c
                                                      try dsimp +instances only
                                                      refine zO.ite (fun c => ?_) (fun c => ?_)
                                                      · clear c
                                                        try dsimp +instances only
                                                        refine zO.gd g1 ?_
                                                        try dsimp +instances only
                                                        refine zO.bind (qs_least I) (fun v s1 p => ?_)
                                                        try dsimp +instances only
                                                        refine zO.gd g1 ?_
                                                        try dsimp +instances only
                                                        refine zO.bind p (fun w s2 q => ?_)
                                                        try dsimp +instances only
                                                        unfold g_jRangeAnswersLaw_law_L1367
                                                        rw [w6]
                                                        exact z_loop hxl hx n (x3 + 6) s2 q k1 k2 k3
                                                      · clear c
                                                        try dsimp +instances only
                                                        refine zO.ite (fun c => ?_) (fun c => ?_)
                                                        · clear c
                                                          try dsimp +instances only
                                                          refine zO.gd g1 ?_
                                                          try dsimp +instances only
                                                          refine zO.gd g2 ?_
                                                          try dsimp +instances only
                                                          refine zO.gd g3 ?_
                                                          try dsimp +instances only
                                                          refine zO.gd g4 ?_
                                                          try dsimp +instances only
                                                          refine zO.gd g5 ?_
                                                          try dsimp +instances only
                                                          refine zO.bind (qs_watch I) (fun v s1 p => ?_)
                                                          try dsimp +instances only
                                                          refine zO.gd g1 ?_
                                                          try dsimp +instances only
                                                          refine zO.gd g2 ?_
                                                          try dsimp +instances only
                                                          refine zO.gd g3 ?_
                                                          try dsimp +instances only
                                                          refine zO.gd g4 ?_
                                                          try dsimp +instances only
                                                          refine zO.gd g5 ?_
                                                          try dsimp +instances only
                                                          refine zO.bind p (fun w s2 q => ?_)
                                                          try dsimp +instances only
                                                          unfold g_jRangeAnswersLaw_law_L1367
                                                          rw [w6]
                                                          exact z_loop hxl hx n (x3 + 6) s2 q.1 k1 k2 k3
                                                        · clear c
                                                          try dsimp +instances only
                                                          refine zO.ite (fun c => ?_) (fun c => ?_)
                                                          · clear c
                                                            try dsimp +instances only
                                                            refine zO.gd g1 ?_
                                                            try dsimp +instances only
                                                            refine zO.bind (qs_value I) (fun v s1 p => ?_)
                                                            try dsimp +instances only
                                                            refine zO.gd g1 ?_
                                                            try dsimp +instances only
                                                            refine zO.bind p (fun w s2 q => ?_)
                                                            try dsimp +instances only
                                                            unfold g_jRangeAnswersLaw_law_L1367
                                                            rw [w6]
                                                            exact z_loop hxl hx n (x3 + 6) s2 q.1 k1 k2 k3
                                                          · clear c
                                                            try dsimp +instances only
                                                            refine zO.ite (fun c => ?_) (fun c => ?_)
                                                            · clear c
                                                              try dsimp +instances only
                                                              refine zO.gd g1 ?_
                                                              try dsimp +instances only
                                                              refine zO.bind (qs_changes I) (fun v s1 p => ?_)
                                                              try dsimp +instances only
                                                              refine zO.gd g1 ?_
                                                              try dsimp +instances only
                                                              refine zO.bind p (fun w s2 q => ?_)
                                                              try dsimp +instances only
                                                              unfold g_jRangeAnswersLaw_law_L1367
                                                              rw [w6]
                                                              exact z_loop hxl hx n (x3 + 6) s2 q.1 k1 k2 k3
                                                            · clear c
                                                              try dsimp +instances only
                                                              refine zO.ite (fun c => ?_) (fun c => ?_)
                                                              · clear c
                                                                try dsimp +instances only
                                                                refine zO.gd g1 ?_
                                                                try dsimp +instances only
                                                                refine zO.gd g2 ?_
                                                                try dsimp +instances only
                                                                refine zO.bind (qs_list I) (fun v s1 p => ?_)
                                                                try dsimp +instances only
                                                                refine zO.gd g1 ?_
                                                                try dsimp +instances only
                                                                refine zO.gd g2 ?_
                                                                try dsimp +instances only
                                                                refine zO.bind p (fun w s2 q => ?_)
                                                                try dsimp +instances only
                                                                unfold g_jRangeAnswersLaw_law_L1367
                                                                rw [w6]
                                                                exact z_loop hxl hx n (x3 + 6) s2 q.1 k1 k2 k3
                                                              · clear c
                                                                try dsimp +instances only
                                                                refine zO.ite (fun c => ?_) (fun c => ?_)
                                                                · clear c
                                                                  try dsimp +instances only
                                                                  refine zO.gd g1 ?_
                                                                  try dsimp +instances only
                                                                  refine zO.gd g2 ?_
                                                                  try dsimp +instances only
                                                                  refine zO.gd g3 ?_
                                                                  try dsimp +instances only
                                                                  refine zO.gd g4 ?_
                                                                  try dsimp +instances only
                                                                  refine zO.bind (qs_set I) (fun v s1 p => ?_)
                                                                  try dsimp +instances only
                                                                  refine zO.gd g1 ?_
                                                                  try dsimp +instances only
                                                                  refine zO.gd g2 ?_
                                                                  try dsimp +instances only
                                                                  refine zO.gd g3 ?_
                                                                  try dsimp +instances only
                                                                  refine zO.gd g4 ?_
                                                                  try dsimp +instances only
                                                                  refine zO.bind p (fun w s2 q => ?_)
                                                                  try dsimp +instances only
                                                                  unfold g_jRangeAnswersLaw_law_L1367
                                                                  rw [w6]
                                                                  exact z_loop hxl hx n (x3 + 6) s2 q.1 k1 k2 k3
                                                                · clear c
                                                                  try dsimp +instances only
                                                                  refine zO.ite (fun c => ?_) (fun c => ?_)
                                                                  · clear c
                                                                    try dsimp +instances only
                                                                    refine zO.gd g1 ?_
                                                                    try dsimp +instances only
                                                                    refine zO.gd g2 ?_
                                                                    try dsimp +instances only
                                                                    refine zO.bind (qs_get I) (fun v s1 p => ?_)
                                                                    try dsimp +instances only
                                                                    refine zO.gd g1 ?_
                                                                    try dsimp +instances only
                                                                    refine zO.gd g2 ?_
                                                                    try dsimp +instances only
                                                                    refine zO.bind p (fun w s2 q => ?_)
                                                                    try dsimp +instances only
                                                                    unfold g_jRangeAnswersLaw_law_L1367
                                                                    rw [w6]
                                                                    exact z_loop hxl hx n (x3 + 6) s2 q k1 k2 k3
                                                                  · clear c
                                                                    try dsimp +instances only
                                                                    refine zO.ite (fun c => ?_) (fun c => ?_)
                                                                    · clear c
                                                                      try dsimp +instances only
                                                                      refine zO.gd g1 ?_
                                                                      try dsimp +instances only
                                                                      refine zO.gd g2 ?_
                                                                      try dsimp +instances only
                                                                      refine zO.gd g3 ?_
                                                                      try dsimp +instances only
                                                                      refine zO.gd g4 ?_
                                                                      try dsimp +instances only
                                                                      refine zO.gd g5 ?_
                                                                      try dsimp +instances only
                                                                      refine zO.bind (qs_move (hx _).2 (hx _).2 I) (fun v s1 p => ?_)
                                                                      try dsimp +instances only
                                                                      refine zO.gd g1 ?_
                                                                      try dsimp +instances only
                                                                      refine zO.gd g2 ?_
                                                                      try dsimp +instances only
                                                                      refine zO.gd g3 ?_
                                                                      try dsimp +instances only
                                                                      refine zO.gd g4 ?_
                                                                      try dsimp +instances only
                                                                      refine zO.gd g5 ?_
                                                                      try dsimp +instances only
                                                                      refine zO.bind p (fun w s2 q => ?_)
                                                                      try dsimp +instances only
                                                                      unfold g_jRangeAnswersLaw_law_L1367
                                                                      rw [w6]
                                                                      exact z_loop hxl hx n (x3 + 6) s2 q.1 k1 k2 k3
                                                                    · clear c
                                                                      try dsimp +instances only
                                                                      refine zO.ite (fun c => ?_) (fun c => ?_)
                                                                      · clear c
                                                                        try dsimp +instances only
                                                                        refine zO.gd g1 ?_
                                                                        try dsimp +instances only
                                                                        refine zO.gd g2 ?_
                                                                        try dsimp +instances only
                                                                        refine zO.bind (qs_lay (hx _) I) (fun v s1 p => ?_)
                                                                        try dsimp +instances only
                                                                        refine zO.gd g1 ?_
                                                                        try dsimp +instances only
                                                                        refine zO.gd g2 ?_
                                                                        try dsimp +instances only
                                                                        refine zO.bind p (fun w s2 q => ?_)
                                                                        try dsimp +instances only
                                                                        unfold g_jRangeAnswersLaw_law_L1367
                                                                        rw [w6]
                                                                        exact z_loop hxl hx n (x3 + 6) s2 q k1 k2 k3
                                                                      · clear c
                                                                        try dsimp +instances only
                                                                        refine zO.ite (fun c => ?_) (fun c => ?_)
                                                                        · clear c
                                                                          try dsimp +instances only
                                                                          refine zO.gd g1 ?_
                                                                          try dsimp +instances only
                                                                          refine zO.gd g2 ?_
                                                                          try dsimp +instances only
                                                                          refine zO.bind (qs_judge (hx _) I) (fun v s1 p => ?_)
                                                                          try dsimp +instances only
                                                                          refine zO.gd g1 ?_
                                                                          try dsimp +instances only
                                                                          refine zO.gd g2 ?_
                                                                          try dsimp +instances only
                                                                          refine zO.bind p (fun w s2 q => ?_)
                                                                          try dsimp +instances only
                                                                          unfold g_jRangeAnswersLaw_law_L1367
                                                                          rw [w6]
                                                                          exact z_loop hxl hx n (x3 + 6) s2 q k1 k2 k3
                                                                        · clear c
                                                                          try dsimp +instances only
                                                                          refine zO.ite (fun c => ?_) (fun c => ?_)
                                                                          · clear c
                                                                            try dsimp +instances only
                                                                            refine zO.bind (qs_image I) (fun v s1 p => ?_)
                                                                            try dsimp +instances only
                                                                            refine zO.bind p (fun w s2 q => ?_)
                                                                            try dsimp +instances only
                                                                            unfold g_jRangeAnswersLaw_law_L1367
                                                                            rw [w6]
                                                                            exact z_loop hxl hx n (x3 + 6) s2 q k1 k2 k3
                                                                          · clear c
                                                                            try dsimp +instances only
                                                                            refine zO.ite (fun c => ?_) (fun c => ?_)
                                                                            · clear c
                                                                              try dsimp +instances only
                                                                              refine zO.bind (qs_undo I) (fun v s1 p => ?_)
                                                                              try dsimp +instances only
                                                                              refine zO.bind p (fun w s2 q => ?_)
                                                                              try dsimp +instances only
                                                                              unfold g_jRangeAnswersLaw_law_L1367
                                                                              rw [w6]
                                                                              exact z_loop hxl hx n (x3 + 6) s2 q k1 k2 k3
                                                                            · clear c
                                                                              try dsimp +instances only
                                                                              unfold g_jRangeAnswersLaw_law_L1367
                                                                              rw [w6]
                                                                              exact z_loop hxl hx n (x3 + 6) σ I k1 k2 k3
theorem z_main : z_goal 3072 := z_fin (by decide) (fun xl xs hxl => by
  obtain ⟨v, s, e, rfl⟩ := z_loop (xs := xs) hxl (fun X => ⟨Int32.le_toInt X, Int32.toInt_lt X⟩) zK 0 s0 InvS_s0 (by omega) (by omega) (by show _ < (1000000 : Int); omega)
  exact ⟨s, e⟩)
