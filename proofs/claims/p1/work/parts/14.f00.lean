theorem t2 : z_ia z_r0 0 = some (0, .iload_n 0, 1) := rfl
theorem t3 (x0 x1 : Int32) (m : zM) : z_act z_r0 0 [(0, .int x0), (1, .int x1)] [] m = some (.inl (1, [(0, .int x0), (1, .int x1)], [.int x0], m)) := rfl
theorem t3b (x0 x1 : Int32) (m : zM) : z_step 0 2 false (.iload_n 0) 0 [(0, .int x0), (1, .int x1)] [] m = some (1, [(0, .int x0), (1, .int x1)], [.int x0], m) := rfl
theorem t3c : ((1 : Nat) == z_ln (.iload_n 0) || z_ln (.iload_n 0) == 0) = true := rfl
theorem t3d : (z_r0.1.name == "<init>") = false := rfl
theorem t3f : (z_r0.1.name == "<init>") = false := by decide
theorem t3g : z_r0.2.2.2.2.1 = 0 := rfl
theorem t4 (x0 x1 : Int32) : z_can 0 1 [(0, .int x0), (1, .int x1)] = [(0, .int x0), (1, .int x1)] := rfl
theorem t5 (x0 x1 : Int32) (m : zM) : z_nx z_r0 0 (0, [(0, .int x0), (1, .int x1)], [], m) = some (1, [(0, .int x0), (1, .int x1)], [.int x0], m) := rfl
theorem t6 (x0 x1 : Int32) (m : zM) : z_rn z_r0 0 1 (0, [(0, .int x0), (1, .int x1)], [], m) = some (1, [(0, .int x0), (1, .int x1)], [.int x0], m) := rfl
theorem t7 (x0 x1 : Int32) (m : zM) : z_rn z_r0 0 1 (0, [(0, .int x0), (1, .int x1)], [], m) = some (1, [(0, .int x0), (1, .int x1)], [.int x0], m) := by with_unfolding_all rfl
theorem t8 (x0 x1 : Int32) (m : zM) : z_rn z_r0 0 1 (0, [(0, .int x0), (1, .int x1)], [], m) = some (1, [(0, .int x0), (1, .int x1)], [.int x0], m) := by
  unfold z_rn z_nx z_act
  rfl
