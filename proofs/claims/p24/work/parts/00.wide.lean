/-! a name of the rest of the library, so that the first round is read over the whole of it at once -/
theorem z_wide : True := by
  have _h := @Jvm.Free.Multi.fill_facts
  trivial
