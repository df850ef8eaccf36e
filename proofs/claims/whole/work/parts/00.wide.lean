/-! a name of the whole library, first of all, so that a round on a new machine is read over it at once -/
theorem wide_first : True := by
  have h := @Jvm.Free.Multi.outerC
  trivial
