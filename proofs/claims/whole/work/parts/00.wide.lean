/-! One name of the far shelf of the library, so that a round is read over the whole of it from its first part. -/
theorem w_wide : True := by
  have _h := @Jvm.Stand.multianewarray2F
  trivial
