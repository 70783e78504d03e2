/-! Read over the whole library: what is wanted of it for grids. -/
theorem mv_wide : True := by
  have := @Jvm.Stand.multianewarray2F
  trivial
