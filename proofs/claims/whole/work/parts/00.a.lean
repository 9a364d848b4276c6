/-- the throw's rows (part 23) stand in the whole library: named here, so that the round is read over all of it from its first part on -/
theorem wide0 : True := by
  have := @Jvm.Stand.thenCaughtThrough
  trivial
