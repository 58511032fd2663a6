/-- a name of the library's rest: so that every round is read over the whole library from its first part on -/
theorem aw_wide : True := by
  have _ := @Stand.thenCaughtThrough
  trivial
