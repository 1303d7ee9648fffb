/-! a member of the library's rest that the rows of 'new int[n][m]' stand on -/
theorem wd_probe : True := by
  have h := @Jvm.Stand.multianewarray2F
  trivial
