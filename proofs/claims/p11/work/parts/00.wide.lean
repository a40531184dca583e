/-! A row of the library that part 16 needs. -/
theorem eWide : True := by
  have _h := @Stand.multianewarray2F
  trivial
