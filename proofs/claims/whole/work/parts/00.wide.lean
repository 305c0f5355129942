/-! one row that names the library's multianewarray2F: the round reads the whole library at once -/
theorem gw_wide : True := by
  have _ := @Stand.multianewarray2F
  trivial
