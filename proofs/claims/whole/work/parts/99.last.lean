/-! the last part -/
theorem ll_last : True := trivial
