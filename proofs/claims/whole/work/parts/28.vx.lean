/-! rows of throws stand here later -/
theorem vx_nil : True := trivial
