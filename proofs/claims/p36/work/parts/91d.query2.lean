/-! more questions -/
