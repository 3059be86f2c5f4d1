/-! the law's loop, to its end -/
