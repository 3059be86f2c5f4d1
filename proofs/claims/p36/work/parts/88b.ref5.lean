/-! the reference: goesOn, the outer loops -/
