/-! the reference: undone, worth -/
theorem ad0 (x : Int32) : x + 0 = x := Int32.add_zero x
