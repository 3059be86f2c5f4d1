/-! a round's end: the reference -/
