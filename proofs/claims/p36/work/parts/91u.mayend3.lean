/-! may a turn end: the reference -/
