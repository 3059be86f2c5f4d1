/-! may a turn end: the reference's answer -/
