/-! playerIs, rules -/
