/-! a deal: the reference -/
