/-! states, as a call -/
