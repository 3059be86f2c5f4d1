/-! isWhole of the reference, and as a call -/
abbrev W91 (x j : Nat) : Prop := x = 91 ∨ (x = 92 ∧ j = j)
