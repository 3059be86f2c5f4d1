/-! end -/
theorem mayEnd_no {σ : rS} {B : Bd} {E : List Ent} {dl : Option (Nat × Nat × Nat)} {m : Mem} {l : Nat → Int64} {ch : Nat} (C : CI σ B E dl m l ch) (tp : m 67 24 = -1) : f_X10_mayEnd σ = some (0, σ) := by
  unfold f_X10_mayEnd
  rw [isOn_no C tp, if_pos rfl, if_pos rfl]
