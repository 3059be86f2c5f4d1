/-! the reference: laid, swapped, undone -/
theorem n_m1 {p : Nat} (hp : p < 4) : ¬ nI p = -1 := by
  match p, hp with
  | 0, _ => decide
  | 1, _ => decide
  | 2, _ => decide
  | 3, _ => decide
theorem i53 (p k : Nat) : 53 * nI p + nI k = nI (53 * p + k) := by rw [show (53 : Int32) = nI 53 from rfl, nI_mul, nI_add]
