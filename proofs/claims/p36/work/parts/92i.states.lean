/-! states -/
def acI (L k : Nat) (i : Nat) : Nat := natSum (fun j => prj L (nib k j) * 16 ^ j) i
theorem acI_4 (L k : Nat) : acI L k 4 = imgM L k := by
  unfold acI imgM pk4
  simp only [natSum]
  omega
theorem acI_lt {L : Nat} (hL : L = 3 ∨ L = 4) (k : Nat) : ∀ i, acI L k i < 16 ^ i := by
  intro i
  induction i with
  | zero => exact Nat.zero_lt_one
  | succ i ih =>
    have h := prj_lt hL (nib_lt k i)
    have h2 : prj L (nib k i) * 16 ^ i ≤ 15 * 16 ^ i := Nat.mul_le_mul_right _ (by omega)
    show acI L k i + prj L (nib k i) * 16 ^ i < 16 ^ (i + 1)
    rw [Nat.pow_succ]
    omega
theorem acI_or {L : Nat} (hL : L = 3 ∨ L = 4) (k : Nat) {i : Nat} (hi : i < 4) : nI (acI L k i) ||| (nI (prj L (nib k i)) <<< ((4 * nI i) &&& 31)) = nI (acI L k (i + 1)) := by
  rw [sh_at (prj_lt hL (nib_lt k i)) hi]
  have e : prj L (nib k i) * 16 ^ i = 2 ^ (4 * i) * prj L (nib k i) := by rw [Nat.pow_mul, Nat.mul_comm]
  have h : acI L k i < 2 ^ (4 * i) := by rw [Nat.pow_mul]; exact acI_lt hL k i
  rw [e, nI_orp (4 * i) h, ← e, Nat.add_comm]
  rfl
