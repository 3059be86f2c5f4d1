/-! the reference: drawing, and what a turn does -/
theorem mnx_eq {X : Nat} (h : X < 65536) : iRem ((25173 * nI X) + 13849) 65536 = nI (nxX X) := by
  rw [show (25173 : Int32) = nI 25173 from rfl, show (13849 : Int32) = nI 13849 from rfl, nI_mul, nI_add, show (65536 : Int32) = nI 65536 from rfl, nI_rem (by omega) (by omega)]
  rfl
/-- what a board keeps within a turn -/
def OkT (B : Bd) : Prop := OkB B ∧ (∀ k, k < 52 → bT B k + bJ B k ≤ 2) ∧ bF B ≤ 64
