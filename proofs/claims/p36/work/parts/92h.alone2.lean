/-! alone: the reference, and as a call -/
theorem tN_un {B : Bd} {kk : Nat} (hk : kk < 52) (mm c : Nat) (hm : mm < 13) : tN (fun k => tjB B k + (if k = kk then 1 else 0)) xZ mm c = tN (tjB B) (unX kk) mm c := by
  unfold tN xZ unX
  rw [Nat.add_zero]
  have e : (13 * c + mm = kk) = (mm = kk % 13 ∧ c = kk / 13) := propext (by omega)
  simp only [e]
noncomputable def aloB (B : Bd) (hh L kk : Nat) : Bool := @decide (aloP B hh L kk) (Classical.propDecidable _)
theorem aloB_iff {B : Bd} {hh L kk : Nat} : aloB B hh L kk = true ↔ aloP B hh L kk := by
  unfold aloB
  exact @decide_eq_true_iff _ (Classical.propDecidable _)
theorem b2i_01 (b : Bool) : b2i b = 0 ∨ b2i b = 1 := by
  cases b
  · exact Or.inl rfl
  · exact Or.inr rfl
