/-! the reference: laysOptions -/
def aM (L code : Nat) : Nat := if code = 15 then L else shT code
def bM (L code : Nat) : Nat := if code = 15 then L else loT code
def unM (L code : Nat) : Bool := decide (aM L code ≠ bM L code ∨ code = 15)
def enM (L x : Nat) : Bool := decide (x = 0 ∨ x = L)
def onM (L x : Nat) : Nat := if x < L then x + 1 else L
def wdM (next : Nat) : Nat := if next = 2 then 1 else 0
def o1M (L code next : Nat) : List (Nat × Nat) := if enM L (aM L code) = true ∧ enM L (bM L code) = true then [(if next = 0 then 0 else codeM L (wdM next) 1 false, next)] else []
def o2M (L code next : Nat) : List (Nat × Nat) := if 0 < next ∧ 0 < bM L code ∧ enM L (aM L code) = true then [(codeM L (wdM next) (onM L (bM L code)) (decide (onM L (bM L code) ≠ 1)), next - 1)] else []
def o3M (L code next : Nat) : List (Nat × Nat) := if 0 < next ∧ 0 < aM L code ∧ unM L code = true ∧ enM L (bM L code) = true then [(codeM L (wdM next) (onM L (aM L code)) (decide (onM L (aM L code) ≠ 1)), next - 1)] else []
def o4M (L code next : Nat) : List (Nat × Nat) := if next = 2 ∧ 0 < aM L code then [(codeM L (onM L (aM L code)) (onM L (bM L code)) (unM L code), 0)] else []
/-- in which ways runs of a code go on -/
def optsM (L code next : Nat) : List (Nat × Nat) := o1M L code next ++ o2M L code next ++ o3M L code next ++ o4M L code next
def b2i (x : Bool) : Int32 := if x then 1 else 0
theorem b2i0 (x : Bool) : (b2i x = 0) = (x = false) := by cases x <;> simp [b2i]
theorem oJ_seg {R S : Type} {m : Option (R ⊕ S)} {rest : S → Option R} {Q : Option R → Prop} (P : S → Prop) (h : ∃ s, m = some (.inr s) ∧ P s) (hr : ∀ s, P s → Q (rest s)) : Q (oJoin m rest) := by
  obtain ⟨s, h1, h2⟩ := h
  rw [h1, oJ_inr]
  exact hr s h2
theorem o_len (L code next : Nat) : (o1M L code next).length ≤ 1 ∧ (o2M L code next).length ≤ 1 ∧ (o3M L code next).length ≤ 1 ∧ (o4M L code next).length ≤ 1 := by
  unfold o1M o2M o3M o4M
  refine ⟨?_, ?_, ?_, ?_⟩ <;> split <;> simp
