/-! the reference reads one move -/
abbrev WRm (x j : Nat) : Prop := (x = 67 ∧ j = 37) ∨ x = 87 ∨ x = 88
def mmU (m : Mem) (τ : rS) : Mem := fun x k => if x = 87 ∨ x = 88 ∨ (x = 67 ∧ k = 37) then rI τ x k else m x k
theorem mmU_tw (m : Mem) (σ τ : rS) : mmU (mmU m σ) τ = mmU m τ := by
  funext x k
  unfold mmU
  by_cases h1 : x = 87 ∨ x = 88 ∨ (x = 67 ∧ k = 37)
  · rw [if_pos h1, if_pos h1]
  · rw [if_neg h1, if_neg h1, if_neg h1]
theorem mmU_at (m : Mem) (τ : rS) {x k : Nat} (h : ¬ (x = 87 ∨ x = 88 ∨ (x = 67 ∧ k = 37))) : mmU m τ x k = m x k := by
  unfold mmU
  rw [if_neg h]
def leS (c : Nat) : Int32 := if c = 1 then 108 else if c = 2 then 106 else if c = 3 then 115 else if c = 4 then 116 else if c = 5 then 101 else 119
def RdR (σ : rS) (ms : List (Nat × Nat)) : Prop := rI σ 67 37 = nI ms.length ∧ ∀ i d, ms[i]? = some d → rI σ 87 i = leS d.1 ∧ (d.1 ≤ 3 → rI σ 88 i = nI d.2)
theorem leS_so {c : Int32} (h : c = 108 ∨ c = 106 ∨ c = 115) : leS (soC c) = c := by
  rcases h with rfl | rfl | rfl <;> rfl
