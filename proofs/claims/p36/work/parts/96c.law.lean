/-! the law's loop -/
def lwD (v w : Int32) (σ2 : rS) (i : Int32) : Option ((Int32 × rS) ⊕ (Int32 × rS)) := if v = w then (some (.inr ((i + 6, σ2)))) else (some (.inl ((0, σ2))))
theorem Fr3.all {σ τ υ : rS} (f : Fr3 σ τ υ) : Fr2 σ υ := ⟨f.2.1.trans f.1.1, fun j => (f.2.2 j).trans (f.1.2 j)⟩
