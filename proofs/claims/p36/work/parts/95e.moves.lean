/-! one move of a notation, on both sides -/
def MvC (c k : Nat) (ok : Bool) (B : Bd) (E : List Ent) (dl : Option (Nat × Nat × Nat)) (m : Mem) (l : Nat → Int64) (B' : Bd) (E' : List Ent) (m' : Mem) (l' : Nat → Int64) (hh L : Nat) : Prop := ∀ σ ch p2, CI σ B E dl m l ch → KcI σ B m hh L ch → ch + 300 < 2 ^ 31 → (c ≤ 3 → p2 = nI k) → ∃ τ c2, f_X10_move σ (nI c) p2 = some (b2i ok, τ) ∧ CI τ B' E' dl m' l' c2 ∧ FrCl σ τ ∧ ch ≤ c2 ∧ c2 ≤ ch + 300 ∧ KcI τ B' m' hh L c2
theorem mvC_no {c k : Nat} {B : Bd} {E : List Ent} {dl : Option (Nat × Nat × Nat)} {m : Mem} {l : Nat → Int64} {hh L : Nat} (h : ∀ σ ch p2, CI σ B E dl m l ch → (c ≤ 3 → p2 = nI k) → f_X10_move σ (nI c) p2 = some (0, σ)) : MvC c k false B E dl m l B E m l hh L := fun σ ch p2 C K _ hp => ⟨σ, ch, h σ ch p2 C hp, C, FrCl.rf σ, Nat.le_refl _, by omega, K⟩
theorem g01 (v : Int32) (b : Bool) (h : v = b2i b) (σ : rS) : (if v = 0 ∨ v = 1 then (some (v, σ)) else none : Option (Int32 × rS)) = some (b2i b, σ) := by
  subst h
  exact if_pos (b2i_01 b)
