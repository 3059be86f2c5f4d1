/-! best and plan, as calls -/
def besV (o : Option (Nat → Nat)) (q : Nat) : Int32 := match o with
  | none => -1
  | some g => if nI q = 0 then nI (ctK g) else nI (wtK g)
theorem bes_v {σ : rS} {o : Option (Nat → Nat)} (H : PlG σ o) (q : Nat) : (if rI σ 65 3 = 0 then (-1 : Int32) else if nI q = 0 then rI σ 65 4 else rI σ 65 5) = besV o q := by
  cases o with
  | none =>
    have h : rI σ 65 3 = 0 := H
    rw [if_pos h]
    rfl
  | some g =>
    obtain ⟨h1, h2, h3, -⟩ := H
    rw [h1, if_neg (by decide), h2, h3]
    rfl
