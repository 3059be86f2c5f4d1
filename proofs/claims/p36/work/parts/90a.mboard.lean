/-! the reference's board, by the same value -/
def FrX (W : Nat → Nat → Prop) (σ τ : rS) : Prop := rK τ = rK σ ∧ rR τ = rR σ ∧ rN τ = rN σ ∧ rL τ = rL σ ∧ ∀ x j, ¬ W x j → rI τ x j = rI σ x j
theorem FrX.rf (W : Nat → Nat → Prop) (σ : rS) : FrX W σ σ := ⟨rfl, rfl, rfl, rfl, fun _ _ _ => rfl⟩
theorem FrX.tr {W : Nat → Nat → Prop} {σ τ υ : rS} (h : FrX W σ τ) (g : FrX W τ υ) : FrX W σ υ := ⟨g.1.trans h.1, g.2.1.trans h.2.1, g.2.2.1.trans h.2.2.1, g.2.2.2.1.trans h.2.2.2.1, fun x j a => (g.2.2.2.2 x j a).trans (h.2.2.2.2 x j a)⟩
theorem FrX.mono {W V : Nat → Nat → Prop} {σ τ : rS} (h : FrX W σ τ) (g : ∀ x j, W x j → V x j) : FrX V σ τ := ⟨h.1, h.2.1, h.2.2.1, h.2.2.2.1, fun x j a => h.2.2.2.2 x j fun w => a (g x j w)⟩
theorem FrX.w {W : Nat → Nat → Prop} (σ : rS) {a k : Nat} (v : Int32) (h : W a k) : FrX W σ (wI σ a k v) := ⟨rfl, rfl, rfl, rfl, fun x j q => by rw [fld_eq, if_neg (fun e => q (by rw [e.1, e.2]; exact h))]⟩
abbrev WB (x j : Nat) : Prop := (79 ≤ x ∧ x ≤ 84) ∨ (x = 67 ∧ (j = 22 ∨ j = 23 ∨ j = 30))
abbrev WE (x j : Nat) : Prop := x = 85 ∨ (x = 67 ∧ j = 32)
abbrev WBE (x j : Nat) : Prop := (79 ≤ x ∧ x ≤ 85) ∨ (x = 67 ∧ (j = 22 ∨ j = 23 ∨ j = 30 ∨ j = 32))
abbrev thS (h : Nat) : Nat := if h = 0 then 1 else if h = 1 then 2 else if h = 2 then 4 else 3
/-- the record -/
abbrev Ent : Type := Nat × Nat × Nat × Nat
