/-! the reference: codes and options -/
def shT (i : Nat) : Nat := [0, 0, 0, 0, 0, 1, 1, 1, 1, 2, 2, 2, 3, 3, 4, 0].getD i 0
def loT (i : Nat) : Nat := [0, 1, 2, 3, 4, 1, 2, 3, 4, 2, 3, 4, 3, 4, 4, 0].getD i 0
def prM (s g : Nat) : Nat := 4 + g + [0, 0, 3, 5, 6].getD s 0
theorem pr_fact {s g : Nat} (h1 : 1 ≤ s) (h2 : s ≤ g) (h3 : g ≤ 4) : 5 ≤ prM s g ∧ prM s g < 15 ∧ shT (prM s g) = s ∧ loT (prM s g) = g ∧ ∀ j, j < prM s g → 5 ≤ j → ¬ (shT j = s ∧ loT j = g) := by
  have h : ∀ g ∈ List.range 5, ∀ s ∈ List.range 5, 1 ≤ s → s ≤ g → 5 ≤ prM s g ∧ prM s g < 15 ∧ shT (prM s g) = s ∧ loT (prM s g) = g ∧ ∀ j ∈ List.range (prM s g), 5 ≤ j → ¬ (shT j = s ∧ loT j = g) := by decide +kernel
  have := h g (List.mem_range.mpr (by omega)) s (List.mem_range.mpr (by omega)) h1 h2
  exact ⟨this.1, this.2.1, this.2.2.1, this.2.2.2.1, fun j hj => this.2.2.2.2 j (List.mem_range.mpr hj)⟩
theorem tT_le (i : Nat) : shT i ≤ 4 ∧ loT i ≤ 4 := by
  by_cases h : i < 16
  · have q : ∀ i ∈ List.range 16, shT i ≤ 4 ∧ loT i ≤ 4 := by decide
    exact q i (List.mem_range.mpr h)
  · have e1 : shT i = 0 := by
      unfold shT
      rw [List.getD_eq_getElem?_getD, List.getElem?_eq_none (by simp; omega)]; rfl
    have e2 : loT i = 0 := by
      unfold loT
      rw [List.getD_eq_getElem?_getD, List.getElem?_eq_none (by simp; omega)]; rfl
    omega
/-- the code of two open runs -/
def codeM (L a b : Nat) (u : Bool) : Nat := if min a b = 0 then max a b else if min a b = L ∧ u = true then 15 else prM (min a b) (max a b)
/-- the constant rows of the reference -/
def ShM (σ : rS) (L : Nat) : Prop := rI σ 67 2 = nI L ∧ (L = 3 ∨ L = 4) ∧ ∀ i, i < 16 → rI σ 89 i = nI (shT i) ∧ rI σ 90 i = nI (loT i)
/-- the options that are laid out -/
def OpM (σ : rS) (os : List (Nat × Nat)) : Prop := rI σ 67 65 = nI os.length ∧ ∀ i o, os[i]? = some o → rI σ 110 i = nI o.1 ∧ rI σ 111 i = nI o.2
def FrQ (σ τ : rS) : Prop := rK τ = rK σ ∧ rR τ = rR σ ∧ rN τ = rN σ ∧ rL τ = rL σ ∧ ∀ x j, x ≠ 110 → x ≠ 111 → (x = 67 → j ≠ 65) → rI τ x j = rI σ x j
theorem FrQ.rf (σ : rS) : FrQ σ σ := ⟨rfl, rfl, rfl, rfl, fun _ _ _ _ _ => rfl⟩
theorem FrQ.tr {σ τ υ : rS} (h : FrQ σ τ) (g : FrQ τ υ) : FrQ σ υ := ⟨g.1.trans h.1, g.2.1.trans h.2.1, g.2.2.1.trans h.2.2.1, g.2.2.2.1.trans h.2.2.2.1, fun x j a b c => (g.2.2.2.2 x j a b c).trans (h.2.2.2.2 x j a b c)⟩
theorem ShM.fr {σ τ : rS} {L : Nat} (H : ShM σ L) (f : FrQ σ τ) : ShM τ L := by
  have g := f.2.2.2.2
  exact ⟨(g 67 2 (by decide) (by decide) (fun _ => by decide)).trans H.1, H.2.1, fun i hi => ⟨(g 89 i (by decide) (by decide) (fun q => absurd q (by decide))).trans (H.2.2 i hi).1, (g 90 i (by decide) (by decide) (fun q => absurd q (by decide))).trans (H.2.2 i hi).2⟩⟩
