/-! the reference: goesOn -/
def sgM (L k : Nat) (ru : Nat → Nat) (c : Nat) : List (Nat × Nat) := optsM L (k / 16 ^ c % 16) (ru c)
def ccM (L k : Nat) (ru : Nat → Nat) (c : Nat) : List (Nat × Nat) := (List.range c).flatMap (sgM L k ru)
theorem ccM_s (L k : Nat) (ru : Nat → Nat) (c : Nat) : ccM L k ru (c + 1) = ccM L k ru c ++ sgM L k ru c := by
  unfold ccM
  rw [List.range_succ, List.flatMap_append, List.flatMap_cons, List.flatMap_nil, List.append_nil]
theorem ccM_len (L k : Nat) (ru : Nat → Nat) (c : Nat) : (ccM L k ru c).length ≤ 4 * c := by
  have h := fl_len (f := sgM L k ru) (N := 4) (fun c => optsM_len _ _ _) (List.range c)
  rw [List.length_range] at h
  exact h
/-- what goesOn leaves alone -/
def FrN (σ τ : rS) : Prop := rK τ = rK σ ∧ rR τ = rR σ ∧ rN τ = rN σ ∧ (∀ x j, x ≠ 103 → x ≠ 104 → x ≠ 110 → x ≠ 111 → x ≠ 112 → x ≠ 113 → (x = 67 → j ≠ 56 ∧ j ≠ 65) → rI τ x j = rI σ x j) ∧ ∀ x j, x ≠ 100 → x ≠ 101 → x ≠ 102 → rL τ x j = rL σ x j
theorem FrN.rf (σ : rS) : FrN σ σ := ⟨rfl, rfl, rfl, fun _ _ _ _ _ _ _ _ _ => rfl, fun _ _ _ _ _ => rfl⟩
theorem FrN.tr {σ τ υ : rS} (h : FrN σ τ) (g : FrN τ υ) : FrN σ υ := ⟨g.1.trans h.1, g.2.1.trans h.2.1, g.2.2.1.trans h.2.2.1, fun x j a b c d e f i => (g.2.2.2.1 x j a b c d e f i).trans (h.2.2.2.1 x j a b c d e f i), fun x j a b c => (g.2.2.2.2 x j a b c).trans (h.2.2.2.2 x j a b c)⟩
theorem FrN_C {c : Nat} {σ τ : rS} (f : FrC c σ τ) : FrN σ τ := ⟨f.1, f.2.1, f.2.2.1, fun x j _ _ a b d e i => f.2.2.2.2 x j a b (fun q => (i q).2) (fun q => absurd q d) (fun q => absurd q e), fun x j _ _ _ => by rw [f.2.2.2.1]⟩
theorem FrN_M {σ τ : rS} (f : FrM σ τ) : FrN σ τ := ⟨f.1, f.2.1, f.2.2.1, fun x j a b _ _ _ _ i => f.2.2.2.1 x j a b (fun q => (i q).1), f.2.2.2.2⟩
theorem ShM_C {c L : Nat} {σ τ : rS} (f : FrC c σ τ) (H : ShM σ L) : ShM τ L := by
  have q : ∀ x j, x ≠ 110 → x ≠ 111 → (x = 67 → j ≠ 65) → x ≠ 112 → x ≠ 113 → rI τ x j = rI σ x j := fun x j a b d e g => f.2.2.2.2 x j a b d (fun z => absurd z e) (fun z => absurd z g)
  exact ⟨(q 67 2 (by decide) (by decide) (fun _ => by decide) (by decide) (by decide)).trans H.1, H.2.1, fun i hi => ⟨(q 89 i (by decide) (by decide) (fun z => absurd z (by decide)) (by decide) (by decide)).trans (H.2.2 i hi).1, (q 90 i (by decide) (by decide) (fun z => absurd z (by decide)) (by decide) (by decide)).trans (H.2.2 i hi).2⟩⟩
