/-! rules -/
def zB (X : Nat) : Bd := (fun _ => 0, fun _ => 0, fun _ => 0, fun _ => 0, [], 0, X)
theorem cclear_eq {σ : rS} {B : Bd} {E : List Ent} {dl : Option (Nat × Nat × Nat)} {m : Mem} {l : Nat → Int64} {ch : Nat} (C : CI σ B E dl m l ch) : ∃ τ, f_X1_clear σ 5 = some ((), τ) ∧ CI τ (zB (bX B)) E dl m l (ch + 1) ∧ FrX WL σ τ := by
  obtain ⟨τ, a1, a2, a3⟩ := clear_eq C.1
  exact ⟨τ, a1, CI_B C (BQ_cg a2 (fun _ _ => rfl) (fun _ _ => rfl) (fun _ _ => by show 0 = natSum (fun _ => 0) 53; decide) (fun _ _ => rfl) (fun _ _ => rfl) rfl (by show 0 = natSum (fun _ => 0) 53; decide) (by show 0 = natSum (fun _ => 0) 52 + natSum (fun _ => 0) 52; decide) (by show 0 = natSum (fun _ => 0) 52; decide) rfl rfl rfl) a3, FrX_B a3⟩
theorem CI_c0 {σ : rS} {B : Bd} {E : List Ent} {dl : Option (Nat × Nat × Nat)} {m : Mem} {l : Nat → Int64} {ch : Nat} (C : CI σ B E dl m l ch) : CI (wI (wI σ 35 1 0) 35 2 0) B [] none m l ch := by
  obtain ⟨h1, h2, h3, h4, h5, h6, B2, c2, h7⟩ := C
  have q : ∀ x j, x ≠ 35 → rI (wI (wI σ 35 1 0) 35 2 0) x j = rI σ x j := fun x j a => by rw [fld_eq, if_neg (by omega), fld_eq, if_neg (by omega)]
  refine ⟨BQ_fr h1 fun x j a b => q x j (by omega), ⟨by rw [fld_eq, if_neg (by omega), fld_eq, if_pos ⟨rfl, rfl⟩]; rfl, fun i e hi => by simp at hi⟩, by show rI _ 35 2 = 0; rw [fld_eq, if_pos ⟨rfl, rfl⟩], fun x j d => (q x j (by omega)).trans (h4 x j d), h5, ClI_fr h6 ⟨rfl, rfl, rfl, fun x j a => q x j (by omega), fun _ _ _ => rfl⟩, B2, c2, BQ_fr h7 fun x j a b => q x j (by omega)⟩
