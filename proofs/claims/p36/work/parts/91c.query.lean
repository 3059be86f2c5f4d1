/-! questions that change nothing -/
def RuM (m : Mem) (hh L jk ml pn n : Nat) : Prop := (m 67 1 = nI hh ∧ m 67 2 = nI L ∧ m 67 3 = nI jk ∧ m 67 4 = nI ml ∧ m 67 5 = nI pn ∧ m 67 6 = nI n) ∧ 5 ≤ hh ∧ hh ≤ 13 ∧ (L = 3 ∨ L = 4) ∧ jk ≤ 3 ∧ ml ≤ 99 ∧ 1 ≤ pn ∧ pn ≤ 9 ∧ n ≤ 4
def Fr2 (σ τ : rS) : Prop := rK τ 2 = rK σ 2 ∧ ∀ j, rI τ 2 j = rI σ 2 j
def Fr3 (σ τ υ : rS) : Prop := Fr2 σ τ ∧ Fr2 τ υ
theorem Fr2.rf (σ : rS) : Fr2 σ σ := ⟨rfl, fun _ => rfl⟩
theorem Fr2.tr {σ τ υ : rS} (h : Fr2 σ τ) (g : Fr2 τ υ) : Fr3 σ τ υ := ⟨h, g⟩
theorem Fr2_Cl {σ τ : rS} (f : FrCl σ τ) : Fr2 σ τ := ⟨f.2.2, fun j => f.1 2 j (Or.inl rfl)⟩
theorem Fr2_Rf {σ τ : rS} (f : FrRf σ τ) : Fr2 σ τ := ⟨by rw [f.1], fun j => f.2.2.2.1 2 j (by omega)⟩
/-- what the class remembers of cuts, of extras and of a plan is left alone -/
def FrK (σ τ : rS) : Prop := (∀ j, 12 ≤ j → j ≤ 16 → rI τ 3 j = rI σ 3 j) ∧ rL τ 3 17 = rL σ 3 17 ∧ (∀ j, rI τ 65 j = rI σ 65 j) ∧ ∀ j, rI τ 66 j = rI σ 66 j
theorem FrK.rf (σ : rS) : FrK σ σ := ⟨fun _ _ _ => rfl, rfl, fun _ => rfl, fun _ => rfl⟩
theorem FrK.tr {σ τ υ : rS} (h : FrK σ τ) (g : FrK τ υ) : FrK σ υ := ⟨fun j a b => (g.1 j a b).trans (h.1 j a b), g.2.1.trans h.2.1, fun j => (g.2.2.1 j).trans (h.2.2.1 j), fun j => (g.2.2.2 j).trans (h.2.2.2 j)⟩
theorem FrK_R {σ τ : rS} (f : FrRf σ τ) : FrK σ τ := ⟨fun j _ _ => f.2.2.2.1 _ _ (by omega), f.2.2.2.2 _ _ (by omega), fun j => f.2.2.2.1 _ _ (by omega), fun j => f.2.2.2.1 _ _ (by omega)⟩
theorem FrK_X {W : Nat → Nat → Prop} {σ τ : rS} (f : FrX W σ τ) (h : ∀ x j, W x j → ¬ ((x = 3 ∧ 12 ≤ j) ∨ x = 65 ∨ x = 66)) : FrK σ τ := ⟨fun j a _ => f.2.2.2.2 _ _ fun w => h _ _ w (by omega), by rw [f.2.2.2.1], fun j => f.2.2.2.2 _ _ fun w => h _ _ w (by omega), fun j => f.2.2.2.2 _ _ fun w => h _ _ w (by omega)⟩
theorem CI_4 {σ : rS} {B : Bd} {E : List Ent} {dl : Option (Nat × Nat × Nat)} {m : Mem} {l : Nat → Int64} {ch : Nat} (C : CI σ B E dl m l ch) {x j : Nat} (d : dC x j) : rI σ x j = m (cx x) (cj x j) := C.2.2.2.1 x j d
theorem CI_n {σ : rS} {B : Bd} {E : List Ent} {dl : Option (Nat × Nat × Nat)} {m : Mem} {l : Nat → Int64} {ch hh L jk ml pn n : Nat} (C : CI σ B E dl m l ch) (r : RuM m hh L jk ml pn n) : rI σ 19 0 = nI n := (CI_4 C (x := 19) (j := 0) (by omega)).trans r.1.2.2.2.2.2
theorem CI_h {σ : rS} {B : Bd} {E : List Ent} {dl : Option (Nat × Nat × Nat)} {m : Mem} {l : Nat → Int64} {ch hh L jk ml pn n : Nat} (C : CI σ B E dl m l ch) (r : RuM m hh L jk ml pn n) : rI σ 4 0 = nI hh := (CI_4 C (x := 4) (j := 0) (by omega)).trans r.1.1
theorem lkI : hcs3.lookup "java/lang/IndexOutOfBoundsException" = some (-10002) := rfl
theorem lkA : hcs3.lookup "java/lang/IllegalArgumentException" = some (-10003) := rfl
theorem lkS : hcs3.lookup "java/lang/IllegalStateException" = some (-10004) := rfl
theorem oBc_l {T2 : Type} {v : T2} {τ : rS} {hcs : List (String × Int64)} {g : T2 → rS → Option (Int64 × rS)} : oBc (some (.inl v, τ)) hcs g = g v τ := rfl
theorem oBc_r {T2 : Type} {e : String} {τ : rS} {hcs : List (String × Int64)} {g : T2 → rS → Option (Int64 × rS)} {c : Int64} (h : hcs.lookup e = some c) : oBc (some (.inr e, τ)) hcs g = some (c, τ) := by
  show (hcs.lookup e).map (fun c => (c, τ)) = _
  rw [h]
  rfl
theorem oBx_l {T T2 : Type} {v : T2} {τ : rS} {g : T2 → rS → Option ((T ⊕ String) × rS)} : oBx (some (.inl v, τ)) g = g v τ := rfl
theorem oBx_r {T T2 : Type} {e : String} {τ : rS} {g : T2 → rS → Option ((T ⊕ String) × rS)} : oBx (some (.inr e, τ)) g = some (.inr e, τ) := rfl
