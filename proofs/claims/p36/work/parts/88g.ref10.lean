/-! the reference: one number more -/
def dgM (w c : Nat) : Nat := w / 3 ^ c % 3
def w1M (bw : Bool) (n : Nat) : Nat := if bw then 100 * (n + 1) + 1 else 10000 + n + 1
def w2M (k : Nat) : Nat := if k < 26 then pwM k else 0
def w3M (k : Nat) : Nat := if k < 26 then 0 else pwM k
/-- what so many tiles more of a kind add to a value -/
def adM (pl bw : Bool) (n : Nat) (w : Nat) (v : V3) (c : Nat) : V3 := if pl then (v.1 + lN (dgM w c * w1M bw n), v.2.1 + lN (dgM w c * w2M (13 * c + n)), v.2.2 + lN (dgM w c * w3M (13 * c + n))) else v
def vwM (pl bw : Bool) (n w : Nat) (v : V3) (m : Nat) : V3 := (List.range m).foldl (adM pl bw n w) v
def caM (n : Nat) (ex : Nat → Nat) (w m : Nat) : Bool := (List.range m).all fun c => decide (dgM w c ≤ ex (13 * c + n))
theorem caM_s (n : Nat) (ex : Nat → Nat) (w m : Nat) : caM n ex w (m + 1) = (caM n ex w m && decide (dgM w m ≤ ex (13 * m + n))) := by
  unfold caM
  rw [List.range_succ, List.all_append]
  simp
theorem caM_at {n : Nat} {ex : Nat → Nat} {w m c : Nat} (h : caM n ex w m = true) (hc : c < m) : dgM w c ≤ ex (13 * c + n) := of_decide_eq_true (List.all_eq_true.mp h c (List.mem_range.mpr hc))
def FrD (σ τ : rS) : Prop := rK τ = rK σ ∧ rR τ = rR σ ∧ rN τ = rN σ ∧ rL τ = rL σ ∧ ∀ x j, x ≠ 108 → rI τ x j = rI σ x j
theorem FrD.rf (σ : rS) : FrD σ σ := ⟨rfl, rfl, rfl, rfl, fun _ _ _ => rfl⟩
theorem FrD.tr {σ τ υ : rS} (h : FrD σ τ) (g : FrD τ υ) : FrD σ υ := ⟨g.1.trans h.1, g.2.1.trans h.2.1, g.2.2.1.trans h.2.2.1, g.2.2.2.1.trans h.2.2.2.1, fun x j a => (g.2.2.2.2 x j a).trans (h.2.2.2.2 x j a)⟩
theorem lN_0 : lN 0 = 0 := rfl
theorem l64_z (x : Int64) : x + 0 = x := Int64.add_zero x
theorem bp (pl : Bool) : ((if pl then (1 : Int32) else 0) = 0) = (pl = false) := by cases pl <;> simp
