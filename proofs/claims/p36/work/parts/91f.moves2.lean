/-! lay, joker, swap and back as calls -/
theorem isOn_no {σ : rS} {B : Bd} {E : List Ent} {dl : Option (Nat × Nat × Nat)} {m : Mem} {l : Nat → Int64} {ch : Nat} (C : CI σ B E dl m l ch) (h : m 67 24 = -1) : v_X10_isOn σ = 0 := by
  unfold v_X10_isOn
  rw [CI_4 C (x := 3) (j := 8) (by omega)]
  rw [show m (cx 3) (cj 3 8) = m 67 24 from rfl, h, if_pos rfl]
theorem isOn_yes {σ : rS} {B : Bd} {E : List Ent} {dl : Option (Nat × Nat × Nat)} {m : Mem} {l : Nat → Int64} {ch p : Nat} (C : CI σ B E dl m l ch) (hp : p < 4) (h : m 67 24 = nI p) : v_X10_isOn σ = 1 := by
  unfold v_X10_isOn
  rw [CI_p C h, if_neg (n_m1 hp)]
theorem nI_le0 {n : Nat} (h : n < 2 ^ 31) : (nI n ≤ 0) = (n = 0) := propext ⟨fun z => by have := (nI_leI (b := 0) (by omega) (by omega)).mp z; omega, fun z => by rw [z]; decide⟩
theorem nI_2le {n : Nat} (h : n < 2 ^ 31) : ((2 : Int32) ≤ nI n) = (2 ≤ n) := propext (nI_leI (a := 2) (by omega) (by omega))
theorem mayLay_eq {σ : rS} {B : Bd} {E : List Ent} {dl : Option (Nat × Nat × Nat)} {m : Mem} {l : Nat → Int64} {ch p k : Nat} (C : CI σ B E dl m l ch) (o : OkT B) (hp : p < 4) (h : m 67 24 = nI p) (hk : k < 52) : v_X10_mayLay σ (nI k) = if 1 ≤ bR B (53 * p + k) ∧ bT B k + bJ B k < 2 then 1 else 0 := by
  have hz := rsz_ge (R := bR B) (p := p) (k := k) (by omega)
  have hr := o.1.2.1 p hp
  have ht := o.2.1 k hk
  unfold v_X10_mayLay
  rw [isOn_yes C hp h, CI_p C h, rackOf_eq C.1 hp (by omega), lies_eq C.1 hk, if_neg (by decide)]
  have e1 : (nI (bR B (53 * p + k)) ≤ 0) = (bR B (53 * p + k) = 0) := nI_le0 (by omega)
  have e2 : ((2 : Int32) ≤ nI (bT B k + bJ B k)) = (2 ≤ bT B k + bJ B k) := nI_2le (by omega)
  simp only [e1, e2]
  by_cases c1 : bR B (53 * p + k) = 0
  · rw [if_pos c1, if_neg (by omega)]
  · rw [if_neg c1]
    by_cases c2 : 2 ≤ bT B k + bJ B k
    · rw [if_pos c2, if_neg (by omega)]
    · rw [if_neg c2, if_pos ⟨by omega, by omega⟩]
theorem apB_0T (p k : Nat) (B : Bd) : bT (apB p B (0, k)) k = bT B k + 1 ∧ bJ (apB p B (0, k)) k = bJ B k := by
  rw [apB_0]
  exact ⟨by show up1 (bT B) k (bT B k + 1) k = _; rw [up1_at, if_pos rfl], rfl⟩
