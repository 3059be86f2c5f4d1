/-! the plan: the reference -/
abbrev W9 (x j : Nat) : Prop := x = 91 ∨ x = 92 ∨ (x = 109 ∧ j = j)
theorem dg3 {H : Nat} (d : Nat) : H % 3 ^ (d + 1) / 3 ^ d = H / 3 ^ d % 3 ∧ H % 3 ^ (d + 1) % 3 ^ d = H % 3 ^ d := by
  rw [Nat.pow_succ]
  exact ⟨Nat.mod_mul_right_div_self .., Nat.mod_mod_of_dvd _ (Nat.dvd_mul_right _ _)⟩
def hfN (g : Nat → Nat) (k : Nat) : Nat := if k < 26 then HN 3 g 26 else HN 3 (fun i => g (26 + i)) 26
theorem hfN_lt {g : Nat → Nat} (hg : ∀ j, j < 52 → g j ≤ 2) (k : Nat) : hfN g k < 3 ^ 26 := by
  unfold hfN
  split
  · exact HN_lt fun j hj => by have := hg j (by omega); omega
  · exact HN_lt fun j hj => by have := hg (26 + j) (by omega); omega
theorem hfN_dig {g : Nat → Nat} (hg : ∀ j, j < 52 → g j ≤ 2) {k : Nat} (hk : k < 52) : hfN g k / 3 ^ (25 - k % 26) % 3 = g k := by
  unfold hfN
  by_cases c : k < 26
  · rw [if_pos c]
    have h1 := HN_dig (B := 3) (f := g) (m := k) (d := 25 - k) fun j hj => by have := hg j (by omega); omega
    rw [show k + 1 + (25 - k) = 26 by omega] at h1
    rw [show 25 - k % 26 = 25 - k by omega]
    exact h1
  · rw [if_neg c]
    have h1 := HN_dig (B := 3) (f := fun i => g (26 + i)) (m := k - 26) (d := 51 - k) fun j hj => by have := hg (26 + j) (by omega); omega
    rw [show k - 26 + 1 + (51 - k) = 26 by omega, show 26 + (k - 26) = k by omega] at h1
    rw [show 25 - k % 26 = 51 - k by omega]
    exact h1
