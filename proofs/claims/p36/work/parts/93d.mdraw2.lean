/-! a turn ended by drawing: the reference, whole -/
theorem frM_r (m : Mem) (p dn : Nat) (h : m 76 p = 0 ∨ m 76 p = 1) : up2 m 77 p (m 77 p + (if m 76 p = 0 then 0 else nI dn)) = frM m p dn := by
  unfold frM
  rcases h with e | e
  · rw [e, if_pos rfl, if_neg (by decide), ad0]
    funext a b
    rw [up2_at]
    by_cases c : a = 77 ∧ b = p
    · rw [if_pos c, c.1, c.2]
    · rw [if_neg c]
  · rw [e, if_neg (by decide), if_pos rfl]
theorem drB_D {p : Nat} {B B' : Bd} (h : drB p B = some B') : bD B' = bD B ∧ bT B' = bT B ∧ bJ B' = bJ B ∧ bF B' = bF B := by
  unfold drB at h
  split at h
  · cases h
  · cases h; exact ⟨rfl, rfl, rfl, rfl⟩
theorem drUp_D {p : Nat} : ∀ (m : Nat) (B : Bd), bD (drUp p m B).2 = bD B ∧ bT (drUp p m B).2 = bT B ∧ bJ (drUp p m B).2 = bJ B ∧ bF (drUp p m B).2 = bF B := by
  intro m
  induction m with
  | zero => exact fun B => ⟨rfl, rfl, rfl, rfl⟩
  | succ m ih =>
    intro B
    unfold drUp
    cases h : drB p B with
    | none => exact ⟨rfl, rfl, rfl, rfl⟩
    | some B' =>
      obtain ⟨a1, a2, a3, a4⟩ := drB_D h
      obtain ⟨b1, b2, b3, b4⟩ := ih B'
      exact ⟨b1.trans a1, b2.trans a2, b3.trans a3, b4.trans a4⟩
