/-! a round's end: the reference's loop -/
def roM (m : Mem) (R : Nat → Nat) (w i : Nat) : Mem := up2 (loM m R w i) 70 w (m 70 w + loS R w i)
theorem roM_0 (m : Mem) (R : Nat → Nat) (w : Nat) : roM m R w 0 = m := by
  unfold roM
  rw [loM_0]
  funext x j
  rw [up2_at]
  by_cases h : x = 70 ∧ j = w
  · rw [if_pos h, h.1, h.2]; exact ad0 _
  · rw [if_neg h]
theorem roM_w (m : Mem) (R : Nat → Nat) (w : Nat) : roM m R w (w + 1) = roM m R w w := by
  unfold roM
  rw [loM_w, loS, if_pos rfl]
theorem roM_s (m : Mem) (R : Nat → Nat) {w i : Nat} (h : i ≠ w) : up2 (up2 (roM m R w i) 70 i (m 70 i - nI (woB R i))) 70 w (m 70 w + loS R w i + nI (woB R i)) = roM m R w (i + 1) := by
  unfold roM
  rw [← loM_s m R h, loS, if_neg h, ← Int32.add_assoc]
  funext x j
  rw [up2_at, up2_at, up2_at, up2_at, up2_at]
  by_cases e : x = 70 ∧ j = w
  · rw [if_pos e, if_pos e]
  · rw [if_neg e, if_neg e, if_neg e]
