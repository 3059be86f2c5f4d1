/-! the reference: goesOn whole -/
/-- the states that a state comes to, with the sets that begin -/
def emM (L k : Nat) (ru : Nat → Nat) (g : Nat) : List (Nat × Nat) := e0M g (sgM L k ru 0) (sgM L k ru 1) (sgM L k ru 2) (sgM L k ru 3)
theorem emM_nil {L k : Nat} {ru : Nat → Nat} {g c : Nat} (hc : c < 4) (h : sgM L k ru c = []) : emM L k ru g = [] := by
  have hcs : c = 0 ∨ c = 1 ∨ c = 2 ∨ c = 3 := by omega
  unfold emM e0M
  rcases hcs with rfl | rfl | rfl | rfl
  · rw [h]; rfl
  · refine fm_nil (fun o => ?_) _
    unfold e1M
    rw [h]; rfl
  · refine fm_nil (fun o => ?_) _
    unfold e1M
    refine fm_nil (fun o => ?_) _
    unfold e2M
    rw [h]; rfl
  · refine fm_nil (fun o => ?_) _
    unfold e1M
    refine fm_nil (fun o => ?_) _
    unfold e2M
    refine fm_nil (fun o => ?_) _
    unfold e3M
    rw [h]; rfl
theorem cc_get {L k : Nat} {ru : Nat → Nat} {c i : Nat} (hc : c < 4) {o : Nat × Nat} (h : (sgM L k ru c)[i]? = some o) : (ccM L k ru 4)[(ccM L k ru c).length + i]? = some o := by
  have hil : i < (sgM L k ru c).length := (List.getElem?_eq_some_iff.mp h).1
  have key : ∀ d, (ccM L k ru (c + 1 + d))[(ccM L k ru c).length + i]? = some o := by
    intro d
    induction d with
    | zero =>
      rw [Nat.add_zero, ccM_s, List.getElem?_append_right (by omega), Nat.add_sub_cancel_left]
      exact h
    | succ d ih =>
      rw [show c + 1 + (d + 1) = c + 1 + d + 1 by omega, ccM_s, List.getElem?_append_left (List.getElem?_eq_some_iff.mp ih).1]
      exact ih
  have := key (3 - c)
  rw [show c + 1 + (3 - c) = 4 by omega] at this
  exact this
