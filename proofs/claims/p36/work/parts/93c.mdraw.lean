/-! a turn ended by drawing: the reference -/
theorem drUp_s (p : Nat) : ∀ (m : Nat) (B : Bd), drUp p (m + 1) B = ((drUp p m B).1 + (if (drB p (drUp p m B).2).isNone then 0 else 1), (drB p (drUp p m B).2).getD (drUp p m B).2) := by
  intro m
  induction m with
  | zero =>
    intro B
    show (match drB p B with | none => (0, B) | some B' => ((drUp p 0 B').1 + 1, (drUp p 0 B').2)) = (0 + (if (drB p B).isNone then 0 else 1), (drB p B).getD B)
    cases drB p B <;> rfl
  | succ m ih =>
    intro B
    have e1 : drUp p (m + 1 + 1) B = match drB p B with | none => (0, B) | some B' => ((drUp p (m + 1) B').1 + 1, (drUp p (m + 1) B').2) := rfl
    have e2 : drUp p (m + 1) B = match drB p B with | none => (0, B) | some B' => ((drUp p m B').1 + 1, (drUp p m B').2) := rfl
    rw [e1, e2]
    cases h : drB p B with
    | none =>
      dsimp only
      rw [h]
      rfl
    | some B' =>
      dsimp only
      rw [ih B']
      refine Prod.ext ?_ rfl
      dsimp only
      omega
