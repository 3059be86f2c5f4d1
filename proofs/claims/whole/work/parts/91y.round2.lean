/-! a round's end: the reference's loop -/
def roM (m : Mem) (R : Nat → Nat) (w i : Nat) : Mem := up2 (loM m R w i) 70 w (m 70 w + loS R w i)
theorem roM_0 (m : Mem) (R : Nat → Nat) (w : Nat) : roM m R w 0 = m := by
  unfold roM
  rw [loM_0]
  funext x j
  rw [up2_at]
  by_cases h : x = 70 ∧ j = w
  · rw [if_pos h, h.1, h.2]; exact ad0 _
  · rw [if_neg h]
theorem roM_w (m : Mem) (R : Nat → Nat) (w : Nat) : roM m R w (w + 1) = roM m R w w := by
  unfold roM
  rw [loM_w, loS, if_pos rfl]
theorem roM_s (m : Mem) (R : Nat → Nat) {w i : Nat} (h : i ≠ w) : up2 (up2 (roM m R w i) 70 i (m 70 i - nI (woB R i))) 70 w (m 70 w + loS R w i + nI (woB R i)) = roM m R w (i + 1) := by
  unfold roM
  rw [← loM_s m R h, loS, if_neg h, ← Int32.add_assoc]
  funext x j
  rw [up2_at, up2_at, up2_at, up2_at, up2_at]
  by_cases e : x = 70 ∧ j = w
  · rw [if_pos e, if_pos e]
  · rw [if_neg e, if_neg e, if_neg e]
theorem mRound_loop {σ : rS} {B : Bd} {E : List Ent} {m : Mem} {l : Nat → Int64} {n w : Nat} (M : MI σ B E m l) (hn : m 67 6 = nI n) (hn4 : n ≤ 4) (hw : w < n) : ∃ τ, oLoop (b_X11_roundEnds_2 (nI w)) oFuel (0, σ) = some (.inr τ) ∧ MI τ B E (roM m (bR B) w n) l ∧ FrX (fun x _ => x = 70) σ τ := by
  have r6 : ∀ i, roM m (bR B) w i 67 6 = nI n := fun i => by
    unfold roM loM
    rw [up2_at, if_neg (by omega), if_neg (by omega), hn]
  obtain ⟨x, b1, b2⟩ := oL_ix (body := b_X11_roundEnds_2 (nI w)) (fun i s => s.1 = nI i ∧ MI s.2 B E (roM m (bR B) w i) l ∧ FrX (fun x _ => x = 70) σ s.2) (N := n) (fun x => ∃ τ, x = .inr τ ∧ MI τ B E (roM m (bR B) w n) l ∧ FrX (fun x _ => x = 70) σ τ) (by
      intro i s hi ⟨e2, A, Fr⟩
      obtain ⟨s2, σ'⟩ := s
      dsimp only at e2 A Fr
      subst e2
      have q6 : rI σ' 67 6 = nI n := (A.2.2.1 67 6 (by omega)).trans (r6 i)
      have cw : (nI i = nI w) = (i = w) := propext (nI_eq (by omega) (by omega))
      by_cases e : i = w
      · refine ⟨(nI (i + 1), σ'), ?_, rfl, ?_, Fr⟩
        · unfold b_X11_roundEnds_2
          dsimp only
          rw [q6, if_neg (show ¬ nI n ≤ nI i from fun z => by have := (nI_leI (by omega) (by omega)).mp z; omega)]
          simp only [cw]
          rw [if_pos e, nI_1]
        · show MI σ' B E (roM m (bR B) w (i + 1)) l
          subst e
          rw [roM_w]
          exact A
      · have q1 : rI σ' 70 i = m 70 i := by
          rw [A.2.2.1 70 i (by omega)]
          unfold roM loM
          rw [up2_at, if_neg (fun z => e z.2), if_neg (by omega)]
        have A1 := MI_w A (a := 70) (k := i) (by omega) (m 70 i - nI (woB (bR B) i))
        have q2 : rI (wI σ' 70 i (m 70 i - nI (woB (bR B) i))) 70 w = m 70 w + loS (bR B) w i := by
          rw [A1.2.2.1 70 w (by omega), up2_at, if_neg (fun z => e z.2.symm)]
          unfold roM
          rw [up2_at, if_pos ⟨rfl, rfl⟩]
        have A2 := MI_w A1 (a := 70) (k := w) (by omega) (m 70 w + loS (bR B) w i + nI (woB (bR B) i))
        rw [roM_s m (bR B) e] at A2
        refine ⟨(nI (i + 1), wI (wI σ' 70 i (m 70 i - nI (woB (bR B) i))) 70 w (m 70 w + loS (bR B) w i + nI (woB (bR B) i))), ?_, rfl, A2, (Fr.tr (FrX.w (W := fun x _ => x = 70) σ' _ rfl)).tr (FrX.w (W := fun x _ => x = 70) _ _ rfl)⟩
        unfold b_X11_roundEnds_2
        dsimp only
        rw [q6, if_neg (show ¬ nI n ≤ nI i from fun z => by have := (nI_leI (by omega) (by omega)).mp z; omega)]
        simp only [cw]
        rw [if_neg e, if_pos (inB_nI (by decide) (by omega)), mworthOf_eq A.1 (by omega), Option.bind_some, nI_clamp (by omega), q1, oLet_eq, if_pos (inB_nI (by decide) (by omega)), mworthOf_eq A1.1 (by omega), Option.bind_some, nI_clamp (by omega), q2, oLet_eq, nI_1])
    (by
      intro s ⟨e2, A, Fr⟩
      obtain ⟨s2, σ'⟩ := s
      dsimp only at e2 A Fr
      subst e2
      exact ⟨.inr σ', by unfold b_X11_roundEnds_2; dsimp only; rw [(A.2.2.1 67 6 (by omega)).trans (r6 n), if_pos (show nI n ≤ nI n from (nI_leI (by omega) (by omega)).mpr (Nat.le_refl _))], σ', rfl, A, Fr⟩)
    (n := oFuel) (by rw [oFuel_eq]; omega) (s := (0, σ)) ⟨rfl, by rw [roM_0]; exact M, FrX.rf _ σ⟩
  obtain ⟨τ, rfl, A, Fr⟩ := b2
  exact ⟨τ, b1, A, Fr⟩
