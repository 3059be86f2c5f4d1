/-! a round's end: the class's loop over the losers -/
def loS (R : Nat → Nat) (w : Nat) : Nat → Int32
  | 0 => 0
  | i + 1 => if i = w then loS R w i else loS R w i + nI (woB R i)
def loM (m : Mem) (R : Nat → Nat) (w i : Nat) : Mem := fun x j => if x = 70 ∧ j < i ∧ j ≠ w then m 70 j - nI (woB R j) else m x j
theorem loM_0 (m : Mem) (R : Nat → Nat) (w : Nat) : loM m R w 0 = m := by
  funext x j
  unfold loM
  rw [if_neg (by omega)]
theorem loM_w (m : Mem) (R : Nat → Nat) (w : Nat) : loM m R w (w + 1) = loM m R w w := by
  funext x j
  unfold loM
  by_cases h : x = 70 ∧ j < w ∧ j ≠ w
  · rw [if_pos h, if_pos ⟨h.1, by omega, h.2.2⟩]
  · rw [if_neg h, if_neg (by omega)]
theorem loM_s (m : Mem) (R : Nat → Nat) {w i : Nat} (h : i ≠ w) : up2 (loM m R w i) 70 i (m 70 i - nI (woB R i)) = loM m R w (i + 1) := by
  funext x j
  rw [up2_at]
  unfold loM
  by_cases e : x = 70 ∧ j = i
  · rw [if_pos e, if_pos (by omega), e.2]
  · rw [if_neg e]
    by_cases c : x = 70 ∧ j < i ∧ j ≠ w
    · rw [if_pos c, if_pos (by omega)]
    · rw [if_neg c, if_neg (by omega)]
theorem cRound_loop {σ : rS} {B : Bd} {E : List Ent} {dl : Option (Nat × Nat × Nat)} {m : Mem} {l : Nat → Int64} {ch n w : Nat} (C : CI σ B E dl m l ch) (hn : m 67 6 = nI n) (hn4 : n ≤ 4) (hw : w < n) : ∃ τ, oLoop (b_X10_endRound_4 (nI w)) oFuel (0, 0, σ) = some (.inr (loS (bR B) w n, τ)) ∧ CI τ B E dl (loM m (bR B) w n) l ch ∧ FrX (fun x _ => x = 22) σ τ := by
  obtain ⟨x, b1, b2⟩ := oL_ix (body := b_X10_endRound_4 (nI w)) (fun i s => s.1 = loS (bR B) w i ∧ s.2.1 = nI i ∧ CI s.2.2 B E dl (loM m (bR B) w i) l ch ∧ FrX (fun x _ => x = 22) σ s.2.2) (N := n) (fun x => ∃ τ, x = .inr (loS (bR B) w n, τ) ∧ CI τ B E dl (loM m (bR B) w n) l ch ∧ FrX (fun x _ => x = 22) σ τ) (by
      intro i s hi ⟨e1, e2, A, Fr⟩
      obtain ⟨s1, s2, σ'⟩ := s
      dsimp only at e1 e2 A Fr
      subst e1 e2
      have q19 : rI σ' 19 0 = nI n := by
        rw [CI_4 A (x := 19) (j := 0) (by omega)]
        show loM m (bR B) w i 67 6 = nI n
        unfold loM
        rw [if_neg (by omega), hn]
      have cw : (nI i = nI w) = (i = w) := propext (nI_eq (by omega) (by omega))
      by_cases e : i = w
      · refine ⟨(loS (bR B) w (i + 1), nI (i + 1), σ'), ?_, rfl, rfl, ?_, Fr⟩
        · unfold b_X10_endRound_4
          dsimp only
          rw [q19, if_neg (show ¬ nI n ≤ nI i from fun z => by have := (nI_leI (by omega) (by omega)).mp z; omega)]
          simp only [cw]
          rw [if_pos e, nI_1, loS, if_pos e]
        · show CI σ' B E dl (loM m (bR B) w (i + 1)) l ch
          subst e
          rw [loM_w]
          exact A
      · have q22 : rI σ' 22 i = m 70 i := by
          rw [CI_4 A (x := 22) (j := i) (by omega)]
          show loM m (bR B) w i 70 i = _
          unfold loM
          rw [if_neg (by omega)]
        have A1 := CI_w A (a := 22) (k := i) (by omega) (m 70 i - nI (woB (bR B) i))
        have A1 : CI (wI σ' 22 i (m 70 i - nI (woB (bR B) i))) B E dl (up2 (loM m (bR B) w i) 70 i (m 70 i - nI (woB (bR B) i))) l ch := A1
        rw [loM_s m (bR B) e] at A1
        refine ⟨(loS (bR B) w (i + 1), nI (i + 1), wI σ' 22 i (m 70 i - nI (woB (bR B) i))), ?_, rfl, rfl, A1, Fr.tr (FrX.w _ _ rfl)⟩
        unfold b_X10_endRound_4
        dsimp only
        rw [q19, if_neg (show ¬ nI n ≤ nI i from fun z => by have := (nI_leI (by omega) (by omega)).mp z; omega)]
        simp only [cw]
        rw [if_neg e, worthOf_eq A.1 (by omega), Option.bind_some, vAt_nI (by decide) (by omega), q22, vSet_nI (by decide) (by omega), row_w, oLet_eq, nI_1, loS, if_neg e])
    (by
      intro s ⟨e1, e2, A, Fr⟩
      obtain ⟨s1, s2, σ'⟩ := s
      dsimp only at e1 e2 A Fr
      subst e1 e2
      have q19 : rI σ' 19 0 = nI n := by
        rw [CI_4 A (x := 19) (j := 0) (by omega)]
        show loM m (bR B) w n 67 6 = nI n
        unfold loM
        rw [if_neg (by omega), hn]
      exact ⟨.inr (loS (bR B) w n, σ'), by unfold b_X10_endRound_4; dsimp only; rw [q19, if_pos (show nI n ≤ nI n from (nI_leI (by omega) (by omega)).mpr (Nat.le_refl _))], σ', rfl, A, Fr⟩)
    (n := oFuel) (by rw [oFuel_eq]; omega) (s := (0, 0, σ)) ⟨rfl, rfl, by rw [loM_0]; exact C, FrX.rf _ σ⟩
  obtain ⟨τ, rfl, A, Fr⟩ := b2
  exact ⟨τ, b1, A, Fr⟩
