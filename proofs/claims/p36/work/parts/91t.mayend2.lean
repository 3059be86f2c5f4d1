/-! may a turn end: the class -/
noncomputable def meB (B : Bd) (mel : Bool) (ml L hh : Nat) : Bool := !(bD B).isEmpty && decide (bF B = 0) && (mel || (decide (ml ≤ laW (bD B)) && accB L hh (tN (lcB (bD B)) xZ))) && accB L hh (tN (tjB B) xZ)
theorem laW_app (l : List (Nat × Nat)) (d : Nat × Nat) : laW (l ++ [d]) = laW l + laW1 d := by
  unfold laW
  rw [List.foldl_append]
  rfl
theorem laW_le : ∀ (k : Nat) (l : List (Nat × Nat)), l.length = k → laW l ≤ 13 * k := by
  intro k
  induction k with
  | zero =>
    intro l hl
    rw [List.length_eq_zero_iff.mp hl]
    decide
  | succ k ih =>
    intro l hl
    have hne : l ≠ [] := fun e => by rw [e] at hl; exact absurd hl (by simp)
    obtain ⟨l', d, rfl⟩ : ∃ l' d, l = l' ++ [d] := ⟨l.dropLast, l.getLast hne, (List.dropLast_concat_getLast hne).symm⟩
    have hl' : l'.length = k := by rw [List.length_append] at hl; simp at hl; exact hl
    have := ih l' hl'
    rw [laW_app]
    have h1 : laW1 d ≤ 13 := by unfold laW1; split <;> omega
    omega
theorem cMayEnd_eq {σ : rS} {B : Bd} {E : List Ent} {dl : Option (Nat × Nat × Nat)} {m : Mem} {l : Nat → Int64} {ch hh L jk ml pn n p : Nat} (C : CI σ B E dl m l ch) (o : OkT B) (r : RuM m hh L jk ml pn n) (hp : p < 4) (tp : m 67 24 = nI p) {mel : Bool} (hm : m 72 p = if mel then 1 else 0) (hl : (bD B).length ≤ 64) (hd : ∀ d ∈ bD B, d.1 ≤ 3 ∧ d.2 < 52) (h2 : mel = false → ∀ k, lcB (bD B) k ≤ 2) : ∃ τ, f_X10_mayEnd σ = some (b2i (meB B mel ml L hh), τ) ∧ CI τ B E dl m l ch ∧ FrCl σ τ ∧ FrK σ τ := by
  have e6 := C.1.2.2.2.2.2.1.1
  have e10 := C.1.2.2.2.2.2.2.2.2.2.1
  have hf := o.2.2
  have c6 : (nI (bD B).length = 0) = ((bD B).length = 0) := propext (nI_eq (b := 0) (by omega) (by omega))
  have c10 : (nI (bF B) ≤ 0) = (bF B = 0) := nI_le0 (by omega)
  have hM : v_X10_hasMelded σ (nI p) = if mel then 1 else 0 := by
    rw [hasM_eq C hp, hm]
    cases mel <;> rfl
  unfold f_X10_mayEnd
  rw [isOn_yes C hp tp, e6, e10, CI_p C tp, hM]
  simp only [c6, c10]
  by_cases g : (bD B).length = 0 ∨ ¬ bF B = 0
  · have e : meB B mel ml L hh = false := by
      unfold meB
      rcases g with g | g
      · rw [List.length_eq_zero_iff.mp g]; rfl
      · rw [decide_eq_false g, Bool.and_false, Bool.false_and, Bool.false_and]
    refine ⟨σ, ?_, C, FrCl.rf σ, FrK.rf σ⟩
    rw [e, if_pos]
    · rfl
    · rw [if_neg (by decide)]
      rcases g with g | g
      · rw [if_pos g]
      · rw [if_neg g]
        split <;> rfl
  · have g1 : ¬ (bD B).length = 0 := fun z => g (Or.inl z)
    have g2 : bF B = 0 := Classical.byContradiction fun z => g (Or.inr z)
    have e : meB B mel ml L hh = ((mel || (decide (ml ≤ laW (bD B)) && accB L hh (tN (lcB (bD B)) xZ))) && accB L hh (tN (tjB B) xZ)) := by
      unfold meB
      have z : (bD B).isEmpty = false := by
        cases h : bD B with
        | nil => rw [h] at g1; exact absurd rfl g1
        | cons a b => rfl
      rw [z, decide_eq_true g2, Bool.not_false, Bool.true_and, Bool.true_and]
    rw [e, if_neg (by rw [if_neg (by decide), if_neg g1, if_pos g2]; decide)]
    have tab : ∀ σ', CI σ' B E dl m l ch → ∃ τ, (oB (f_X10_takeTable σ') fun _ σ11 => oB (f_X9_go σ11 1 ((rI σ11 4 0) + 1)) fun v12 σ13 => some (((if v12 ≤ 0 then 0 else 1 : Int32), σ13))) = some (b2i (accB L hh (tN (tjB B) xZ)), τ) ∧ CI τ B E dl m l ch ∧ FrCl σ' τ ∧ FrK σ' τ := fun σ' C' => cWhole_eq C' o r
    cases mel with
    | true =>
      obtain ⟨τ, t1, t2, t3, t4⟩ := tab σ C
      refine ⟨τ, ?_, t2, t3, t4⟩
      rw [if_neg (by decide), Bool.true_or, Bool.true_and]
      exact t1
    | false =>
      have lw := laW_le _ (bD B) rfl
      obtain ⟨σ1, a1, a2, a3, a4⟩ := takeLaid_eq C hl hd (h2 rfl)
      rw [if_pos (by rfl), a1, oB_some, laidWorth_eq a2.1 hl hd, Option.bind_some, (CI_4 a2 (x := 4) (j := 3) (by omega)).trans r.1.2.2.2.1]
      have c3 : (nI (laW (bD B)) < nI ml) = (laW (bD B) < ml) := propext (nI_lt' (by omega) (by have := r.2.2.2.2.2.1; omega))
      simp only [c3]
      by_cases k1 : laW (bD B) < ml
      · refine ⟨σ1, ?_, a2, FrCl_48 a4, FrK_48 a4⟩
        rw [if_pos k1, decide_eq_false (show ¬ ml ≤ laW (bD B) by omega)]
        rfl
      · rw [if_neg k1, decide_eq_true (show ml ≤ laW (bD B) by omega), Bool.false_or, Bool.true_and]
        obtain ⟨σ2, b1, b2, b3⟩ := go_whole a2.2.2.2.2.2.1 (CI_Ru a2 r) a3
        have C2 := CI_O a2 b2 b3
        have f2 : FrCl σ σ2 := (FrCl_48 a4).tr (FrCl_O a2.2.2.2.2.2.1 b3)
        have k2 : FrK σ σ2 := (FrK_48 a4).tr (FrK_O b3)
        rw [CI_h a2 r, b1, oB_some]
        cases z : accB L hh (tN (lcB (bD B)) xZ) with
        | false =>
          refine ⟨σ2, ?_, C2, f2, k2⟩
          rw [if_pos (by rfl)]
          rfl
        | true =>
          obtain ⟨τ, t1, t2, t3, t4⟩ := tab σ2 C2
          refine ⟨τ, ?_, t2, f2.tr t3, k2.tr t4⟩
          rw [if_neg (by decide), Bool.true_and]
          exact t1
