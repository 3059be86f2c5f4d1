/-! may a turn end: the reference's answer -/
theorem mMayEnd_eq {σ : rS} {B : Bd} {E : List Ent} {m : Mem} {l : Nat → Int64} {hh L jk ml pn n p : Nat} (M : MI σ B E m l) (o : OkT B) (r : RuM m hh L jk ml pn n) (hp : p < 4) (tp : m 67 24 = nI p) {mel : Bool} (hm : m 72 p = if mel then 1 else 0) (hl : (bD B).length ≤ 64) (hd : ∀ d ∈ bD B, d.1 ≤ 3 ∧ d.2 < 52) (h2 : mel = false → ∀ k, lcB (bD B) k ≤ 2) : ∃ τ, f_X11_mayEnd σ = some (b2i (meB B mel ml L hh), τ) ∧ MI τ B E m l ∧ FrRf σ τ ∧ rI τ 67 0 = rI σ 67 0 := by
  have hf := o.2.2
  have c6 : (nI (bD B).length = 0) = ((bD B).length = 0) := propext (nI_eq (b := 0) (by omega) (by omega))
  have c10 : (nI (bF B) ≤ 0) = (bF B = 0) := nI_le0 (by omega)
  unfold f_X11_mayEnd
  rw [(M.2.2.1 67 24 (by omega)).trans tp, if_neg (n_m1 hp), M.1.2.2.2.2.1.1, M.1.2.2.2.2.2.1]
  simp only [c6, c10]
  by_cases g : (bD B).length = 0 ∨ ¬ bF B = 0
  · have e : meB B mel ml L hh = false := by
      unfold meB
      rcases g with g | g
      · rw [List.length_eq_zero_iff.mp g]; rfl
      · rw [decide_eq_false g, Bool.and_false, Bool.false_and, Bool.false_and]
    refine ⟨σ, ?_, M, FrRf.rf σ, rfl⟩
    rw [e, if_pos]
    · rfl
    · rcases g with g | g
      · rw [if_pos g]
      · rw [if_neg g]
        split <;> rfl
  · have g1 : ¬ (bD B).length = 0 := fun z => g (Or.inl z)
    have g2 : bF B = 0 := Classical.byContradiction fun z => g (Or.inr z)
    have e : meB B mel ml L hh = ((mel || (decide (ml ≤ laW (bD B)) && accB L hh (tN (lcB (bD B)) xZ))) && accB L hh (tN (tjB B) xZ)) := by
      unfold meB
      have z : (bD B).isEmpty = false := by
        cases h : bD B with
        | nil => rw [h] at g1; exact absurd rfl g1
        | cons a b => rfl
      rw [z, decide_eq_true g2, Bool.not_false, Bool.true_and, Bool.true_and]
    have wh : ∀ f : Nat → Nat, (rsM false false L hh f (fun _ => 0)).isSome = accB L hh (tN f xZ) := fun f => by
      have h := rs_whole (bw := false) (bs := f) (ex := fun _ => 0) r.2.2.2.1 (fun _ => by decide) r.2.2.1
      rw [← accB_iff] at h
      cases x : (rsM false false L hh f (fun _ => 0)).isSome with
      | true => exact (h.mp x).symm
      | false =>
        cases y : accB L hh (tN f xZ) with
        | false => rfl
        | true => rw [h.mpr y] at x; exact absurd x (by decide)
    rw [e, if_neg (by rw [if_neg g1, if_pos g2]; decide)]
    obtain ⟨σ1, a1, a2, a3, a4⟩ := laysTable_eq M o
    obtain ⟨σ2, b1, -, b3, b4⟩ := canBeCut_eq (MI_Rf a2 r) a3 (MI_h a2 r) r.2.2.1
    have M2 := MI_J a2 b3 b4
    have f2 : FrRf σ σ2 := (FrRf_X a4 fun x j w => by omega).tr (FrRf_J b4)
    have t2 : rI σ2 67 0 = rI σ 67 0 := by rw [b4.2.2.2.1 67 0 (by omega) (by omega), a4.2.2.2.2 67 0 (by omega)]
    have z2 : ∀ k, k < 52 → rI σ2 92 k = nI 0 := fun k hk => by rw [b4.2.2.2.1 92 k (by omega) (by omega)]; exact (a3.1 k hk).2
    rw [wh] at b1
    rw [a1, oB_some, b1, oB_some]
    cases y : accB L hh (tN (tjB B) xZ) with
    | false =>
      refine ⟨σ2, ?_, M2, f2, t2⟩
      rw [if_pos (by rfl), Bool.and_false]
      rfl
    | true =>
      rw [if_neg (by decide), (M2.2.2.1 67 24 (by omega)).trans tp, if_pos (inB_nI (by decide) hp), nI_clamp (by omega), (M2.2.2.1 72 p (by omega)).trans hm, Bool.and_true]
      cases mel with
      | true => exact ⟨σ2, by rw [if_neg (by decide)]; rfl, M2, f2, t2⟩
      | false =>
        obtain ⟨σ3, d1, d2, d3⟩ := zero91_eq z2
        have M3 := MI_91 M2 d3
        obtain ⟨σ4, e1, e2, e3⟩ := laid_eq M3 d2 hl hd
        have M4 := MI_91 M3 e3
        have f4 : FrRf σ σ4 := (f2.tr (FrRf_X d3 fun x j w => by omega)).tr (FrRf_X e3 fun x j w => by omega)
        have t4 : rI σ4 67 0 = rI σ 67 0 := by rw [e3.2.2.2.2 67 0 (by omega), d3.2.2.2.2 67 0 (by omega), t2]
        have lw := laW_le _ (bD B) rfl
        have c3 : (nI (laW (bD B)) < nI ml) = (laW (bD B) < ml) := propext (nI_lt' (by omega) (by have := r.2.2.2.2.2.1; omega))
        rw [if_pos (by rfl), d1, oJ_inr, e1, oJ_inr]
        dsimp only
        rw [(M4.2.2.1 67 4 (by omega)).trans r.1.2.2.2.1]
        simp only [c3]
        by_cases k1 : laW (bD B) < ml
        · refine ⟨σ4, ?_, M4, f4, t4⟩
          rw [if_pos k1, decide_eq_false (show ¬ ml ≤ laW (bD B) by omega)]
          rfl
        · obtain ⟨σ5, g1, -, g3, g4⟩ := canBeCut_eq (bs := lcB (bD B)) (ex := fun _ => 0) (MI_Rf M4 r) ⟨fun k hk => e2 k hk, fun k => by rw [Nat.add_zero]; exact h2 rfl k⟩ (MI_h M4 r) r.2.2.1
          rw [wh] at g1
          refine ⟨σ5, ?_, MI_J M4 g3 g4, f4.tr (FrRf_J g4), by rw [g4.2.2.2.1 67 0 (by omega) (by omega), t4]⟩
          rw [if_neg k1, g1, oB_some, decide_eq_true (show ml ≤ laW (bD B) by omega), Bool.false_or, Bool.true_and]
          cases accB L hh (tN (lcB (bD B)) xZ) <;> rfl
