/-! isWhole of the reference, and as a call -/
abbrev W91 (x j : Nat) : Prop := x = 91 ∨ (x = 92 ∧ j = j)
theorem MI_91 {σ τ : rS} {B : Bd} {E : List Ent} {m : Mem} {l : Nat → Int64} (H : MI σ B E m l) (f : FrX W91 σ τ) : MI τ B E m l := by
  obtain ⟨b, g, p, pl, ⟨u1, u2, u3⟩, s, z⟩ := H
  have q := f.2.2.2.2
  exact ⟨MbQ_fr b f (fun x j w => by omega), MeR_fr g f (fun x j w => by omega), fun x j a => (q x j (by omega)).trans (p x j a), fun j hj => by rw [f.2.2.2.1]; exact pl j hj, ⟨(q _ _ (by omega)).trans u1, fun p hp c hc => (q _ _ (by omega)).trans (u2 p hp c hc), fun p hp => (q _ _ (by omega)).trans (u3 p hp)⟩, fun i hi => ⟨(q _ _ (by omega)).trans (s i hi).1, (q _ _ (by omega)).trans (s i hi).2⟩, fun k hk => (q _ _ (by omega)).trans (z.1 k hk), fun k hk => (q _ _ (by omega)).trans (z.2 k hk)⟩
theorem MI_Rf {σ : rS} {B : Bd} {E : List Ent} {m : Mem} {l : Nat → Int64} {hh L jk ml pn n : Nat} (M : MI σ B E m l) (r : RuM m hh L jk ml pn n) : RfI σ L := ⟨M.2.2.2.2.1, ⟨(M.2.2.1 67 2 (by omega)).trans r.1.2.1, r.2.2.2.1, M.2.2.2.2.2.1⟩, M.2.2.2.2.2.2.1⟩
theorem MI_J {σ τ : rS} {B : Bd} {E : List Ent} {m : Mem} {l : Nat → Int64} {L : Nat} (H : MI σ B E m l) (I : RfI τ L) (f : FrJ σ τ) : MI τ B E m l := by
  obtain ⟨⟨h1, h2, h3, h4, ⟨h5, h5'⟩, h6, h7⟩, ⟨g1, g2⟩, p, pl, -, s, -, z8⟩ := H
  have q : ∀ x j, x < 99 → (x = 67 → j < 50) → rI τ x j = rI σ x j := fun x j a b => f.2.2.2.1 x j (by omega) (by omega)
  exact ⟨⟨fun k hk => (q _ _ (by omega) (by omega)).trans (h1 k hk), fun k hk => (q _ _ (by omega) (by omega)).trans (h2 k hk), fun k hk => (q _ _ (by omega) (by omega)).trans (h3 k hk), fun k hk => (q _ _ (by omega) (by omega)).trans (h4 k hk), ⟨(q _ _ (by omega) (by omega)).trans h5, fun i e hi => ⟨(q _ _ (by omega) (by omega)).trans (h5' i e hi).1, (q _ _ (by omega) (by omega)).trans (h5' i e hi).2⟩⟩, (q _ _ (by omega) (by omega)).trans h6, (q _ _ (by omega) (by omega)).trans h7⟩, ⟨(q _ _ (by omega) (by omega)).trans g1, fun i e hi => ⟨(q _ _ (by omega) (by omega)).trans (g2 i e hi).1, (q _ _ (by omega) (by omega)).trans (g2 i e hi).2.1, (q _ _ (by omega) (by omega)).trans (g2 i e hi).2.2.1, (q _ _ (by omega) (by omega)).trans (g2 i e hi).2.2.2⟩⟩, fun x j a => (q _ _ (by omega) (by omega)).trans (p x j a), fun j hj => (f.2.2.2.2 _ _ (by omega) (by omega)).trans (pl j hj), I.1, fun i hi => ⟨(q _ _ (by omega) (by omega)).trans (s i hi).1, (q _ _ (by omega) (by omega)).trans (s i hi).2⟩, I.2.2, fun k hk => (q _ _ (by omega) (by omega)).trans (z8 k hk)⟩
theorem laysTable_eq {σ : rS} {B : Bd} {E : List Ent} {m : Mem} {l : Nat → Int64} (M : MI σ B E m l) (o : OkT B) : ∃ τ, f_X11_laysTable σ = some ((), τ) ∧ MI τ B E m l ∧ BeM τ (tjB B) (fun _ => 0) ∧ FrX W91 σ τ := by
  obtain ⟨x, b1, b2⟩ := oL_ix (body := b_X11_laysTable_2) (fun k s => s.1 = nI k ∧ (∀ i, i < k → rI s.2 91 i = nI (tjB B i) ∧ rI s.2 92 i = nI 0) ∧ FrX W91 σ s.2) (N := 52) (fun x => ∃ τ, x = ((), τ) ∧ (∀ i, i < 52 → rI τ 91 i = nI (tjB B i) ∧ rI τ 92 i = nI 0) ∧ FrX W91 σ τ) (by
      intro k s hk ⟨e, A, Fr⟩
      obtain ⟨s1, σ'⟩ := s
      dsimp only at e A Fr
      subst e
      have M' := MI_91 M Fr
      have et : nI (bT B k) + nI (bJ B k) = nI (tjB B k) := by
        rw [nI_add]
        unfold tjB
        rw [if_pos hk]
      refine ⟨(nI (k + 1), wI (wI σ' 91 k (nI (tjB B k))) 92 k (nI 0)), ?_, rfl, fun i hi => ?_, Fr.tr ((FrX.w _ _ (by omega)).tr (FrX.w _ _ (by omega)))⟩
      · unfold b_X11_laysTable_2
        dsimp only
        rw [if_neg (show ¬ (52 : Int32) ≤ nI k from fun z => by have := (nI_leI (a := 52) (by omega) (by omega)).mp z; omega), if_pos (inB_nI (by decide) hk), nI_clamp (by omega), M'.1.2.2.1 k hk, M'.1.2.2.2.1 k hk, et, oLet_eq, oLet_eq, nI_1]
        rfl
      · show rI (wI (wI σ' 91 k (nI (tjB B k))) 92 k (nI 0)) 91 i = _ ∧ rI (wI (wI σ' 91 k (nI (tjB B k))) 92 k (nI 0)) 92 i = _
        by_cases c : i = k
        · subst c
          exact ⟨by rw [fld_eq, if_neg (by omega), fld_eq, if_pos ⟨rfl, rfl⟩], by rw [fld_eq, if_pos ⟨rfl, rfl⟩]⟩
        · have := A i (by omega)
          exact ⟨by rw [fld_eq, if_neg (by omega), fld_eq, if_neg (fun z => c z.2)]; exact this.1, by rw [fld_eq, if_neg (fun z => c z.2), fld_eq, if_neg (by omega)]; exact this.2⟩)
    (by
      intro s ⟨e, A, Fr⟩
      obtain ⟨s1, σ'⟩ := s
      dsimp only at e A Fr
      subst e
      exact ⟨_, by unfold b_X11_laysTable_2; rw [if_pos (show (52 : Int32) ≤ nI 52 by decide)], σ', rfl, A, Fr⟩)
    (n := oFuel) (by rw [oFuel_eq]; decide) (s := (0, σ)) ⟨rfl, fun i hi => absurd hi (Nat.not_lt_zero i), FrX.rf _ σ⟩
  obtain ⟨τ, rfl, A, Fr⟩ := b2
  exact ⟨τ, b1, MI_91 M Fr, ⟨fun k hk => A k hk, fun k => by rw [Nat.add_zero]; exact tjB_le o k⟩, Fr⟩
theorem mCut_eq {σ : rS} {B : Bd} {E : List Ent} {m : Mem} {l : Nat → Int64} {hh L jk ml pn n : Nat} (M : MI σ B E m l) (o : OkT B) (r : RuM m hh L jk ml pn n) : ∃ τ υ, f_X11_laysTable σ = some ((), τ) ∧ f_X11_canBeCut τ = some (b2i (accB L hh (tN (tjB B) xZ)), υ) ∧ BoR υ (rsM false false L hh (tjB B) (fun _ => 0)) ∧ MI υ B E m l ∧ FrRf σ υ ∧ rI υ 67 0 = rI σ 67 0 ∧ (rsM false false L hh (tjB B) (fun _ => 0)).isSome = accB L hh (tN (tjB B) xZ) := by
  obtain ⟨τ, a1, a2, a3, a4⟩ := laysTable_eq M o
  obtain ⟨υ, b1, b2, b3, b4⟩ := canBeCut_eq (MI_Rf a2 r) a3 (MI_h a2 r) r.2.2.1
  have e : (rsM false false L hh (tjB B) (fun _ => 0)).isSome = accB L hh (tN (tjB B) xZ) := by
    have h := rs_whole (bw := false) (bs := tjB B) (ex := fun _ => 0) r.2.2.2.1 (fun _ => by decide) r.2.2.1
    rw [← accB_iff] at h
    cases x : (rsM false false L hh (tjB B) (fun _ => 0)).isSome with
    | true => exact (h.mp x).symm
    | false =>
      cases y : accB L hh (tN (tjB B) xZ) with
      | false => rfl
      | true => rw [h.mpr y] at x; exact absurd x (by decide)
  rw [e] at b1
  exact ⟨τ, υ, a1, b1, b2, MI_J a2 b3 b4, (FrRf_X a4 fun x j w => by omega).tr (FrRf_J b4), by rw [b4.2.2.2.1 67 0 (by omega) (by omega), a4.2.2.2.2 67 0 (by omega)], e⟩
theorem isWhole_s {σ : rS} {B : Bd} {E : List Ent} {dl : Option (Nat × Nat × Nat)} {m : Mem} {l : Nat → Int64} {ch hh L jk ml pn n : Nat} (C : CI σ B E dl m l ch) (M : MI σ B E m l) {Kp : rS → Prop} (hK : ∀ τ, FrK σ τ → Kp τ) (o : OkT B) (r : RuM m hh L jk ml pn n) : DStep Kp f_X10_isWhole f_X11_isWhole σ B E dl m l ch := by
  obtain ⟨σ1, a1, a2, a3, a4⟩ := cWhole_eq C o r
  have M1 := MI_fr M a3
  obtain ⟨τ, υ, b1, b2, -, b4, b5, -⟩ := mCut_eq (MI_t M1 0) o r
  have f2 : FrRf σ1 υ := (FrRf_w (by omega) _).tr b5
  refine ⟨_, σ1, υ, a1, ?_, CI_fr a2 f2, b4, (Fr2_Cl a3).tr (Fr2_Rf f2), hK _ (a4.tr (FrK_R f2))⟩
  unfold f_X11_isWhole
  rw [holds0, oB_some, b1, oB_some, b2, oB_some, if_pos]
  cases accB L hh (tN (tjB B) xZ)
  · exact Or.inl rfl
  · exact Or.inr rfl
