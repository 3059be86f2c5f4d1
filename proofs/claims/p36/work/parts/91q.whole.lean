/-! the table told to the sweep, and to the reference's search; isWhole -/
abbrev W48 (x j : Nat) : Prop := x = 48 ∨ (x = 49 ∧ j = j)
theorem ClI_48 {σ τ : rS} (I : ClI σ) (F : FrX W48 σ τ) : ClI τ := by
  obtain ⟨hK, hR, hN, qL, q⟩ := F
  have qI : ∀ x j, x ≠ 48 → x ≠ 49 → rI τ x j = rI σ x j := fun x j a b => q x j (by omega)
  obtain ⟨⟨⟨t, a, b, c, n, h, a', b', c', n', f1, f2⟩, hz, W, ⟨w1, w2, w3, w4, w5⟩, wk⟩, T, g, bw, hb⟩ := I
  refine ⟨⟨⟨t, a, b, c, n, h, a', b', c', n', LyF_cg hK hR hN f1, RmS_cg hK hN f2⟩, fun x hx => (qI _ _ (by omega) (by omega)).trans (hz x hx), W, ⟨(qI _ _ (by omega) (by omega)).trans w1, w2, w3, fun i p hi => ⟨(qI _ _ (by omega) (by omega)).trans (w4 i p hi).1, by rw [qL]; exact (w4 i p hi).2.1, by rw [qL]; exact (w4 i p hi).2.2.1, (qI _ _ (by omega) (by omega)).trans (w4 i p hi).2.2.2⟩, fun t ht hm => (qI _ _ (by omega) (by omega)).trans (w5 t ht hm)⟩, wk⟩, fun L hL => ?_, fun k hk => (qI _ _ (by omega) (by omega)).trans (g k hk), bw, (qI _ _ (by omega) (by omega)).trans hb⟩
  obtain ⟨t1, t2, t3, t4⟩ := T L hL
  have hs : (if L = 4 then 43 else 38 : Nat) = 43 ∨ (if L = 4 then 43 else 38 : Nat) = 38 := by split <;> simp
  exact ⟨fun x hx => (qI _ x (by omega) (by omega)).trans (t1 x hx), fun x hx => (qI _ x (by omega) (by omega)).trans (t2 x hx), fun x hx => (qI _ x (by omega) (by omega)).trans (t3 x hx), fun x hx => (qI _ x (by omega) (by omega)).trans (t4 x hx)⟩
theorem CI_48 {σ τ : rS} {B : Bd} {E : List Ent} {dl : Option (Nat × Nat × Nat)} {m : Mem} {l : Nat → Int64} {ch : Nat} (H : CI σ B E dl m l ch) (f : FrX W48 σ τ) : CI τ B E dl m l ch := by
  obtain ⟨h1, h2, h3, h4, h5, h6, B', ch', h7⟩ := H
  have q := f.2.2.2.2
  exact ⟨BQ_fr h1 fun x j a b => q x j (by omega), CeR_fr h2 fun x j a => q x j (by omega), CdR_fr h3 fun x j a => q x j (by omega), fun x j a => (q x j (by omega)).trans (h4 x j a), fun j hj k hk => by rw [f.2.2.2.1]; exact h5 j hj k hk, ClI_48 h6 f, B', ch', BQ_fr h7 fun x j a b => q x j (by omega)⟩
theorem CI_O {σ τ : rS} {B : Bd} {E : List Ent} {dl : Option (Nat × Nat × Nat)} {m : Mem} {l : Nat → Int64} {ch : Nat} (H : CI σ B E dl m l ch) (I : ClI τ) (f : FrO σ τ) : CI τ B E dl m l ch := by
  obtain ⟨h1, h2, h3, h4, h5, -, B', ch', h7⟩ := H
  have q : ∀ x j, x < 37 → rI τ x j = rI σ x j := fun x j a => f.2.2.1 x j (by omega) (by omega) (by omega)
  exact ⟨BQ_fr h1 fun x j a b => q x j (by omega), CeR_fr h2 fun x j a => q x j (by omega), CdR_fr h3 fun x j a => q x j (by omega), fun x j a => (q x j (by omega)).trans (h4 x j a), fun j hj k hk => by rw [f.2.2.2.1 29 j (by omega) (by omega)]; exact h5 j hj k hk, I, B', ch', BQ_fr h7 fun x j a b => q x j (by omega)⟩
theorem ClI_N {σ : rS} (I : ClI σ) : 67 ≤ rN σ := by
  obtain ⟨⟨⟨t, a, b, c, n, h, a', b', c', n', f1, f2⟩, -⟩, -⟩ := I
  exact f1.2.2.2.2.2.2.2.2.2.2.2.2.2.2
theorem FrCl_O {σ τ : rS} (I : ClI σ) (f : FrO σ τ) : FrCl σ τ := ⟨fun x j a => f.2.2.1 x j (by omega) (by omega) (by omega), fun x j a => f.2.2.2.1 x j (by omega) (by omega), f.2.1 2 (by have := ClI_N I; omega)⟩
theorem FrK_O {σ τ : rS} (f : FrO σ τ) : FrK σ τ := ⟨fun j _ _ => f.2.2.1 _ _ (by omega) (by omega) (by omega), f.2.2.2.1 _ _ (by omega) (by omega), fun j => f.2.2.1 _ _ (by omega) (by omega) (by omega), fun j => f.2.2.1 _ _ (by omega) (by omega) (by omega)⟩
theorem FrCl_48 {σ τ : rS} (f : FrX W48 σ τ) : FrCl σ τ := ⟨fun x j a => f.2.2.2.2 x j (by omega), fun x j _ => by rw [f.2.2.2.1], by rw [f.1]⟩
theorem FrK_48 {σ τ : rS} (f : FrX W48 σ τ) : FrK σ τ := FrK_X f fun x j w => by omega
/-- rows told to the sweep -/
def LoF (σ : rS) (f g : Nat → Nat) : Prop := (∀ k, k < 52 → rI σ 48 k = nI (f k)) ∧ ∀ k, k < 52 → rI σ 49 k = nI (g k)
theorem sclear_eq (σ : rS) : ∃ τ, f_X9_clear σ = some ((), τ) ∧ LoF τ (fun _ => 0) (fun _ => 0) ∧ FrX W48 σ τ := by
  refine ⟨_, rfl, ⟨fun k hk => ?_, fun k hk => ?_⟩, rfl, rfl, rfl, rfl, fun x j a => ?_⟩
  · rw [q_rI, if_neg (by decide), q_rI, if_pos rfl]; unfold vFill; rw [if_pos hk]; rfl
  · rw [q_rI, if_pos rfl]; unfold vFill; rw [if_pos hk]; rfl
  · rw [q_rI, if_neg (by omega), q_rI, if_neg (by omega)]
theorem sadd_eq {σ : rS} {f g : Nat → Nat} (H : LoF σ f g) {k x : Nat} (hk : k < 52) (hx : f k + x ≤ 2) : ∃ τ, f_X9_add σ (nI k) (nI x) = some ((), τ) ∧ LoF τ (up1 f k (f k + x)) (up1 g k (f k + x)) ∧ FrX W48 σ τ := by
  have ev : (if nI (f k) + nI x < 2 then nI (f k) + nI x else 2) = nI (f k + x) := by
    rw [nI_add]
    have c : (nI (f k + x) < 2) = (f k + x < 2) := propext (nI_lt' (b := 2) (by omega) (by omega))
    simp only [c]
    by_cases h : f k + x < 2
    · rw [if_pos h]
    · rw [if_neg h, show f k + x = 2 by omega]; rfl
  have q1 : rI (wI σ 48 k (nI (f k + x))) 48 k = nI (f k + x) := by rw [fld_eq, if_pos ⟨rfl, rfl⟩]
  refine ⟨wI (wI σ 48 k (nI (f k + x))) 49 k (nI (f k + x)), ?_, ⟨fun j hj => ?_, fun j hj => ?_⟩, (FrX.w _ _ (by omega)).tr (FrX.w _ _ (by omega))⟩
  · unfold f_X9_add
    rw [vAt_nI (by decide) hk, H.1 k hk, ev, vSet_nI (by decide) hk, row_w, oLet_eq, vAt_nI (by decide) hk, q1, vSet_nI (by decide) hk, row_w, oLet_eq]
  · rw [fld_eq, if_neg (by omega), fld_eq, up1_at]
    by_cases e : j = k
    · rw [if_pos ⟨rfl, e⟩, if_pos e]
    · rw [if_neg (fun z => e z.2), if_neg e]; exact H.1 j hj
  · rw [fld_eq, up1_at]
    by_cases e : j = k
    · rw [if_pos ⟨rfl, e⟩, if_pos e]
    · rw [if_neg (fun z => e z.2), if_neg e, fld_eq, if_neg (by omega)]; exact H.2 j hj
def tjB (B : Bd) : Nat → Nat := fun k => if k < 52 then bT B k + bJ B k else 0
theorem tjB_le {B : Bd} (o : OkT B) (k : Nat) : tjB B k ≤ 2 := by
  unfold tjB
  split
  · exact o.2.1 k (by assumption)
  · omega
theorem takeTable_eq {σ : rS} {B : Bd} {E : List Ent} {dl : Option (Nat × Nat × Nat)} {m : Mem} {l : Nat → Int64} {ch : Nat} (C : CI σ B E dl m l ch) (o : OkT B) : ∃ τ, f_X10_takeTable σ = some ((), τ) ∧ CI τ B E dl m l ch ∧ LoS τ (tjB B) (tjB B) ∧ FrX W48 σ τ := by
  obtain ⟨σ1, a1, a2, a3⟩ := sclear_eq σ
  obtain ⟨x, b1, b2⟩ := oL_ix (body := b_X10_takeTable_9) (fun k s => s.1 = nI k ∧ LoF s.2 (fun i => if i < k then tjB B i else 0) (fun i => if i < k then tjB B i else 0) ∧ FrX W48 σ s.2) (N := 52) (fun x => ∃ τ, x = ((), τ) ∧ LoF τ (tjB B) (tjB B) ∧ FrX W48 σ τ) (by
      intro k s hk ⟨e, A, Fr⟩
      obtain ⟨s1, σ'⟩ := s
      dsimp only at e A Fr
      subst e
      have C' := CI_48 C Fr
      obtain ⟨τ, c1, c2, c3⟩ := sadd_eq A (k := k) (x := bT B k + bJ B k) hk (by
        show (if k < k then tjB B k else 0) + _ ≤ 2
        rw [if_neg (Nat.lt_irrefl k)]
        have := o.2.1 k hk
        omega)
      have up : ∀ i, up1 (fun i => if i < k then tjB B i else 0) k ((if k < k then tjB B k else 0) + (bT B k + bJ B k)) i = if i < k + 1 then tjB B i else 0 := fun i => by
        rw [up1_at]
        by_cases c : i = k
        · rw [if_pos c, if_neg (Nat.lt_irrefl k), if_pos (by omega), c, Nat.zero_add]
          unfold tjB
          rw [if_pos hk]
        · rw [if_neg c]
          by_cases c2 : i < k
          · rw [if_pos c2, if_pos (by omega)]
          · rw [if_neg c2, if_neg (by omega)]
      refine ⟨(nI (k + 1), τ), ?_, rfl, ⟨fun i hi => by rw [c2.1 i hi]; exact congrArg nI (up i), fun i hi => by rw [c2.2 i hi]; exact congrArg nI (up i)⟩, Fr.tr c3⟩
      unfold b_X10_takeTable_9
      dsimp only
      rw [if_neg (show ¬ (52 : Int32) ≤ nI k from fun z => by have := (nI_leI (a := 52) (by omega) (by omega)).mp z; omega), lies_eq C'.1 hk, c1, oB_some, nI_1])
    (by
      intro s ⟨e, A, Fr⟩
      obtain ⟨s1, σ'⟩ := s
      dsimp only at e A Fr
      subst e
      exact ⟨_, by unfold b_X10_takeTable_9; rw [if_pos (show (52 : Int32) ≤ nI 52 by decide)], σ', rfl, ⟨fun i hi => (A.1 i hi).trans (congrArg nI (if_pos hi)), fun i hi => (A.2 i hi).trans (congrArg nI (if_pos hi))⟩, Fr⟩)
    (n := oFuel) (by rw [oFuel_eq]; decide) (s := (0, σ1)) ⟨rfl, ⟨fun i hi => (a2.1 i hi).trans (congrArg nI (if_neg (Nat.not_lt_zero i)).symm), fun i hi => (a2.2 i hi).trans (congrArg nI (if_neg (Nat.not_lt_zero i)).symm)⟩, a3⟩
  obtain ⟨τ, rfl, A, Fr⟩ := b2
  refine ⟨τ, ?_, CI_48 C Fr, ⟨A.1, A.2, fun k => ⟨tjB_le o k, tjB_le o k, Nat.le_refl _⟩⟩, Fr⟩
  unfold f_X10_takeTable
  rw [a1, oB_some]
  exact b1
theorem CI_Ru {σ : rS} {B : Bd} {E : List Ent} {dl : Option (Nat × Nat × Nat)} {m : Mem} {l : Nat → Int64} {ch hh L jk ml pn n : Nat} (C : CI σ B E dl m l ch) (r : RuM m hh L jk ml pn n) : RuS σ L hh := ⟨(CI_4 C (x := 4) (j := 1) (by omega)).trans r.1.2.1, CI_h C r, r.2.2.1, r.2.2.2.1⟩
theorem cWhole_eq {σ : rS} {B : Bd} {E : List Ent} {dl : Option (Nat × Nat × Nat)} {m : Mem} {l : Nat → Int64} {ch hh L jk ml pn n : Nat} (C : CI σ B E dl m l ch) (o : OkT B) (r : RuM m hh L jk ml pn n) : ∃ τ, f_X10_isWhole σ = some (b2i (accB L hh (tN (tjB B) xZ)), τ) ∧ CI τ B E dl m l ch ∧ FrCl σ τ ∧ FrK σ τ := by
  obtain ⟨σ1, a1, a2, a3, a4⟩ := takeTable_eq C o
  obtain ⟨τ, b1, b2, b3⟩ := go_whole a2.2.2.2.2.2.1 (CI_Ru a2 r) a3
  refine ⟨τ, ?_, CI_O a2 b2 b3, (FrCl_48 a4).tr (FrCl_O a2.2.2.2.2.2.1 b3), (FrK_48 a4).tr (FrK_O b3)⟩
  unfold f_X10_isWhole
  rw [a1, oB_some, CI_h a2 r, b1, oB_some]
  cases accB L hh (tN (tjB B) xZ) <;> rfl
