/-! the program that lays what nobody may add to -/
theorem least_of (P : Nat → Prop) : ∀ n, (∀ k, k < n → ¬ P k) ∨ ∃ k, k < n ∧ P k ∧ ∀ i, i < k → ¬ P i := by
  intro n
  induction n with
  | zero => exact Or.inl fun k h => absurd h (Nat.not_lt_zero k)
  | succ n ih =>
    rcases ih with h | ⟨k, h1, h2, h3⟩
    · by_cases c : P n
      · exact Or.inr ⟨n, by omega, c, h⟩
      · refine Or.inl fun k hk => ?_
        by_cases e : k = n
        · rw [e]; exact c
        · exact h k (by omega)
    · exact Or.inr ⟨k, by omega, h2, h3⟩
def blP (B : Bd) (hh L p k : Nat) : Prop := 1 ≤ bR B (53 * p + k) ∧ aloP B hh L k
theorem cSkip {σ : rS} {B : Bd} {E : List Ent} {dl : Option (Nat × Nat × Nat)} {m : Mem} {l : Nat → Int64} {ch hh L p k : Nat} {v : Int64} (C : CI σ B E dl m l ch) (o : OkT B) (hp : p < 4) (tp : m 67 24 = nI p) (hv : ∀ kk, kk < 52 → (hb v kk ↔ aloP B hh L kk)) (hk : k < 52) : (blP B hh L p k → ¬ (if vBit v (nI k) = 0 then true else (if v_X10_mayLay σ (nI k) = 0 then true else false)) = true) ∧ (¬ blP B hh L p k → (if vBit v (nI k) = 0 then true else (if v_X10_mayLay σ (nI k) = 0 then true else false)) = true) := by
  obtain ⟨b1, b2⟩ := vBit_hb v hk
  have etj : tjB B k = bT B k + bJ B k := if_pos hk
  rw [mayLay_eq C o hp tp hk]
  constructor
  · rintro ⟨h1, h2⟩
    have h3 := h2.2.1
    have e : (if 1 ≤ bR B (53 * p + k) ∧ bT B k + bJ B k < 2 then (1 : Int32) else 0) = 1 := if_pos ⟨h1, by omega⟩
    rw [b1 ((hv k hk).mpr h2), e]
    decide
  · intro h
    by_cases c : hb v k
    · have h2 := (hv k hk).mp c
      have h3 := h2.2.1
      have e : (if 1 ≤ bR B (53 * p + k) ∧ bT B k + bJ B k < 2 then (1 : Int32) else 0) = 0 := if_neg fun z => h ⟨z.1, h2⟩
      rw [b1 c, e]
      rfl
    · rw [b2 c, if_pos rfl]
theorem cBlk_no {σ τ : rS} {B : Bd} {E : List Ent} {dl : Option (Nat × Nat × Nat)} {m : Mem} {l : Nat → Int64} {ch hh L p : Nat} {v : Int64} {w : Int32} (C : CI σ B E dl m l ch) (o : OkT B) (hp : p < 4) (tp : m 67 24 = nI p) (hv : ∀ kk, kk < 52 → (hb v kk ↔ aloP B hh L kk)) (hno : ∀ k, k < 52 → ¬ blP B hh L p k) (hd : f_X10_endByDrawing σ 6 = some (w, τ)) : oLoop (b_X10_autoBlocking_7 v σ) oFuel 0 = some (0, τ) := by
  obtain ⟨x, b1, b2⟩ := oL_ix (body := b_X10_autoBlocking_7 v σ) (fun i s => s = nI i) (N := 52) (fun x => x = (0, τ)) (by
      intro k s hk e
      subst e
      refine ⟨_, ?_, rfl⟩
      unfold b_X10_autoBlocking_7
      rw [if_neg (show ¬ (52 : Int32) ≤ nI k from fun z => by have := (nI_leI (a := 52) (by omega) (by omega)).mp z; omega), if_pos ((cSkip C o hp tp hv hk).2 (hno k hk)), nI_1])
    (by
      intro s e
      subst e
      exact ⟨_, by unfold b_X10_autoBlocking_7; rw [if_pos (show (52 : Int32) ≤ nI 52 by decide), hd, oB_some], rfl⟩)
    (n := oFuel) (by rw [oFuel_eq]; decide) (s := 0) rfl
  subst b2
  exact b1
theorem cBlk_yes {σ σ7 τ : rS} {B : Bd} {E : List Ent} {dl : Option (Nat × Nat × Nat)} {m : Mem} {l : Nat → Int64} {ch hh L p k : Nat} {v : Int64} (C : CI σ B E dl m l ch) (o : OkT B) (hp : p < 4) (tp : m 67 24 = nI p) (hv : ∀ kk, kk < 52 → (hb v kk ↔ aloP B hh L kk)) (hk : k < 52) (hy : blP B hh L p k) (hno : ∀ i, i < k → ¬ blP B hh L p i) (h1 : f_X10_layTile σ (nI k) = some ((), σ7)) (h2 : f_X10_endByLaying σ7 = some ((), τ)) : oLoop (b_X10_autoBlocking_7 v σ) oFuel 0 = some (1, τ) := by
  obtain ⟨x, b1, b2⟩ := oL_ix (body := b_X10_autoBlocking_7 v σ) (fun i s => s = nI i) (N := k) (fun x => x = (1, τ)) (by
      intro i s hi e
      subst e
      refine ⟨_, ?_, rfl⟩
      unfold b_X10_autoBlocking_7
      rw [if_neg (show ¬ (52 : Int32) ≤ nI i from fun z => by have := (nI_leI (a := 52) (by omega) (by omega)).mp z; omega), if_pos ((cSkip C o hp tp hv (by omega)).2 (hno i hi)), nI_1])
    (by
      intro s e
      subst e
      exact ⟨_, by unfold b_X10_autoBlocking_7; rw [if_neg (show ¬ (52 : Int32) ≤ nI k from fun z => by have := (nI_leI (a := 52) (by omega) (by omega)).mp z; omega), if_neg ((cSkip C o hp tp hv hk).1 hy), h1, oB_some, h2, oB_some], rfl⟩)
    (n := oFuel) (by rw [oFuel_eq]; omega) (s := 0) rfl
  subst b2
  exact b1
/-- one step of the reference's search for such a tile -/
theorem mBlk_skip {σ : rS} {B : Bd} {E : List Ent} {m : Mem} {l : Nat → Int64} {hh L jk ml pn n p k : Nat} (M : MI σ B E m l) (o : OkT B) (r : RuM m hh L jk ml pn n) (b2 : Bo2 B hh jk n) (hp : p < 4) (hk : k < 52) (hno : ¬ blP B hh L p k) : ∃ σ', b_X11_blocks_2 (nI p) (nI k, σ) = some (.inr (nI (k + 1), σ')) ∧ MI σ' B E m l ∧ FrRf σ σ' ∧ rI σ' 67 0 = rI σ 67 0 := by
  have hRz := rsz_ge (R := bR B) (p := p) (k := k) (by omega)
  have hR := o.1.2.1 p hp
  have c0 : (nI (bR B (53 * p + k)) ≤ 0) = (bR B (53 * p + k) = 0) := nI_le0 (by omega)
  have pre : b_X11_blocks_2 (nI p) (nI k, σ) = if bR B (53 * p + k) = 0 then (some (.inr (nI (k + 1), σ))) else (oB (f_X11_isAlone σ (nI k)) fun v5 σ6 => if v5 = 0 then (some (.inr (nI (k + 1), σ6))) else (oB (f_X11_lays σ6 (nI k)) fun v7 σ8 => oB (f_X11_endsByLaying σ8) fun v9 σ10 => some (.inl ((1, σ10))))) := by
    unfold b_X11_blocks_2
    dsimp only
    rw [if_neg (show ¬ (52 : Int32) ≤ nI k from fun z => by have := (nI_leI (a := 52) (by omega) (by omega)).mp z; omega), i53, if_pos (inB_nI (by decide) (by omega)), nI_clamp (by omega), M.1.2.1 _ (by omega), nI_1]
    simp only [c0]
  rw [pre]
  by_cases z : bR B (53 * p + k) = 0
  · rw [if_pos z]
    exact ⟨σ, rfl, M, FrRf.rf σ, rfl⟩
  · rw [if_neg z]
    have h13 : k % 13 < hh := Classical.byContradiction fun w => by
      have h1 := b2.2.1.1 k hk
      rw [if_neg w] at h1
      have h2 := natSum_ge (f := fun q => bR B (53 * q + k)) (i := p) (n := 4) hp
      omega
    obtain ⟨σ', a1, a2, a3, a4⟩ := mAlone_eq M o r hk h13
    have ea : aloB B hh L k = false := by
      cases y : aloB B hh L k with
      | false => rfl
      | true => exact absurd ⟨by omega, aloB_iff.mp y⟩ hno
    rw [a1, oB_some, ea, if_pos (show b2i false = 0 from rfl)]
    exact ⟨σ', rfl, a2, a3, a4⟩
theorem mBlk_no {σ : rS} {B B' : Bd} {E E' : List Ent} {m m' : Mem} {l l' : Nat → Int64} {hh L jk ml pn n p : Nat} {w : Int32} (M : MI σ B E m l) (o : OkT B) (r : RuM m hh L jk ml pn n) (b2 : Bo2 B hh jk n) (hp : p < 4) (hno : ∀ k, k < 52 → ¬ blP B hh L p k) (hd : ∀ τ, MI τ B E m l → ∃ υ, f_X11_endsByDrawing τ 6 = some (w, υ) ∧ MI υ B' E' m' l' ∧ FrRf τ υ ∧ rI υ 67 0 = rI τ 67 0) : ∃ υ, f_X11_blocks σ (nI p) = some (0, υ) ∧ MI υ B' E' m' l' ∧ FrRf σ υ ∧ rI υ 67 0 = rI σ 67 0 := by
  obtain ⟨x, b1, b2'⟩ := oL_ix (body := b_X11_blocks_2 (nI p)) (fun i s => s.1 = nI i ∧ MI s.2 B E m l ∧ FrRf σ s.2 ∧ rI s.2 67 0 = rI σ 67 0) (N := 52) (fun x => ∃ υ, x = (0, υ) ∧ MI υ B' E' m' l' ∧ FrRf σ υ ∧ rI υ 67 0 = rI σ 67 0) (by
      intro k s hk ⟨e, A, Fr, z⟩
      obtain ⟨s1, σ'⟩ := s
      dsimp only at e A Fr z
      subst e
      obtain ⟨τ, c1, c2, c3, c4⟩ := mBlk_skip A o r b2 hp hk (hno k hk)
      exact ⟨(nI (k + 1), τ), c1, rfl, c2, Fr.tr c3, c4.trans z⟩)
    (by
      intro s ⟨e, A, Fr, z⟩
      obtain ⟨s1, σ'⟩ := s
      dsimp only at e A Fr z
      subst e
      obtain ⟨υ, d1, d2, d3, d4⟩ := hd σ' A
      exact ⟨_, by unfold b_X11_blocks_2; dsimp only; rw [if_pos (show (52 : Int32) ≤ nI 52 by decide), d1, oB_some], υ, rfl, d2, Fr.tr d3, d4.trans z⟩)
    (n := oFuel) (by rw [oFuel_eq]; decide) (s := (0, σ)) ⟨rfl, M, FrRf.rf σ, rfl⟩
  obtain ⟨υ, rfl, A⟩ := b2'
  exact ⟨υ, b1, A⟩
theorem mBlk_yes {σ : rS} {B B' : Bd} {E E' : List Ent} {m m' : Mem} {l l' : Nat → Int64} {hh L jk ml pn n p k : Nat} (M : MI σ B E m l) (o : OkT B) (r : RuM m hh L jk ml pn n) (b2 : Bo2 B hh jk n) (hp : p < 4) (hk : k < 52) (hy : blP B hh L p k) (hno : ∀ i, i < k → ¬ blP B hh L p i) (hd : ∀ τ, MI τ B E m l → ∃ υ0 υ, f_X11_lays τ (nI k) = some (1, υ0) ∧ f_X11_endsByLaying υ0 = some (1, υ) ∧ MI υ B' E' m' l' ∧ FrRf τ υ ∧ rI υ 67 0 = rI τ 67 0) : ∃ υ, f_X11_blocks σ (nI p) = some (1, υ) ∧ MI υ B' E' m' l' ∧ FrRf σ υ ∧ rI υ 67 0 = rI σ 67 0 := by
  have hRz := rsz_ge (R := bR B) (p := p) (k := k) (by omega)
  have hR := o.1.2.1 p hp
  obtain ⟨x, b1, b2'⟩ := oL_ix (body := b_X11_blocks_2 (nI p)) (fun i s => s.1 = nI i ∧ MI s.2 B E m l ∧ FrRf σ s.2 ∧ rI s.2 67 0 = rI σ 67 0) (N := k) (fun x => ∃ υ, x = (1, υ) ∧ MI υ B' E' m' l' ∧ FrRf σ υ ∧ rI υ 67 0 = rI σ 67 0) (by
      intro i s hi ⟨e, A, Fr, z⟩
      obtain ⟨s1, σ'⟩ := s
      dsimp only at e A Fr z
      subst e
      obtain ⟨τ, c1, c2, c3, c4⟩ := mBlk_skip A o r b2 hp (by omega) (hno i hi)
      exact ⟨(nI (i + 1), τ), c1, rfl, c2, Fr.tr c3, c4.trans z⟩)
    (by
      intro s ⟨e, A, Fr, z⟩
      obtain ⟨s1, σ'⟩ := s
      dsimp only at e A Fr z
      subst e
      obtain ⟨σ6, a1, a2, a3, a4⟩ := mAlone_eq A o r hk hy.2.1
      obtain ⟨υ0, υ, d0, d1, d2, d3, d4⟩ := hd σ6 a2
      have ea : aloB B hh L k = true := aloB_iff.mpr hy.2
      refine ⟨(1, υ), ?_, υ, rfl, d2, (Fr.tr a3).tr d3, (d4.trans a4).trans z⟩
      unfold b_X11_blocks_2
      dsimp only
      rw [if_neg (show ¬ (52 : Int32) ≤ nI k from fun z => by have := (nI_leI (a := 52) (by omega) (by omega)).mp z; omega), i53, if_pos (inB_nI (by decide) (by omega)), nI_clamp (by omega), A.1.2.1 _ (by omega), if_neg (show ¬ nI (bR B (53 * p + k)) ≤ 0 from fun z => by have := (nI_leI (b := 0) (by omega) (by omega)).mp z; have := hy.1; omega), a1, oB_some, ea, if_neg (show ¬ b2i true = 0 by decide), d0, oB_some, d1, oB_some])
    (n := oFuel) (by rw [oFuel_eq]; omega) (s := (0, σ)) ⟨rfl, M, FrRf.rf σ, rfl⟩
  obtain ⟨υ, rfl, A⟩ := b2'
  exact ⟨υ, b1, A⟩
