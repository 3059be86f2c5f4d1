/-! the program that lays what nobody may add to -/
theorem least_of (P : Nat → Prop) : ∀ n, (∀ k, k < n → ¬ P k) ∨ ∃ k, k < n ∧ P k ∧ ∀ i, i < k → ¬ P i := by
  intro n
  induction n with
  | zero => exact Or.inl fun k h => absurd h (Nat.not_lt_zero k)
  | succ n ih =>
    rcases ih with h | ⟨k, h1, h2, h3⟩
    · by_cases c : P n
      · exact Or.inr ⟨n, by omega, c, h⟩
      · refine Or.inl fun k hk => ?_
        by_cases e : k = n
        · rw [e]; exact c
        · exact h k (by omega)
    · exact Or.inr ⟨k, by omega, h2, h3⟩
def blP (B : Bd) (hh L p k : Nat) : Prop := 1 ≤ bR B (53 * p + k) ∧ aloP B hh L k
theorem cSkip {σ : rS} {B : Bd} {E : List Ent} {dl : Option (Nat × Nat × Nat)} {m : Mem} {l : Nat → Int64} {ch hh L p k : Nat} {v : Int64} (C : CI σ B E dl m l ch) (o : OkT B) (hp : p < 4) (tp : m 67 24 = nI p) (hv : ∀ kk, kk < 52 → (hb v kk ↔ aloP B hh L kk)) (hk : k < 52) : (blP B hh L p k → ¬ (if vBit v (nI k) = 0 then true else (if v_X10_mayLay σ (nI k) = 0 then true else false)) = true) ∧ (¬ blP B hh L p k → (if vBit v (nI k) = 0 then true else (if v_X10_mayLay σ (nI k) = 0 then true else false)) = true) := by
  obtain ⟨b1, b2⟩ := vBit_hb v hk
  have etj : tjB B k = bT B k + bJ B k := if_pos hk
  rw [mayLay_eq C o hp tp hk]
  constructor
  · rintro ⟨h1, h2⟩
    have h3 := h2.2.1
    have e : (if 1 ≤ bR B (53 * p + k) ∧ bT B k + bJ B k < 2 then (1 : Int32) else 0) = 1 := if_pos ⟨h1, by omega⟩
    rw [b1 ((hv k hk).mpr h2), e]
    decide
  · intro h
    by_cases c : hb v k
    · have h2 := (hv k hk).mp c
      have h3 := h2.2.1
      have e : (if 1 ≤ bR B (53 * p + k) ∧ bT B k + bJ B k < 2 then (1 : Int32) else 0) = 0 := if_neg fun z => h ⟨z.1, h2⟩
      rw [b1 c, e]
      rfl
    · rw [b2 c, if_pos rfl]
theorem cBlk_no {σ τ : rS} {B : Bd} {E : List Ent} {dl : Option (Nat × Nat × Nat)} {m : Mem} {l : Nat → Int64} {ch hh L p : Nat} {v : Int64} {w : Int32} (C : CI σ B E dl m l ch) (o : OkT B) (hp : p < 4) (tp : m 67 24 = nI p) (hv : ∀ kk, kk < 52 → (hb v kk ↔ aloP B hh L kk)) (hno : ∀ k, k < 52 → ¬ blP B hh L p k) (hd : f_X10_endByDrawing σ 6 = some (w, τ)) : oLoop (b_X10_autoBlocking_7 v σ) oFuel 0 = some (0, τ) := by
  obtain ⟨x, b1, b2⟩ := oL_ix (body := b_X10_autoBlocking_7 v σ) (fun i s => s = nI i) (N := 52) (fun x => x = (0, τ)) (by
      intro k s hk e
      subst e
      refine ⟨_, ?_, rfl⟩
      unfold b_X10_autoBlocking_7
      rw [if_neg (show ¬ (52 : Int32) ≤ nI k from fun z => by have := (nI_leI (a := 52) (by omega) (by omega)).mp z; omega), if_pos ((cSkip C o hp tp hv hk).2 (hno k hk)), nI_1])
    (by
      intro s e
      subst e
      exact ⟨_, by unfold b_X10_autoBlocking_7; rw [if_pos (show (52 : Int32) ≤ nI 52 by decide), hd, oB_some], rfl⟩)
    (n := oFuel) (by rw [oFuel_eq]; decide) (s := 0) rfl
  subst b2
  exact b1
theorem cBlk_yes {σ σ7 τ : rS} {B : Bd} {E : List Ent} {dl : Option (Nat × Nat × Nat)} {m : Mem} {l : Nat → Int64} {ch hh L p k : Nat} {v : Int64} (C : CI σ B E dl m l ch) (o : OkT B) (hp : p < 4) (tp : m 67 24 = nI p) (hv : ∀ kk, kk < 52 → (hb v kk ↔ aloP B hh L kk)) (hk : k < 52) (hy : blP B hh L p k) (hno : ∀ i, i < k → ¬ blP B hh L p i) (h1 : f_X10_layTile σ (nI k) = some ((), σ7)) (h2 : f_X10_endByLaying σ7 = some ((), τ)) : oLoop (b_X10_autoBlocking_7 v σ) oFuel 0 = some (1, τ) := by
  obtain ⟨x, b1, b2⟩ := oL_ix (body := b_X10_autoBlocking_7 v σ) (fun i s => s = nI i) (N := k) (fun x => x = (1, τ)) (by
      intro i s hi e
      subst e
      refine ⟨_, ?_, rfl⟩
      unfold b_X10_autoBlocking_7
      rw [if_neg (show ¬ (52 : Int32) ≤ nI i from fun z => by have := (nI_leI (a := 52) (by omega) (by omega)).mp z; omega), if_pos ((cSkip C o hp tp hv (by omega)).2 (hno i hi)), nI_1])
    (by
      intro s e
      subst e
      exact ⟨_, by unfold b_X10_autoBlocking_7; rw [if_neg (show ¬ (52 : Int32) ≤ nI k from fun z => by have := (nI_leI (a := 52) (by omega) (by omega)).mp z; omega), if_neg ((cSkip C o hp tp hv hk).1 hy), h1, oB_some, h2, oB_some], rfl⟩)
    (n := oFuel) (by rw [oFuel_eq]; omega) (s := 0) rfl
  subst b2
  exact b1
