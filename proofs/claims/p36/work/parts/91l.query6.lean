/-! entry, playerIs -/
theorem nI_shlG (k : Nat) (b : Int32) (m : Nat) (hb : b.toBitVec.smod 32 = BitVec.ofNat 32 m) (hm : m < 32) : nI k <<< b = nI (2 ^ m * k) := by
  apply Int32.toBitVec_inj.mp
  have e1 : (nI k).toBitVec = BitVec.ofNat 32 k := rfl
  have e2 : (nI (2 ^ m * k)).toBitVec = BitVec.ofNat 32 (2 ^ m * k) := rfl
  rw [Int32.toBitVec_shiftLeft, hb, e1, e2]
  apply BitVec.eq_of_toNat_eq
  rw [BitVec.shiftLeft_eq', BitVec.toNat_shiftLeft, BitVec.toNat_ofNat, BitVec.toNat_ofNat, BitVec.toNat_ofNat, Nat.shiftLeft_eq, Nat.mod_eq_of_lt (show m < 2 ^ 32 by omega), Nat.mod_mul_mod, Nat.mul_comm]
def OkE (E : List Ent) : Prop := ∀ e ∈ E, e.1 < 8 ∧ e.2.1 < 4 ∧ e.2.2.1 < 64 ∧ e.2.2.2 < 2 ^ 16
theorem enE_eq {e : Ent} (h : e.1 < 8 ∧ e.2.1 < 4 ∧ e.2.2.1 < 64 ∧ e.2.2.2 < 2 ^ 16) : enE e = nI (2 ^ 11 * e.2.2.2 + (2 ^ 5 * e.2.2.1 + (2 ^ 3 * e.2.1 + e.1))) := by
  unfold enE
  rw [nI_shlG _ _ 3 (by decide) (by decide), nI_shlG _ _ 5 (by decide) (by decide), nI_shlG _ _ 11 (by decide) (by decide), nI_orp 3 (by omega), nI_orp 5 (by omega), nI_orp 11 (by omega)]
/-- every player has a place -/
def LaI (m : Mem) (n : Nat) : Prop := ∀ q, q < n → ∃ j, j < n ∧ m 74 j = nI q ∧ ∀ i, i < j → ¬ m 74 i = nI q
theorem cplace_eq {σ : rS} {B : Bd} {E : List Ent} {dl : Option (Nat × Nat × Nat)} {m : Mem} {l : Nat → Int64} {ch n j q : Nat} (C : CI σ B E dl m l ch) (hn : rI σ 19 0 = nI n) (hn4 : n ≤ 4) (hj : j < n) (h1 : m 74 j = nI q) (h2 : ∀ i, i < j → ¬ m 74 i = nI q) : f_X6_placeOf σ (nI q) = some (nI j) := by
  have st : ∀ i, i ≤ j → b_X6_placeOf_2 σ (nI q) (nI i) = if i = j then some (.inl (nI j)) else some (.inr (nI (i + 1))) := fun i hi => by
    unfold b_X6_placeOf_2
    rw [hn, if_neg (show ¬ nI n ≤ nI i from fun z => by have := (nI_leI (by omega) (by omega)).mp z; omega), vAt_nI (by decide) (by omega), CI_4 C (x := 28) (j := i) (by omega)]
    show (if m 74 i = nI q then _ else _) = _
    by_cases e : i = j
    · subst e; rw [if_pos h1, if_pos rfl]
    · rw [if_neg (h2 i (by omega)), if_neg e, nI_1]
  obtain ⟨x, a1, a2⟩ := oL_ix (body := b_X6_placeOf_2 σ (nI q)) (fun i s => s = nI i) (N := j) (fun x => x = nI j) (by
      intro i s hi e
      subst e
      exact ⟨_, by rw [st i (by omega), if_neg (by omega)], rfl⟩)
    (by
      intro s e
      subst e
      exact ⟨_, by rw [st j (by omega), if_pos rfl], rfl⟩)
    (n := oFuel) (by rw [oFuel_eq]; omega) (s := 0) rfl
  subst a2
  exact a1
