/-! the bit of a kind -/
theorem bit_lt (x y : Int64) (h : ∀ i, i < 64 → x.toBitVec.getLsbD i = y.toBitVec.getLsbD i) : x = y := by
  apply Int64.toBitVec_inj.mp
  exact BitVec.eq_of_getLsbD_eq fun i hi => h i hi
theorem and_1 (y : Int64) : y &&& 1 = 1 ↔ y.toBitVec.getLsbD 0 = true := by
  constructor
  · intro h
    have e : (y &&& 1).toBitVec.getLsbD 0 = (1 : Int64).toBitVec.getLsbD 0 := by rw [h]
    rw [Int64.toBitVec_and, BitVec.getLsbD_and] at e
    have o : (1 : Int64).toBitVec.getLsbD 0 = true := by decide
    rw [o, Bool.and_true] at e
    exact e
  · intro h
    apply bit_lt
    intro i hi
    rw [Int64.toBitVec_and, BitVec.getLsbD_and]
    by_cases e : i = 0
    · subst e; rw [h, Bool.true_and]
    · have o : (1 : Int64).toBitVec.getLsbD i = false := by
        have : ∀ i : Fin 64, ¬ i.val = 0 → (1 : Int64).toBitVec.getLsbD i.val = false := by decide
        exact this ⟨i, hi⟩ e
      rw [o, Bool.and_false]
theorem sh_c {k : Nat} (hk : k < 52) : (((nI k).toInt64.toUInt64 &&& Int64.toUInt64 63).toBitVec % 64).toNat = k ∧ (((nI k).toInt64 &&& 63).toBitVec.smod 64).toNat = k := by
  have : ∀ k : Fin 52, (((nI k.val).toInt64.toUInt64 &&& Int64.toUInt64 63).toBitVec % 64).toNat = k.val ∧ (((nI k.val).toInt64 &&& 63).toBitVec.smod 64).toNat = k.val := by decide
  exact this ⟨k, hk⟩
theorem bit_u (x : Int64) {k : Nat} (hk : k < 52) : ((x.toUInt64 >>> ((nI k).toInt64.toUInt64 &&& Int64.toUInt64 63)).toInt64 &&& 1 = 1) ↔ hb x k := by
  rw [and_1]
  unfold hb
  have e : (x.toUInt64 >>> ((nI k).toInt64.toUInt64 &&& Int64.toUInt64 63)).toInt64.toBitVec = x.toBitVec >>> (((nI k).toInt64.toUInt64 &&& Int64.toUInt64 63).toBitVec % 64) := rfl
  rw [e, BitVec.ushiftRight_eq', BitVec.getLsbD_ushiftRight, (sh_c hk).1, Nat.add_zero]
theorem bit_s (x : Int64) {k : Nat} (hk : k < 52) : ((x >>> ((nI k).toInt64 &&& 63)) &&& 1 = 1) ↔ hb x k := by
  rw [and_1]
  unfold hb
  have e : (x >>> ((nI k).toInt64 &&& 63)).toBitVec = x.toBitVec.sshiftRight' (((nI k).toInt64 &&& 63).toBitVec.smod 64) := rfl
  rw [e, BitVec.getLsbD_sshiftRight', (sh_c hk).2, if_pos (by omega), Nat.add_zero]
  simp
