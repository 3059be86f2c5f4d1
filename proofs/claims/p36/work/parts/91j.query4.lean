/-! passed, wipe, type, player -/
theorem lg_0 (a b : Int64) : lg_cmp a b = 0 ↔ a = b := by
  unfold lg_cmp
  by_cases h : a > b
  · rw [if_pos h]
    refine ⟨fun q => absurd q (by decide), fun q => ?_⟩
    rw [q] at h
    exact absurd h (Int64.lt_irrefl)
  · rw [if_neg h]
    by_cases e : a = b
    · rw [if_pos e]; exact ⟨fun _ => e, fun _ => rfl⟩
    · rw [if_neg e]; exact ⟨fun q => absurd q (by decide), fun q => absurd q e⟩
theorem vBit_hb (x : Int64) {k : Nat} (hk : k < 52) : (hb x k → vBit x (nI k) = 1) ∧ (¬ hb x k → vBit x (nI k) = 0) := by
  have h0 : (0 : Int32) ≤ nI k := (nI_leI (a := 0) (by omega) (by omega)).mpr (Nat.zero_le _)
  have h1 : nI k < 52 := (nI_lt' (b := 52) (by omega) (by omega)).mpr hk
  unfold vBit
  constructor
  · intro h
    rw [if_pos ⟨h0, h1, (lg_0 _ _).mpr ((bit_u x hk).mpr h)⟩]
  · intro h
    rw [if_neg (fun z => h ((bit_u x hk).mp ((lg_0 _ _).mp z.2.2)))]
