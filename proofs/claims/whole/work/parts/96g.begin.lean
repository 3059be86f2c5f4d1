/-! the start keeps the game's invariant -/
theorem zb5_of {τ : rS} {b : Nat} (h : zb_5 τ b = true) : BR τ b (zB 0) 0 := by
  simp only [zb_5, Bool.and_eq_true, beq_iff_eq, List.all_eq_true, List.mem_range] at h
  obtain ⟨⟨⟨⟨⟨⟨⟨⟨⟨⟨⟨h1, h2⟩, h3⟩, h4⟩, h5⟩, h6⟩, h7⟩, h8⟩, h9⟩, h10⟩, h11⟩, h12⟩ := h
  exact BR_zB ⟨h1, h2, h3, h4, h5, ⟨h6, fun i d hi => by simp at hi⟩, h7, h8, h9, h10, h11, h12⟩
def mz (τ : rS) : Mem := fun x j => if x = 67 ∧ j = 200 then rI τ 31 4 else if x = 133 then rI τ 33 j else if x = 134 then rI τ 34 j else rI τ x j
theorem mz_at (τ : rS) {x j : Nat} (h1 : ¬ (x = 67 ∧ j = 200)) (h2 : x ≠ 133) (h3 : x ≠ 134) : mz τ x j = rI τ x j := by
  unfold mz
  rw [if_neg h1, if_neg h2, if_neg h3]
theorem zbd_of {τ : rS} (h : zb_d τ = true) : (∀ x j, dC x j → rI τ x j = mz τ (cx x) (cj x j)) ∧ ∀ j, j < 4 → rL τ 29 j = rL τ 75 j := by
  simp only [zb_d, Bool.and_eq_true, beq_iff_eq, List.all_eq_true, List.mem_range] at h
  obtain ⟨⟨⟨⟨⟨⟨⟨⟨⟨⟨⟨⟨⟨⟨⟨d1, d2⟩, d3⟩, d4⟩, d5⟩, d6⟩, d7⟩, d8⟩, d9⟩, d10⟩, d11⟩, d12⟩, d13⟩, d14⟩, d15⟩, d16⟩ := h
  refine ⟨fun x j d => ?_, d16⟩
  rcases d with ⟨rfl, h⟩ | ⟨rfl, rfl⟩ | ⟨rfl, h1, h2⟩ | ⟨rfl, rfl | rfl⟩ | ⟨rfl | rfl, h⟩ | ⟨h1, h2, h⟩ | ⟨rfl, h⟩ | ⟨rfl, h⟩
  · show rI τ 4 j = mz τ 67 (j + 1)
    rw [mz_at τ (by omega) (by omega) (by omega)]
    exact d1 j (by omega)
  · show rI τ 19 0 = mz τ 67 6
    rw [mz_at τ (by omega) (by omega) (by omega)]
    exact d2
  · obtain ⟨i, rfl⟩ : ∃ i, j = i + 8 := ⟨j - 8, by omega⟩
    show rI τ 3 (i + 8) = mz τ 67 (i + 8 + 16)
    rw [mz_at τ (by omega) (by omega) (by omega)]
    exact d3 i (by omega)
  · show rI τ 31 1 = mz τ 67 34
    rw [mz_at τ (by omega) (by omega) (by omega)]
    exact d4
  · show rI τ 31 4 = mz τ 67 200
    unfold mz
    rw [if_pos ⟨rfl, rfl⟩]
  · show rI τ 33 j = mz τ 133 j
    unfold mz
    rw [if_neg (by omega), if_pos rfl]
  · show rI τ 34 j = mz τ 134 j
    unfold mz
    rw [if_neg (by omega), if_neg (by omega), if_pos rfl]
  · rcases (show x = 20 ∨ x = 21 ∨ x = 22 ∨ x = 23 ∨ x = 24 ∨ x = 25 ∨ x = 26 ∨ x = 27 ∨ x = 28 by omega) with rfl | rfl | rfl | rfl | rfl | rfl | rfl | rfl | rfl
    · show rI τ 20 j = mz τ 68 j
      rw [mz_at τ (by omega) (by omega) (by omega)]; exact d5 j h
    · show rI τ 21 j = mz τ 69 j
      rw [mz_at τ (by omega) (by omega) (by omega)]; exact d6 j h
    · show rI τ 22 j = mz τ 70 j
      rw [mz_at τ (by omega) (by omega) (by omega)]; exact d7 j h
    · show rI τ 23 j = mz τ 71 j
      rw [mz_at τ (by omega) (by omega) (by omega)]; exact d8 j h
    · show rI τ 24 j = mz τ 72 j
      rw [mz_at τ (by omega) (by omega) (by omega)]; exact d9 j h
    · show rI τ 25 j = mz τ 77 j
      rw [mz_at τ (by omega) (by omega) (by omega)]; exact d10 j h
    · show rI τ 26 j = mz τ 76 j
      rw [mz_at τ (by omega) (by omega) (by omega)]; exact d11 j h
    · show rI τ 27 j = mz τ 73 j
      rw [mz_at τ (by omega) (by omega) (by omega)]; exact d12 j h
    · show rI τ 28 j = mz τ 74 j
      rw [mz_at τ (by omega) (by omega) (by omega)]; exact d13 j h
  · show rI τ 30 j = mz τ 78 j
    rw [mz_at τ (by omega) (by omega) (by omega)]; exact d14 j h
  · show rI τ 32 j = mz τ 86 j
    rw [mz_at τ (by omega) (by omega) (by omega)]; exact d15 j h
theorem sy_of {τ : rS} (h1 : zc_sh τ 0 = true) (h2 : zc_dy τ 0 = true) : Sy τ ∧ rN τ = 115 ∧ (rR τ 37 6 = 55 ∧ rR τ 37 5 = 51) ∧ (rR τ 55 0 = 56 ∧ rR τ 55 1 = 57 ∧ rR τ 55 2 = 58) ∧ rR τ 51 0 = 52 ∧ rR τ 51 1 = 53 ∧ rR τ 51 2 = 54 := by
  simp only [zc_sh, Bool.and_eq_true, beq_iff_eq, List.all_eq_true, List.mem_range] at h1
  simp only [zc_dy, Bool.and_eq_true, beq_iff_eq] at h2
  obtain ⟨⟨s1, s2⟩, s3⟩ := h1
  obtain ⟨⟨⟨⟨⟨⟨⟨⟨⟨⟨⟨y1, y2⟩, y3⟩, y4⟩, y5⟩, y6⟩, y7⟩, y8⟩, y9⟩, y10⟩, y11⟩, y12⟩ := h2
  refine ⟨⟨⟨s2, s1, by omega⟩, ⟨y1, y2⟩, ?_, ⟨38, 2, Or.inl rfl, Or.inr (Or.inl rfl), y4⟩, Or.inl ⟨y5, y6⟩, ?_, ?_, by omega, by omega, by omega, by omega, by omega⟩, s3, ⟨y6, y5⟩, ⟨y10, y11, y12⟩, y7, y8, y9⟩
  · rw [y3]; exact Or.inl rfl
  · exact ⟨1024, 52, 53, 54, by decide, y7, y8, y9, (s2 49 (by decide)).trans rfl, (s2 50 (by decide)).trans rfl, (s2 51 (by decide)).trans rfl, by decide, by decide, Or.inl rfl, Or.inl rfl, Or.inl rfl, by decide, by omega, by omega, by omega⟩
  · exact ⟨1024, 56, 57, 58, by decide, y10, y11, y12, (s2 53 (by decide)).trans rfl, (s2 54 (by decide)).trans rfl, (s2 55 (by decide)).trans rfl, by decide, by decide, Or.inl rfl, Or.inl rfl, Or.inl rfl, by decide, by omega, by omega, by omega⟩
