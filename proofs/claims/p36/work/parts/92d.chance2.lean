/-! chance -/
theorem vBit_52 (x : Int64) : vBit x (nI 52) = 0 := by
  unfold vBit
  rw [if_neg (fun z => absurd z.2.1 (by decide))]
theorem piece_of {σ : rS} {hh : Nat} {k : Int32} (h4 : rI σ 4 0 = nI hh) (h13 : hh ≤ 13) (c : k = 52 ∨ ¬ v_X5_isKind σ k = 0) : ∃ j, j < 53 ∧ k = nI j := by
  rcases c with e | e
  · exact ⟨52, by decide, e⟩
  · obtain ⟨j, h1, -, h3⟩ := isKind_of h4 h13 e
    exact ⟨j, by omega, h3⟩
theorem needPiece_y {σ : rS} {k : Int32} (c : k = 52 ∨ ¬ v_X5_isKind σ k = 0) : f_X10_needPiece σ k = some (.inl (), σ) := by
  unfold f_X10_needPiece
  rw [if_pos]
  by_cases e : k = 52
  · rw [if_pos e]
  · rw [if_neg e]
    rcases c with f | f
    · exact absurd f e
    · rw [if_neg f]
theorem needPiece_n {σ : rS} {k : Int32} (c : ¬ (k = 52 ∨ ¬ v_X5_isKind σ k = 0)) : f_X10_needPiece σ k = some (.inr "java/lang/IllegalArgumentException", σ) := by
  have n1 : ¬ k = 52 := fun z => c (Or.inl z)
  have n2 : v_X5_isKind σ k = 0 := Classical.byContradiction fun z => c (Or.inr z)
  unfold f_X10_needPiece
  rw [if_neg n1, if_pos n2, if_neg (by decide)]
def chT (B : Bd) (m : Mem) (l : Nat → Int64) (q j : Nat) : Int32 := if vBit (l q) (nI j) = 0 then nI (rsz (bR B) q) else (if m 77 q < nI (rsz (bR B) q) then m 77 q else nI (rsz (bR B) q))
