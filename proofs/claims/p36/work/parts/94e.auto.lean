/-! auto, as a call of the game -/
theorem mel_of {m : Mem} {p : Nat} (h : m 72 p = 0 ∨ m 72 p = 1) : ∃ mel : Bool, m 72 p = if mel then 1 else 0 := by
  rcases h with e | e
  · exact ⟨false, e⟩
  · exact ⟨true, e⟩
theorem auto_pre {σ : rS} {B : Bd} {E : List Ent} {dl : Option (Nat × Nat × Nat)} {m : Mem} {l : Nat → Int64} {ch p : Nat} (C : CI σ B E dl m l ch) (hp : p < 4) (tp : m 67 24 = nI p) (hD : (bD B).length ≤ 64) : f_X10_auto σ = if m 69 p = 0 ∨ bD B ≠ [] then (some ((.inr "java/lang/IllegalStateException", σ))) else (if m 69 p = 3 ∧ v_X10_hasMelded σ (nI p) ≠ 0 then (oB (f_X10_autoBlocking σ) fun v5 σ6 => some ((.inl v5, σ6))) else (oB (f_X10_autoByPlan σ (m 69 p)) fun v3 σ4 => some ((.inl v3, σ4)))) := by
  unfold f_X10_auto
  have e21 : vAt (rI σ 21) 4 (nI p) = m 69 p := by
    rw [vAt_nI (by decide) hp]
    exact CI_4 C (x := 21) (j := p) (by omega)
  have c0 : (nI (bD B).length ≤ 0) = ((bD B).length = 0) := nI_le0 (by omega)
  rw [needR_y C hp tp, oBx_l, CI_p C tp, e21, C.1.2.2.2.2.2.1.1]
  simp only [c0]
  by_cases a : m 69 p = 0
  · rw [if_pos a, if_pos rfl, if_pos (Or.inl a)]
  · rw [if_neg a]
    by_cases b : bD B = []
    · rw [b, if_pos (show ([] : List (Nat × Nat)).length = 0 from rfl), if_neg (by decide), if_neg (c := m 69 p = 0 ∨ ([] : List (Nat × Nat)) ≠ []) (fun z => z.elim a fun y => y rfl)]
      by_cases c : m 69 p = 3
      · rw [if_pos c]
        by_cases d : v_X10_hasMelded σ (nI p) = 0
        · rw [if_pos d, if_pos rfl, if_neg (fun z => z.2 d)]
        · rw [if_neg d, if_neg (by decide), if_pos ⟨c, d⟩]
      · rw [if_neg c, if_pos rfl, if_neg (fun z => c z.1)]
    · rw [if_neg (fun z => b (List.length_eq_zero_iff.mp z)), if_pos rfl, if_pos (Or.inr b)]
