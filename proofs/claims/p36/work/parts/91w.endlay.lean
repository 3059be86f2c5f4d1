/-! a turn ended by laying: up to whose turn is next -/
def stB (B : Bd) : Bd := (bP B, bR B, bT B, bJ B, [], bF B, bX B)
theorem cEndL1_eq {σ : rS} {B : Bd} {E : List Ent} {dl : Option (Nat × Nat × Nat)} {m : Mem} {l : Nat → Int64} {ch p : Nat} (C : CI σ B E dl m l ch) (hp : p < 4) (tp : m 67 24 = nI p) (hE : E.length < 1024) : ∃ σ6, f_X10_endByLaying σ = (if v_X1_sizeOf σ6 5 (nI p) = 0 then (oB (f_X10_endRound σ6 (nI p)) fun _ σ8 => some (((), σ8))) else (oB (f_X10_passOn σ6) fun _ σ10 => some (((), σ10)))) ∧ CI σ6 (stB B) (E ++ [(5, p, 0, 0)]) dl (up2 (up2 m 72 p 1) 67 25 0) l (ch + 1) ∧ FrCl σ σ6 ∧ FrK σ σ6 := by
  obtain ⟨σ2, a1, a2, a3⟩ := cadd_eq C.2.1 5 p 0 0 hE
  have a1 : f_X2_add σ 5 (nI p) (-1) 0 = some ((), σ2) := a1
  have C2 := CI_E C a2 a3
  have C3 := CI_w C2 (a := 24) (k := p) (by omega) 1
  obtain ⟨σ5, b1, b2, b3⟩ := settle_eq C3.1
  have C5 : CI σ5 (stB B) (E ++ [(5, p, 0, 0)]) dl (up2 m 72 p 1) l (ch + 1) := by
    have := CI_B C3 b2 b3
    have e : up2 m (cx 24) (cj 24 p) 1 = up2 m 72 p 1 := rfl
    rw [e] at this
    exact this
  have C6 := CI_w C5 (a := 3) (k := 9) (by omega) 0
  have f2 : FrX WL σ σ2 := a3.mono fun x j w => by omega
  refine ⟨wI σ5 3 9 0, ?_, C6, (((FrCl_L f2).tr (FrCl_w (by omega) _)).tr (FrCl_L (FrX_B b3))).tr (FrCl_w (by omega) _), (((FrK_X f2 fun x j w => by omega).tr (FrK_w (by omega) _)).tr (FrK_X (FrX_B b3) fun x j w => by omega)).tr (FrK_w (by omega) _)⟩
  unfold f_X10_endByLaying
  rw [CI_p C tp, a1, oB_some, vSet_nI (by decide) hp, row_w, oLet_eq, b1, oB_some, oLet_eq]
theorem passOn_eq {σ : rS} {B : Bd} {E : List Ent} {dl : Option (Nat × Nat × Nat)} {m : Mem} {l : Nat → Int64} {ch p n : Nat} (C : CI σ B E dl m l ch) (hn : rI σ 19 0 = nI n) (hn4 : n ≤ 4) (hp : p < n) (tp : m 67 24 = nI p) : ∃ τ, f_X10_passOn σ = some ((), τ) ∧ CI τ B E dl (up2 m 67 24 (nI ((p + 1) % n))) l ch ∧ FrCl σ τ ∧ FrK σ τ := by
  have e : (if nI n ≤ nI (p + 1) then 0 else nI (p + 1)) = nI ((p + 1) % n) := by
    have c : (nI n ≤ nI (p + 1)) = (n ≤ p + 1) := propext (nI_leI (by omega) (by omega))
    simp only [c]
    by_cases h : n ≤ p + 1
    · rw [if_pos h, show p + 1 = n by omega, Nat.mod_self]; rfl
    · rw [if_neg h, Nat.mod_eq_of_lt (by omega)]
  refine ⟨wI σ 3 8 (nI ((p + 1) % n)), ?_, CI_w C (a := 3) (k := 8) (by omega) _, FrCl_w (by omega) _, FrK_w (by omega) _⟩
  unfold f_X10_passOn
  rw [hn, CI_p C tp, nI_1, e, oLet_eq]
