/-! play, as a call of the game -/
/-- cells that only one side has -/
theorem CI_m2 {σ ρ : rS} {B : Bd} {E : List Ent} {dl : Option (Nat × Nat × Nat)} {m : Mem} {l : Nat → Int64} {ch : Nat} (C : CI σ B E dl m l ch) : CI σ B E dl (mmU m ρ) l ch := CI_cg C fun x j d => by
  refine mmU_at m ρ fun z => ?_
  have h87 : cx x ≠ 87 ∧ cx x ≠ 88 ∧ ¬ (cx x = 67 ∧ cj x j = 37) := by
    by_cases e : x ≠ 33 ∧ x ≠ 34 ∧ ¬ (x = 31 ∧ j = 4)
    · obtain ⟨g1, g2⟩ := cx_o d e
      exact ⟨by omega, by omega, fun z => g2 ⟨z.1, Or.inr z.2⟩⟩
    · by_cases e3 : x = 33
      · subst e3; exact ⟨by decide, by decide, fun z => absurd z.1 (by decide)⟩
      · by_cases e4 : x = 34
        · subst e4; exact ⟨by decide, by decide, fun z => absurd z.1 (by decide)⟩
        · have e31 : x = 31 ∧ j = 4 := by omega
          obtain ⟨rfl, rfl⟩ := e31
          exact ⟨by decide, by decide, fun z => absurd z.2 (by decide)⟩
  rcases z with z | z | z
  · exact h87.1 z
  · exact h87.2.1 z
  · exact h87.2.2 z
theorem GmS_m2 {t : Nat} {B : Bd} {E : List Ent} {dl : Option (Nat × Nat × Nat)} {m m' : Mem} {B0 : Bd} {D : List (Nat × Nat)} {hh L jk ml pn n wr : Nat} (S : GmS t B E dl m B0 D hh L jk ml pn n wr) (h : ∀ x k, x ≤ 86 → ¬ (x = 67 ∧ (k = 37 ∨ k = 200)) → m' x k = m x k) : GmS t B E dl m' B0 D hh L jk ml pn n wr := Gm_m S (fun x k hx => h x k (by omega) (by omega)) (by rw [h 67 34 (by omega) (by omega)]; exact S.2.2.2.1.1) S.2.2.2.1.2.1 t S.2.2.2.1.2.2.1
theorem mm_cu {m : Mem} {τ ρ : rS} {x k : Nat} (h1 : x ≤ 86) (h2 : ¬ (x = 67 ∧ (k = 37 ∨ k = 200))) : mmU (mcU m τ) ρ x k = m x k := by
  rw [mmU_at _ _ (by omega), mcU_at _ _ (by omega)]
theorem PyF_cu {m : Mem} {τ ρ : rS} {ms : List (Nat × Nat)} (R : RdC τ ms) (Q : RdR ρ ms) : PyF (mmU (mcU m τ) ρ) ms := by
  have e1 : ∀ k, mmU (mcU m τ) ρ 133 k = rI τ 33 k := fun k => by
    rw [mmU_at _ _ (by omega)]
    unfold mcU
    rw [if_pos rfl]
  have e2 : ∀ k, mmU (mcU m τ) ρ 134 k = rI τ 34 k := fun k => by
    rw [mmU_at _ _ (by omega)]
    unfold mcU
    rw [if_neg (by decide), if_pos rfl]
  have e3 : mmU (mcU m τ) ρ 67 200 = rI τ 31 4 := by
    rw [mmU_at _ _ (by omega)]
    unfold mcU
    rw [if_neg (by decide), if_neg (by decide), if_pos ⟨rfl, rfl⟩]
  have e4 : ∀ x k, (x = 87 ∨ x = 88 ∨ (x = 67 ∧ k = 37)) → mmU (mcU m τ) ρ x k = rI ρ x k := fun x k h => by
    unfold mmU
    rw [if_pos h]
  refine ⟨⟨by rw [e3]; exact R.1, fun i d hi => ?_⟩, by rw [e4 67 37 (by omega)]; exact Q.1, fun i d hi => ?_⟩
  · rw [e1, e2]; exact R.2 i d hi
  · rw [e4 87 i (by omega), e4 88 i (by omega)]; exact Q.2 i d hi
theorem RdR_mk (σ : rS) (ms : List (Nat × Nat)) : ∃ ρ : rS, RdR ρ ms := by
  refine ⟨rowI (rowI (wI σ 67 37 (nI ms.length)) 87 (fun i => match ms[i]? with | some d => leS d.1 | none => 0)) 88 (fun i => match ms[i]? with | some d => nI d.2 | none => 0), ?_, fun i d hi => ⟨?_, fun _ => ?_⟩⟩
  · rw [q_rI, if_neg (by decide), q_rI, if_neg (by decide), fld_eq, if_pos ⟨rfl, rfl⟩]
  · rw [q_rI, if_neg (by decide), q_rI, if_pos rfl, hi]
  · rw [q_rI, if_pos rfl, hi]
