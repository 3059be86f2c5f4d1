/-! cutsAnew and alone -/
theorem CI_E48 {σ τ : rS} {B : Bd} {E : List Ent} {dl : Option (Nat × Nat × Nat)} {m : Mem} {l : Nat → Int64} {ch : Nat} (H : CI σ B E dl m l ch) (f : E48 σ τ) : CI τ B E dl m l ch := CI_48 H ⟨f.1, f.2.1, f.2.2.1, f.2.2.2.1, fun x j a => f.2.2.2.2 x j (by omega)⟩
theorem tot_tjB (B : Bd) : tot (tjB B) = natSum (bT B) 52 + natSum (bJ B) 52 := by
  unfold tot
  rw [← natSum_plus]
  exact natSum_congr fun k hk => if_pos hk
/-- no kind that the rules leave out lies on the table -/
def AbT (B : Bd) (hh : Nat) : Prop := ∀ k, k < 52 → hh ≤ k % 13 → tjB B k = 0
theorem tjB_t2 {B : Bd} (o : OkT B) : natSum (bT B) 52 + natSum (bJ B) 52 ≤ 104 := by
  rw [← tot_tjB]
  exact natSum_le (B := 2) fun k _ => tjB_le o k
theorem cAlone_eq {σ : rS} {B : Bd} {E : List Ent} {dl : Option (Nat × Nat × Nat)} {m : Mem} {l : Nat → Int64} {ch hh L jk ml pn n : Nat} (C : CI σ B E dl m l ch) (o : OkT B) (r : RuM m hh L jk ml pn n) (K : KcI σ B m hh L ch) : ∃ v τ, f_X10_findAlone σ = some (v, τ) ∧ CI τ B E dl m l ch ∧ FrCl σ τ ∧ KcI τ B m hh L ch ∧ ∀ kk, kk < 52 → (hb v kk ↔ aloP B hh L kk) := by
  unfold f_X10_findAlone
  rw [CI_ch C]
  by_cases c : rI σ 3 16 = nI ch
  · rw [if_pos c]
    exact ⟨_, σ, rfl, C, FrCl.rf σ, K, K.2.1.2 c⟩
  · rw [if_neg c]
    obtain ⟨σ1, a1, a2, a3, a4⟩ := takeTable_eq C o
    obtain ⟨σ2, n2, v, b1, b2, b3, b4, b5, b6, b7⟩ := go_extra a2.2.2.2.2.2.1 (CI_Ru a2 r) a3
    have D := CI_O a2 b3 b4
    have F0 : FrCl σ σ2 := (FrCl_48 a4).tr (FrCl_O a2.2.2.2.2.2.1 b4)
    have k0 : FrK σ σ2 := (FrK_48 a4).tr (FrK_O b4)
    have en : (if nI n2 ≤ 0 then (some (.inr (0 : Int64))) else (if inB 0 ((rK σ2 (rR σ2 (rR σ2 37 5) 0)).2) then (some (.inr (rL σ2 (rR σ2 (rR σ2 37 5) 1) (0 : Int32).toNatClampNeg))) else none) : Option ((Int64 × rS) ⊕ Int64)) = some (.inr v) := by
      have c0 : (nI n2 ≤ 0) = (n2 = 0) := nI_le0 (by omega)
      simp only [c0]
      by_cases z : n2 = 0
      · rw [if_pos z]; rw [if_pos z] at b6; rw [b6]
      · rw [if_neg z, if_pos b5]; rw [if_neg z] at b6; rw [← b6]; rfl
    have D3 := CI_317 D v
    have W : FrX WKc (wL σ2 3 17 v) (wI (wL σ2 3 17 v) 3 16 (nI ch)) := FrX.w _ _ (by omega)
    have e17 : rL (wI (wL σ2 3 17 v) 3 16 (nI ch)) 3 17 = v := by
      show rL (wL σ2 3 17 v) 3 17 = v
      rw [q_LL, if_pos ⟨rfl, rfl⟩]
    refine ⟨v, wI (wL σ2 3 17 v) 3 16 (nI ch), ?_, CI_Kc D3 W, (F0.tr (FrCl_317 σ2 v)).tr (FrCl_X W fun x j w => by omega), ⟨?_, ?_, KpI_fr K.2.2 (fun j => ?_) fun j => ?_⟩, b7⟩
    · rw [a1, oB_some, CI_h a2 r, b1, oB_some, en, oJ_inr, oLet_eq, CI_ch D3, oLet_eq, e17]
    · have g : ∀ j, 12 ≤ j → j ≤ 15 → rI (wI (wL σ2 3 17 v) 3 16 (nI ch)) 3 j = rI σ 3 j := fun j h1 h2 => by
        rw [fld_eq, if_neg (by omega)]
        exact k0.1 j h1 (by omega)
      have := K.1
      unfold KuI at *
      rw [g 12 (by decide) (by decide), g 13 (by decide) (by decide), g 14 (by decide) (by decide), g 15 (by decide) (by decide)]
      exact this
    · exact ⟨by rw [fld_eq, if_pos ⟨rfl, rfl⟩]; exact StI_now ch, fun _ => by rw [e17]; exact b7⟩
    · rw [fld_eq, if_neg (by omega)]; exact k0.2.2.1 j
    · rw [fld_eq, if_neg (by omega)]; exact k0.2.2.2 j
