/-! a round's end: the reference -/
theorem MI_30 {σ : rS} {B : Bd} {E : List Ent} {m : Mem} {l : Nat → Int64} (M : MI σ B E m l) (hd : bD B = []) : MI (wI σ 67 30 0) B E m l := by
  have b := MbQ_D M.1 [] (bD B) rfl
  have f3 : FrX WBE σ (wI σ 67 30 0) := FrX.w _ _ (by omega)
  have g := MeR_fr M.2.1 (FrX.w (W := fun x j => x = 67 ∧ j = 30) σ 0 ⟨rfl, rfl⟩ : FrX _ _ (wI σ 67 30 0)) (fun x j a b => by omega)
  have e : MbR (wI σ 67 30 0) B := by
    show MbQ (wI σ 67 30 0) (bP B) (bR B) (bT B) (bJ B) (bD B) (bF B) (bX B)
    rw [hd]
    exact b
  exact MI_BE M e g f3
theorem climb_m {Q : Type} {σ : rS} {B : Bd} {E : List Ent} {m : Mem} {l : Nat → Int64} {j w : Nat} (M : MI σ B E m l) (hj : j < 4) : ∃ τ, ((if nI j ≤ 0 then (some (.inr σ)) else (if inB (nI j - 1) 4 then (if inB (nI j) 4 then (oLet (wI σ 74 (nI j : Int32).toNatClampNeg (rI σ 74 (nI j - 1 : Int32).toNatClampNeg)) fun σ14 => oLet (wI σ14 74 (nI j - 1 : Int32).toNatClampNeg (nI w)) fun σ15 => some (.inr σ15)) else none) else none)) : Option (Q ⊕ rS)) = some (.inr τ) ∧ MI τ B E (clM m j w) l ∧ FrX (fun x _ => x = 74) σ τ := by
  have c0 : (nI j ≤ 0) = (j ≤ 0) := propext (nI_leI (b := 0) (by omega) (by omega))
  simp only [c0]
  unfold clM
  by_cases j0 : j = 0
  · rw [if_pos (by omega), if_pos j0]
    exact ⟨σ, rfl, M, FrX.rf _ σ⟩
  · rw [if_neg (by omega), if_neg j0, nI_s1 (by omega), if_pos (inB_nI (by decide) (by omega)), if_pos (inB_nI (by decide) (by omega)), nI_clamp (by omega), nI_clamp (by omega), oLet_eq, oLet_eq, M.2.2.1 74 (j - 1) (by omega)]
    exact ⟨_, rfl, MI_w (MI_w M (a := 74) (k := j) (by omega) _) (a := 74) (k := j - 1) (by omega) (nI w), (FrX.w (W := fun x _ => x = 74) _ _ rfl).tr (FrX.w (W := fun x _ => x = 74) _ _ rfl)⟩
theorem mRoundEnds_eq {σ : rS} {B : Bd} {E : List Ent} {m : Mem} {l : Nat → Int64} {n j w : Nat} (M : MI σ B E m l) (hd : bD B = []) (hn : m 67 6 = nI n) (hn4 : n ≤ 4) (hw : w < n) (hj : j < n) (h1 : m 74 j = nI w) (h2 : ∀ i, i < j → ¬ m 74 i = nI w) : ∃ τ, f_X11_roundEnds σ (nI w) = some ((), τ) ∧ MI τ B E (erM m (bR B) w n j) l ∧ FrRf σ τ ∧ rI τ 67 0 = rI σ 67 0 := by
  obtain ⟨τ, a1, A, Fr⟩ := mRound_loop M hn hn4 hw
  have p1 := mplace_eq (j := j) (q := w) A (by omega) (by rw [roM_at _ _ _ _ (by decide), h1]) (fun i hi => by rw [roM_at _ _ _ _ (by decide)]; exact h2 i hi)
  obtain ⟨τ2, b1, b2, b3⟩ := climb_m (Q := Unit × rS) (w := w) (j := j) A (by omega)
  have q73 : rI τ2 73 w = m 73 w := (b2.2.2.1 73 w (by omega)).trans ((clM_74 _ _ _ (by decide)).trans (roM_at _ _ _ _ (by decide)))
  have A1 := MI_w b2 (a := 73) (k := w) (by omega) (m 73 w + 1)
  have q26 : rI (wI τ2 73 w (m 73 w + 1)) 67 26 = m 67 26 := by
    rw [A1.2.2.1 67 26 (by omega), up2_at, if_neg (by omega), clM_74 _ _ _ (by decide), roM_at _ _ _ _ (by decide)]
  have A2 := MI_w A1 (a := 67) (k := 26) (by omega) (m 67 26 + 1)
  have A3 := MI_w A2 (a := 67) (k := 27) (by omega) (nI w)
  have A4 := MI_w A3 (a := 67) (k := 24) (by omega) (-1)
  have A5 := MI_30 A4 hd
  have F : FrX (fun x j => x = 70 ∨ x = 73 ∨ x = 74 ∨ (x = 67 ∧ (j = 24 ∨ j = 26 ∨ j = 27 ∨ j = 30))) σ (wI (wI (wI (wI (wI τ2 73 w (m 73 w + 1)) 67 26 (m 67 26 + 1)) 67 27 (nI w)) 67 24 (-1)) 67 30 0) :=
    (((((((Fr.mono fun x j e => by omega).tr (b3.mono fun x j e => by omega)).tr (FrX.w _ _ (by omega))).tr (FrX.w _ _ (by omega))).tr (FrX.w _ _ (by omega))).tr (FrX.w _ _ (by omega))).tr (FrX.w _ _ (by omega)))
  refine ⟨_, ?_, A5, FrRf_X F fun x j e => by omega, F.2.2.2.2 67 0 (by omega)⟩
  unfold f_X11_roundEnds
  rw [a1, oJ_inr, p1, Option.bind_some, b1, oJ_inr, if_pos (inB_nI (by decide) (by omega)), nI_clamp (by omega), q73, oLet_eq, q26, oLet_eq, oLet_eq, oLet_eq, oLet_eq]
