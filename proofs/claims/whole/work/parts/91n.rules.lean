/-! rules -/
def zB (X : Nat) : Bd := (fun _ => 0, fun _ => 0, fun _ => 0, fun _ => 0, [], 0, X)
theorem cclear_eq {σ : rS} {B : Bd} {E : List Ent} {dl : Option (Nat × Nat × Nat)} {m : Mem} {l : Nat → Int64} {ch : Nat} (C : CI σ B E dl m l ch) : ∃ τ, f_X1_clear σ 5 = some ((), τ) ∧ CI τ (zB (bX B)) E dl m l (ch + 1) ∧ FrX WL σ τ := by
  obtain ⟨τ, a1, a2, a3⟩ := clear_eq C.1
  exact ⟨τ, a1, CI_B C (BQ_cg a2 (fun _ _ => rfl) (fun _ _ => rfl) (fun _ _ => by show 0 = natSum (fun _ => 0) 53; decide) (fun _ _ => rfl) (fun _ _ => rfl) rfl (by show 0 = natSum (fun _ => 0) 53; decide) (by show 0 = natSum (fun _ => 0) 52 + natSum (fun _ => 0) 52; decide) (by show 0 = natSum (fun _ => 0) 52; decide) rfl rfl rfl) a3, FrX_B a3⟩
theorem CI_c0 {σ : rS} {B : Bd} {E : List Ent} {dl : Option (Nat × Nat × Nat)} {m : Mem} {l : Nat → Int64} {ch : Nat} (C : CI σ B E dl m l ch) : CI (wI (wI σ 35 1 0) 35 2 0) B [] none m l ch := by
  obtain ⟨h1, h2, h3, h4, h5, h6, B2, c2, h7⟩ := C
  have q : ∀ x j, x ≠ 35 → rI (wI (wI σ 35 1 0) 35 2 0) x j = rI σ x j := fun x j a => by rw [fld_eq, if_neg (by omega), fld_eq, if_neg (by omega)]
  refine ⟨BQ_fr h1 fun x j a b => q x j (by omega), ⟨by rw [fld_eq, if_neg (by omega), fld_eq, if_pos ⟨rfl, rfl⟩]; rfl, fun i e hi => by simp at hi⟩, by show rI _ 35 2 = 0; rw [fld_eq, if_pos ⟨rfl, rfl⟩], fun x j d => (q x j (by omega)).trans (h4 x j d), h5, ClI_fr h6 ⟨rfl, rfl, rfl, fun x j a => q x j (by omega), fun _ _ _ => rfl⟩, B2, c2, BQ_fr h7 fun x j a b => q x j (by omega)⟩
theorem empties_eq {σ : rS} {B : Bd} {E : List Ent} {m : Mem} {l : Nat → Int64} (M : MI σ B E m l) : ∃ τ, f_X11_empties σ = some ((), τ) ∧ MI τ (zB (bX B)) [] m l ∧ FrX WBE σ τ := by
  obtain ⟨x1, a1, a2⟩ := oL_ix (body := b_X11_empties_2) (fun k s => s.1 = nI k ∧ MbQ s.2 (bP B) (fun i => if i < k then 0 else bR B i) (bT B) (bJ B) (bD B) (bF B) (bX B) ∧ FrX WBE σ s.2) (N := 212) (fun x => ∃ τ, x = .inr τ ∧ MbQ τ (bP B) (fun _ => 0) (bT B) (bJ B) (bD B) (bF B) (bX B) ∧ FrX WBE σ τ) (by
      intro k s hk ⟨e, A, Fr⟩
      obtain ⟨s1, σ'⟩ := s
      dsimp only at e A Fr
      subst e
      refine ⟨(nI (k + 1), wI σ' 79 k (nI 0)), ?_, rfl, MbQ_cg (MbQ_R A k 0) (fun _ _ => rfl) (fun i _ => ?_) (fun _ _ => rfl) (fun _ _ => rfl) rfl rfl rfl, Fr.tr (FrX.w _ _ (by omega))⟩
      · unfold b_X11_empties_2
        dsimp only
        rw [if_neg (show ¬ (212 : Int32) ≤ nI k from fun z => by have := (nI_leI (a := 212) (by omega) (by omega)).mp z; omega), if_pos (inB_nI (by decide) hk), nI_clamp (by omega), oLet_eq, nI_1]
        rfl
      · rw [up1_at]
        by_cases c : i = k
        · rw [if_pos c, if_pos (by omega)]
        · rw [if_neg c]
          by_cases c2 : i < k
          · rw [if_pos c2, if_pos (by omega)]
          · rw [if_neg c2, if_neg (by omega)])
    (by
      intro s ⟨e, A, Fr⟩
      obtain ⟨s1, σ'⟩ := s
      dsimp only at e A Fr
      subst e
      exact ⟨_, by unfold b_X11_empties_2; rw [if_pos (show (212 : Int32) ≤ nI 212 by decide)], σ', rfl, MbQ_cg A (fun _ _ => rfl) (fun i hi => by rw [if_pos hi]) (fun _ _ => rfl) (fun _ _ => rfl) rfl rfl rfl, Fr⟩)
    (n := oFuel) (by rw [oFuel_eq]; decide) (s := (0, σ)) ⟨rfl, MbQ_cg M.1 (fun _ _ => rfl) (fun i _ => by rw [if_neg (by omega)]) (fun _ _ => rfl) (fun _ _ => rfl) rfl rfl rfl, FrX.rf _ σ⟩
  obtain ⟨σ1, rfl, A1, F1⟩ := a2
  obtain ⟨x2, b1, b2⟩ := oL_ix (body := b_X11_empties_24) (fun k s => s.1 = nI k ∧ MbQ s.2 (fun i => if i < k then 0 else bP B i) (fun _ => 0) (fun i => if i < k then 0 else bT B i) (fun i => if i < k then 0 else bJ B i) (bD B) (bF B) (bX B) ∧ FrX WBE σ s.2) (N := 52) (fun x => ∃ τ, x = .inr τ ∧ MbQ τ (fun i => if i < 52 then 0 else bP B i) (fun _ => 0) (fun _ => 0) (fun _ => 0) (bD B) (bF B) (bX B) ∧ FrX WBE σ τ) (by
      intro k s hk ⟨e, A, Fr⟩
      obtain ⟨s1, σ'⟩ := s
      dsimp only at e A Fr
      subst e
      have up : ∀ f : Nat → Nat, ∀ i, up1 (fun i => if i < k then 0 else f i) k 0 i = if i < k + 1 then 0 else f i := fun f i => by
        rw [up1_at]
        by_cases c : i = k
        · rw [if_pos c, if_pos (by omega)]
        · rw [if_neg c]
          by_cases c2 : i < k
          · rw [if_pos c2, if_pos (by omega)]
          · rw [if_neg c2, if_neg (by omega)]
      refine ⟨(nI (k + 1), wI (wI (wI σ' 80 k (nI 0)) 81 k (nI 0)) 82 k (nI 0)), ?_, rfl, MbQ_cg (MbQ_P (MbQ_J (MbQ_T A k 0) k 0) k 0) (fun i _ => up _ i) (fun _ _ => rfl) (fun i _ => up _ i) (fun i _ => up _ i) rfl rfl rfl, ((Fr.tr (FrX.w _ _ (by omega))).tr (FrX.w _ _ (by omega))).tr (FrX.w _ _ (by omega))⟩
      unfold b_X11_empties_24
      dsimp only
      rw [if_neg (show ¬ (52 : Int32) ≤ nI k from fun z => by have := (nI_leI (a := 52) (by omega) (by omega)).mp z; omega), if_pos (inB_nI (by decide) hk), nI_clamp (by omega), oLet_eq, oLet_eq, if_pos (inB_nI (by decide) (by omega)), oLet_eq, nI_1]
      rfl)
    (by
      intro s ⟨e, A, Fr⟩
      obtain ⟨s1, σ'⟩ := s
      dsimp only at e A Fr
      subst e
      exact ⟨_, by unfold b_X11_empties_24; rw [if_pos (show (52 : Int32) ≤ nI 52 by decide)], σ', rfl, MbQ_cg A (fun _ _ => rfl) (fun _ _ => rfl) (fun i hi => by rw [if_pos hi]) (fun i hi => by rw [if_pos hi]) rfl rfl rfl, Fr⟩)
    (n := oFuel) (by rw [oFuel_eq]; decide) (s := (0, σ1)) ⟨rfl, MbQ_cg A1 (fun i _ => by rw [if_neg (by omega)]) (fun _ _ => rfl) (fun i _ => by rw [if_neg (by omega)]) (fun i _ => by rw [if_neg (by omega)]) rfl rfl rfl, F1⟩
  obtain ⟨σ2, rfl, A2, F2⟩ := b2
  have A3 := MbQ_P A2 52 0
  have A4 := MbQ_F A3 0
  have A5 := MbQ_D A4 [] (bD B) rfl
  have fr : FrX WBE σ2 (wI (wI (wI (wI σ2 82 52 0) 67 22 0) 67 30 0) 67 32 0) := (((FrX.w _ _ (by omega)).tr (FrX.w _ _ (by omega))).tr (FrX.w _ _ (by omega))).tr (FrX.w _ _ (by omega))
  have A6 : MbR (wI (wI (wI (wI σ2 82 52 0) 67 22 0) 67 30 0) 67 32 0) (zB (bX B)) := MbQ_cg (MbQ_fr A5 (FrX.w (W := fun x j => x = 67 ∧ j = 32) _ 0 ⟨rfl, rfl⟩) (fun x j w => by omega)) (fun k hk => by
      show up1 (fun i => if i < 52 then 0 else bP B i) 52 0 k = 0
      rw [up1_at]
      by_cases c : k = 52
      · rw [if_pos c]
      · rw [if_neg c, if_pos (by omega)]) (fun _ _ => rfl) (fun _ _ => rfl) (fun _ _ => rfl) rfl rfl rfl
  refine ⟨wI (wI (wI (wI σ2 82 52 0) 67 22 0) 67 30 0) 67 32 0, ?_, MI_BE M A6 ⟨by rw [fld_eq, if_pos ⟨rfl, rfl⟩]; rfl, fun i e hi => by simp at hi⟩ (F2.tr fr), F2.tr fr⟩
  unfold f_X11_empties
  rw [a1, oJ_inr, b1, oJ_inr, show (52 : Int32).toNatClampNeg = 52 from rfl, oLet_eq, oLet_eq, oLet_eq, oLet_eq]
