/-! a deal: the reference -/
theorem mFill_eq {σ : rS} {X hh jk : Nat} (M : MbR σ (zB X)) (h1 : rI σ 67 1 = nI hh) (h13 : hh ≤ 13) : ∃ τ, oLoop b_X11_deal_101 oFuel (0, σ) = some (.inr τ) ∧ MbQ τ (fun i => if i < 52 then p0B hh jk i else 0) (fun _ => 0) (fun _ => 0) (fun _ => 0) [] 0 X ∧ FrX (fun x _ => x = 82) σ τ := by
  obtain ⟨x, b1, b2⟩ := oL_ix (body := b_X11_deal_101) (fun k s => s.1 = nI k ∧ MbQ s.2 (fun i => if i < k then p0B hh jk i else 0) (fun _ => 0) (fun _ => 0) (fun _ => 0) [] 0 X ∧ FrX (fun x _ => x = 82) σ s.2) (N := 52) (fun x => ∃ τ, x = .inr τ ∧ MbQ τ (fun i => if i < 52 then p0B hh jk i else 0) (fun _ => 0) (fun _ => 0) (fun _ => 0) [] 0 X ∧ FrX (fun x _ => x = 82) σ τ) (by
      intro k s hk ⟨e, A, Fr⟩
      obtain ⟨s1, σ'⟩ := s
      dsimp only at e A Fr
      subst e
      have q1 : rI σ' 67 1 = nI hh := (Fr.2.2.2.2 67 1 (by omega)).trans h1
      have ev : (if nI hh ≤ iRem (nI k) 13 then (0 : Int32) else 2) = nI (p0B hh jk k) := by
        rw [show (13 : Int32) = nI 13 from rfl, nI_rem (by omega) (by omega)]
        have c : (nI hh ≤ nI (k % 13)) = (hh ≤ k % 13) := propext (nI_leI (by omega) (by omega))
        simp only [c]
        unfold p0B
        rw [if_pos hk]
        split <;> rfl
      refine ⟨(nI (k + 1), wI σ' 82 k (nI (p0B hh jk k))), ?_, rfl, MbQ_cg (MbQ_P A k (p0B hh jk k)) (fun i _ => ?_) (fun _ _ => rfl) (fun _ _ => rfl) (fun _ _ => rfl) rfl rfl rfl, Fr.tr (FrX.w (W := fun x _ => x = 82) _ _ rfl)⟩
      · unfold b_X11_deal_101
        dsimp only
        rw [if_neg (show ¬ (52 : Int32) ≤ nI k from fun z => by have := (nI_leI (a := 52) (by omega) (by omega)).mp z; omega), if_pos (inB_nI (by decide) (by omega)), nI_clamp (by omega), q1, ev, oLet_eq, nI_1]
      · rw [up1_at]
        by_cases c : i = k
        · rw [if_pos c, if_pos (by omega), c]
        · rw [if_neg c]
          by_cases c2 : i < k
          · rw [if_pos c2, if_pos (by omega)]
          · rw [if_neg c2, if_neg (by omega)])
    (by
      intro s ⟨e, A, Fr⟩
      obtain ⟨s1, σ'⟩ := s
      dsimp only at e A Fr
      subst e
      exact ⟨_, by unfold b_X11_deal_101; dsimp only; rw [if_pos (show (52 : Int32) ≤ nI 52 by decide)], σ', rfl, A, Fr⟩)
    (n := oFuel) (by rw [oFuel_eq]; decide) (s := (0, σ)) ⟨rfl, MbQ_cg M (fun i _ => (if_neg (Nat.not_lt_zero i)).symm) (fun _ _ => rfl) (fun _ _ => rfl) (fun _ _ => rfl) rfl rfl rfl, FrX.rf _ σ⟩
  obtain ⟨τ, rfl, A⟩ := b2
  exact ⟨τ, b1, A⟩
theorem mClaims_0 {σ : rS} {B : Bd} {E : List Ent} {m : Mem} {l : Nat → Int64} (M : MI σ B E m l) : ∃ τ, oLoop b_X11_deal_162 oFuel (0, σ) = some (.inr τ) ∧ MI τ B E (fun x k => if x = 78 ∧ k < 208 then 0 else m x k) l ∧ FrX (fun x _ => x = 78) σ τ := by
  obtain ⟨x, b1, b2⟩ := oL_ix (body := b_X11_deal_162) (fun i s => s.1 = nI i ∧ MI s.2 B E (fun x k => if x = 78 ∧ k < i then 0 else m x k) l ∧ FrX (fun x _ => x = 78) σ s.2) (N := 208) (fun x => ∃ τ, x = .inr τ ∧ MI τ B E (fun x k => if x = 78 ∧ k < 208 then 0 else m x k) l ∧ FrX (fun x _ => x = 78) σ τ) (by
      intro i s hi ⟨e, A, Fr⟩
      obtain ⟨s1, σ'⟩ := s
      dsimp only at e A Fr
      subst e
      have A1 := MI_w A (a := 78) (k := i) (by omega) 0
      have e : up2 (fun x k => if x = 78 ∧ k < i then 0 else m x k) 78 i 0 = fun x k => if x = 78 ∧ k < i + 1 then 0 else m x k := by
        funext x k
        rw [up2_at]
        by_cases h : x = 78 ∧ k = i
        · rw [if_pos h, if_pos (by omega)]
        · rw [if_neg h]
          by_cases h2 : x = 78 ∧ k < i
          · rw [if_pos h2, if_pos (by omega)]
          · rw [if_neg h2, if_neg (by omega)]
      rw [e] at A1
      refine ⟨(nI (i + 1), wI σ' 78 i 0), ?_, rfl, A1, Fr.tr (FrX.w (W := fun x _ => x = 78) _ _ rfl)⟩
      unfold b_X11_deal_162
      dsimp only
      rw [if_neg (show ¬ (208 : Int32) ≤ nI i from fun z => by have := (nI_leI (a := 208) (by omega) (by omega)).mp z; omega), if_pos (inB_nI (by decide) hi), nI_clamp (by omega), oLet_eq, nI_1])
    (by
      intro s ⟨e, A, Fr⟩
      obtain ⟨s1, σ'⟩ := s
      dsimp only at e A Fr
      subst e
      exact ⟨_, by unfold b_X11_deal_162; dsimp only; rw [if_pos (show (208 : Int32) ≤ nI 208 by decide)], σ', rfl, A, Fr⟩)
    (n := oFuel) (by rw [oFuel_eq]; decide) (s := (0, σ)) ⟨rfl, by
      have e : (fun x k => if x = 78 ∧ k < 0 then 0 else m x k) = m := by
        funext x k
        rw [if_neg (by omega)]
      rw [e]; exact M, FrX.rf _ σ⟩
  obtain ⟨τ, rfl, A, Fr⟩ := b2
  exact ⟨τ, b1, A, Fr⟩
theorem mSeats_0 {σ : rS} {B : Bd} {E : List Ent} {m : Mem} {l : Nat → Int64} (M : MI σ B E m l) : ∃ τ, oLoop b_X11_deal_187 oFuel (0, σ) = some (.inr τ) ∧ MI τ B E (fun x k => if (x = 72 ∨ x = 76 ∨ x = 77) ∧ k < 4 then 0 else m x k) (deL l) ∧ FrRf σ τ ∧ rI τ 67 0 = rI σ 67 0 := by
  obtain ⟨x, b1, b2⟩ := oL_ix (body := b_X11_deal_187) (fun i s => s.1 = nI i ∧ MI s.2 B E (fun x k => if (x = 72 ∨ x = 76 ∨ x = 77) ∧ k < i then 0 else m x k) (fun j => if j < i then 0 else l j) ∧ FrRf σ s.2 ∧ rI s.2 67 0 = rI σ 67 0) (N := 4) (fun x => ∃ τ, x = .inr τ ∧ MI τ B E (fun x k => if (x = 72 ∨ x = 76 ∨ x = 77) ∧ k < 4 then 0 else m x k) (deL l) ∧ FrRf σ τ ∧ rI τ 67 0 = rI σ 67 0) (by
      intro i s hi ⟨e, A, Fr, z⟩
      obtain ⟨s1, σ'⟩ := s
      dsimp only at e A Fr z
      subst e
      have A1 := MI_w A (a := 72) (k := i) (by omega) 0
      have A2 := MI_l (p := i) A1 0
      have A4 := MI_w (MI_w A2 (a := 76) (k := i) (by omega) 0) (a := 77) (k := i) (by omega) 0
      have e : up2 (up2 (up2 (fun x k => if (x = 72 ∨ x = 76 ∨ x = 77) ∧ k < i then 0 else m x k) 72 i 0) 76 i 0) 77 i 0 = fun x k => if (x = 72 ∨ x = 76 ∨ x = 77) ∧ k < i + 1 then 0 else m x k := by
        funext x k
        rw [up2_at, up2_at, up2_at]
        by_cases hx : x = 72 ∨ x = 76 ∨ x = 77
        · by_cases hk : k = i
          · rw [if_pos (c := (x = 72 ∨ x = 76 ∨ x = 77) ∧ k < i + 1) ⟨hx, by rw [hk]; exact Nat.lt_succ_self i⟩]
            rcases hx with rfl | rfl | rfl
            · rw [if_neg (fun z => absurd z.1 (by decide)), if_neg (fun z => absurd z.1 (by decide)), if_pos ⟨rfl, hk⟩]
            · rw [if_neg (fun z => absurd z.1 (by decide)), if_pos ⟨rfl, hk⟩]
            · rw [if_pos ⟨rfl, hk⟩]
          · rw [if_neg (fun z => hk z.2), if_neg (fun z => hk z.2), if_neg (fun z => hk z.2)]
            by_cases h2 : k < i
            · rw [if_pos ⟨hx, h2⟩, if_pos ⟨hx, Nat.lt_succ_of_lt h2⟩]
            · rw [if_neg (fun z => h2 z.2), if_neg (fun z => h2 (Nat.lt_of_le_of_ne (Nat.le_of_lt_succ z.2) hk))]
        · rw [if_neg (fun z => hx (Or.inr (Or.inr z.1))), if_neg (fun z => hx (Or.inr (Or.inl z.1))), if_neg (fun z => hx (Or.inl z.1)), if_neg (fun z => hx z.1), if_neg (fun z => hx z.1)]
      have el : upL (fun j => if j < i then 0 else l j) i 0 = fun j => if j < i + 1 then 0 else l j := by
        funext j
        unfold upL
        by_cases h : j = i
        · rw [if_pos h, if_pos (by omega)]
        · rw [if_neg h]
          show (if j < i then 0 else l j) = if j < i + 1 then 0 else l j
          by_cases h2 : j < i
          · rw [if_pos h2, if_pos (by omega)]
          · rw [if_neg h2, if_neg (by omega)]
      rw [e, el] at A4
      refine ⟨(nI (i + 1), wI (wI (wL (wI σ' 72 i 0) 75 i 0) 76 i 0) 77 i 0), ?_, rfl, A4, (((Fr.tr (FrRf_w (by omega) _)).tr (FrRf_75 _ _ _)).tr (FrRf_w (by omega) _)).tr (FrRf_w (by omega) _), ?_⟩
      · unfold b_X11_deal_187
        dsimp only
        rw [if_neg (show ¬ (4 : Int32) ≤ nI i from fun z => by have := (nI_leI (a := 4) (by omega) (by omega)).mp z; omega), if_pos (inB_nI (by decide) hi), nI_clamp (by omega), oLet_eq, oLet_eq, oLet_eq, oLet_eq, nI_1]
      · show rI (wI (wI (wL (wI σ' 72 i 0) 75 i 0) 76 i 0) 77 i 0) 67 0 = _
        rw [fld_eq, if_neg (by omega), fld_eq, if_neg (by omega)]
        show rI (wI σ' 72 i 0) 67 0 = _
        rw [fld_eq, if_neg (by omega), z])
    (by
      intro s ⟨e, A, Fr, z⟩
      obtain ⟨s1, σ'⟩ := s
      dsimp only at e A Fr z
      subst e
      exact ⟨_, by unfold b_X11_deal_187; dsimp only; rw [if_pos (show (4 : Int32) ≤ nI 4 by decide)], σ', rfl, A, Fr, z⟩)
    (n := oFuel) (by rw [oFuel_eq]; decide) (s := (0, σ)) ⟨rfl, by
      have e : (fun x k => if (x = 72 ∨ x = 76 ∨ x = 77) ∧ k < 0 then 0 else m x k) = m := by
        funext x k
        rw [if_neg (by omega)]
      have el : (fun j => if j < 0 then 0 else l j) = l := by
        funext j
        rw [if_neg (by omega)]
      rw [e, el]; exact M, FrRf.rf σ, rfl⟩
  obtain ⟨τ, rfl, A⟩ := b2
  exact ⟨τ, b1, A⟩
