/-! may a turn end: the reference -/
theorem zero91_eq {σ : rS} (h92 : ∀ k, k < 52 → rI σ 92 k = nI 0) : ∃ τ, oLoop b_X11_mayEnd_55 oFuel (0, σ) = some (.inr τ) ∧ (∀ k, k < 52 → rI τ 91 k = nI 0 ∧ rI τ 92 k = nI 0) ∧ FrX W91 σ τ := by
  obtain ⟨x, b1, b2⟩ := oL_ix (body := b_X11_mayEnd_55) (fun k s => s.1 = nI k ∧ (∀ i, i < k → rI s.2 91 i = nI 0) ∧ (∀ i, i < 52 → rI s.2 92 i = nI 0) ∧ FrX W91 σ s.2) (N := 52) (fun x => ∃ τ, x = .inr τ ∧ (∀ k, k < 52 → rI τ 91 k = nI 0 ∧ rI τ 92 k = nI 0) ∧ FrX W91 σ τ) (by
      intro k s hk ⟨e, A, A2, Fr⟩
      obtain ⟨s1, σ'⟩ := s
      dsimp only at e A A2 Fr
      subst e
      refine ⟨(nI (k + 1), wI σ' 91 k (nI 0)), ?_, rfl, fun i hi => ?_, fun i hi => ?_, Fr.tr (FrX.w _ _ (by omega))⟩
      · unfold b_X11_mayEnd_55
        dsimp only
        rw [if_neg (show ¬ (52 : Int32) ≤ nI k from fun z => by have := (nI_leI (a := 52) (by omega) (by omega)).mp z; omega), if_pos (inB_nI (by decide) hk), nI_clamp (by omega), oLet_eq, nI_1]
        rfl
      · show rI (wI σ' 91 k (nI 0)) 91 i = _
        rw [fld_eq]
        by_cases c : i = k
        · rw [if_pos ⟨rfl, c⟩]
        · rw [if_neg (fun z => c z.2)]; exact A i (by omega)
      · show rI (wI σ' 91 k (nI 0)) 92 i = _
        rw [fld_eq, if_neg (by omega)]; exact A2 i hi)
    (by
      intro s ⟨e, A, A2, Fr⟩
      obtain ⟨s1, σ'⟩ := s
      dsimp only at e A A2 Fr
      subst e
      exact ⟨_, by unfold b_X11_mayEnd_55; rw [if_pos (show (52 : Int32) ≤ nI 52 by decide)], σ', rfl, fun k hk => ⟨A k hk, A2 k hk⟩, Fr⟩)
    (n := oFuel) (by rw [oFuel_eq]; decide) (s := (0, σ)) ⟨rfl, fun i hi => absurd hi (Nat.not_lt_zero i), h92, FrX.rf _ σ⟩
  obtain ⟨τ, rfl, A, Fr⟩ := b2
  exact ⟨τ, b1, A, Fr⟩
theorem laid_eq {σ : rS} {B : Bd} {E : List Ent} {m : Mem} {l : Nat → Int64} (M : MI σ B E m l) (hz : ∀ k, k < 52 → rI σ 91 k = nI 0 ∧ rI σ 92 k = nI 0) (hl : (bD B).length ≤ 64) (hd : ∀ d ∈ bD B, d.1 ≤ 3 ∧ d.2 < 52) : ∃ τ, oLoop b_X11_mayEnd_76 oFuel (0, 0, σ) = some (.inr (nI (laW (bD B)), τ)) ∧ (∀ k, k < 52 → rI τ 91 k = nI (lcB (bD B) k) ∧ rI τ 92 k = nI 0) ∧ FrX W91 σ τ := by
  obtain ⟨x, b1, b2⟩ := oL_ix (body := b_X11_mayEnd_76) (fun i s => s.1 = nI (laW ((bD B).take i)) ∧ s.2.1 = nI i ∧ (∀ k, k < 52 → rI s.2.2 91 k = nI (lcB ((bD B).take i) k) ∧ rI s.2.2 92 k = nI 0) ∧ FrX W91 σ s.2.2) (N := (bD B).length) (fun x => ∃ τ, x = .inr (nI (laW (bD B)), τ) ∧ (∀ k, k < 52 → rI τ 91 k = nI (lcB (bD B) k) ∧ rI τ 92 k = nI 0) ∧ FrX W91 σ τ) (by
      intro i s hi ⟨e1, e2, A, Fr⟩
      obtain ⟨s1, s2, σ'⟩ := s
      dsimp only at e1 e2 A Fr
      subst e1 e2
      have M' := MI_91 M Fr
      obtain ⟨d, hid⟩ : ∃ d, (bD B)[i]? = some d := ⟨_, List.getElem?_eq_getElem hi⟩
      have hm := hd d (List.mem_of_getElem? hid)
      have t := M'.1.2.2.2.2.1.2 i d hid
      have F1 : FrX W91 σ' (wI σ' 91 d.2 (nI (lcB ((bD B).take i) d.2 + 1))) := FrX.w _ _ (by omega)
      have t83 : rI (wI σ' 91 d.2 (nI (lcB ((bD B).take i) d.2 + 1))) 83 i = nI (thS d.1) := by rw [fld_eq, if_neg (by omega)]; exact t.1
      have t84 : rI (wI σ' 91 d.2 (nI (lcB ((bD B).take i) d.2 + 1))) 84 i = nI d.2 := by rw [fld_eq, if_neg (by omega)]; exact t.2
      have ew : (if nI (thS d.1) = 1 then iRem (nI d.2) 13 + 1 else (0 : Int32)) = nI (laW1 d) := by
        unfold laW1
        rw [show (13 : Int32) = nI 13 from rfl, nI_rem (by omega) (by omega), nI_1]
        rcases (show d.1 = 0 ∨ d.1 = 1 ∨ d.1 = 2 ∨ d.1 = 3 by omega) with h | h | h | h <;> rw [h]
        · rw [if_pos (by decide), if_pos rfl]
        · rw [if_neg (by decide), if_neg (by decide)]; rfl
        · rw [if_neg (by decide), if_neg (by decide)]; rfl
        · rw [if_neg (by decide), if_neg (by decide)]; rfl
      refine ⟨(nI (laW ((bD B).take (i + 1))), nI (i + 1), wI σ' 91 d.2 (nI (lcB ((bD B).take i) d.2 + 1))), ?_, rfl, rfl, fun k hk => ⟨?_, ?_⟩, Fr.tr F1⟩
      · unfold b_X11_mayEnd_76
        dsimp only
        rw [M'.1.2.2.2.2.1.1, if_neg (show ¬ nI (bD B).length ≤ nI i from fun z => by have := (nI_leI (by omega) (by omega)).mp z; omega), if_pos (inB_nI (by decide) (by omega)), nI_clamp (by omega), t.2, if_pos (inB_nI (by decide) hm.2), nI_clamp (by omega), (A d.2 hm.2).1, nI_1, oLet_eq, t83, t84, ew, oLet_eq, nI_add, nI_1, take_sn hid, laW_app]
      · show rI (wI σ' 91 d.2 (nI (lcB ((bD B).take i) d.2 + 1))) 91 k = _
        rw [fld_eq, take_lc hid k]
        by_cases c : k = d.2
        · rw [if_pos ⟨rfl, c⟩, if_pos c.symm, c]
        · rw [if_neg (fun z => c z.2), if_neg (fun z => c z.symm), Nat.add_zero]; exact (A k hk).1
      · show rI (wI σ' 91 d.2 (nI (lcB ((bD B).take i) d.2 + 1))) 92 k = _
        rw [fld_eq, if_neg (by omega)]; exact (A k hk).2)
    (by
      intro s ⟨e1, e2, A, Fr⟩
      obtain ⟨s1, s2, σ'⟩ := s
      dsimp only at e1 e2 A Fr
      subst e1 e2
      have M' := MI_91 M Fr
      rw [List.take_of_length_le (Nat.le_refl _)] at A
      exact ⟨.inr (nI (laW (bD B)), σ'), by unfold b_X11_mayEnd_76; dsimp only; rw [M'.1.2.2.2.2.1.1, if_pos (show nI (bD B).length ≤ nI (bD B).length from (nI_leI (by omega) (by omega)).mpr (Nat.le_refl _)), List.take_of_length_le (Nat.le_refl _)], σ', rfl, A, Fr⟩)
    (n := oFuel) (by rw [oFuel_eq]; omega) (s := (0, 0, σ)) ⟨rfl, rfl, fun k hk => hz k hk, FrX.rf _ σ⟩
  obtain ⟨τ, rfl, A, Fr⟩ := b2
  exact ⟨τ, b1, A, Fr⟩
