/-! a deal: the class -/
def deM (m : Mem) (n : Nat) (c : Int32) : Mem := fun x k => if x = 71 ∧ k < n then c else if (x = 72 ∨ x = 76 ∨ x = 77) ∧ k < 4 then 0 else if x = 78 ∧ k < 208 then 0 else if x = 67 ∧ (k = 24 ∨ k = 25) then 0 else m x k
def deL (l : Nat → Int64) : Nat → Int64 := fun j => if j < 4 then 0 else l j
def de0 (m : Mem) (n : Nat) (c : Int32) : Mem := fun x k => if x = 71 ∧ k < n then c else if (x = 72 ∨ x = 76 ∨ x = 77) ∧ k < 4 then 0 else if x = 78 ∧ k < 208 then 0 else m x k
theorem de0_67 (m : Mem) (n : Nat) (c : Int32) (k : Nat) : de0 m n c 67 k = m 67 k := by
  unfold de0
  rw [if_neg (fun z => absurd z.1 (by decide)), if_neg (fun z => absurd z.1 (by decide)), if_neg (fun z => absurd z.1 (by decide))]
theorem cClk_loop {σ : rS} {B : Bd} {E : List Ent} {dl : Option (Nat × Nat × Nat)} {m : Mem} {l : Nat → Int64} {ch n : Nat} (C : CI σ B E dl m l ch) (hn : m 67 6 = nI n) (hn4 : n ≤ 4) (c : Int32) : ∃ τ, oLoop (b_X6_startRound_2 c) oFuel (0, σ) = some (.inr τ) ∧ CI τ B E dl (fun x k => if x = 71 ∧ k < n then c else m x k) l ch ∧ FrX (fun x _ => x = 23) σ τ := by
  obtain ⟨x, b1, b2⟩ := oL_ix (body := b_X6_startRound_2 c) (fun i s => s.1 = nI i ∧ CI s.2 B E dl (fun x k => if x = 71 ∧ k < i then c else m x k) l ch ∧ FrX (fun x _ => x = 23) σ s.2) (N := n) (fun x => ∃ τ, x = .inr τ ∧ CI τ B E dl (fun x k => if x = 71 ∧ k < n then c else m x k) l ch ∧ FrX (fun x _ => x = 23) σ τ) (by
      intro i s hi ⟨e, A, Fr⟩
      obtain ⟨s1, σ'⟩ := s
      dsimp only at e A Fr
      subst e
      have q19 : rI σ' 19 0 = nI n := by
        rw [CI_4 A (x := 19) (j := 0) (by omega)]
        show (if (67 : Nat) = 71 ∧ 6 < i then c else m 67 6) = nI n
        rw [if_neg (by omega), hn]
      have A1 := CI_w A (a := 23) (k := i) (by omega) c
      have e : up2 (fun x k => if x = 71 ∧ k < i then c else m x k) (cx 23) (cj 23 i) c = fun x k => if x = 71 ∧ k < i + 1 then c else m x k := by
        funext x k
        show (if x = 71 ∧ k = i then c else if x = 71 ∧ k < i then c else m x k) = _
        by_cases h : x = 71 ∧ k = i
        · rw [if_pos h, if_pos (by omega)]
        · rw [if_neg h]
          by_cases h2 : x = 71 ∧ k < i
          · rw [if_pos h2, if_pos (by omega)]
          · rw [if_neg h2, if_neg (by omega)]
      rw [e] at A1
      refine ⟨(nI (i + 1), wI σ' 23 i c), ?_, rfl, A1, Fr.tr (FrX.w (W := fun x _ => x = 23) _ _ rfl)⟩
      unfold b_X6_startRound_2
      dsimp only
      rw [q19, if_neg (show ¬ nI n ≤ nI i from fun z => by have := (nI_leI (by omega) (by omega)).mp z; omega), vSet_nI (by decide) (by omega), row_w, oLet_eq, nI_1])
    (by
      intro s ⟨e, A, Fr⟩
      obtain ⟨s1, σ'⟩ := s
      dsimp only at e A Fr
      subst e
      have q19 : rI σ' 19 0 = nI n := by
        rw [CI_4 A (x := 19) (j := 0) (by omega)]
        show (if (67 : Nat) = 71 ∧ 6 < n then c else m 67 6) = nI n
        rw [if_neg (by omega), hn]
      exact ⟨.inr σ', by unfold b_X6_startRound_2; dsimp only; rw [q19, if_pos (show nI n ≤ nI n from (nI_leI (by omega) (by omega)).mpr (Nat.le_refl _))], σ', rfl, A, Fr⟩)
    (n := oFuel) (by rw [oFuel_eq]; omega) (s := (0, σ)) ⟨rfl, by
      have e : (fun x k => if x = 71 ∧ k < 0 then c else m x k) = m := by
        funext x k
        rw [if_neg (by omega)]
      rw [e]; exact C, FrX.rf _ σ⟩
  obtain ⟨τ, rfl, A, Fr⟩ := b2
  exact ⟨τ, b1, A, Fr⟩
theorem cDeal_eq {σ : rS} {B : Bd} {E : List Ent} {dl : Option (Nat × Nat × Nat)} {m : Mem} {l : Nat → Int64} {ch hh L jk ml pn n sd each : Nat} {c : Int32} (C : CI σ B E dl m l ch) (r : RuM m hh L jk ml pn n) (hs : sd < 65536) (he : each ≤ 14) : ∃ τ c2, (oB (f_X6_startRound σ c) fun _ σ2 => oB (f_X2_startRound σ2 (nI sd) (nI each) (rI σ2 19 0)) fun _ σ4 => oB (f_X1_dealOut σ4 5 (nI sd) (nI each) (rI σ4 19 0)) fun _ σ6 => oLet (wI σ6 3 9 0) fun σ7 => oLet (wI σ7 3 8 0) fun σ8 => (some ((.inl (rI σ8 5 7), σ8)) : Option ((Int32 ⊕ String) × rS))) = some (.inl (nI (natSum (bP (deB each n (b0B hh jk sd))) 53)), τ) ∧ CI τ (deB each n (b0B hh jk sd)) [] (some (sd, each, n)) (deM m n c) (deL l) c2 ∧ ch + 1 ≤ c2 ∧ c2 ≤ ch + 60 ∧ FrCl σ τ ∧ FrK σ τ := by
  have hn := r.1.2.2.2.2.2
  have hn4 := r.2.2.2.2.2.2.2.2
  obtain ⟨σ1, a1, A, Fr⟩ := cClk_loop C hn hn4 c
  obtain ⟨σ2, d2⟩ : ∃ z, z = rowI (rowL (rowI (rowI (rowI σ1 24 (vFill (rI σ1 24) 4 0)) 25 (vFill (rI σ1 25) 4 0)) 26 (vFill (rI σ1 26) 4 0)) 29 (vFill (rL σ1 29) 4 (0 : Int64))) 30 (vFill (rI σ1 30) 208 0) := ⟨_, rfl⟩
  have g1 : f_X6_startRound σ c = some ((), σ2) := by
    unfold f_X6_startRound
    rw [a1, oJ_inr, oLet_eq, oLet_eq, oLet_eq, oLet_eq, oLet_eq, d2]
    rfl
  have qI : ∀ x j, rI σ2 x j = if x = 30 then vFill (rI σ1 30) 208 0 j else if x = 26 then vFill (rI σ1 26) 4 0 j else if x = 25 then vFill (rI σ1 25) 4 0 j else if x = 24 then vFill (rI σ1 24) 4 0 j else rI σ1 x j := fun x j => by
    rw [d2, q_rI, q_IrL, q_rI, q_rI, q_rI]
  have qIo : ∀ x j, x ≠ 30 → x ≠ 26 → x ≠ 25 → x ≠ 24 → rI σ2 x j = rI σ1 x j := fun x j h1 h2 h3 h4 => by rw [qI, if_neg h1, if_neg h2, if_neg h3, if_neg h4]
  have qL : ∀ x j, rL σ2 x j = if x = 29 then vFill (rL σ1 29) 4 (0 : Int64) j else rL σ1 x j := fun x j => by
    rw [d2, q_LrI, q_rL, q_LrI, q_LrI, q_LrI]
  have m2 : ∀ x j, dC x j → rI σ2 x j = (if cx x = 71 ∧ cj x j < n then c else if (cx x = 72 ∨ cx x = 76 ∨ cx x = 77) ∧ cj x j < 4 then 0 else if cx x = 78 ∧ cj x j < 208 then 0 else m (cx x) (cj x j)) := fun x j d => by
    have h := CI_4 A d
    rw [qI]
    by_cases e30 : x = 30
    · subst e30
      rw [if_pos rfl]
      have hj : j < 208 := by omega
      show (if j < 208 then 0 else _) = if (78 : Nat) = 71 ∧ j < n then c else if ((78 : Nat) = 72 ∨ (78 : Nat) = 76 ∨ (78 : Nat) = 77) ∧ j < 4 then 0 else if (78 : Nat) = 78 ∧ j < 208 then 0 else m 78 j
      rw [if_pos hj, if_neg (by omega), if_neg (by omega), if_pos ⟨rfl, hj⟩]
    by_cases e26 : x = 26
    · subst e26
      rw [if_neg (by omega), if_pos rfl]
      have hj : j < 4 := by omega
      show (if j < 4 then 0 else _) = if (76 : Nat) = 71 ∧ j < n then c else if ((76 : Nat) = 72 ∨ (76 : Nat) = 76 ∨ (76 : Nat) = 77) ∧ j < 4 then 0 else if (76 : Nat) = 78 ∧ j < 208 then 0 else m 76 j
      rw [if_pos hj, if_neg (by omega), if_pos (by omega)]
    by_cases e25 : x = 25
    · subst e25
      rw [if_neg (by omega), if_neg (by omega), if_pos rfl]
      have hj : j < 4 := by omega
      show (if j < 4 then 0 else _) = if (77 : Nat) = 71 ∧ j < n then c else if ((77 : Nat) = 72 ∨ (77 : Nat) = 76 ∨ (77 : Nat) = 77) ∧ j < 4 then 0 else if (77 : Nat) = 78 ∧ j < 208 then 0 else m 77 j
      rw [if_pos hj, if_neg (by omega), if_pos (by omega)]
    by_cases e24 : x = 24
    · subst e24
      rw [if_neg (by omega), if_neg (by omega), if_neg (by omega), if_pos rfl]
      have hj : j < 4 := by omega
      show (if j < 4 then 0 else _) = if (72 : Nat) = 71 ∧ j < n then c else if ((72 : Nat) = 72 ∨ (72 : Nat) = 76 ∨ (72 : Nat) = 77) ∧ j < 4 then 0 else if (72 : Nat) = 78 ∧ j < 208 then 0 else m 72 j
      rw [if_pos hj, if_neg (by omega), if_pos (by omega)]
    rw [if_neg e30, if_neg e26, if_neg e25, if_neg e24, h]
    have hcx : ¬ (cx x = 72 ∨ cx x = 76 ∨ cx x = 77) ∧ ¬ cx x = 78 := by
      unfold cx
      refine ⟨?_, ?_⟩ <;> repeat' split
      all_goals omega
    rw [if_neg (c := (cx x = 72 ∨ cx x = 76 ∨ cx x = 77) ∧ cj x j < 4) (fun z => hcx.1 z.1), if_neg (c := cx x = 78 ∧ cj x j < 208) (fun z => hcx.2 z.1)]
  obtain ⟨h1, h2, h3, h4, h5, h6, B', ch', h7⟩ := A
  have C2 : CI σ2 B E dl (de0 m n c) (deL l) ch := by
    refine ⟨BQ_fr h1 fun x j a b => qIo x j (by omega) (by omega) (by omega) (by omega), CeR_fr h2 fun x j a => qIo x j (by omega) (by omega) (by omega) (by omega), CdR_fr h3 fun x j a => qIo x j (by omega) (by omega) (by omega) (by omega), m2, fun j hj k hk => ?_, ClI_fr h6 ⟨by rw [d2]; rfl, by rw [d2]; rfl, by rw [d2]; rfl, fun x j a => qIo x j (by omega) (by omega) (by omega) (by omega), fun x j a => by rw [qL, if_neg (by omega)]⟩, B', ch', BQ_fr h7 fun x j a b => qIo x j (by omega) (by omega) (by omega) (by omega)⟩
    rw [qL, if_pos rfl]
    unfold vFill deL
    rw [if_pos hj, if_pos hj]
  have F2 : FrCl σ σ2 := (FrCl_X Fr fun x j w => by omega).tr ⟨fun x j a => qIo x j (by omega) (by omega) (by omega) (by omega), fun x j a => by rw [qL, if_neg (by omega)], by rw [d2]; rfl⟩
  have k2 : FrK σ σ2 := (FrK_X Fr fun x j w => by omega).tr ⟨fun j _ _ => qIo _ _ (by omega) (by omega) (by omega) (by omega), by rw [qL, if_neg (by omega)], fun j => qIo _ _ (by omega) (by omega) (by omega) (by omega), fun j => qIo _ _ (by omega) (by omega) (by omega) (by omega)⟩
  have q19 : rI σ2 19 0 = nI n := by
    rw [CI_4 C2 (x := 19) (j := 0) (by omega)]
    exact (de0_67 m n c 6).trans hn
  obtain ⟨σ3, d3⟩ : ∃ z, z = wI (wI (wI (wI (wI σ2 35 1 0) 35 2 1) 35 3 (nI sd)) 35 4 (nI each)) 35 5 (nI n) := ⟨_, rfl⟩
  have g2 : f_X2_startRound σ2 (nI sd) (nI each) (nI n) = some ((), σ3) := by
    unfold f_X2_startRound
    rw [oLet_eq, oLet_eq, oLet_eq, oLet_eq, oLet_eq, d3]
  have W3 : FrX (fun x _ => x = 35) σ2 σ3 := by
    rw [d3]
    exact ((((FrX.w (W := fun x _ => x = 35) _ _ rfl).tr (FrX.w (W := fun x _ => x = 35) _ _ rfl)).tr (FrX.w (W := fun x _ => x = 35) _ _ rfl)).tr (FrX.w (W := fun x _ => x = 35) _ _ rfl)).tr (FrX.w (W := fun x _ => x = 35) _ _ rfl)
  have q3 := W3.2.2.2.2
  have C3 : CI σ3 B [] (some (sd, each, n)) (de0 m n c) (deL l) ch := by
    obtain ⟨h1, h2, h3, h4, h5, h6, B', ch', h7⟩ := C2
    refine ⟨BQ_fr h1 fun x j a b => q3 x j (by omega), ⟨?_, fun i e hi => by simp at hi⟩, ⟨?_, ?_, ?_, ?_⟩, fun x j d => (q3 x j (by omega)).trans (h4 x j d), fun j hj k hk => by rw [W3.2.2.2.1]; exact h5 j hj k hk, ClI_fr h6 ⟨W3.1, W3.2.1, W3.2.2.1, fun x j a => q3 x j (by omega), fun x j a => by rw [W3.2.2.2.1]⟩, B', ch', BQ_fr h7 fun x j a b => q3 x j (by omega)⟩
    · rw [d3, fld_eq, if_neg (by omega), fld_eq, if_neg (by omega), fld_eq, if_neg (by omega), fld_eq, if_neg (by omega), fld_eq, if_pos ⟨rfl, rfl⟩]; rfl
    · rw [d3, fld_eq, if_neg (by omega), fld_eq, if_neg (by omega), fld_eq, if_neg (by omega), fld_eq, if_pos ⟨rfl, rfl⟩]
    · rw [d3, fld_eq, if_neg (by omega), fld_eq, if_neg (by omega), fld_eq, if_pos ⟨rfl, rfl⟩]
    · rw [d3, fld_eq, if_neg (by omega), fld_eq, if_pos ⟨rfl, rfl⟩]
    · rw [d3, fld_eq, if_pos ⟨rfl, rfl⟩]
  have q19' : rI σ3 19 0 = nI n := (q3 19 0 (by omega)).trans q19
  have q40 : rI σ3 4 0 = nI hh := by
    rw [CI_4 C3 (x := 4) (j := 0) (by omega)]
    exact (de0_67 m n c 1).trans r.1.1
  have q42 : rI σ3 4 2 = nI jk := by
    rw [CI_4 C3 (x := 4) (j := 2) (by omega)]
    exact (de0_67 m n c 3).trans r.1.2.2.1
  obtain ⟨σ4, c4, e1, e2, e3, e4, e5⟩ := dealOut_eq (each := each) (n := n) C3.1 q40 q42 r.2.2.1 r.2.2.2.2.1 (by decide) hn4 (by omega) hs
  have C4 := CI_B C3 e2 e5
  have C6 := CI_w (CI_w C4 (a := 3) (k := 9) (by omega) 0) (a := 3) (k := 8) (by omega) 0
  have em : up2 (up2 (de0 m n c) (cx 3) (cj 3 9) 0) (cx 3) (cj 3 8) 0 = deM m n c := by
    funext x k
    show (if x = 67 ∧ k = 24 then 0 else if x = 67 ∧ k = 25 then 0 else if x = 71 ∧ k < n then c else if (x = 72 ∨ x = 76 ∨ x = 77) ∧ k < 4 then 0 else if x = 78 ∧ k < 208 then 0 else m x k) = deM m n c x k
    unfold deM
    by_cases z1 : x = 67 ∧ k = 24
    · rw [if_pos z1, if_neg (by omega), if_neg (by omega), if_neg (by omega), if_pos (by omega)]
    · rw [if_neg z1]
      by_cases z2 : x = 67 ∧ k = 25
      · rw [if_pos z2, if_neg (by omega), if_neg (by omega), if_neg (by omega), if_pos (by omega)]
      · rw [if_neg z2, if_neg (c := x = 67 ∧ (k = 24 ∨ k = 25)) (by omega)]
  rw [em] at C6
  have hle : each * n ≤ 14 * 4 := Nat.mul_le_mul he hn4
  refine ⟨wI (wI σ4 3 9 0) 3 8 0, ch + c4, ?_, C6, by omega, by omega, (((F2.tr (FrCl_X W3 fun x j w => by omega)).tr (FrCl_L (FrX_B e5))).tr (FrCl_w (by omega) _)).tr (FrCl_w (by omega) _), (((k2.tr (FrK_X W3 fun x j w => by omega)).tr (FrK_X (FrX_B e5) fun x j w => by omega)).tr (FrK_w (by omega) _)).tr (FrK_w (by omega) _)⟩
  rw [g1, oB_some, q19, g2, oB_some, q19', e1, oB_some, oLet_eq, oLet_eq, C6.1.2.2.2.2.2.2.1]
