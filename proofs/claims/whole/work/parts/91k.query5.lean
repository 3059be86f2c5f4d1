/-! player, team -/
theorem player_s {σ : rS} {B : Bd} {E : List Ent} {dl : Option (Nat × Nat × Nat)} {m : Mem} {l : Nat → Int64} {ch hh L jk ml pn n : Nat} (C : CI σ B E dl m l ch) (M : MI σ B E m l) {Kp : rS → Prop} (hK : ∀ τ, FrK σ τ → Kp τ) (r : RuM m hh L jk ml pn n) (tp : m 67 24 = -1 ∨ ∃ p, p < n ∧ m 67 24 = nI p) (a b : Int32) : QStep Kp (fun σ => f_L_player σ a b) (fun σ => f_X11_player σ a b) σ B E dl m l ch ∨ (n < 4 ∧ m 67 24 = -1 ∧ ¬ vIn a 0 1 = 0 ∧ ¬ vIn b 0 3 = 0 ∧ QStep Kp (fun σ => f_L_player σ a b) (fun σ => f_X11_player σ a b) σ B E dl (up2 (up2 (up2 (up2 m 68 n a) 69 n b) 74 n (nI n)) 67 6 (nI (n + 1))) l ch) := by
  have hn := CI_n C r
  have hn4 := r.2.2.2.2.2.2.2.2
  by_cases c1 : vIn a 0 1 = 0
  · refine Or.inl (q_ex C M hK 1 (-1) (by decide) ?_ ?_)
    · show f_L_player σ a b = _
      unfold f_L_player f_X10_player
      rw [if_pos c1, if_pos rfl, oBc_r lk4]
    · show f_X11_player σ a b = _
      unfold f_X11_player
      rw [in_eq, if_pos c1, holds1, oB_some, if_neg (by decide)]
  · by_cases c2 : vIn b 0 3 = 0
    · refine Or.inl (q_ex C M hK 1 (-1) (by decide) ?_ ?_)
      · show f_L_player σ a b = _
        unfold f_L_player f_X10_player
        rw [if_neg c1, if_pos c2, if_pos rfl, oBc_r lk4]
      · show f_X11_player σ a b = _
        unfold f_X11_player
        rw [in_eq, in_eq, if_neg c1, if_pos c2, holds1, oB_some, if_neg (by decide)]
    · have cl : (if vIn a 0 1 = 0 then true else (if vIn b 0 3 = 0 then true else false)) = false := by rw [if_neg c1, if_neg c2]
      have c4 : (nI n = 4) = (n = 4) := propext (nI_eq (b := 4) (by omega) (by omega))
      have c5 : (nI n < 4) = (n < 4) := propext (nI_lt' (b := 4) (by omega) (by omega))
      have no : (n = 4 ∨ m 67 24 ≠ -1) → QStep Kp (fun σ => f_L_player σ a b) (fun σ => f_X11_player σ a b) σ B E dl m l ch := fun h => by
        refine q_ex C M hK 2 (-1) (by decide) ?_ ?_
        · show f_L_player σ a b = _
          have e : (if v_X10_isOn σ = 0 then (if rI σ 19 0 < 4 then false else true) else true) = true := by
            rcases tp with tp | ⟨p, hp, tp⟩
            · rw [isOn_no C tp, if_pos rfl, hn]
              simp only [c5]
              rcases h with h | h
              · rw [if_neg (by omega)]
              · exact absurd tp h
            · rw [isOn_yes C (by omega) tp, if_neg (by decide)]
          unfold f_L_player f_X10_player
          rw [cl, if_neg (by decide), e, if_pos rfl, oBc_r lk5]
        · show f_X11_player σ a b = _
          unfold f_X11_player
          rw [in_eq, in_eq, if_neg c1, if_neg c2, MI_n M r, M.2.2.1 67 24 (by omega)]
          simp only [c4]
          by_cases g : n = 4
          · rw [if_pos g, holds2, oB_some, if_neg (by decide)]
          · rw [if_neg g, if_neg (by rcases h with h | h; exact absurd h g; exact h), holds2, oB_some, if_neg (by decide)]
      rcases tp with tp | ⟨p, hp, tp⟩
      · by_cases g : n = 4
        · exact Or.inl (no (Or.inl g))
        · have l4 : n < 4 := by omega
          have C1 := CI_w C (a := 20) (k := n) (by omega) a
          have C2 := CI_w C1 (a := 21) (k := n) (by omega) b
          have C3 := CI_w C2 (a := 28) (k := n) (by omega) (nI n)
          have C4 := CI_w C3 (a := 19) (k := 0) (by omega) (nI (n + 1))
          refine Or.inr ⟨l4, tp, c1, c2, q_w (v := nI n) C4 M ((((FrCl_w (by omega) _).tr (FrCl_w (by omega) _)).tr (FrCl_w (by omega) _)).tr (FrCl_w (by omega) _)) ((((FrK_w (by omega) _).tr (FrK_w (by omega) _)).tr (FrK_w (by omega) _)).tr (FrK_w (by omega) _)) hK ?_ fun τ N => ?_⟩
          · show f_L_player σ a b = _
            have q3 : rI (wI (wI (wI σ 20 n a) 21 n b) 28 n (nI n)) 19 0 = nI n := by rw [fld_eq, if_neg (by omega), fld_eq, if_neg (by omega), fld_eq, if_neg (by omega), hn]
            unfold f_L_player f_X10_player f_X6_add
            rw [cl, if_neg (by decide), isOn_no C tp, if_pos rfl, hn, if_pos (show nI n < 4 from (nI_lt' (b := 4) (by omega) (by omega)).mpr l4), if_neg (by decide), vSet_nI (by decide) l4, row_w, oLet_eq, vSet_nI (by decide) l4, row_w, oLet_eq, vSet_nI (by decide) l4, row_w, oLet_eq, q3, nI_1, oLet_eq, oB_some, oBc_l]
            rfl
          · show ∃ τ', f_X11_player τ a b = _ ∧ _
            have N0 := MI_t N 0
            have N1 := MI_w N0 (a := 68) (k := n) (by omega) a
            have N2 := MI_w N1 (a := 69) (k := n) (by omega) b
            have N3 := MI_w N2 (a := 74) (k := n) (by omega) (nI n)
            have N4 := MI_w N3 (a := 67) (k := 6) (by omega) (nI (n + 1))
            have t0 : rI (wI τ 67 0 0) 67 6 = nI n := by rw [fld_eq, if_neg (by omega), MI_n N r]
            have t1 : rI (wI (wI τ 67 0 0) 68 n a) 67 6 = nI n := by rw [fld_eq, if_neg (by omega), t0]
            have t2 : rI (wI (wI (wI τ 67 0 0) 68 n a) 69 n b) 67 6 = nI n := by rw [fld_eq, if_neg (by omega), t1]
            have t3 : rI (wI (wI (wI (wI τ 67 0 0) 68 n a) 69 n b) 74 n (nI n)) 67 6 = nI n := by rw [fld_eq, if_neg (by omega), t2]
            refine ⟨_, ?_, N4, by rw [fld_eq, if_neg (by omega), fld_eq, if_neg (by omega), fld_eq, if_neg (by omega), fld_eq, if_neg (by omega), fld_eq, if_pos ⟨rfl, rfl⟩], ((((FrRf_w (by omega) _).tr (FrRf_w (by omega) _)).tr (FrRf_w (by omega) _)).tr (FrRf_w (by omega) _)).tr (FrRf_w (by omega) _)⟩
            unfold f_X11_player
            rw [in_eq, in_eq, if_neg c1, if_neg c2, MI_n N r, if_neg (show ¬ nI n = 4 from fun z => g ((nI_eq (b := 4) (by omega) (by omega)).mp z)), (N.2.2.1 67 24 (by omega)).trans tp, if_pos rfl, holds0, oB_some, if_pos rfl, t0, if_pos (inB_nI (by decide) l4), nI_clamp (by omega), oLet_eq, t1, if_pos (inB_nI (by decide) l4), nI_clamp (by omega), oLet_eq, t2, if_pos (inB_nI (by decide) l4), nI_clamp (by omega), oLet_eq, t3, nI_1, oLet_eq, fld_eq, if_pos ⟨rfl, rfl⟩, nI_s1 (by omega), Nat.add_sub_cancel]
      · exact Or.inl (no (Or.inr (by rw [tp]; exact n_m1 (by omega))))
def tmP (m : Mem) (t : Int32) : Nat → Int32
  | 0 => 0
  | j + 1 => tmP m t j + (if m 68 j = t then m 70 j else 0)
theorem team_s {σ : rS} {B : Bd} {E : List Ent} {dl : Option (Nat × Nat × Nat)} {m : Mem} {l : Nat → Int64} {ch hh L jk ml pn n : Nat} (C : CI σ B E dl m l ch) (M : MI σ B E m l) {Kp : rS → Prop} (hK : ∀ τ, FrK σ τ → Kp τ) (r : RuM m hh L jk ml pn n) (a : Int32) : QStep Kp (fun σ => f_L_team σ a) (fun σ => f_X11_team σ a) σ B E dl m l ch := by
  have hn := CI_n C r
  have hn4 := r.2.2.2.2.2.2.2.2
  by_cases c1 : vIn a 0 1 = 0
  · refine q_ex C M hK 1 (-1) (by decide) ?_ ?_
    · show f_L_team σ a = _
      unfold f_L_team f_X10_team
      rw [if_pos c1, oBc_r lk1]
    · show f_X11_team σ a = _
      unfold f_X11_team
      rw [in_eq, if_pos c1, holds1, oB_some, if_neg (by decide)]
  · refine q_ok C M hK (tmP m a n) ?_ fun τ N => ?_
    · show f_L_team σ a = _
      obtain ⟨x, a1, a2⟩ := oL_ix (body := b_X6_pointsOf_4 σ a) (fun i s => s = (tmP m a i, nI i)) (N := n) (fun x => x = tmP m a n) (by
          intro i s hi e
          subst e
          refine ⟨_, ?_, rfl⟩
          unfold b_X6_pointsOf_4
          dsimp only
          rw [hn, if_neg (show ¬ nI n ≤ nI i from fun z => by have := (nI_leI (by omega) (by omega)).mp z; omega), vAt_nI (by decide) (by omega), vAt_nI (by decide) (by omega), CI_4 C (x := 20) (j := i) (by omega), CI_4 C (x := 22) (j := i) (by omega), oLet_eq, nI_1]
          show some (Sum.inr ((if m 68 i = a then tmP m a i + m 70 i else tmP m a i), nI (i + 1))) = some (Sum.inr (tmP m a i + (if m 68 i = a then m 70 i else 0), nI (i + 1)))
          split
          · rfl
          · rw [ad0])
        (by
          intro s e
          subst e
          exact ⟨tmP m a n, by unfold b_X6_pointsOf_4; rw [hn, if_pos (show nI n ≤ nI n from (nI_leI (by omega) (by omega)).mpr (Nat.le_refl _))], rfl⟩)
        (n := oFuel) (by rw [oFuel_eq]; omega) (s := (0, 0)) rfl
      subst a2
      unfold f_L_team f_X10_team f_X6_pointsOf
      rw [if_neg c1, a1]
      rfl
    · show f_X11_team τ a = _
      have N0 := MI_t N 0
      obtain ⟨τ0, d⟩ : ∃ z, z = wI τ 67 0 0 := ⟨_, rfl⟩
      rw [← d] at N0 ⊢
      have tn : rI τ0 67 6 = nI n := MI_n N0 r
      obtain ⟨x, a1, a2⟩ := oL_ix (body := b_X11_team_28 a τ0) (fun i s => s = (tmP m a i, nI i)) (N := n) (fun x => x = (tmP m a n, τ0)) (by
          intro i s hi e
          subst e
          refine ⟨_, ?_, rfl⟩
          unfold b_X11_team_28
          dsimp only
          rw [tn, if_neg (show ¬ nI n ≤ nI i from fun z => by have := (nI_leI (by omega) (by omega)).mp z; omega), if_pos (inB_nI (by decide) (by omega)), nI_clamp (by omega), N0.2.2.1 68 i (by omega), N0.2.2.1 70 i (by omega), oLet_eq, nI_1]
          rfl)
        (by
          intro s e
          subst e
          exact ⟨(tmP m a n, τ0), by unfold b_X11_team_28; rw [tn, if_pos (show nI n ≤ nI n from (nI_leI (by omega) (by omega)).mpr (Nat.le_refl _))], rfl⟩)
        (n := oFuel) (by rw [oFuel_eq]; omega) (s := (0, 0)) rfl
      subst a2
      unfold f_X11_team
      rw [in_eq, if_neg c1, holds0, oB_some, if_pos rfl, ← d]
      exact a1
