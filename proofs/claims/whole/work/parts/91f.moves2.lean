/-! lay, joker, swap and back as calls -/
theorem q_mv {Kp : rS → Prop} {fL fR : rS → Option (Int32 × rS)} {σ σ1 : rS} {B B' : Bd} {E E' : List Ent} {dl : Option (Nat × Nat × Nat)} {m : Mem} {l : Nat → Int64} {ch' : Nat} {v : Int32} (C : CI σ1 B' E' dl m l ch') (M : MI σ B E m l) (f : FrX WL σ σ1) (hK : ∀ τ, FrK σ τ → Kp τ) (hL : fL σ = some (0, wL σ1 114 0 v.toInt64)) (hR : ∀ τ, MI τ B E m l → ∃ τ', fR τ = some (v, wI τ' 67 0 0) ∧ MI τ' B' E' m l ∧ FrX WBE τ τ') : QStep Kp fL fR σ B' E' dl m l ch' := by
  have f1 : FrCl σ (wL σ1 114 0 v.toInt64) := (FrCl_L f).tr (FrCl_114 σ1 _)
  obtain ⟨τ', a1, a2, a3⟩ := hR _ (MI_fr M f1)
  have f2 : FrRf (wL σ1 114 0 v.toInt64) (wI τ' 67 0 0) := (FrRf_X a3 fun x j w => by omega).tr (FrRf_w (by omega) _)
  refine ⟨0, _, v, _, hL, a1, by rw [fld_eq, if_pos ⟨rfl, rfl⟩], fun _ => ?_, CI_fr (CI_114 C _) f2, MI_t a2 _, (Fr2_Cl f1).tr (Fr2_Rf f2), hK _ ((FrK_X f fun x j w => by omega).tr ((FrK_114 σ1 _).tr (FrK_R f2)))⟩
  rw [show rL (wI τ' 67 0 0) 114 0 = rL τ' 114 0 from rfl, a3.2.2.2.1, q_LL, if_pos ⟨rfl, rfl⟩]
theorem isOn_no {σ : rS} {B : Bd} {E : List Ent} {dl : Option (Nat × Nat × Nat)} {m : Mem} {l : Nat → Int64} {ch : Nat} (C : CI σ B E dl m l ch) (h : m 67 24 = -1) : v_X10_isOn σ = 0 := by
  unfold v_X10_isOn
  rw [CI_4 C (x := 3) (j := 8) (by omega)]
  rw [show m (cx 3) (cj 3 8) = m 67 24 from rfl, h, if_pos rfl]
theorem isOn_yes {σ : rS} {B : Bd} {E : List Ent} {dl : Option (Nat × Nat × Nat)} {m : Mem} {l : Nat → Int64} {ch p : Nat} (C : CI σ B E dl m l ch) (hp : p < 4) (h : m 67 24 = nI p) : v_X10_isOn σ = 1 := by
  unfold v_X10_isOn
  rw [CI_p C h, if_neg (n_m1 hp)]
theorem nI_le0 {n : Nat} (h : n < 2 ^ 31) : (nI n ≤ 0) = (n = 0) := propext ⟨fun z => by have := (nI_leI (b := 0) (by omega) (by omega)).mp z; omega, fun z => by rw [z]; decide⟩
theorem nI_2le {n : Nat} (h : n < 2 ^ 31) : ((2 : Int32) ≤ nI n) = (2 ≤ n) := propext (nI_leI (a := 2) (by omega) (by omega))
theorem mayLay_eq {σ : rS} {B : Bd} {E : List Ent} {dl : Option (Nat × Nat × Nat)} {m : Mem} {l : Nat → Int64} {ch p k : Nat} (C : CI σ B E dl m l ch) (o : OkT B) (hp : p < 4) (h : m 67 24 = nI p) (hk : k < 52) : v_X10_mayLay σ (nI k) = if 1 ≤ bR B (53 * p + k) ∧ bT B k + bJ B k < 2 then 1 else 0 := by
  have hz := rsz_ge (R := bR B) (p := p) (k := k) (by omega)
  have hr := o.1.2.1 p hp
  have ht := o.2.1 k hk
  unfold v_X10_mayLay
  rw [isOn_yes C hp h, CI_p C h, rackOf_eq C.1 hp (by omega), lies_eq C.1 hk, if_neg (by decide)]
  have e1 : (nI (bR B (53 * p + k)) ≤ 0) = (bR B (53 * p + k) = 0) := nI_le0 (by omega)
  have e2 : ((2 : Int32) ≤ nI (bT B k + bJ B k)) = (2 ≤ bT B k + bJ B k) := nI_2le (by omega)
  simp only [e1, e2]
  by_cases c1 : bR B (53 * p + k) = 0
  · rw [if_pos c1, if_neg (by omega)]
  · rw [if_neg c1]
    by_cases c2 : 2 ≤ bT B k + bJ B k
    · rw [if_pos c2, if_neg (by omega)]
    · rw [if_neg c2, if_pos ⟨by omega, by omega⟩]
theorem holds0 (σ : rS) : f_X11_holds σ 0 = some (0, wI σ 67 0 0) := rfl
theorem holds1 (σ : rS) : f_X11_holds σ 1 = some (1, wI σ 67 0 1) := rfl
theorem holds2 (σ : rS) : f_X11_holds σ 2 = some (1, wI σ 67 0 2) := rfl
theorem apB_0T (p k : Nat) (B : Bd) : bT (apB p B (0, k)) k = bT B k + 1 ∧ bJ (apB p B (0, k)) k = bJ B k := by
  rw [apB_0]
  exact ⟨by show up1 (bT B) k (bT B k + 1) k = _; rw [up1_at, if_pos rfl], rfl⟩
theorem lay_s {σ : rS} {B : Bd} {E : List Ent} {dl : Option (Nat × Nat × Nat)} {m : Mem} {l : Nat → Int64} {ch hh L jk ml pn n : Nat} (C : CI σ B E dl m l ch) (M : MI σ B E m l) {Kp : rS → Prop} (hK : ∀ τ, FrK σ τ → Kp τ) (r : RuM m hh L jk ml pn n) (o : OkT B) (tp : m 67 24 = -1 ∨ ∃ p, p < n ∧ m 67 24 = nI p) (hE : E.length < 1024) (hl : (bD B).length < 64) (k : Int32) : QStep Kp (fun σ => f_L_lay σ k) (fun σ => f_X11_lay σ k) σ B E dl m l ch ∨ ∃ p j c, p < n ∧ m 67 24 = nI p ∧ j % 13 < hh ∧ vaB p B (0, j) ∧ 1 ≤ c ∧ c ≤ 3 ∧ QStep Kp (fun σ => f_L_lay σ k) (fun σ => f_X11_lay σ k) σ (apB p B (0, j)) (E ++ [(1, p, j + 1, 0)]) dl m l (ch + c) := by
  have h4 := CI_h C r
  have h13 := r.2.2.1
  have hn4 := r.2.2.2.2.2.2.2.2
  by_cases c1 : v_X5_isKind σ k = 0
  · refine Or.inl (q_ex C M hK 1 (-1) (by decide) ?_ ?_)
    · show f_L_lay σ k = _
      unfold f_L_lay f_X10_lay f_X10_needKind
      rw [if_pos c1, oBx_r, oBc_r lk4]
    · show f_X11_lay σ k = _
      unfold f_X11_lay
      rw [kind_same h4 (MI_h M r), if_pos c1, oJ_inr]
      dsimp only
      rw [holds1, oB_some, if_neg (by decide)]
  · obtain ⟨j, hj, hjh, rfl⟩ := isKind_of h4 h13 c1
    have no : v_X10_mayLay σ (nI j) = 0 → f_X11_lays σ (nI j) = some (0, σ) → QStep Kp (fun σ => f_L_lay σ (nI j)) (fun σ => f_X11_lay σ (nI j)) σ B E dl m l ch := fun e1 e2 => by
      refine q_ex C M hK 2 (-1) (by decide) ?_ ?_
      · show f_L_lay σ (nI j) = _
        unfold f_L_lay f_X10_lay f_X10_needKind
        rw [if_neg c1, oBx_l, if_pos e1, oBc_r lk5]
      · show f_X11_lay σ (nI j) = _
        unfold f_X11_lay
        rw [kind_same h4 (MI_h M r), if_neg c1, e2, oB_some, if_pos rfl, oJ_inr]
        dsimp only
        rw [holds2, oB_some, if_neg (by decide)]
    rcases tp with tp | ⟨p, hp, tp⟩
    · refine Or.inl (no ?_ ?_)
      · unfold v_X10_mayLay
        rw [isOn_no C tp, if_pos rfl]
      · unfold f_X11_lays
        rw [(M.2.2.1 67 24 (by omega)).trans tp, if_pos rfl]
    · have my := mayLay_eq C o (by omega) tp hj
      by_cases c2 : 1 ≤ bR B (53 * p + j) ∧ bT B j + bJ B j < 2
      · rw [if_pos c2] at my
        have v : vaB p B (0, j) := ⟨hj, by omega, hl, Or.inl ⟨rfl, c2⟩⟩
        obtain ⟨σ1, c, a1, a2, a3, a4, a5⟩ := cLayT_eq C tp v hE
        refine Or.inr ⟨p, j, c, hp, tp, hjh, v, a3, a4, q_mv (v := nI (bT B j + bJ B j + 1)) a2 M a5 hK ?_ fun τ N => ?_⟩
        · show f_L_lay σ (nI j) = _
          unfold f_L_lay f_X10_lay f_X10_needKind
          rw [if_neg c1, oBx_l, my, if_neg (by decide), a1, oB_some, lies_eq a2.1 hj, (apB_0T p j B).1, (apB_0T p j B).2, oBc_l, show bT B j + 1 + bJ B j = bT B j + bJ B j + 1 by omega]
          rfl
        · show ∃ τ', f_X11_lay τ (nI j) = _ ∧ _
          obtain ⟨τ', b1, b2, b3⟩ := mLayT_eq N tp o v (by omega)
          refine ⟨τ', ?_, b2, b3⟩
          have N1 := MbQ_t b2 0
          unfold f_X11_lay
          rw [kind_same h4 (MI_h N r), if_neg c1, b1, oB_some, if_neg (by decide), oJ_inr]
          dsimp only
          rw [holds0, oB_some, if_pos rfl, if_pos (inB_nI (by decide) hj), nI_clamp (by omega), N1.2.2.1 j hj, N1.2.2.2.1 j hj, (apB_0T p j B).1, (apB_0T p j B).2, nI_add, show bT B j + 1 + bJ B j = bT B j + bJ B j + 1 by omega]
      · rw [if_neg c2] at my
        exact Or.inl (no my (lays_no M.1 o (by omega) ((M.2.2.1 67 24 (by omega)).trans tp) hj c2))
