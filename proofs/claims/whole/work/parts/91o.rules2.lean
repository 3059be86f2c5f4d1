/-! rules as a call -/
theorem q_w2 {Kp : rS → Prop} {fL fR : rS → Option (Int32 × rS)} {σ σ1 : rS} {B B' : Bd} {E E' : List Ent} {dl : Option (Nat × Nat × Nat)} {m m' : Mem} {l l' : Nat → Int64} {ch : Nat} {v : Int32} (C : CI σ1 B' E' dl m' l' ch) (M : MI σ B E m l) (f : FrCl σ σ1) (fk : FrK σ σ1) (hK : ∀ τ, FrK σ τ → Kp τ) (hL : fL σ = some (0, wL σ1 114 0 v.toInt64)) (hR : ∀ τ, MI τ B E m l → ∃ τ', fR τ = some (v, τ') ∧ MI τ' B' E' m' l' ∧ rI τ' 67 0 = 0 ∧ FrRf τ τ') : QStep Kp fL fR σ B' E' dl m' l' ch := by
  have f1 : FrCl σ (wL σ1 114 0 v.toInt64) := f.tr (FrCl_114 σ1 _)
  obtain ⟨τ', a1, a2, a4, a3⟩ := hR _ (MI_fr M f1)
  refine ⟨0, _, v, _, hL, a1, a4, fun _ => ?_, CI_fr (CI_114 C _) a3, a2, (Fr2_Cl f1).tr (Fr2_Rf a3), hK _ (fk.tr ((FrK_114 σ1 _).tr (FrK_R a3)))⟩
  rw [a3.2.2.2.2 114 0 (by omega), q_LL, if_pos ⟨rfl, rfl⟩]
def ruU (m : Mem) (a b c d e : Int32) : Mem := up2 (up2 (up2 (up2 (up2 m 67 1 a) 67 2 b) 67 3 c) 67 4 d) 67 5 e
theorem rules_s {σ : rS} {B : Bd} {E : List Ent} {dl : Option (Nat × Nat × Nat)} {m : Mem} {l : Nat → Int64} {ch n : Nat} (C : CI σ B E dl m l ch) (M : MI σ B E m l) {Kp : rS → Prop} (hK : ∀ τ, FrK σ τ → Kp τ) (hn4 : n ≤ 4) (tp : m 67 24 = -1 ∨ ∃ p, p < n ∧ m 67 24 = nI p) (a b c d e : Int32) : QStep Kp (fun σ => f_L_rules σ a b c d e) (fun σ => f_X11_rules σ a b c d e) σ B E dl m l ch ∨ (m 67 24 = -1 ∧ ¬ vIn a 5 13 = 0 ∧ ¬ vIn b 3 4 = 0 ∧ ¬ vIn c 0 3 = 0 ∧ ¬ vIn d 0 99 = 0 ∧ ¬ vIn e 1 9 = 0 ∧ QStep Kp (fun σ => f_L_rules σ a b c d e) (fun σ => f_X11_rules σ a b c d e) σ (zB (bX B)) [] none (ruU m a b c d e) l (ch + 1)) := by
  obtain ⟨ok, hok⟩ : ∃ x : Int32, x = (if vIn a 5 13 = 0 then 0 else (if vIn b 3 4 = 0 then 0 else (if vIn c 0 3 = 0 then 0 else (if vIn d 0 99 = 0 then 0 else (if vIn e 1 9 = 0 then 0 else 1))))) := ⟨_, rfl⟩
  have hok2 : ∀ τ, (if v_X11_in τ a 5 13 = 0 then (0 : Int32) else (if v_X11_in τ b 3 4 = 0 then 0 else (if v_X11_in τ c 0 3 = 0 then 0 else (if v_X11_in τ d 0 99 = 0 then 0 else (if v_X11_in τ e 1 9 = 0 then 0 else 1))))) = ok := fun τ => by rw [in_eq, in_eq, in_eq, in_eq, in_eq, hok]
  by_cases c0 : ok = 0
  · refine Or.inl (q_ex C M hK 1 (-1) (by decide) ?_ ?_)
    · show f_L_rules σ a b c d e = _
      unfold f_L_rules f_X10_rules
      rw [← hok, oLet_eq, if_pos c0, oBc_r lk4]
    · show f_X11_rules σ a b c d e = _
      unfold f_X11_rules
      rw [hok2, oLet_eq, if_pos c0, holds1, oB_some, if_neg (by decide)]
  · rcases tp with tp | ⟨p, hp, tp⟩
    · have all : ¬ vIn a 5 13 = 0 ∧ ¬ vIn b 3 4 = 0 ∧ ¬ vIn c 0 3 = 0 ∧ ¬ vIn d 0 99 = 0 ∧ ¬ vIn e 1 9 = 0 := by
        by_cases g1 : vIn a 5 13 = 0
        · rw [if_pos g1] at hok; exact absurd hok c0
        · rw [if_neg g1] at hok
          by_cases g2 : vIn b 3 4 = 0
          · rw [if_pos g2] at hok; exact absurd hok c0
          · rw [if_neg g2] at hok
            by_cases g3 : vIn c 0 3 = 0
            · rw [if_pos g3] at hok; exact absurd hok c0
            · rw [if_neg g3] at hok
              by_cases g4 : vIn d 0 99 = 0
              · rw [if_pos g4] at hok; exact absurd hok c0
              · rw [if_neg g4] at hok
                by_cases g5 : vIn e 1 9 = 0
                · rw [if_pos g5] at hok; exact absurd hok c0
                · exact ⟨g1, g2, g3, g4, g5⟩
      have C1 := CI_w C (a := 4) (k := 0) (by omega) a
      have C2 := CI_w C1 (a := 4) (k := 1) (by omega) b
      have C3 := CI_w C2 (a := 4) (k := 2) (by omega) c
      have C4 := CI_w C3 (a := 4) (k := 3) (by omega) d
      have C5 := CI_w C4 (a := 4) (k := 4) (by omega) e
      obtain ⟨σ6, d6⟩ : ∃ z, z = wI (wI (wI (wI (wI σ 4 0 a) 4 1 b) 4 2 c) 4 3 d) 4 4 e := ⟨_, rfl⟩
      rw [← d6] at C5
      have C5 : CI σ6 B E dl (ruU m a b c d e) l ch := C5
      have fc : FrCl σ σ6 := by rw [d6]; exact ((((FrCl_w (by omega) _).tr (FrCl_w (by omega) _)).tr (FrCl_w (by omega) _)).tr (FrCl_w (by omega) _)).tr (FrCl_w (by omega) _)
      have fk : FrK σ σ6 := by rw [d6]; exact ((((FrK_w (by omega) _).tr (FrK_w (by omega) _)).tr (FrK_w (by omega) _)).tr (FrK_w (by omega) _)).tr (FrK_w (by omega) _)
      obtain ⟨σ7, e1, e2, e3⟩ := cclear_eq C5
      have C8 := CI_c0 e2
      refine Or.inr ⟨tp, all.1, all.2.1, all.2.2.1, all.2.2.2.1, all.2.2.2.2, q_w2 (v := 8 * a + c) C8 M ((fc.tr (FrCl_L e3)).tr ((FrCl_w (by omega) _).tr (FrCl_w (by omega) _))) ((fk.tr (FrK_X e3 fun x j w => by omega)).tr ((FrK_w (by omega) _).tr (FrK_w (by omega) _))) hK ?_ fun τ N => ?_⟩
      · show f_L_rules σ a b c d e = _
        have ep : v_X5_pieces (wI (wI σ7 35 1 0) 35 2 0) = 8 * a + c := by
          unfold v_X5_pieces
          rw [CI_4 C8 (x := 4) (j := 0) (by omega), CI_4 C8 (x := 4) (j := 2) (by omega)]
          rfl
        unfold f_L_rules f_X10_rules f_X2_clear
        rw [← hok, oLet_eq, if_neg c0, isOn_no C tp, if_pos rfl, oLet_eq, oLet_eq, oLet_eq, oLet_eq, oLet_eq, ← d6, e1, oB_some, oLet_eq, oLet_eq, oB_some, ep, oBc_l]
        rfl
      · show ∃ τ', f_X11_rules τ a b c d e = _ ∧ _
        have N5 := MI_w (MI_w (MI_w (MI_w (MI_w (MI_t N 0) (a := 67) (k := 1) (by omega) a) (a := 67) (k := 2) (by omega) b) (a := 67) (k := 3) (by omega) c) (a := 67) (k := 4) (by omega) d) (a := 67) (k := 5) (by omega) e
        obtain ⟨τ8, d8⟩ : ∃ z, z = wI (wI (wI (wI (wI (wI τ 67 0 0) 67 1 a) 67 2 b) 67 3 c) 67 4 d) 67 5 e := ⟨_, rfl⟩
        rw [← d8] at N5
        have N5 : MI τ8 B E (ruU m a b c d e) l := N5
        have t8 : rI τ8 67 0 = 0 := by rw [d8, fld_eq, if_neg (by omega), fld_eq, if_neg (by omega), fld_eq, if_neg (by omega), fld_eq, if_neg (by omega), fld_eq, if_neg (by omega), fld_eq, if_pos ⟨rfl, rfl⟩]
        have f8 : FrRf τ τ8 := by rw [d8]; exact (((((FrRf_w (by omega) _).tr (FrRf_w (by omega) _)).tr (FrRf_w (by omega) _)).tr (FrRf_w (by omega) _)).tr (FrRf_w (by omega) _)).tr (FrRf_w (by omega) _)
        obtain ⟨τ', b1, b2, b3⟩ := empties_eq N5
        refine ⟨τ', ?_, b2, by rw [b3.2.2.2.2 67 0 (by omega), t8], f8.tr (FrRf_X b3 fun x j w => by omega)⟩
        unfold f_X11_rules
        rw [hok2, oLet_eq, if_neg c0, (N.2.2.1 67 24 (by omega)).trans tp, if_pos rfl, holds0, oB_some, if_pos rfl, oLet_eq, oLet_eq, oLet_eq, oLet_eq, oLet_eq, ← d8, b1, oB_some, b2.2.2.1 67 1 (by omega), b2.2.2.1 67 3 (by omega)]
        rfl
    · refine Or.inl (q_ex C M hK 2 (-1) (by decide) ?_ ?_)
      · show f_L_rules σ a b c d e = _
        unfold f_L_rules f_X10_rules
        rw [← hok, oLet_eq, if_neg c0, isOn_yes C (by omega) tp, if_neg (by decide), oBc_r lk5]
      · show f_X11_rules σ a b c d e = _
        unfold f_X11_rules
        rw [hok2, oLet_eq, if_neg c0, (M.2.2.1 67 24 (by omega)).trans tp, if_neg (n_m1 (by omega)), holds2, oB_some, if_neg (by decide)]
