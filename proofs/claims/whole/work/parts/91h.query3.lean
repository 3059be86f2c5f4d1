/-! more calls: claim, wipe, type, player, passed -/
theorem q_w {Kp : rS → Prop} {fL fR : rS → Option (Int32 × rS)} {σ σ1 : rS} {B : Bd} {E : List Ent} {dl : Option (Nat × Nat × Nat)} {m m' : Mem} {l : Nat → Int64} {ch : Nat} {v : Int32} (C : CI σ1 B E dl m' l ch) (M : MI σ B E m l) (f : FrCl σ σ1) (fk : FrK σ σ1) (hK : ∀ τ, FrK σ τ → Kp τ) (hL : fL σ = some (0, wL σ1 114 0 v.toInt64)) (hR : ∀ τ, MI τ B E m l → ∃ τ', fR τ = some (v, τ') ∧ MI τ' B E m' l ∧ rI τ' 67 0 = 0 ∧ FrRf τ τ') : QStep Kp fL fR σ B E dl m' l ch := by
  have f1 : FrCl σ (wL σ1 114 0 v.toInt64) := f.tr (FrCl_114 σ1 _)
  obtain ⟨τ', a1, a2, a4, a3⟩ := hR _ (MI_fr M f1)
  refine ⟨0, _, v, _, hL, a1, a4, fun _ => ?_, CI_fr (CI_114 C _) a3, a2, (Fr2_Cl f1).tr (Fr2_Rf a3), hK _ (fk.tr ((FrK_114 σ1 _).tr (FrK_R a3)))⟩
  rw [a3.2.2.2.2 114 0 (by omega), q_LL, if_pos ⟨rfl, rfl⟩]
theorem FrK_w {σ : rS} {a k : Nat} (h : ¬ (a = 3 ∧ 12 ≤ k) ∧ a ≠ 65 ∧ a ≠ 66) (v : Int32) : FrK σ (wI σ a k v) := ⟨fun j h1 _ => by rw [fld_eq, if_neg (by omega)], rfl, fun j => by rw [fld_eq, if_neg (by omega)], fun j => by rw [fld_eq, if_neg (by omega)]⟩
theorem row_w (σ : rS) (a k : Nat) (v : Int32) : rowI σ a (va_up (rI σ a) k v) = wI σ a k v := rfl
theorem claim_s {σ : rS} {B : Bd} {E : List Ent} {dl : Option (Nat × Nat × Nat)} {m : Mem} {l : Nat → Int64} {ch hh L jk ml pn n : Nat} (C : CI σ B E dl m l ch) (M : MI σ B E m l) {Kp : rS → Prop} (hK : ∀ τ, FrK σ τ → Kp τ) (r : RuM m hh L jk ml pn n) (p k c : Int32) : QStep Kp (fun σ => f_L_claim σ p k c) (fun σ => f_X11_claim σ p k c) σ B E dl m l ch ∨ ∃ i, i < 208 ∧ ¬ vIn c 0 2 = 0 ∧ QStep Kp (fun σ => f_L_claim σ p k c) (fun σ => f_X11_claim σ p k c) σ B E dl (up2 m 78 i c) l ch := by
  have h4 := CI_h C r
  have hn := CI_n C r
  have h13 := r.2.2.1
  have hn4 := r.2.2.2.2.2.2.2.2
  by_cases c1 : vIn p 0 ((rI σ 19 0) - 1) = 0
  · refine Or.inl (q_ex C M hK 1 (-1) (by decide) ?_ ?_)
    · show f_L_claim σ p k c = _
      unfold f_L_claim f_X10_claim f_X10_needPlayer
      rw [if_pos c1, oBx_r, oBc_r lk2]
    · show f_X11_claim σ p k c = _
      unfold f_X11_claim
      rw [pl_same hn (MI_n M r), if_pos c1, holds1, oB_some, if_neg (by decide)]
  · rw [hn] at c1
    obtain ⟨q, hq, rfl⟩ := vIn_pl hn4 c1
    rw [← hn] at c1
    by_cases c2 : v_X5_isKind σ k = 0
    · refine Or.inl (q_ex C M hK 2 (-1) (by decide) ?_ ?_)
      · show f_L_claim σ (nI q) k c = _
        unfold f_L_claim f_X10_claim f_X10_needPlayer f_X10_needKind
        rw [if_neg c1, oBx_l, if_pos c2, oBx_r, oBc_r lk3]
      · show f_X11_claim σ (nI q) k c = _
        unfold f_X11_claim
        rw [pl_same hn (MI_n M r), if_neg c1, kind_same h4 (MI_h M r), if_pos c2, holds2, oB_some, if_neg (by decide)]
    · obtain ⟨j, hj, -, rfl⟩ := isKind_of h4 h13 c2
      by_cases c3 : vIn c 0 2 = 0
      · refine Or.inl (q_ex C M hK 2 (-1) (by decide) ?_ ?_)
        · show f_L_claim σ (nI q) (nI j) c = _
          unfold f_L_claim f_X10_claim f_X10_needPlayer f_X10_needKind
          rw [if_neg c1, oBx_l, if_neg c2, oBx_l, if_pos c3, oBc_r lk3]
        · show f_X11_claim σ (nI q) (nI j) c = _
          unfold f_X11_claim
          rw [pl_same hn (MI_n M r), if_neg c1, kind_same h4 (MI_h M r), if_neg c2, in_eq, if_pos c3, holds2, oB_some, if_neg (by decide)]
      · have hi : 52 * q + j < 208 := by omega
        have ei : nI q * 52 + nI j = nI (52 * q + j) := by rw [show (52 : Int32) = nI 52 from rfl, nI_mul, nI_add, Nat.mul_comm]
        have ei2 : 52 * nI q + nI j = nI (52 * q + j) := by rw [show (52 : Int32) = nI 52 from rfl, nI_mul, nI_add]
        refine Or.inr ⟨52 * q + j, hi, c3, q_w (v := m 78 (52 * q + j)) (CI_w C (a := 30) (k := 52 * q + j) (by omega) c) M (FrCl_w (by omega) _) (FrK_w (by omega) _) hK ?_ fun τ N => ?_⟩
        · show f_L_claim σ (nI q) (nI j) c = _
          unfold f_L_claim f_X10_claim f_X10_needPlayer f_X10_needKind
          rw [if_neg c1, oBx_l, if_neg c2, oBx_l, if_neg c3, ei, vAt_nI (by decide) hi, vSet_nI (by decide) hi, row_w, oLet_eq, oLet_eq, oBc_l, CI_4 C (x := 30) (j := 52 * q + j) (by omega)]
          rfl
        · show ∃ τ', f_X11_claim τ (nI q) (nI j) c = _ ∧ _
          have N0 := MI_t N 0
          refine ⟨wI (wI τ 67 0 0) 78 (52 * q + j) c, ?_, MI_w N0 (by omega) c, by rw [fld_eq, if_neg (by omega), fld_eq, if_pos ⟨rfl, rfl⟩], (FrRf_w (by omega) _).tr (FrRf_w (by omega) _)⟩
          unfold f_X11_claim
          rw [pl_same hn (MI_n N r), if_neg c1, kind_same h4 (MI_h N r), if_neg c2, in_eq, if_neg c3, holds0, oB_some, if_pos rfl, ei2, if_pos (inB_nI (by decide) hi), nI_clamp (by omega), oLet_eq, oLet_eq, N0.2.2.1 78 _ (by omega)]
theorem passed_s {σ : rS} {B : Bd} {E : List Ent} {dl : Option (Nat × Nat × Nat)} {m : Mem} {l : Nat → Int64} {ch hh L jk ml pn n : Nat} (C : CI σ B E dl m l ch) (r : RuM m hh L jk ml pn n) {p k : Int32} : (vIn p 0 ((rI σ 19 0) - 1) = 0 ∧ f_X10_passed σ p k = some (.inr "java/lang/IndexOutOfBoundsException", σ)) ∨ (¬ vIn p 0 ((rI σ 19 0) - 1) = 0 ∧ v_X5_isKind σ k = 0 ∧ f_X10_passed σ p k = some (.inr "java/lang/IllegalArgumentException", σ)) ∨ ∃ q j, q < n ∧ j < 52 ∧ p = nI q ∧ k = nI j ∧ ¬ vIn p 0 ((rI σ 19 0) - 1) = 0 ∧ ¬ v_X5_isKind σ k = 0 ∧ f_X10_passed σ p k = some (.inl (vBit (l q) (nI j)), σ) := by
  have h4 := CI_h C r
  have hn := CI_n C r
  have h13 := r.2.2.1
  have hn4 := r.2.2.2.2.2.2.2.2
  unfold f_X10_passed f_X10_needPlayer f_X10_needKind
  by_cases c1 : vIn p 0 ((rI σ 19 0) - 1) = 0
  · refine Or.inl ⟨c1, ?_⟩
    rw [if_pos c1, oBx_r]
  · have c1' := c1
    rw [hn] at c1'
    obtain ⟨q, hq, rfl⟩ := vIn_pl hn4 c1'
    by_cases c2 : v_X5_isKind σ k = 0
    · refine Or.inr (Or.inl ⟨c1, c2, ?_⟩)
      rw [if_neg c1, oBx_l, if_pos c2, oBx_r]
    · obtain ⟨j, hj, -, rfl⟩ := isKind_of h4 h13 c2
      refine Or.inr (Or.inr ⟨q, j, hq, hj, rfl, rfl, c1, c2, ?_⟩)
      rw [if_neg c1, oBx_l, if_neg c2, oBx_l]
      have e : f_X6_passedBy σ (nI q) = some (rL σ 29 q) := by
        unfold f_X6_passedBy
        rw [if_neg (show ¬ nI q < 0 from fun z => by have := (nI_lt' (b := 0) (by omega) (by omega)).mp z; omega), if_neg (show ¬ (4 : Int32) ≤ nI q from fun z => by have := (nI_leI (a := 4) (by omega) (by omega)).mp z; omega), if_neg (by decide), if_pos (inB_nI (by decide) (by omega)), nI_clamp (by omega)]
      rw [e, ← C.2.2.2.2.1 q (by omega) j hj]
      rfl
