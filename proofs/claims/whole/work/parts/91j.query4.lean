/-! passed, wipe, type, player -/
theorem lg_0 (a b : Int64) : lg_cmp a b = 0 ↔ a = b := by
  unfold lg_cmp
  by_cases h : a > b
  · rw [if_pos h]
    refine ⟨fun q => absurd q (by decide), fun q => ?_⟩
    rw [q] at h
    exact absurd h (Int64.lt_irrefl)
  · rw [if_neg h]
    by_cases e : a = b
    · rw [if_pos e]; exact ⟨fun _ => e, fun _ => rfl⟩
    · rw [if_neg e]; exact ⟨fun q => absurd q (by decide), fun q => absurd q e⟩
theorem vBit_hb (x : Int64) {k : Nat} (hk : k < 52) : (hb x k → vBit x (nI k) = 1) ∧ (¬ hb x k → vBit x (nI k) = 0) := by
  have h0 : (0 : Int32) ≤ nI k := (nI_leI (a := 0) (by omega) (by omega)).mpr (Nat.zero_le _)
  have h1 : nI k < 52 := (nI_lt' (b := 52) (by omega) (by omega)).mpr hk
  unfold vBit
  constructor
  · intro h
    rw [if_pos ⟨h0, h1, (lg_0 _ _).mpr ((bit_u x hk).mpr h)⟩]
  · intro h
    rw [if_neg (fun z => h ((bit_u x hk).mp ((lg_0 _ _).mp z.2.2)))]
theorem passed_q {σ : rS} {B : Bd} {E : List Ent} {dl : Option (Nat × Nat × Nat)} {m : Mem} {l : Nat → Int64} {ch hh L jk ml pn n : Nat} (C : CI σ B E dl m l ch) (M : MI σ B E m l) {Kp : rS → Prop} (hK : ∀ τ, FrK σ τ → Kp τ) (r : RuM m hh L jk ml pn n) (p k : Int32) : QStep Kp (fun σ => f_L_passed σ p k) (fun σ => f_X11_passed σ p k) σ B E dl m l ch := by
  have h4 := CI_h C r
  have hn := CI_n C r
  have hn4 := r.2.2.2.2.2.2.2.2
  rcases passed_s C r (p := p) (k := k) with ⟨c1, e⟩ | ⟨c1, c2, e⟩ | ⟨q, j, hq, hj, rfl, rfl, c1, c2, e⟩
  · refine q_ex C M hK 1 0 (by decide) ?_ ?_
    · show f_L_passed σ p k = _
      unfold f_L_passed
      rw [e, oBc_r lk2]
    · show f_X11_passed σ p k = _
      unfold f_X11_passed
      rw [pl_same hn (MI_n M r), if_pos c1, holds1, oB_some, if_neg (by decide)]
  · refine q_ex C M hK 2 0 (by decide) ?_ ?_
    · show f_L_passed σ p k = _
      unfold f_L_passed
      rw [e, oBc_r lk3]
    · show f_X11_passed σ p k = _
      unfold f_X11_passed
      rw [pl_same hn (MI_n M r), if_neg c1, kind_same h4 (MI_h M r), if_pos c2, holds2, oB_some, if_neg (by decide)]
  · obtain ⟨b1, b2⟩ := vBit_hb (l q) hj
    have key : ∀ v : Int32, (v = 0 ∨ v = 1) → vBit (l q) (nI j) = v → (∀ τ, MI τ B E m l → f_X11_passed τ (nI q) (nI j) = some (v, wI τ 67 0 0)) → QStep Kp (fun σ => f_L_passed σ (nI q) (nI j)) (fun σ => f_X11_passed σ (nI q) (nI j)) σ B E dl m l ch := fun v h01 hv hr => q_ok C M hK v (by
      show f_L_passed σ (nI q) (nI j) = _
      unfold f_L_passed
      rw [e, oBc_l, hv]
      rcases h01 with z | z <;> rw [z] <;> rfl) hr
    have rf : ∀ τ, MI τ B E m l → f_X11_passed τ (nI q) (nI j) = some (if lg_cmp (((l q) >>> ((nI j).toInt64 &&& 63)) &&& 1) 1 = 0 then 1 else 0, wI τ 67 0 0) := fun τ N => by
      unfold f_X11_passed
      rw [pl_same hn (MI_n N r), if_neg c1, kind_same h4 (MI_h N r), if_neg c2, holds0, oB_some, if_pos rfl, if_pos (inB_nI (by decide) (by omega)), nI_clamp (by omega), show rL (wI τ 67 0 0) 75 q = rL τ 75 q from rfl, N.2.2.2.1 q (by omega)]
    by_cases h : hb (l q) j
    · exact key 1 (Or.inr rfl) (b1 h) fun τ N => by rw [rf τ N, if_pos ((lg_0 _ _).mpr ((bit_s _ hj).mpr h))]
    · exact key 0 (Or.inl rfl) (b2 h) fun τ N => by rw [rf τ N, if_neg (fun z => h ((bit_s _ hj).mp ((lg_0 _ _).mp z)))]
/-- a call without a wrapper -/
def DStep (Kp : rS → Prop) (fL fR : rS → Option (Int32 × rS)) (σ : rS) (B : Bd) (E : List Ent) (dl : Option (Nat × Nat × Nat)) (m : Mem) (l : Nat → Int64) (ch : Nat) : Prop :=
  ∃ v σ1 σ2, fL σ = some (v, σ1) ∧ fR σ1 = some (v, σ2) ∧ CI σ2 B E dl m l ch ∧ MI σ2 B E m l ∧ Fr3 σ σ1 σ2 ∧ Kp σ2
theorem wipe_s {σ : rS} {B : Bd} {E : List Ent} {dl : Option (Nat × Nat × Nat)} {m : Mem} {l : Nat → Int64} {ch : Nat} (C : CI σ B E dl m l ch) (M : MI σ B E m l) {Kp : rS → Prop} (hK : ∀ τ, FrK σ τ → Kp τ) : DStep Kp f_X10_wipe f_X11_wipe σ B E dl (up2 m 67 34 0) l ch := by
  have M1 := MI_fr M (FrCl_w (a := 31) (k := 1) (by omega) 0)
  have f2 : FrRf (wI σ 31 1 0) (wI (wI (wI σ 31 1 0) 67 0 0) 67 34 0) := (FrRf_w (by omega) _).tr (FrRf_w (by omega) _)
  refine ⟨m 67 34, wI σ 31 1 0, wI (wI (wI σ 31 1 0) 67 0 0) 67 34 0, ?_, ?_, CI_fr (CI_w C (a := 31) (k := 1) (by omega) 0) f2, MI_w (MI_t M1 0) (by omega) 0, (Fr2_Cl (FrCl_w (by omega) _)).tr (Fr2_Rf f2), hK _ ((FrK_w (by omega) _).tr (FrK_R f2))⟩
  · show some (rI σ 31 1, wI σ 31 1 0) = _
    rw [CI_4 C (x := 31) (j := 1) (by omega)]
    rfl
  · unfold f_X11_wipe
    rw [holds0, oB_some, oLet_eq, (MI_t M1 0).2.2.1 67 34 (by omega)]
theorem type_s {σ : rS} {B : Bd} {E : List Ent} {dl : Option (Nat × Nat × Nat)} {m : Mem} {l : Nat → Int64} {ch wr : Nat} (C : CI σ B E dl m l ch) (M : MI σ B E m l) {Kp : rS → Prop} (hK : ∀ τ, FrK σ τ → Kp τ) (hw : m 67 34 = nI wr) (h40 : wr ≤ 40) (c : Int32) : QStep Kp (fun σ => f_L_type σ c) (fun σ => f_X11_type σ c) σ B E dl m l ch ∨ (wr < 40 ∧ QStep Kp (fun σ => f_L_type σ c) (fun σ => f_X11_type σ c) σ B E dl (up2 (up2 m 86 wr c) 67 34 (nI (wr + 1))) l ch) := by
  have e31 : rI σ 31 1 = nI wr := (CI_4 C (x := 31) (j := 1) (by omega)).trans hw
  by_cases c1 : (if vIn c 97 122 = 0 then (if vIn c 48 57 = 0 then false else true) else true) = true
  · have rh : ∀ τ, (if v_X11_in τ c 97 122 = 0 then (if v_X11_in τ c 48 57 = 0 then 1 else (if rI τ 67 34 = 40 then 2 else 0)) else (if rI τ 67 34 = 40 then 2 else 0) : Int32) = if rI τ 67 34 = 40 then 2 else 0 := fun τ => by
      rw [in_eq, in_eq]
      by_cases g1 : vIn c 97 122 = 0
      · rw [if_pos g1] at c1 ⊢
        by_cases g2 : vIn c 48 57 = 0
        · rw [if_pos g2] at c1; exact absurd c1 (by decide)
        · rw [if_neg g2]
      · rw [if_neg g1]
    by_cases c2 : wr = 40
    · refine Or.inl (q_ex C M hK 2 (-1) (by decide) ?_ ?_)
      · show f_L_type σ c = _
        unfold f_L_type f_X10_type f_X7_write
        rw [if_pos c1, e31, if_neg (show ¬ nI wr < 40 from fun z => by have := (nI_lt' (b := 40) (by omega) (by omega)).mp z; omega), oB_some, if_pos rfl, oBc_r lk5]
      · show f_X11_type σ c = _
        unfold f_X11_type
        rw [rh, (M.2.2.1 67 34 (by omega)).trans hw, c2, if_pos (show nI 40 = 40 from rfl), holds2, oB_some, if_neg (by decide)]
    · have l40 : wr < 40 := by omega
      have C1 := CI_w C (a := 32) (k := wr) (by omega) c
      have C2 := CI_w C1 (a := 31) (k := 1) (by omega) (nI (wr + 1))
      refine Or.inr ⟨l40, q_w (v := nI (wr + 1)) C2 M ((FrCl_w (by omega) _).tr (FrCl_w (by omega) _)) ((FrK_w (by omega) _).tr (FrK_w (by omega) _)) hK ?_ fun τ N => ?_⟩
      · show f_L_type σ c = _
        unfold f_L_type f_X10_type f_X7_write
        have q1 : rI (wI σ 32 wr c) 31 1 = nI wr := by rw [fld_eq, if_neg (by omega), e31]
        rw [if_pos c1, e31, if_pos (show nI wr < 40 from (nI_lt' (b := 40) (by omega) (by omega)).mpr l40), if_pos (inB_nI (by decide) l40), nI_clamp (by omega), oLet_eq, q1, nI_1, oLet_eq, oB_some, if_neg (by decide), fld_eq, if_pos ⟨rfl, rfl⟩, oBc_l]
        rfl
      · show ∃ τ', f_X11_type τ c = _ ∧ _
        have N0 := MI_t N 0
        have N1 := MI_w N0 (a := 86) (k := wr) (by omega) c
        have N2 := MI_w N1 (a := 67) (k := 34) (by omega) (nI (wr + 1))
        have e0 : rI (wI τ 67 0 0) 67 34 = nI wr := (N0.2.2.1 67 34 (by omega)).trans hw
        have e1 : rI (wI (wI τ 67 0 0) 86 wr c) 67 34 = nI wr := by rw [fld_eq, if_neg (by omega), e0]
        refine ⟨_, ?_, N2, by rw [fld_eq, if_neg (by omega), fld_eq, if_neg (by omega), fld_eq, if_pos ⟨rfl, rfl⟩], ((FrRf_w (by omega) _).tr (FrRf_w (by omega) _)).tr (FrRf_w (by omega) _)⟩
        unfold f_X11_type
        rw [rh, (N.2.2.1 67 34 (by omega)).trans hw, if_neg (show ¬ nI wr = 40 from fun z => c2 ((nI_eq (b := 40) (by omega) (by omega)).mp z)), holds0, oB_some, if_pos rfl, e0, if_pos (inB_nI (by decide) l40), nI_clamp (by omega), oLet_eq, e1, nI_1, oLet_eq, fld_eq, if_pos ⟨rfl, rfl⟩]
  · refine Or.inl (q_ex C M hK 1 (-1) (by decide) ?_ ?_)
    · show f_L_type σ c = _
      unfold f_L_type f_X10_type
      rw [if_neg c1, oBc_r lk4]
    · show f_X11_type σ c = _
      unfold f_X11_type
      rw [in_eq, in_eq]
      by_cases g1 : vIn c 97 122 = 0
      · rw [if_pos g1] at c1 ⊢
        by_cases g2 : vIn c 48 57 = 0
        · rw [if_pos g2, holds1, oB_some, if_neg (by decide)]
        · rw [if_neg g2] at c1; exact absurd rfl c1
      · rw [if_neg g1] at c1; exact absurd rfl c1
