/-! alone: the reference, and as a call -/
theorem tN_un {B : Bd} {kk : Nat} (hk : kk < 52) (mm c : Nat) (hm : mm < 13) : tN (fun k => tjB B k + (if k = kk then 1 else 0)) xZ mm c = tN (tjB B) (unX kk) mm c := by
  unfold tN xZ unX
  rw [Nat.add_zero]
  have e : (13 * c + mm = kk) = (mm = kk % 13 ∧ c = kk / 13) := propext (by omega)
  simp only [e]
noncomputable def aloB (B : Bd) (hh L kk : Nat) : Bool := @decide (aloP B hh L kk) (Classical.propDecidable _)
theorem aloB_iff {B : Bd} {hh L kk : Nat} : aloB B hh L kk = true ↔ aloP B hh L kk := by
  unfold aloB
  exact @decide_eq_true_iff _ (Classical.propDecidable _)
theorem b2i_01 (b : Bool) : b2i b = 0 ∨ b2i b = 1 := by
  cases b
  · exact Or.inl rfl
  · exact Or.inr rfl
theorem mAlone_eq {σ : rS} {B : Bd} {E : List Ent} {m : Mem} {l : Nat → Int64} {hh L jk ml pn n kk : Nat} (M : MI σ B E m l) (o : OkT B) (r : RuM m hh L jk ml pn n) (hk : kk < 52) (h13 : kk % 13 < hh) : ∃ τ, f_X11_isAlone σ (nI kk) = some (b2i (aloB B hh L kk), τ) ∧ MI τ B E m l ∧ FrRf σ τ ∧ rI τ 67 0 = rI σ 67 0 := by
  obtain ⟨τ, a1, a2, a3, a4⟩ := laysTable_eq M o
  have hN := r.2.2.1
  have q91 : rI τ 91 kk = nI (tjB B kk) := (a3.1 kk hk).1
  have t2 := tjB_le o kk
  have c0 : (nI (tjB B kk) ≤ 1) = (tjB B kk ≤ 1) := propext (nI_leI (b := 1) (by omega) (by omega))
  unfold f_X11_isAlone
  rw [a1, oB_some, if_pos (inB_nI (by decide) hk), nI_clamp (by omega), q91]
  simp only [c0]
  by_cases c : tjB B kk ≤ 1
  · rw [if_pos c, nI_1, oLet_eq]
    have W : FrX W91 τ (wI τ 91 kk (nI (tjB B kk + 1))) := FrX.w _ _ (by omega)
    have M1 := MI_91 a2 W
    have Be : BeM (wI τ 91 kk (nI (tjB B kk + 1))) (fun k => tjB B k + (if k = kk then 1 else 0)) (fun _ => 0) := ⟨fun k h => ⟨by
      show rI (wI τ 91 kk (nI (tjB B kk + 1))) 91 k = nI (tjB B k + if k = kk then 1 else 0)
      rw [fld_eq]
      by_cases e : k = kk
      · rw [if_pos ⟨rfl, e⟩, if_pos e, e]
      · rw [if_neg (fun z => e z.2), if_neg e, Nat.add_zero]; exact (a3.1 k h).1, by rw [fld_eq, if_neg (by omega)]; exact (a3.1 k h).2⟩, fun k => by
        have := tjB_le o k
        dsimp only
        by_cases e : k = kk
        · subst e; rw [if_pos rfl]; omega
        · rw [if_neg e]; omega⟩
    obtain ⟨υ, b1, b2, b3, b4⟩ := canBeCut_eq (MI_Rf M1 r) Be (MI_h M1 r) hN
    have e : (rsM false false L hh (fun k => tjB B k + (if k = kk then 1 else 0)) (fun _ => 0)).isSome = aloB B hh L kk := by
      have h := rs_whole (bw := false) (bs := fun k => tjB B k + (if k = kk then 1 else 0)) (ex := fun _ => 0) r.2.2.2.1 (fun _ => by decide) hN
      have h' : AccR L (tN (fun k => tjB B k + (if k = kk then 1 else 0)) xZ) hh ↔ aloP B hh L kk := ⟨fun z => ⟨h13, c, AccR_congr (fun a ha d _ => tN_un hk a d (by omega)) z⟩, fun z => AccR_congr (fun a ha d _ => (tN_un hk a d (by omega)).symm) z.2.2⟩
      rw [h', ← aloB_iff] at h
      cases x : (rsM false false L hh (fun k => tjB B k + (if k = kk then 1 else 0)) (fun _ => 0)).isSome with
      | true => exact (h.mp x).symm
      | false =>
        cases y : aloB B hh L kk with
        | false => rfl
        | true => rw [h.mpr y] at x; exact absurd x (by decide)
    rw [b1, oB_some, e, if_pos (b2i_01 _)]
    exact ⟨υ, rfl, MI_J M1 b3 b4, ((FrRf_X a4 fun x j w => by omega).tr (FrRf_X W fun x j w => by omega)).tr (FrRf_J b4), by rw [b4.2.2.2.1 67 0 (by omega) (by omega), W.2.2.2.2 67 0 (by omega), a4.2.2.2.2 67 0 (by omega)]⟩
  · rw [if_neg c]
    have e : aloB B hh L kk = false := by
      cases y : aloB B hh L kk with
      | false => rfl
      | true => exact absurd (aloB_iff.mp y).2.1 c
    rw [e]
    exact ⟨τ, rfl, a2, FrRf_X a4 fun x j w => by omega, a4.2.2.2.2 67 0 (by omega)⟩
theorem alone_s {σ : rS} {B : Bd} {E : List Ent} {dl : Option (Nat × Nat × Nat)} {m : Mem} {l : Nat → Int64} {ch hh L jk ml pn n : Nat} (C : CI σ B E dl m l ch) (M : MI σ B E m l) (K : KcI σ B m hh L ch) (r : RuM m hh L jk ml pn n) (o : OkT B) (k : Int32) : QStep (fun τ => KcI τ B m hh L ch) (fun σ => f_L_alone σ k) (fun σ => f_X11_alone σ k) σ B E dl m l ch := by
  have h4 := CI_h C r
  have h13 := r.2.2.1
  by_cases c : v_X5_isKind σ k = 0
  · refine q_ex C M (fun τ f => KcI_fr K f) 1 0 (by decide) ?_ ?_
    · show f_L_alone σ k = _
      unfold f_L_alone f_X10_alone f_X10_needKind
      rw [if_pos c, oBx_r, oBc_r lk1]
    · show f_X11_alone σ k = _
      unfold f_X11_alone
      rw [kind_same h4 (MI_h M r), if_pos c, holds1, oB_some, if_neg (by decide)]
  · obtain ⟨kk, hk, hk13, rfl⟩ := isKind_of h4 h13 c
    obtain ⟨v, τ, a1, a2, a3, a4, a5⟩ := cAlone_eq C o r K
    have ev : vBit v (nI kk) = b2i (aloB B hh L kk) := by
      obtain ⟨b1, b2⟩ := vBit_hb v hk
      cases y : aloB B hh L kk with
      | true => exact b1 ((a5 kk hk).mpr (aloB_iff.mp y))
      | false => exact b2 fun z => by rw [aloB_iff.mpr ((a5 kk hk).mp z)] at y; exact absurd y (by decide)
    have M1 := MI_fr M (a3.tr (FrCl_114 τ (b2i (aloB B hh L kk)).toInt64))
    obtain ⟨υ, b1, b2, b3, b4⟩ := mAlone_eq (MI_t M1 0) o r hk hk13
    refine ⟨0, wL τ 114 0 (b2i (aloB B hh L kk)).toInt64, b2i (aloB B hh L kk), υ, ?_, ?_, b4.trans (by rw [fld_eq, if_pos ⟨rfl, rfl⟩]), fun _ => ?_, CI_fr (CI_114 a2 _) ((FrRf_w (by omega) _).tr b3), b2, (Fr2_Cl (a3.tr (FrCl_114 τ _))).tr (Fr2_Rf ((FrRf_w (by omega) _).tr b3)), KcI_fr a4 ((FrK_114 τ _).tr (FrK_R ((FrRf_w (by omega) _).tr b3)))⟩
    · show f_L_alone σ (nI kk) = _
      unfold f_L_alone f_X10_alone f_X10_needKind
      rw [if_neg c, oBx_l, a1, oB_some, oBc_l, ev]
      cases aloB B hh L kk <;> rfl
    · show f_X11_alone (wL τ 114 0 _) (nI kk) = _
      unfold f_X11_alone
      rw [kind_same h4 (MI_h M1 r), if_neg c, holds0, oB_some, if_pos rfl, b1, oB_some, if_pos (b2i_01 _)]
    · rw [b3.2.2.2.2 114 0 (by omega)]
      show rL (wL τ 114 0 _) 114 0 = _
      rw [q_LL, if_pos ⟨rfl, rfl⟩]
