/-! the constructors: cells are made in the order of their numbers -/
def PSy (σ : rS) : Prop := 3 ≤ rN σ ∧ (∀ i, i + 3 < rN σ → rK σ (i + 3) = shKs.getD i (0, 0)) ∧ rK σ 1 = (0, 21) ∧ (rK σ 2).1 = 0
theorem PSy_wI {σ : rS} {a k : Nat} {v : Int32} (h : PSy σ) : PSy (wI σ a k v) := h
theorem PSy_wL {σ : rS} {a k : Nat} {v : Int64} (h : PSy σ) : PSy (wL σ a k v) := h
theorem PSy_wR {σ : rS} {a k : Nat} {v : Nat} (h : PSy σ) : PSy (wR σ a k v) := h
theorem PSy_wN {σ : rS} {c : Nat} {q : Nat × Nat} (h : PSy σ) (hr : rN σ = c) (hq : shKs.getD (c - 3) (0, 0) = q) : PSy (wN σ q) := by
  obtain ⟨h1, h2, h3, h4⟩ := h
  have e : rN (wN σ q) = rN σ + 1 := rfl
  refine ⟨by omega, fun i hi => ?_, ?_, ?_⟩
  · show va_up (rK σ) (rN σ) q (i + 3) = _
    by_cases hh : i + 3 = rN σ
    · rw [hh, up_same, ← hq]; congr 1; omega
    · rw [up_other _ _ hh]; exact h2 i (by omega)
  · show va_up (rK σ) (rN σ) q 1 = _
    rw [up_other _ _ (by omega)]; exact h3
  · show (va_up (rK σ) (rN σ) q 2).1 = _
    rw [up_other _ _ (by omega)]; exact h4
theorem PSy_k {σ : rS} {n i : Nat} {q : Nat × Nat} (h : PSy σ) (hr : rN σ = n) (hi : 3 ≤ i ∧ i < n) (hq : shKs.getD (i - 3) (0, 0) = q) : rK σ i = q := by
  have := h.2.1 (i - 3) (by omega)
  rw [show i - 3 + 3 = i by omega] at this
  rw [this, hq]
theorem PSy_t {σ : rS} {t n j : Nat} {q : Nat × Nat} (h : PSy σ) (ht : isT t) (hr : rN σ = n) (hi : t + j < n) (hq : shKs.getD (38 + j - 3) (0, 0) = q) (hq2 : shKs.getD (43 + j - 3) (0, 0) = q) : rK σ (t + j) = q := by
  rcases ht with rfl | rfl
  · exact PSy_k h hr ⟨by omega, hi⟩ hq
  · exact PSy_k h hr ⟨by omega, hi⟩ hq2
theorem P_wc {M : rM} {k kc ks : Nat} {o : Option Value ⊕ String} {τ : rS} {I : rS → Prop} {R : Type} {W : R → rS} {K : R → Prop} {pc pc2 : Nat} {ls ls2 : List (Option Value)} {st st2 : List Value} {σ σ2 : rS} {f : rS → Option R} (h : J I σ → ∀ kc ks, rE M k pc2 ls2 st2 σ2 kc ks o τ → rE M k pc ls st σ kc ks o τ) (hI : J I σ → I σ2) (hN : rN σ2 = rN σ) (hC : uC σ2 = uC σ) (hS : uS σ2 = uS σ) (kk : ∀ z, rN z = rN σ → rP I M k kc ks o τ W K pc2 ls2 st2 z (f z)) : rP I M k kc ks o τ W K pc ls st σ (oLet σ2 f) := fun hJ r hr => by
  have hJ2 : J I σ2 := ⟨hI hJ, by rw [hC]; exact hJ.2.1, by rw [hS]; exact hJ.2.2⟩
  obtain ⟨h1, h2⟩ := kk σ2 hN hJ2 r hr
  rw [hC, hS] at h1 h2
  exact ⟨h1, fun a b c => h hJ _ _ (h2 a b c)⟩
theorem P_nc {M : rM} {k kc ks : Nat} {o : Option Value ⊕ String} {τ : rS} {I : rS → Prop} {R : Type} {W : R → rS} {K : R → Prop} {pc pc2 n c c2 : Nat} {ls : List (Option Value)} {st st0 : List Value} {σ : rS} {q : Nat × Nat} {f : rS → Option R} (hr : rN σ = c) (hc : c + 1 = c2) (h : J I σ → ∀ kc ks, rE M k pc2 ls (.ref (rN σ) :: st) (wN σ q) kc ks o τ → rE M k pc ls st0 σ (kc + 1) (ks + n) o τ) (hn : rSz q = n) (h3 : J I σ → 3 ≤ rN σ) (hI : J I σ → I (wN σ q)) (kk : ∀ z, rN z = c2 → rP I M k kc ks o τ W K pc2 ls (.ref c :: st) z (f z)) : rP I M k kc ks o τ W K pc ls st0 σ (if uC σ + 1 ≤ bC ∧ uS σ + n ≤ bS then oLet (wN σ q) f else none) := by
  have kk2 := kk (wN σ q) (by show rN σ + 1 = c2; omega)
  rw [← hr] at kk2
  exact P_n h hn h3 hI kk2
def v_X8_pair (σ : rS) (p1 : Int32) (p2 : Int32) : Int32 := ((p2 * (p2 + 1)) / 2) + p1
set_option maxRecDepth 20000 in
theorem ok_X8_pair {σ : rS} {p1 : Int32} {p2 : Int32}  (hJ : J PSy σ)  : rMet yX8_pair mX8_pair 0 [.int p1, .int p2] σ 0 0 (some (.int (v_X8_pair σ p1 p2))) σ := by
  refine rMet_of (ls := [some (.int p1), some (.int p2)]) yfX8_pair rfl (Nat.le_of_ble_eq_true rfl) ?_
  refine E_iload_n dX8_pair_0 rfl ?_
  refine E_iload_n dX8_pair_1 rfl ?_
  refine E_iconst (v := 1) dX8_pair_2 (by decide) ?_
  refine E_iadd dX8_pair_3 ?_
  refine E_imul dX8_pair_4 ?_
  refine E_iconst (v := 2) dX8_pair_5 (by decide) ?_
  refine E_idiv dX8_pair_6 (by decide) ?_
  refine E_iload_n dX8_pair_7 rfl ?_
  refine E_iadd dX8_pair_8 ?_
  exact E_iretE rfl dX8_pair_9 rfl rfl

def v_X8_fewestBegun (σ : rS) (p1 : Int32) (p2 : Int32) : Int32 := if p2 = 0 then (if p1 = 0 then p2 else p1) else (if (p2 >>> ((16 : Int32) &&& 31)) ≤ (p1 >>> ((16 : Int32) &&& 31)) then (if p1 = 0 then p2 else p2) else (if p1 = 0 then p2 else p1))
set_option maxRecDepth 20000 in
theorem ok_X8_fewestBegun {σ : rS} {p1 : Int32} {p2 : Int32}  (hJ : J PSy σ)  : rMet yX8_fewestBegun mX8_fewestBegun 0 [.int p1, .int p2] σ 0 0 (some (.int (v_X8_fewestBegun σ p1 p2))) σ := by
  refine rMet_of (ls := [some (.int p1), some (.int p2), none]) yfX8_fewestBegun rfl (Nat.le_of_ble_eq_true rfl) ?_
  refine E_iload_n dX8_fewestBegun_0 rfl ?_
  refine E_if_eq 15 dX8_fewestBegun_1 (by decide) (fun c_1_0 => ?_) (fun c_1_0 => ?_)
  · skip
    refine E_iconst (v := 1) dX8_fewestBegun_15 (by decide) ?_
    refine E_goto 20 dX8_fewestBegun_16 (by decide) ?_
    refine E_istore_n (ls2 := [some (.int p1), some (.int p2), some (.int 1)]) dX8_fewestBegun_20 (by decide) rfl ?_
    refine E_iload_n dX8_fewestBegun_21 rfl ?_
    refine E_if_eq 33 dX8_fewestBegun_22 (by decide) (fun c_22_1 => ?_) (fun c_22_1 => ?_)
    · skip
      refine E_iload_n dX8_fewestBegun_33 rfl ?_
      exact E_iretE rfl dX8_fewestBegun_34 (by unfold v_X8_fewestBegun; simp only [if_pos c_1_0, if_pos c_22_1]) rfl
    · skip
      refine E_iload_n dX8_fewestBegun_25 rfl ?_
      refine E_if_eq 33 dX8_fewestBegun_26 (by decide) (fun c_26_2 => ?_) (fun c_26_2 => ?_)
      · skip
        exact absurd c_26_2 (by decide)
      · skip
        refine E_iload_n dX8_fewestBegun_29 rfl ?_
        refine E_goto 34 dX8_fewestBegun_30 (by decide) ?_
        exact E_iretE rfl dX8_fewestBegun_34 (by unfold v_X8_fewestBegun; simp only [if_pos c_1_0, if_neg c_22_1]) rfl
  · skip
    refine E_iload_n dX8_fewestBegun_4 rfl ?_
    refine E_bipush (v := 16) dX8_fewestBegun_5 (by decide) ?_
    refine E_ishr dX8_fewestBegun_7 ?_
    refine E_iload_n dX8_fewestBegun_8 rfl ?_
    refine E_bipush (v := 16) dX8_fewestBegun_9 (by decide) ?_
    refine E_ishr dX8_fewestBegun_11 ?_
    refine E_icmp_ge 19 dX8_fewestBegun_12 (by decide) (fun c_12_1 => ?_) (fun c_12_1 => ?_)
    · skip
      refine E_iconst (v := 0) dX8_fewestBegun_19 (by decide) ?_
      refine E_istore_n (ls2 := [some (.int p1), some (.int p2), some (.int 0)]) dX8_fewestBegun_20 (by decide) rfl ?_
      refine E_iload_n dX8_fewestBegun_21 rfl ?_
      refine E_if_eq 33 dX8_fewestBegun_22 (by decide) (fun c_22_2 => ?_) (fun c_22_2 => ?_)
      · skip
        refine E_iload_n dX8_fewestBegun_33 rfl ?_
        exact E_iretE rfl dX8_fewestBegun_34 (by unfold v_X8_fewestBegun; simp only [if_neg c_1_0, if_pos c_12_1, if_pos c_22_2]) rfl
      · skip
        refine E_iload_n dX8_fewestBegun_25 rfl ?_
        refine E_if_eq 33 dX8_fewestBegun_26 (by decide) (fun c_26_3 => ?_) (fun c_26_3 => ?_)
        · skip
          refine E_iload_n dX8_fewestBegun_33 rfl ?_
          exact E_iretE rfl dX8_fewestBegun_34 (by unfold v_X8_fewestBegun; simp only [if_neg c_1_0, if_pos c_12_1, if_neg c_22_2]) rfl
        · skip
          exact absurd c_26_3 (by decide)
    · skip
      refine E_iconst (v := 1) dX8_fewestBegun_15 (by decide) ?_
      refine E_goto 20 dX8_fewestBegun_16 (by decide) ?_
      refine E_istore_n (ls2 := [some (.int p1), some (.int p2), some (.int 1)]) dX8_fewestBegun_20 (by decide) rfl ?_
      refine E_iload_n dX8_fewestBegun_21 rfl ?_
      refine E_if_eq 33 dX8_fewestBegun_22 (by decide) (fun c_22_2 => ?_) (fun c_22_2 => ?_)
      · skip
        refine E_iload_n dX8_fewestBegun_33 rfl ?_
        exact E_iretE rfl dX8_fewestBegun_34 (by unfold v_X8_fewestBegun; simp only [if_neg c_1_0, if_neg c_12_1, if_pos c_22_2]) rfl
      · skip
        refine E_iload_n dX8_fewestBegun_25 rfl ?_
        refine E_if_eq 33 dX8_fewestBegun_26 (by decide) (fun c_26_3 => ?_) (fun c_26_3 => ?_)
        · skip
          exact absurd c_26_3 (by decide)
        · skip
          refine E_iload_n dX8_fewestBegun_29 rfl ?_
          refine E_goto 34 dX8_fewestBegun_30 (by decide) ?_
          exact E_iretE rfl dX8_fewestBegun_34 (by unfold v_X8_fewestBegun; simp only [if_neg c_1_0, if_neg c_12_1, if_neg c_22_2]) rfl

def v_X8_longer (σ : rS) (t : Nat) (p1 : Int32) : Int32 := if rI σ t 0 < p1 + 1 then rI σ t 0 else p1 + 1
set_option maxRecDepth 20000 in
theorem ok_X8_longer {σ : rS} {t : Nat} {p1 : Int32}  (hJ : J PSy σ) (ht : isT t) (hr : rN σ = t + 5) : rMet yX8_longer mX8_longer 1 [.ref t, .int p1] σ 0 0 (some (.int (v_X8_longer σ t p1))) σ := by
  refine rMet_of (ls := [some (.ref t), some (.int p1)]) yfX8_longer rfl (Nat.le_of_ble_eq_true rfl) ?_
  refine E_iload_n dX8_longer_0 rfl ?_
  refine E_iconst (v := 1) dX8_longer_1 (by decide) ?_
  refine E_iadd dX8_longer_2 ?_
  refine E_aload_n dX8_longer_3 rfl ?_
  refine E_getI clX8 0 (by decide) flX8_22 (Or.inl rfl) dX8_longer_4 (PSy_t (j := 0) (q := (10, 0)) hJ.1 ht hr (by omega) (by decide) (by decide)) ?_
  refine E_mmin mlX8_49 (by decide) (Nat.le_of_ble_eq_true rfl) dX8_longer_7 ?_
  exact E_iretE rfl dX8_longer_10 rfl rfl

def v_X8_needing (σ : rS) (t : Nat) (p1 : Int32) (p2 : Int32) (p3 : Int32) : Int32 := if p1 ≤ 0 then (if p2 ≤ 0 then (0 + 0) else (if ((rI σ t 0) - p2) < p3 then (0 + 0) else (0 + 1))) else (if ((rI σ t 0) - p1) < p3 then (if p2 ≤ 0 then (0 + 0) else (if ((rI σ t 0) - p2) < p3 then (0 + 0) else (0 + 1))) else (if p2 ≤ 0 then (1 + 0) else (if ((rI σ t 0) - p2) < p3 then (1 + 0) else (1 + 1))))
set_option maxRecDepth 20000 in
theorem ok_X8_needing {σ : rS} {t : Nat} {p1 : Int32} {p2 : Int32} {p3 : Int32}  (hJ : J PSy σ) (ht : isT t) (hr : rN σ = t + 5) : rMet yX8_needing mX8_needing 0 [.ref t, .int p1, .int p2, .int p3] σ 0 0 (some (.int (v_X8_needing σ t p1 p2 p3))) σ := by
  refine rMet_of (ls := [some (.ref t), some (.int p1), some (.int p2), some (.int p3)]) yfX8_needing rfl (Nat.le_of_ble_eq_true rfl) ?_
  refine E_iload_n dX8_needing_0 rfl ?_
  refine E_if_le 18 dX8_needing_1 (by decide) (fun c_1_0 => ?_) (fun c_1_0 => ?_)
  · skip
    refine E_iconst (v := 0) dX8_needing_18 (by decide) ?_
    refine E_iload_n dX8_needing_19 rfl ?_
    refine E_if_le 37 dX8_needing_20 (by decide) (fun c_20_1 => ?_) (fun c_20_1 => ?_)
    · skip
      refine E_iconst (v := 0) dX8_needing_37 (by decide) ?_
      refine E_iadd dX8_needing_38 ?_
      exact E_iretE rfl dX8_needing_39 (by unfold v_X8_needing; simp only [if_pos c_1_0, if_pos c_20_1]) rfl
    · skip
      refine E_aload_n dX8_needing_23 rfl ?_
      refine E_getI clX8 0 (by decide) flX8_22 (Or.inl rfl) dX8_needing_24 (PSy_t (j := 0) (q := (10, 0)) hJ.1 ht hr (by omega) (by decide) (by decide)) ?_
      refine E_iload_n dX8_needing_27 rfl ?_
      refine E_isub dX8_needing_28 ?_
      refine E_iload_n dX8_needing_29 rfl ?_
      refine E_icmp_lt 37 dX8_needing_30 (by decide) (fun c_30_2 => ?_) (fun c_30_2 => ?_)
      · skip
        refine E_iconst (v := 0) dX8_needing_37 (by decide) ?_
        refine E_iadd dX8_needing_38 ?_
        exact E_iretE rfl dX8_needing_39 (by unfold v_X8_needing; simp only [if_pos c_1_0, if_neg c_20_1, if_pos c_30_2]) rfl
      · skip
        refine E_iconst (v := 1) dX8_needing_33 (by decide) ?_
        refine E_goto 38 dX8_needing_34 (by decide) ?_
        refine E_iadd dX8_needing_38 ?_
        exact E_iretE rfl dX8_needing_39 (by unfold v_X8_needing; simp only [if_pos c_1_0, if_neg c_20_1, if_neg c_30_2]) rfl
  · skip
    refine E_aload_n dX8_needing_4 rfl ?_
    refine E_getI clX8 0 (by decide) flX8_22 (Or.inl rfl) dX8_needing_5 (PSy_t (j := 0) (q := (10, 0)) hJ.1 ht hr (by omega) (by decide) (by decide)) ?_
    refine E_iload_n dX8_needing_8 rfl ?_
    refine E_isub dX8_needing_9 ?_
    refine E_iload_n dX8_needing_10 rfl ?_
    refine E_icmp_lt 18 dX8_needing_11 (by decide) (fun c_11_1 => ?_) (fun c_11_1 => ?_)
    · skip
      refine E_iconst (v := 0) dX8_needing_18 (by decide) ?_
      refine E_iload_n dX8_needing_19 rfl ?_
      refine E_if_le 37 dX8_needing_20 (by decide) (fun c_20_2 => ?_) (fun c_20_2 => ?_)
      · skip
        refine E_iconst (v := 0) dX8_needing_37 (by decide) ?_
        refine E_iadd dX8_needing_38 ?_
        exact E_iretE rfl dX8_needing_39 (by unfold v_X8_needing; simp only [if_neg c_1_0, if_pos c_11_1, if_pos c_20_2]) rfl
      · skip
        refine E_aload_n dX8_needing_23 rfl ?_
        refine E_getI clX8 0 (by decide) flX8_22 (Or.inl rfl) dX8_needing_24 (PSy_t (j := 0) (q := (10, 0)) hJ.1 ht hr (by omega) (by decide) (by decide)) ?_
        refine E_iload_n dX8_needing_27 rfl ?_
        refine E_isub dX8_needing_28 ?_
        refine E_iload_n dX8_needing_29 rfl ?_
        refine E_icmp_lt 37 dX8_needing_30 (by decide) (fun c_30_3 => ?_) (fun c_30_3 => ?_)
        · skip
          refine E_iconst (v := 0) dX8_needing_37 (by decide) ?_
          refine E_iadd dX8_needing_38 ?_
          exact E_iretE rfl dX8_needing_39 (by unfold v_X8_needing; simp only [if_neg c_1_0, if_pos c_11_1, if_neg c_20_2, if_pos c_30_3]) rfl
        · skip
          refine E_iconst (v := 1) dX8_needing_33 (by decide) ?_
          refine E_goto 38 dX8_needing_34 (by decide) ?_
          refine E_iadd dX8_needing_38 ?_
          exact E_iretE rfl dX8_needing_39 (by unfold v_X8_needing; simp only [if_neg c_1_0, if_pos c_11_1, if_neg c_20_2, if_neg c_30_3]) rfl
    · skip
      refine E_iconst (v := 1) dX8_needing_14 (by decide) ?_
      refine E_goto 19 dX8_needing_15 (by decide) ?_
      refine E_iload_n dX8_needing_19 rfl ?_
      refine E_if_le 37 dX8_needing_20 (by decide) (fun c_20_2 => ?_) (fun c_20_2 => ?_)
      · skip
        refine E_iconst (v := 0) dX8_needing_37 (by decide) ?_
        refine E_iadd dX8_needing_38 ?_
        exact E_iretE rfl dX8_needing_39 (by unfold v_X8_needing; simp only [if_neg c_1_0, if_neg c_11_1, if_pos c_20_2]) rfl
      · skip
        refine E_aload_n dX8_needing_23 rfl ?_
        refine E_getI clX8 0 (by decide) flX8_22 (Or.inl rfl) dX8_needing_24 (PSy_t (j := 0) (q := (10, 0)) hJ.1 ht hr (by omega) (by decide) (by decide)) ?_
        refine E_iload_n dX8_needing_27 rfl ?_
        refine E_isub dX8_needing_28 ?_
        refine E_iload_n dX8_needing_29 rfl ?_
        refine E_icmp_lt 37 dX8_needing_30 (by decide) (fun c_30_3 => ?_) (fun c_30_3 => ?_)
        · skip
          refine E_iconst (v := 0) dX8_needing_37 (by decide) ?_
          refine E_iadd dX8_needing_38 ?_
          exact E_iretE rfl dX8_needing_39 (by unfold v_X8_needing; simp only [if_neg c_1_0, if_neg c_11_1, if_neg c_20_2, if_pos c_30_3]) rfl
        · skip
          refine E_iconst (v := 1) dX8_needing_33 (by decide) ?_
          refine E_goto 38 dX8_needing_34 (by decide) ?_
          refine E_iadd dX8_needing_38 ?_
          exact E_iretE rfl dX8_needing_39 (by unfold v_X8_needing; simp only [if_neg c_1_0, if_neg c_11_1, if_neg c_20_2, if_neg c_30_3]) rfl

def b_X8_addStep_18 (σ : rS) (t : Nat) (p3 : Int32) (p4 : Int32) (p5 : Int32) (x1 : Int32) (s2 : Int32) : Option ((Unit × rS) ⊕ (Int32)) := if (x1 + 3) ≤ s2 then (some (.inl (((), σ)))) else (if rR σ t 1 = t + 1 then (if inB s2 256 then (if (rI σ (t + 1) (s2 : Int32).toNatClampNeg) = 0 then (oLet (wI σ (t + 1) (s2 : Int32).toNatClampNeg (((p3 ||| (p4 <<< ((8 : Int32) &&& 31))) ||| (p5 <<< ((16 : Int32) &&& 31))) ||| 16777216)) fun σ5 => some (.inl (((), σ5)))) else (some (.inr (s2 + 1)))) else none) else none)
def f_X8_addStep (σ : rS) (t : Nat) (p1 : Int32) (p2 : Int32) (p3 : Int32) (p4 : Int32) (p5 : Int32) : Option (Unit × rS) := oLet (((p1 &&& 15) <<< ((4 : Int32) &&& 31)) ||| ((p2 &&& 3) <<< ((2 : Int32) &&& 31)) : Int32) fun x1 => oLoop (b_X8_addStep_18 σ t p3 p4 p5 x1) oFuel x1
set_option maxRecDepth 20000 in
set_option maxHeartbeats 2000000 in
theorem ok_X8_addStep {σ : rS} {t : Nat} {p1 : Int32} {p2 : Int32} {p3 : Int32} {p4 : Int32} {p5 : Int32}  (ht : isT t) (hr : rN σ = t + 5) : rFn PSy yX8_addStep mX8_addStep 0 [.ref t, .int p1, .int p2, .int p3, .int p4, .int p5] σ 0 0 (fun _ => .inl none) (f_X8_addStep σ t p1 p2 p3 p4 p5) := by
  refine rF_of (ls := [some (.ref t), some (.int p1), some (.int p2), some (.int p3), some (.int p4), some (.int p5), none, none]) yfX8_addStep rfl (Nat.le_of_ble_eq_true rfl) (fun o τ => ?_)
  unfold f_X8_addStep
  refine P_l (fun hJ _ _ q => E_iload_n dX8_addStep_0 rfl (E_bipush (v := 15) dX8_addStep_1 (by decide) (E_iand dX8_addStep_3 (E_iconst (v := 4) dX8_addStep_4 (by decide) (E_ishl dX8_addStep_5 (E_iload_n dX8_addStep_6 rfl (E_iconst (v := 3) dX8_addStep_7 (by decide) (E_iand dX8_addStep_8 (E_iconst (v := 2) dX8_addStep_9 (by decide) (E_ishl dX8_addStep_10 (E_ior dX8_addStep_11 (E_istore (ls2 := [some (.ref t), some (.int p1), some (.int p2), some (.int p3), some (.int p4), some (.int p5), some (.int (((p1 &&& 15) <<< ((4 : Int32) &&& 31)) ||| ((p2 &&& 3) <<< ((2 : Int32) &&& 31)))), none]) dX8_addStep_12 (by decide) rfl q)))))))))))) ?_
  refine P_v (((p1 &&& 15) <<< ((4 : Int32) &&& 31)) ||| ((p2 &&& 3) <<< ((2 : Int32) &&& 31))) (fun x => [some (.ref t), some (.int p1), some (.int p2), some (.int p3), some (.int p4), some (.int p5), some (.int x), none]) (fun x1 => ?_)
  refine P_l (fun hJ _ _ q => E_iload dX8_addStep_14 rfl (E_istore (ls2 := [some (.ref t), some (.int p1), some (.int p2), some (.int p3), some (.int p4), some (.int p5), some (.int x1), some (.int x1)]) dX8_addStep_16 (by decide) rfl q)) ?_
  refine P_less [some (.ref t), none, none, some (.int p3), some (.int p4), some (.int p5), some (.int x1), some (.int x1)] (And.intro rfl (And.intro rfl (And.intro rfl (And.intro rfl (And.intro rfl (And.intro rfl trivial)))))) ?_
  refine P_loop (fun s2 => [some (.ref t), none, none, some (.int p3), some (.int p4), some (.int p5), some (.int x1), some (.int s2)]) (fun _ => σ) (fun s2 => ?_) _ x1
  unfold b_X8_addStep_18
  refine P_l (fun hJ _ _ q => E_iload dX8_addStep_18 rfl (E_iload dX8_addStep_20 rfl (E_iconst (v := 3) dX8_addStep_22 (by decide) (E_iadd dX8_addStep_23 q)))) ?_
  refine P_if (fun hJ _ _ h1 h2 => E_icmp_ge 67 dX8_addStep_24 (by decide) h1 h2) ?_ ?_
  · skip
    exact P_inl (P_ret (fun _ _ => E_vret rfl dX8_addStep_67))
  · skip
    refine P_l (fun hJ _ _ q => E_aload_n dX8_addStep_27 rfl q) ?_
    refine P_g (fun g3 => ?_)
    refine P_l (fun hJ _ _ q => E_getR (b := t + 1) clX8 1 (by decide) flX8_7 (Or.inr ⟨_, rfl⟩) dX8_addStep_28 (PSy_t (j := 0) (q := (10, 0)) hJ.1 ht hr (by omega) (by decide) (by decide)) g3 (isT0 ht) (E_iload dX8_addStep_31 rfl q)) ?_
    refine P_g (fun g4 => ?_)
    refine P_l (fun hJ _ _ q => E_iald dX8_addStep_33 (PSy_t (j := 1) (q := (0, 256)) hJ.1 ht hr (by omega) (by decide) (by decide)) (inB_vp g4) q) ?_
    refine P_if (fun hJ _ _ h1 h2 => E_if_ne 61 dX8_addStep_34 (by decide) h2 h1) ?_ ?_
    · skip
      refine P_l (fun hJ _ _ q => E_aload_n dX8_addStep_37 rfl (E_getR (b := t + 1) clX8 1 (by decide) flX8_7 (Or.inr ⟨_, rfl⟩) dX8_addStep_38 (PSy_t (j := 0) (q := (10, 0)) hJ.1 ht hr (by omega) (by decide) (by decide)) g3 (isT0 ht) (E_iload dX8_addStep_41 rfl (E_iload_n dX8_addStep_43 rfl (E_iload dX8_addStep_44 rfl (E_bipush (v := 8) dX8_addStep_46 (by decide) (E_ishl dX8_addStep_48 (E_ior dX8_addStep_49 (E_iload dX8_addStep_50 rfl (E_bipush (v := 16) dX8_addStep_52 (by decide) (E_ishl dX8_addStep_54 (E_ior dX8_addStep_55 (E_ldc dX8_addStep_56 kcX8_54 (E_ior dX8_addStep_58 q)))))))))))))) ?_
      refine P_wc (fun hJ _ _ q => E_iast dX8_addStep_59 (PSy_t (j := 1) (q := (0, 256)) hJ.1 ht hr (by omega) (by decide) (by decide)) (isT3 ht) (inB_vp g4) q) (fun hJ => PSy_wI hJ.1) rfl rfl rfl (fun σ5 hσ5 => ?_)
      exact P_inl (P_ret (fun _ _ => E_vret rfl dX8_addStep_60))
    · skip
      refine P_l (fun hJ _ _ q => E_iinc (v := 1) (ls2 := [some (.ref t), none, none, some (.int p3), some (.int p4), some (.int p5), some (.int x1), some (.int (s2 + 1))]) dX8_addStep_61 rfl (by decide) (by decide) rfl (E_goto 18 dX8_addStep_64 (by decide) q)) ?_
      exact P_back (s2 + 1)

def f_X8_fillSteps (σ : rS) (t : Nat) (p1 : Int32) (p2 : Int32) (p3 : Int32) (p4 : Int32) : Option (Unit × rS) := oLet ((if p2 = 0 then 1 else (if p2 = (rI σ t 0) then 1 else 0) : Int32) : Int32) fun x1 => oLet ((if p3 = 0 then 1 else (if p3 = (rI σ t 0) then 1 else 0) : Int32) : Int32) fun x2 => oLet ((if p4 = 0 then 0 else 1 : Int32) : Int32) fun x3 => oJoin (if (if x1 = 0 then true else (if x2 = 0 then true else false)) = true then (some (.inr σ)) else (oB (f_X8_addStep σ t p1 0 (v_X8_pair σ 0 0) 0 0) fun _ σ6 => if rN σ6 = t + 5 then (oB (f_X8_addStep σ6 t p1 1 (v_X8_pair σ6 0 1) 0 1) fun _ σ9 => if rN σ9 = t + 5 then (oB (f_X8_addStep σ9 t p1 2 (v_X8_pair σ9 1 1) 0 2) fun _ σ12 => some (.inr σ12)) else none) else none)) fun j4 => if rN j4 = t + 5 then (oJoin (if (if p3 ≤ 0 then true else (if x1 = 0 then true else false)) = true then (some (.inr j4)) else (oB (f_X8_addStep j4 t p1 1 (v_X8_pair j4 0 (v_X8_longer j4 t p3)) x3 0) fun _ σ16 => if rN σ16 = t + 5 then (oB (f_X8_addStep σ16 t p1 2 (v_X8_pair σ16 1 (v_X8_longer σ16 t p3)) x3 1) fun _ σ19 => some (.inr σ19)) else none)) fun j14 => if rN j14 = t + 5 then (oJoin (if (if p2 ≤ 0 then true else (if p3 ≤ p2 then true else (if x2 = 0 then true else false))) = true then (some (.inr j14)) else (oB (f_X8_addStep j14 t p1 1 (v_X8_pair j14 0 (v_X8_longer j14 t p2)) 0 0) fun _ σ23 => if rN σ23 = t + 5 then (oB (f_X8_addStep σ23 t p1 2 (v_X8_pair σ23 1 (v_X8_longer σ23 t p2)) 0 1) fun _ σ26 => some (.inr σ26)) else none)) fun j21 => if rN j21 = t + 5 then (if p2 ≤ 0 then (some (((), j21))) else (oLet ((if (v_X8_longer j21 t p2) = (rI j21 t 0) then (if p4 = 0 then (if p3 ≤ p2 then 0 else 1) else 1) else 0 : Int32) : Int32) fun x28 => oB (f_X8_addStep j21 t p1 2 ((if x28 = 0 then (v_X8_pair j21 (v_X8_longer j21 t p2) (v_X8_longer j21 t p3)) else 15 : Int32)) 0 0) fun _ σ30 => if rN σ30 = t + 5 then (some (((), σ30))) else none)) else none) else none) else none
set_option maxRecDepth 20000 in
set_option maxHeartbeats 2000000 in
theorem ok_X8_fillSteps {σ : rS} {t : Nat} {p1 : Int32} {p2 : Int32} {p3 : Int32} {p4 : Int32}  (ht : isT t) (hr : rN σ = t + 5) : rFn PSy yX8_fillSteps mX8_fillSteps 2 [.ref t, .int p1, .int p2, .int p3, .int p4] σ 0 0 (fun _ => .inl none) (f_X8_fillSteps σ t p1 p2 p3 p4) := by
  refine rF_of (ls := [some (.ref t), some (.int p1), some (.int p2), some (.int p3), some (.int p4), none, none, none, none]) yfX8_fillSteps rfl (Nat.le_of_ble_eq_true rfl) (fun o τ => ?_)
  unfold f_X8_fillSteps
  refine P_l (fun hJ _ _ q => E_iload_n dX8_fillSteps_0 rfl q) ?_
  refine P_l (pc2 := 17) (ls2 := [some (.ref t), some (.int p1), some (.int p2), some (.int p3), some (.int p4), none, none, none, none]) (st2 := [.int ((if p2 = 0 then 1 else (if p2 = (rI σ t 0) then 1 else 0) : Int32))]) (fun hJ _ _ hq => ?_) ?_
  · skip
    refine E_if_eq 12 dX8_fillSteps_1 (by decide) (fun c_1_0 => ?_) (fun c_1_0 => ?_)
    · skip
      refine E_iconst (v := 1) dX8_fillSteps_12 (by decide) ?_
      refine E_goto 17 dX8_fillSteps_13 (by decide) ?_
      simp only [if_pos c_1_0] at hq
      exact hq
    · skip
      refine E_iload_n dX8_fillSteps_4 rfl ?_
      refine E_aload_n dX8_fillSteps_5 rfl ?_
      refine E_getI clX8 0 (by decide) flX8_22 (Or.inl rfl) dX8_fillSteps_6 (PSy_t (j := 0) (q := (10, 0)) hJ.1 ht hr (by omega) (by decide) (by decide)) ?_
      refine E_icmp_ne 16 dX8_fillSteps_9 (by decide) (fun c_9_1 => ?_) (fun c_9_1 => ?_)
      · skip
        refine E_iconst (v := 0) dX8_fillSteps_16 (by decide) ?_
        simp only [if_neg c_1_0, if_neg c_9_1] at hq
        exact hq
      · skip
        refine E_iconst (v := 1) dX8_fillSteps_12 (by decide) ?_
        refine E_goto 17 dX8_fillSteps_13 (by decide) ?_
        simp only [if_neg c_1_0, if_pos c_9_1] at hq
        exact hq
  · skip
    refine P_l (fun hJ _ _ q => E_istore (ls2 := [some (.ref t), some (.int p1), some (.int p2), some (.int p3), some (.int p4), some (.int ((if p2 = 0 then 1 else (if p2 = (rI σ t 0) then 1 else 0) : Int32))), none, none, none]) dX8_fillSteps_17 (by decide) rfl q) ?_
    refine P_v ((if p2 = 0 then 1 else (if p2 = (rI σ t 0) then 1 else 0) : Int32)) (fun x => [some (.ref t), some (.int p1), some (.int p2), some (.int p3), some (.int p4), some (.int x), none, none, none]) (fun x1 => ?_)
    refine P_l (fun hJ _ _ q => E_iload_n dX8_fillSteps_19 rfl q) ?_
    refine P_l (pc2 := 36) (ls2 := [some (.ref t), some (.int p1), some (.int p2), some (.int p3), some (.int p4), some (.int x1), none, none, none]) (st2 := [.int ((if p3 = 0 then 1 else (if p3 = (rI σ t 0) then 1 else 0) : Int32))]) (fun hJ _ _ hq => ?_) ?_
    · skip
      refine E_if_eq 31 dX8_fillSteps_20 (by decide) (fun c_20_0 => ?_) (fun c_20_0 => ?_)
      · skip
        refine E_iconst (v := 1) dX8_fillSteps_31 (by decide) ?_
        refine E_goto 36 dX8_fillSteps_32 (by decide) ?_
        simp only [if_pos c_20_0] at hq
        exact hq
      · skip
        refine E_iload_n dX8_fillSteps_23 rfl ?_
        refine E_aload_n dX8_fillSteps_24 rfl ?_
        refine E_getI clX8 0 (by decide) flX8_22 (Or.inl rfl) dX8_fillSteps_25 (PSy_t (j := 0) (q := (10, 0)) hJ.1 ht hr (by omega) (by decide) (by decide)) ?_
        refine E_icmp_ne 35 dX8_fillSteps_28 (by decide) (fun c_28_1 => ?_) (fun c_28_1 => ?_)
        · skip
          refine E_iconst (v := 0) dX8_fillSteps_35 (by decide) ?_
          simp only [if_neg c_20_0, if_neg c_28_1] at hq
          exact hq
        · skip
          refine E_iconst (v := 1) dX8_fillSteps_31 (by decide) ?_
          refine E_goto 36 dX8_fillSteps_32 (by decide) ?_
          simp only [if_neg c_20_0, if_pos c_28_1] at hq
          exact hq
    · skip
      refine P_l (fun hJ _ _ q => E_istore (ls2 := [some (.ref t), some (.int p1), some (.int p2), some (.int p3), some (.int p4), some (.int x1), some (.int ((if p3 = 0 then 1 else (if p3 = (rI σ t 0) then 1 else 0) : Int32))), none, none]) dX8_fillSteps_36 (by decide) rfl q) ?_
      refine P_v ((if p3 = 0 then 1 else (if p3 = (rI σ t 0) then 1 else 0) : Int32)) (fun x => [some (.ref t), some (.int p1), some (.int p2), some (.int p3), some (.int p4), some (.int x1), some (.int x), none, none]) (fun x2 => ?_)
      refine P_l (fun hJ _ _ q => E_iload dX8_fillSteps_38 rfl q) ?_
      refine P_l (pc2 := 48) (ls2 := [some (.ref t), some (.int p1), some (.int p2), some (.int p3), some (.int p4), some (.int x1), some (.int x2), none, none]) (st2 := [.int ((if p4 = 0 then 0 else 1 : Int32))]) (fun hJ _ _ hq => ?_) ?_
      · skip
        refine E_if_eq 47 dX8_fillSteps_40 (by decide) (fun c_40_0 => ?_) (fun c_40_0 => ?_)
        · skip
          refine E_iconst (v := 0) dX8_fillSteps_47 (by decide) ?_
          simp only [if_pos c_40_0] at hq
          exact hq
        · skip
          refine E_iconst (v := 1) dX8_fillSteps_43 (by decide) ?_
          refine E_goto 48 dX8_fillSteps_44 (by decide) ?_
          simp only [if_neg c_40_0] at hq
          exact hq
      · skip
        refine P_l (fun hJ _ _ q => E_istore (ls2 := [some (.ref t), some (.int p1), some (.int p2), some (.int p3), some (.int p4), some (.int x1), some (.int x2), some (.int ((if p4 = 0 then 0 else 1 : Int32))), none]) dX8_fillSteps_48 (by decide) rfl q) ?_
        refine P_v ((if p4 = 0 then 0 else 1 : Int32)) (fun x => [some (.ref t), some (.int p1), some (.int p2), some (.int p3), some (.int p4), some (.int x1), some (.int x2), some (.int x), none]) (fun x3 => ?_)
        refine P_l (fun hJ _ _ q => E_iload dX8_fillSteps_50 rfl q) ?_
        refine P_join (pc2 := 99) (fun j4 => [some (.ref t), some (.int p1), some (.int p2), some (.int p3), some (.int p4), some (.int x1), some (.int x2), some (.int x3), none]) (fun j4 => []) (fun j4 => j4) ?_ (fun j4 => ?_)
        · skip
          refine P_if (c := (if x1 = 0 then true else (if x2 = 0 then true else false)) = true) (pc1 := 99) (ls1 := [some (.ref t), some (.int p1), some (.int p2), some (.int p3), some (.int p4), some (.int x1), some (.int x2), some (.int x3), none]) (st1 := []) (pc2 := 60) (ls2 := [some (.ref t), some (.int p1), some (.int p2), some (.int p3), some (.int p4), some (.int x1), some (.int x2), some (.int x3), none]) (st2 := []) (fun hJ _ _ hX hY => ?_) ?_ ?_
          · skip
            refine E_if_eq 99 dX8_fillSteps_52 (by decide) (fun c_52_0 => ?_) (fun c_52_0 => ?_)
            · skip
              exact hX (by simp only [if_pos c_52_0])
            · skip
              refine E_iload dX8_fillSteps_55 rfl ?_
              refine E_if_eq 99 dX8_fillSteps_57 (by decide) (fun c_57_1 => ?_) (fun c_57_1 => ?_)
              · skip
                exact hX (by simp only [if_neg c_52_0, if_pos c_57_1])
              · skip
                exact hY (by simp only [if_neg c_52_0, if_neg c_57_1]; exact Bool.false_ne_true)
          · skip
            exact P_back σ
          · skip
            refine P_l (fun hJ _ _ q => E_aload_n dX8_fillSteps_60 rfl (E_iload_n dX8_fillSteps_61 rfl (E_iconst (v := 0) dX8_fillSteps_62 (by decide) (E_iconst (v := 0) dX8_fillSteps_63 (by decide) (E_iconst (v := 0) dX8_fillSteps_64 (by decide) (E_callS (as := [.int 0, .int 0]) (st := [.int 0, .int p1, .ref t]) (ok_X8_pair (σ := σ) (p1 := 0) (p2 := 0) hJ ) (by decide) yfX8_pair mlX8_26 stX8_pair rfl (Nat.le_of_ble_eq_true rfl) rfl dX8_fillSteps_65 (E_iconst (v := 0) dX8_fillSteps_68 (by decide) (E_iconst (v := 0) dX8_fillSteps_69 (by decide) q)))))))) ?_
            refine P_call (t := fun _ => none) (st2 := fun _ => []) (kc2 := 0) (ks2 := 0) (fun hJ => (ok_X8_addStep (σ := σ) (t := t) (p1 := p1) (p2 := 0) (p3 := v_X8_pair σ 0 0) (p4 := 0) (p5 := 0) ht hr)) (fun hJ _ _ _ _ v τ1 hM q => E_callV (as := [.int p1, .int 0, .int (v_X8_pair σ 0 0), .int 0, .int 0]) (b := t) (st := []) hM (by decide) yfX8_addStep mlX8_41 imX8_addStep seX8_addStep clX8 (PSy_t (j := 0) (q := (10, 0)) hJ.1 ht hr (by omega) (by decide) (by decide)) rfl (Nat.le_of_ble_eq_true rfl) rfl dX8_fillSteps_70 q) (by decide) (by decide) (fun v5 σ6 => ?_)
            refine P_g (fun r7 => ?_)
            refine P_l (fun hJ _ _ q => E_aload_n dX8_fillSteps_73 rfl (E_iload_n dX8_fillSteps_74 rfl (E_iconst (v := 1) dX8_fillSteps_75 (by decide) (E_iconst (v := 0) dX8_fillSteps_76 (by decide) (E_iconst (v := 1) dX8_fillSteps_77 (by decide) (E_callS (as := [.int 0, .int 1]) (st := [.int 1, .int p1, .ref t]) (ok_X8_pair (σ := σ6) (p1 := 0) (p2 := 1) hJ ) (by decide) yfX8_pair mlX8_26 stX8_pair rfl (Nat.le_of_ble_eq_true rfl) rfl dX8_fillSteps_78 (E_iconst (v := 0) dX8_fillSteps_81 (by decide) (E_iconst (v := 1) dX8_fillSteps_82 (by decide) q)))))))) ?_
            refine P_call (t := fun _ => none) (st2 := fun _ => []) (kc2 := 0) (ks2 := 0) (fun hJ => (ok_X8_addStep (σ := σ6) (t := t) (p1 := p1) (p2 := 1) (p3 := v_X8_pair σ6 0 1) (p4 := 0) (p5 := 1) ht r7)) (fun hJ _ _ _ _ v τ1 hM q => E_callV (as := [.int p1, .int 1, .int (v_X8_pair σ6 0 1), .int 0, .int 1]) (b := t) (st := []) hM (by decide) yfX8_addStep mlX8_41 imX8_addStep seX8_addStep clX8 (PSy_t (j := 0) (q := (10, 0)) hJ.1 ht r7 (by omega) (by decide) (by decide)) rfl (Nat.le_of_ble_eq_true rfl) rfl dX8_fillSteps_83 q) (by decide) (by decide) (fun v8 σ9 => ?_)
            refine P_g (fun r10 => ?_)
            refine P_l (fun hJ _ _ q => E_aload_n dX8_fillSteps_86 rfl (E_iload_n dX8_fillSteps_87 rfl (E_iconst (v := 2) dX8_fillSteps_88 (by decide) (E_iconst (v := 1) dX8_fillSteps_89 (by decide) (E_iconst (v := 1) dX8_fillSteps_90 (by decide) (E_callS (as := [.int 1, .int 1]) (st := [.int 2, .int p1, .ref t]) (ok_X8_pair (σ := σ9) (p1 := 1) (p2 := 1) hJ ) (by decide) yfX8_pair mlX8_26 stX8_pair rfl (Nat.le_of_ble_eq_true rfl) rfl dX8_fillSteps_91 (E_iconst (v := 0) dX8_fillSteps_94 (by decide) (E_iconst (v := 2) dX8_fillSteps_95 (by decide) q)))))))) ?_
            refine P_call (t := fun _ => none) (st2 := fun _ => []) (kc2 := 0) (ks2 := 0) (fun hJ => (ok_X8_addStep (σ := σ9) (t := t) (p1 := p1) (p2 := 2) (p3 := v_X8_pair σ9 1 1) (p4 := 0) (p5 := 2) ht r10)) (fun hJ _ _ _ _ v τ1 hM q => E_callV (as := [.int p1, .int 2, .int (v_X8_pair σ9 1 1), .int 0, .int 2]) (b := t) (st := []) hM (by decide) yfX8_addStep mlX8_41 imX8_addStep seX8_addStep clX8 (PSy_t (j := 0) (q := (10, 0)) hJ.1 ht r10 (by omega) (by decide) (by decide)) rfl (Nat.le_of_ble_eq_true rfl) rfl dX8_fillSteps_96 q) (by decide) (by decide) (fun v11 σ12 => ?_)
            exact P_back σ12
        · skip
          refine P_g (fun r13 => ?_)
          refine P_l (fun hJ _ _ q => E_iload_n dX8_fillSteps_99 rfl q) ?_
          refine P_join (pc2 := 144) (fun j14 => [some (.ref t), some (.int p1), some (.int p2), some (.int p3), some (.int p4), none, some (.int x2), none, none]) (fun j14 => []) (fun j14 => j14) ?_ (fun j14 => ?_)
          · skip
            refine P_if (c := (if p3 ≤ 0 then true else (if x1 = 0 then true else false)) = true) (pc1 := 144) (ls1 := [some (.ref t), some (.int p1), some (.int p2), some (.int p3), some (.int p4), some (.int x1), some (.int x2), some (.int x3), none]) (st1 := []) (pc2 := 108) (ls2 := [some (.ref t), some (.int p1), some (.int p2), some (.int p3), some (.int p4), some (.int x1), some (.int x2), some (.int x3), none]) (st2 := []) (fun hJ _ _ hX hY => ?_) ?_ ?_
            · skip
              refine E_if_le 144 dX8_fillSteps_100 (by decide) (fun c_100_0 => ?_) (fun c_100_0 => ?_)
              · skip
                exact hX (by simp only [if_pos c_100_0])
              · skip
                refine E_iload dX8_fillSteps_103 rfl ?_
                refine E_if_eq 144 dX8_fillSteps_105 (by decide) (fun c_105_1 => ?_) (fun c_105_1 => ?_)
                · skip
                  exact hX (by simp only [if_neg c_100_0, if_pos c_105_1])
                · skip
                  exact hY (by simp only [if_neg c_100_0, if_neg c_105_1]; exact Bool.false_ne_true)
            · skip
              refine P_less [some (.ref t), some (.int p1), some (.int p2), some (.int p3), some (.int p4), none, some (.int x2), none, none] (And.intro rfl (And.intro rfl (And.intro rfl (And.intro rfl (And.intro rfl (And.intro rfl trivial)))))) ?_
              exact P_back j4
            · skip
              refine P_l (fun hJ _ _ q => E_aload_n dX8_fillSteps_108 rfl (E_iload_n dX8_fillSteps_109 rfl (E_iconst (v := 1) dX8_fillSteps_110 (by decide) (E_iconst (v := 0) dX8_fillSteps_111 (by decide) (E_aload_n dX8_fillSteps_112 rfl (E_iload_n dX8_fillSteps_113 rfl (E_callV (as := [.int p3]) (b := t) (st := [.int 0, .int 1, .int p1, .ref t]) (ok_X8_longer (σ := j4) (t := t) (p1 := p3) hJ ht r13) (by decide) yfX8_longer mlX8_45 imX8_longer seX8_longer clX8 (PSy_t (j := 0) (q := (10, 0)) hJ.1 ht r13 (by omega) (by decide) (by decide)) rfl (Nat.le_of_ble_eq_true rfl) rfl dX8_fillSteps_114 (E_callS (as := [.int 0, .int (v_X8_longer j4 t p3)]) (st := [.int 1, .int p1, .ref t]) (ok_X8_pair (σ := j4) (p1 := 0) (p2 := v_X8_longer j4 t p3) hJ ) (by decide) yfX8_pair mlX8_26 stX8_pair rfl (Nat.le_of_ble_eq_true rfl) rfl dX8_fillSteps_117 (E_iload dX8_fillSteps_120 rfl (E_iconst (v := 0) dX8_fillSteps_122 (by decide) q)))))))))) ?_
              refine P_call (t := fun _ => none) (st2 := fun _ => []) (kc2 := 0) (ks2 := 0) (fun hJ => (ok_X8_addStep (σ := j4) (t := t) (p1 := p1) (p2 := 1) (p3 := v_X8_pair j4 0 (v_X8_longer j4 t p3)) (p4 := x3) (p5 := 0) ht r13)) (fun hJ _ _ _ _ v τ1 hM q => E_callV (as := [.int p1, .int 1, .int (v_X8_pair j4 0 (v_X8_longer j4 t p3)), .int x3, .int 0]) (b := t) (st := []) hM (by decide) yfX8_addStep mlX8_41 imX8_addStep seX8_addStep clX8 (PSy_t (j := 0) (q := (10, 0)) hJ.1 ht r13 (by omega) (by decide) (by decide)) rfl (Nat.le_of_ble_eq_true rfl) rfl dX8_fillSteps_123 q) (by decide) (by decide) (fun v15 σ16 => ?_)
              refine P_g (fun r17 => ?_)
              refine P_l (fun hJ _ _ q => E_aload_n dX8_fillSteps_126 rfl (E_iload_n dX8_fillSteps_127 rfl (E_iconst (v := 2) dX8_fillSteps_128 (by decide) (E_iconst (v := 1) dX8_fillSteps_129 (by decide) (E_aload_n dX8_fillSteps_130 rfl (E_iload_n dX8_fillSteps_131 rfl (E_callV (as := [.int p3]) (b := t) (st := [.int 1, .int 2, .int p1, .ref t]) (ok_X8_longer (σ := σ16) (t := t) (p1 := p3) hJ ht r17) (by decide) yfX8_longer mlX8_45 imX8_longer seX8_longer clX8 (PSy_t (j := 0) (q := (10, 0)) hJ.1 ht r17 (by omega) (by decide) (by decide)) rfl (Nat.le_of_ble_eq_true rfl) rfl dX8_fillSteps_132 (E_callS (as := [.int 1, .int (v_X8_longer σ16 t p3)]) (st := [.int 2, .int p1, .ref t]) (ok_X8_pair (σ := σ16) (p1 := 1) (p2 := v_X8_longer σ16 t p3) hJ ) (by decide) yfX8_pair mlX8_26 stX8_pair rfl (Nat.le_of_ble_eq_true rfl) rfl dX8_fillSteps_135 (E_iload dX8_fillSteps_138 rfl (E_iconst (v := 1) dX8_fillSteps_140 (by decide) q)))))))))) ?_
              refine P_call (t := fun _ => none) (st2 := fun _ => []) (kc2 := 0) (ks2 := 0) (fun hJ => (ok_X8_addStep (σ := σ16) (t := t) (p1 := p1) (p2 := 2) (p3 := v_X8_pair σ16 1 (v_X8_longer σ16 t p3)) (p4 := x3) (p5 := 1) ht r17)) (fun hJ _ _ _ _ v τ1 hM q => E_callV (as := [.int p1, .int 2, .int (v_X8_pair σ16 1 (v_X8_longer σ16 t p3)), .int x3, .int 1]) (b := t) (st := []) hM (by decide) yfX8_addStep mlX8_41 imX8_addStep seX8_addStep clX8 (PSy_t (j := 0) (q := (10, 0)) hJ.1 ht r17 (by omega) (by decide) (by decide)) rfl (Nat.le_of_ble_eq_true rfl) rfl dX8_fillSteps_141 q) (by decide) (by decide) (fun v18 σ19 => ?_)
              refine P_less [some (.ref t), some (.int p1), some (.int p2), some (.int p3), some (.int p4), none, some (.int x2), none, none] (And.intro rfl (And.intro rfl (And.intro rfl (And.intro rfl (And.intro rfl (And.intro rfl trivial)))))) ?_
              exact P_back σ19
          · skip
            refine P_g (fun r20 => ?_)
            refine P_l (fun hJ _ _ q => E_iload_n dX8_fillSteps_144 rfl q) ?_
            refine P_join (pc2 := 192) (fun j21 => [some (.ref t), some (.int p1), some (.int p2), some (.int p3), some (.int p4), none, none, none, none]) (fun j21 => []) (fun j21 => j21) ?_ (fun j21 => ?_)
            · skip
              refine P_if (c := (if p2 ≤ 0 then true else (if p3 ≤ p2 then true else (if x2 = 0 then true else false))) = true) (pc1 := 192) (ls1 := [some (.ref t), some (.int p1), some (.int p2), some (.int p3), some (.int p4), none, some (.int x2), none, none]) (st1 := []) (pc2 := 158) (ls2 := [some (.ref t), some (.int p1), some (.int p2), some (.int p3), some (.int p4), none, some (.int x2), none, none]) (st2 := []) (fun hJ _ _ hX hY => ?_) ?_ ?_
              · skip
                refine E_if_le 192 dX8_fillSteps_145 (by decide) (fun c_145_0 => ?_) (fun c_145_0 => ?_)
                · skip
                  exact hX (by simp only [if_pos c_145_0])
                · skip
                  refine E_iload_n dX8_fillSteps_148 rfl ?_
                  refine E_iload_n dX8_fillSteps_149 rfl ?_
                  refine E_icmp_ge 192 dX8_fillSteps_150 (by decide) (fun c_150_1 => ?_) (fun c_150_1 => ?_)
                  · skip
                    exact hX (by simp only [if_neg c_145_0, if_pos c_150_1])
                  · skip
                    refine E_iload dX8_fillSteps_153 rfl ?_
                    refine E_if_eq 192 dX8_fillSteps_155 (by decide) (fun c_155_2 => ?_) (fun c_155_2 => ?_)
                    · skip
                      exact hX (by simp only [if_neg c_145_0, if_neg c_150_1, if_pos c_155_2])
                    · skip
                      exact hY (by simp only [if_neg c_145_0, if_neg c_150_1, if_neg c_155_2]; exact Bool.false_ne_true)
              · skip
                refine P_less [some (.ref t), some (.int p1), some (.int p2), some (.int p3), some (.int p4), none, none, none, none] (And.intro rfl (And.intro rfl (And.intro rfl (And.intro rfl (And.intro rfl trivial))))) ?_
                exact P_back j14
              · skip
                refine P_l (fun hJ _ _ q => E_aload_n dX8_fillSteps_158 rfl (E_iload_n dX8_fillSteps_159 rfl (E_iconst (v := 1) dX8_fillSteps_160 (by decide) (E_iconst (v := 0) dX8_fillSteps_161 (by decide) (E_aload_n dX8_fillSteps_162 rfl (E_iload_n dX8_fillSteps_163 rfl (E_callV (as := [.int p2]) (b := t) (st := [.int 0, .int 1, .int p1, .ref t]) (ok_X8_longer (σ := j14) (t := t) (p1 := p2) hJ ht r20) (by decide) yfX8_longer mlX8_45 imX8_longer seX8_longer clX8 (PSy_t (j := 0) (q := (10, 0)) hJ.1 ht r20 (by omega) (by decide) (by decide)) rfl (Nat.le_of_ble_eq_true rfl) rfl dX8_fillSteps_164 (E_callS (as := [.int 0, .int (v_X8_longer j14 t p2)]) (st := [.int 1, .int p1, .ref t]) (ok_X8_pair (σ := j14) (p1 := 0) (p2 := v_X8_longer j14 t p2) hJ ) (by decide) yfX8_pair mlX8_26 stX8_pair rfl (Nat.le_of_ble_eq_true rfl) rfl dX8_fillSteps_167 (E_iconst (v := 0) dX8_fillSteps_170 (by decide) (E_iconst (v := 0) dX8_fillSteps_171 (by decide) q)))))))))) ?_
                refine P_call (t := fun _ => none) (st2 := fun _ => []) (kc2 := 0) (ks2 := 0) (fun hJ => (ok_X8_addStep (σ := j14) (t := t) (p1 := p1) (p2 := 1) (p3 := v_X8_pair j14 0 (v_X8_longer j14 t p2)) (p4 := 0) (p5 := 0) ht r20)) (fun hJ _ _ _ _ v τ1 hM q => E_callV (as := [.int p1, .int 1, .int (v_X8_pair j14 0 (v_X8_longer j14 t p2)), .int 0, .int 0]) (b := t) (st := []) hM (by decide) yfX8_addStep mlX8_41 imX8_addStep seX8_addStep clX8 (PSy_t (j := 0) (q := (10, 0)) hJ.1 ht r20 (by omega) (by decide) (by decide)) rfl (Nat.le_of_ble_eq_true rfl) rfl dX8_fillSteps_172 q) (by decide) (by decide) (fun v22 σ23 => ?_)
                refine P_g (fun r24 => ?_)
                refine P_l (fun hJ _ _ q => E_aload_n dX8_fillSteps_175 rfl (E_iload_n dX8_fillSteps_176 rfl (E_iconst (v := 2) dX8_fillSteps_177 (by decide) (E_iconst (v := 1) dX8_fillSteps_178 (by decide) (E_aload_n dX8_fillSteps_179 rfl (E_iload_n dX8_fillSteps_180 rfl (E_callV (as := [.int p2]) (b := t) (st := [.int 1, .int 2, .int p1, .ref t]) (ok_X8_longer (σ := σ23) (t := t) (p1 := p2) hJ ht r24) (by decide) yfX8_longer mlX8_45 imX8_longer seX8_longer clX8 (PSy_t (j := 0) (q := (10, 0)) hJ.1 ht r24 (by omega) (by decide) (by decide)) rfl (Nat.le_of_ble_eq_true rfl) rfl dX8_fillSteps_181 (E_callS (as := [.int 1, .int (v_X8_longer σ23 t p2)]) (st := [.int 2, .int p1, .ref t]) (ok_X8_pair (σ := σ23) (p1 := 1) (p2 := v_X8_longer σ23 t p2) hJ ) (by decide) yfX8_pair mlX8_26 stX8_pair rfl (Nat.le_of_ble_eq_true rfl) rfl dX8_fillSteps_184 (E_iconst (v := 0) dX8_fillSteps_187 (by decide) (E_iconst (v := 1) dX8_fillSteps_188 (by decide) q)))))))))) ?_
                refine P_call (t := fun _ => none) (st2 := fun _ => []) (kc2 := 0) (ks2 := 0) (fun hJ => (ok_X8_addStep (σ := σ23) (t := t) (p1 := p1) (p2 := 2) (p3 := v_X8_pair σ23 1 (v_X8_longer σ23 t p2)) (p4 := 0) (p5 := 1) ht r24)) (fun hJ _ _ _ _ v τ1 hM q => E_callV (as := [.int p1, .int 2, .int (v_X8_pair σ23 1 (v_X8_longer σ23 t p2)), .int 0, .int 1]) (b := t) (st := []) hM (by decide) yfX8_addStep mlX8_41 imX8_addStep seX8_addStep clX8 (PSy_t (j := 0) (q := (10, 0)) hJ.1 ht r24 (by omega) (by decide) (by decide)) rfl (Nat.le_of_ble_eq_true rfl) rfl dX8_fillSteps_189 q) (by decide) (by decide) (fun v25 σ26 => ?_)
                refine P_less [some (.ref t), some (.int p1), some (.int p2), some (.int p3), some (.int p4), none, none, none, none] (And.intro rfl (And.intro rfl (And.intro rfl (And.intro rfl (And.intro rfl trivial))))) ?_
                exact P_back σ26
            · skip
              refine P_g (fun r27 => ?_)
              refine P_l (fun hJ _ _ q => E_iload_n dX8_fillSteps_192 rfl q) ?_
              refine P_if (fun hJ _ _ h1 h2 => E_if_le 256 dX8_fillSteps_193 (by decide) h1 h2) ?_ ?_
              · skip
                exact P_ret (fun _ _ => E_vret rfl dX8_fillSteps_256)
              · skip
                refine P_l (fun hJ _ _ q => E_aload_n dX8_fillSteps_196 rfl (E_iload_n dX8_fillSteps_197 rfl (E_callV (as := [.int p2]) (b := t) (st := []) (ok_X8_longer (σ := j21) (t := t) (p1 := p2) hJ ht r27) (by decide) yfX8_longer mlX8_45 imX8_longer seX8_longer clX8 (PSy_t (j := 0) (q := (10, 0)) hJ.1 ht r27 (by omega) (by decide) (by decide)) rfl (Nat.le_of_ble_eq_true rfl) rfl dX8_fillSteps_198 (E_aload_n dX8_fillSteps_201 rfl (E_getI clX8 0 (by decide) flX8_22 (Or.inl rfl) dX8_fillSteps_202 (PSy_t (j := 0) (q := (10, 0)) hJ.1 ht r27 (by omega) (by decide) (by decide)) q))))) ?_
                refine P_l (pc2 := 223) (ls2 := [some (.ref t), some (.int p1), some (.int p2), some (.int p3), none, none, none, none, none]) (st2 := [.int ((if (v_X8_longer j21 t p2) = (rI j21 t 0) then (if p4 = 0 then (if p3 ≤ p2 then 0 else 1) else 1) else 0 : Int32))]) (fun hJ _ _ hq => ?_) ?_
                · skip
                  refine E_icmp_ne 222 dX8_fillSteps_205 (by decide) (fun c_205_0 => ?_) (fun c_205_0 => ?_)
                  · skip
                    refine E_iconst (v := 0) dX8_fillSteps_222 (by decide) ?_
                    simp only [if_neg c_205_0] at hq
                    exact E_less (ls2 := [some (.ref t), some (.int p1), some (.int p2), some (.int p3), none, none, none, none, none]) hq (rLe_at [some (.ref t), some (.int p1), some (.int p2), some (.int p3), none, none, none, none, none] [some (.ref t), some (.int p1), some (.int p2), some (.int p3), some (.int p4), none, none, none, none] (And.intro rfl (And.intro rfl (And.intro rfl (And.intro rfl trivial)))))
                  · skip
                    refine E_iload dX8_fillSteps_208 rfl ?_
                    refine E_if_ne 218 dX8_fillSteps_210 (by decide) (fun c_210_1 => ?_) (fun c_210_1 => ?_)
                    · skip
                      refine E_iconst (v := 1) dX8_fillSteps_218 (by decide) ?_
                      refine E_goto 223 dX8_fillSteps_219 (by decide) ?_
                      simp only [if_pos c_205_0, if_neg c_210_1] at hq
                      exact E_less (ls2 := [some (.ref t), some (.int p1), some (.int p2), some (.int p3), none, none, none, none, none]) hq (rLe_at [some (.ref t), some (.int p1), some (.int p2), some (.int p3), none, none, none, none, none] [some (.ref t), some (.int p1), some (.int p2), some (.int p3), some (.int p4), none, none, none, none] (And.intro rfl (And.intro rfl (And.intro rfl (And.intro rfl trivial)))))
                    · skip
                      refine E_iload_n dX8_fillSteps_213 rfl ?_
                      refine E_iload_n dX8_fillSteps_214 rfl ?_
                      refine E_icmp_ge 222 dX8_fillSteps_215 (by decide) (fun c_215_2 => ?_) (fun c_215_2 => ?_)
                      · skip
                        refine E_iconst (v := 0) dX8_fillSteps_222 (by decide) ?_
                        simp only [if_pos c_205_0, if_pos c_210_1, if_pos c_215_2] at hq
                        exact E_less (ls2 := [some (.ref t), some (.int p1), some (.int p2), some (.int p3), none, none, none, none, none]) hq (rLe_at [some (.ref t), some (.int p1), some (.int p2), some (.int p3), none, none, none, none, none] [some (.ref t), some (.int p1), some (.int p2), some (.int p3), some (.int p4), none, none, none, none] (And.intro rfl (And.intro rfl (And.intro rfl (And.intro rfl trivial)))))
                      · skip
                        refine E_iconst (v := 1) dX8_fillSteps_218 (by decide) ?_
                        refine E_goto 223 dX8_fillSteps_219 (by decide) ?_
                        simp only [if_pos c_205_0, if_pos c_210_1, if_neg c_215_2] at hq
                        exact E_less (ls2 := [some (.ref t), some (.int p1), some (.int p2), some (.int p3), none, none, none, none, none]) hq (rLe_at [some (.ref t), some (.int p1), some (.int p2), some (.int p3), none, none, none, none, none] [some (.ref t), some (.int p1), some (.int p2), some (.int p3), some (.int p4), none, none, none, none] (And.intro rfl (And.intro rfl (And.intro rfl (And.intro rfl trivial)))))
                · skip
                  refine P_l (fun hJ _ _ q => E_istore (ls2 := [some (.ref t), some (.int p1), some (.int p2), some (.int p3), none, none, none, none, some (.int ((if (v_X8_longer j21 t p2) = (rI j21 t 0) then (if p4 = 0 then (if p3 ≤ p2 then 0 else 1) else 1) else 0 : Int32)))]) dX8_fillSteps_223 (by decide) rfl q) ?_
                  refine P_v ((if (v_X8_longer j21 t p2) = (rI j21 t 0) then (if p4 = 0 then (if p3 ≤ p2 then 0 else 1) else 1) else 0 : Int32)) (fun x => [some (.ref t), some (.int p1), some (.int p2), some (.int p3), none, none, none, none, some (.int x)]) (fun x28 => ?_)
                  refine P_l (fun hJ _ _ q => E_aload_n dX8_fillSteps_225 rfl (E_iload_n dX8_fillSteps_226 rfl (E_iconst (v := 2) dX8_fillSteps_227 (by decide) (E_iload dX8_fillSteps_228 rfl q)))) ?_
                  refine P_l (pc2 := 251) (ls2 := [none, none, none, none, none, none, none, none, none]) (st2 := [.int ((if x28 = 0 then (v_X8_pair j21 (v_X8_longer j21 t p2) (v_X8_longer j21 t p3)) else 15 : Int32)), .int 2, .int p1, .ref t]) (fun hJ _ _ hq => ?_) ?_
                  · skip
                    refine E_if_eq 238 dX8_fillSteps_230 (by decide) (fun c_230_0 => ?_) (fun c_230_0 => ?_)
                    · skip
                      refine E_aload_n dX8_fillSteps_238 rfl ?_
                      refine E_iload_n dX8_fillSteps_239 rfl ?_
                      refine E_callV (as := [.int p2]) (b := t) (st := [.int 2, .int p1, .ref t]) (ok_X8_longer (σ := j21) (t := t) (p1 := p2) hJ ht r27) (by decide) yfX8_longer mlX8_45 imX8_longer seX8_longer clX8 (PSy_t (j := 0) (q := (10, 0)) hJ.1 ht r27 (by omega) (by decide) (by decide)) rfl (Nat.le_of_ble_eq_true rfl) rfl dX8_fillSteps_240 ?_
                      refine E_aload_n dX8_fillSteps_243 rfl ?_
                      refine E_iload_n dX8_fillSteps_244 rfl ?_
                      refine E_callV (as := [.int p3]) (b := t) (st := [.int (v_X8_longer j21 t p2), .int 2, .int p1, .ref t]) (ok_X8_longer (σ := j21) (t := t) (p1 := p3) hJ ht r27) (by decide) yfX8_longer mlX8_45 imX8_longer seX8_longer clX8 (PSy_t (j := 0) (q := (10, 0)) hJ.1 ht r27 (by omega) (by decide) (by decide)) rfl (Nat.le_of_ble_eq_true rfl) rfl dX8_fillSteps_245 ?_
                      refine E_callS (as := [.int (v_X8_longer j21 t p2), .int (v_X8_longer j21 t p3)]) (st := [.int 2, .int p1, .ref t]) (ok_X8_pair (σ := j21) (p1 := v_X8_longer j21 t p2) (p2 := v_X8_longer j21 t p3) hJ ) (by decide) yfX8_pair mlX8_26 stX8_pair rfl (Nat.le_of_ble_eq_true rfl) rfl dX8_fillSteps_248 ?_
                      simp only [if_pos c_230_0] at hq
                      exact E_less (ls2 := [none, none, none, none, none, none, none, none, none]) hq (rLe_at [none, none, none, none, none, none, none, none, none] [some (.ref t), some (.int p1), some (.int p2), some (.int p3), none, none, none, none, some (.int x28)] trivial)
                    · skip
                      refine E_bipush (v := 15) dX8_fillSteps_233 (by decide) ?_
                      refine E_goto 251 dX8_fillSteps_235 (by decide) ?_
                      simp only [if_neg c_230_0] at hq
                      exact E_less (ls2 := [none, none, none, none, none, none, none, none, none]) hq (rLe_at [none, none, none, none, none, none, none, none, none] [some (.ref t), some (.int p1), some (.int p2), some (.int p3), none, none, none, none, some (.int x28)] trivial)
                  · skip
                    refine P_l (fun hJ _ _ q => E_iconst (v := 0) dX8_fillSteps_251 (by decide) (E_iconst (v := 0) dX8_fillSteps_252 (by decide) q)) ?_
                    refine P_call (t := fun _ => none) (st2 := fun _ => []) (kc2 := 0) (ks2 := 0) (fun hJ => (ok_X8_addStep (σ := j21) (t := t) (p1 := p1) (p2 := 2) (p3 := (if x28 = 0 then (v_X8_pair j21 (v_X8_longer j21 t p2) (v_X8_longer j21 t p3)) else 15 : Int32)) (p4 := 0) (p5 := 0) ht r27)) (fun hJ _ _ _ _ v τ1 hM q => E_callV (as := [.int p1, .int 2, .int ((if x28 = 0 then (v_X8_pair j21 (v_X8_longer j21 t p2) (v_X8_longer j21 t p3)) else 15 : Int32)), .int 0, .int 0]) (b := t) (st := []) hM (by decide) yfX8_addStep mlX8_41 imX8_addStep seX8_addStep clX8 (PSy_t (j := 0) (q := (10, 0)) hJ.1 ht r27 (by omega) (by decide) (by decide)) rfl (Nat.le_of_ble_eq_true rfl) rfl dX8_fillSteps_253 q) (by decide) (by decide) (fun v29 σ30 => ?_)
                    refine P_g (fun r31 => ?_)
                    exact P_ret (fun _ _ => E_vret rfl dX8_fillSteps_256)

def b_X8_statesWithin_19 (σ : rS) (t : Nat) (p1 : Int32) (p2 : Int32) (p3 : Int32) (s1 : Int32 × Int32) (s2 : Int32 × Int32) : Option ((Int32 ⊕ (Int32 × Int32)) ⊕ (Int32 × Int32)) := if s1.2 < s2.2 then (some (.inl (.inr ((s2.1, s1.2 + 1))))) else (oLet ((if p1 < (v_X8_needing σ t s2.2 s1.2 1) then s2.1 else (if p2 < (v_X8_needing σ t s2.2 s1.2 2) then s2.1 else (if p3 < (v_X8_needing σ t s2.2 s1.2 3) then s2.1 else (s2.1 ||| (1 <<< ((v_X8_pair σ s2.2 s1.2) &&& 31))))) : Int32) : Int32) fun x3 => some (.inr ((x3, s2.2 + 1))))
def b_X8_statesWithin_7 (σ : rS) (t : Nat) (p1 : Int32) (p2 : Int32) (p3 : Int32) (s1 : Int32 × Int32) : Option (Int32 ⊕ (Int32 × Int32)) := if (rI σ t 0) < s1.2 then (some (.inl s1.1)) else (oLoop (b_X8_statesWithin_19 σ t p1 p2 p3 s1) oFuel ((s1.1, 0)))
def f_X8_statesWithin (σ : rS) (t : Nat) (p1 : Int32) (p2 : Int32) (p3 : Int32) : Option Int32 := oLoop (b_X8_statesWithin_7 σ t p1 p2 p3) oFuel ((32768, 0))
set_option maxRecDepth 20000 in
set_option maxHeartbeats 2000000 in
theorem ok_X8_statesWithin {σ : rS} {t : Nat} {p1 : Int32} {p2 : Int32} {p3 : Int32}  (ht : isT t) (hr : rN σ = t + 5) : rFr PSy yX8_statesWithin mX8_statesWithin 1 [.ref t, .int p1, .int p2, .int p3] σ (fun v => some (.int v)) (f_X8_statesWithin σ t p1 p2 p3) := by
  refine rFr_of (ls := [some (.ref t), some (.int p1), some (.int p2), some (.int p3), none, none, none]) yfX8_statesWithin rfl (Nat.le_of_ble_eq_true rfl) (fun o τ => ?_)
  unfold f_X8_statesWithin
  refine P_l (fun hJ _ _ q => E_ldc dX8_statesWithin_0 kcX8_55 (E_istore (ls2 := [some (.ref t), some (.int p1), some (.int p2), some (.int p3), some (.int 32768), none, none]) dX8_statesWithin_2 (by decide) rfl (E_iconst (v := 0) dX8_statesWithin_4 (by decide) (E_istore (ls2 := [some (.ref t), some (.int p1), some (.int p2), some (.int p3), some (.int 32768), some (.int 0), none]) dX8_statesWithin_5 (by decide) rfl q)))) ?_
  refine P_loop (fun s1 => [some (.ref t), some (.int p1), some (.int p2), some (.int p3), some (.int s1.1), some (.int s1.2), none]) (fun _ => σ) (fun s1 => ?_) _ ((32768, 0))
  unfold b_X8_statesWithin_7
  refine P_l (fun hJ _ _ q => E_iload dX8_statesWithin_7 rfl (E_aload_n dX8_statesWithin_9 rfl (E_getI clX8 0 (by decide) flX8_22 (Or.inl rfl) dX8_statesWithin_10 (PSy_t (j := 0) (q := (10, 0)) hJ.1 ht hr (by omega) (by decide) (by decide)) q))) ?_
  refine P_if (fun hJ _ _ h1 h2 => E_icmp_gt 91 dX8_statesWithin_13 (by decide) h1 h2) ?_ ?_
  · skip
    refine P_l (fun hJ _ _ q => E_iload dX8_statesWithin_91 rfl q) ?_
    exact P_inl (P_retr (fun _ _ => E_iret rfl dX8_statesWithin_93))
  · skip
    refine P_l (fun hJ _ _ q => E_iconst (v := 0) dX8_statesWithin_16 (by decide) (E_istore (ls2 := [some (.ref t), some (.int p1), some (.int p2), some (.int p3), some (.int s1.1), some (.int s1.2), some (.int 0)]) dX8_statesWithin_17 (by decide) rfl q)) ?_
    refine P_loop (fun s2 => [some (.ref t), some (.int p1), some (.int p2), some (.int p3), some (.int s2.1), some (.int s1.2), some (.int s2.2)]) (fun _ => σ) (fun s2 => ?_) _ ((s1.1, 0))
    unfold b_X8_statesWithin_19
    refine P_l (fun hJ _ _ q => E_iload dX8_statesWithin_19 rfl (E_iload dX8_statesWithin_21 rfl q)) ?_
    refine P_if (fun hJ _ _ h1 h2 => E_icmp_gt 85 dX8_statesWithin_23 (by decide) h1 h2) ?_ ?_
    · skip
      refine P_l (fun hJ _ _ q => E_iinc (v := 1) (ls2 := [some (.ref t), some (.int p1), some (.int p2), some (.int p3), some (.int s2.1), some (.int (s1.2 + 1)), some (.int s2.2)]) dX8_statesWithin_85 rfl (by decide) (by decide) rfl (E_goto 7 dX8_statesWithin_88 (by decide) q)) ?_
      refine P_less [some (.ref t), some (.int p1), some (.int p2), some (.int p3), some (.int s2.1), some (.int (s1.2 + 1)), none] (And.intro rfl (And.intro rfl (And.intro rfl (And.intro rfl (And.intro rfl (And.intro rfl trivial)))))) ?_
      exact P_inl (P_back ((s2.1, s1.2 + 1)))
    · skip
      refine P_l (fun hJ _ _ q => E_aload_n dX8_statesWithin_26 rfl (E_iload dX8_statesWithin_27 rfl (E_iload dX8_statesWithin_29 rfl (E_iconst (v := 1) dX8_statesWithin_31 (by decide) (E_callV (as := [.int s2.2, .int s1.2, .int 1]) (b := t) (st := []) (ok_X8_needing (σ := σ) (t := t) (p1 := s2.2) (p2 := s1.2) (p3 := 1) hJ ht hr) (by decide) yfX8_needing mlX8_56 imX8_needing seX8_needing clX8 (PSy_t (j := 0) (q := (10, 0)) hJ.1 ht hr (by omega) (by decide) (by decide)) rfl (Nat.le_of_ble_eq_true rfl) rfl dX8_statesWithin_32 (E_iload_n dX8_statesWithin_35 rfl q)))))) ?_
      refine P_l (pc2 := 79) (ls2 := [some (.ref t), some (.int p1), some (.int p2), some (.int p3), some (.int ((if p1 < (v_X8_needing σ t s2.2 s1.2 1) then s2.1 else (if p2 < (v_X8_needing σ t s2.2 s1.2 2) then s2.1 else (if p3 < (v_X8_needing σ t s2.2 s1.2 3) then s2.1 else (s2.1 ||| (1 <<< ((v_X8_pair σ s2.2 s1.2) &&& 31))))) : Int32))), some (.int s1.2), some (.int s2.2)]) (st2 := []) (fun hJ _ _ hq => ?_) ?_
      · skip
        refine E_icmp_gt 79 dX8_statesWithin_36 (by decide) (fun c_36_0 => ?_) (fun c_36_0 => ?_)
        · skip
          simp only [if_pos c_36_0] at hq
          exact hq
        · skip
          refine E_aload_n dX8_statesWithin_39 rfl ?_
          refine E_iload dX8_statesWithin_40 rfl ?_
          refine E_iload dX8_statesWithin_42 rfl ?_
          refine E_iconst (v := 2) dX8_statesWithin_44 (by decide) ?_
          refine E_callV (as := [.int s2.2, .int s1.2, .int 2]) (b := t) (st := []) (ok_X8_needing (σ := σ) (t := t) (p1 := s2.2) (p2 := s1.2) (p3 := 2) hJ ht hr) (by decide) yfX8_needing mlX8_56 imX8_needing seX8_needing clX8 (PSy_t (j := 0) (q := (10, 0)) hJ.1 ht hr (by omega) (by decide) (by decide)) rfl (Nat.le_of_ble_eq_true rfl) rfl dX8_statesWithin_45 ?_
          refine E_iload_n dX8_statesWithin_48 rfl ?_
          refine E_icmp_gt 79 dX8_statesWithin_49 (by decide) (fun c_49_1 => ?_) (fun c_49_1 => ?_)
          · skip
            simp only [if_neg c_36_0, if_pos c_49_1] at hq
            exact hq
          · skip
            refine E_aload_n dX8_statesWithin_52 rfl ?_
            refine E_iload dX8_statesWithin_53 rfl ?_
            refine E_iload dX8_statesWithin_55 rfl ?_
            refine E_iconst (v := 3) dX8_statesWithin_57 (by decide) ?_
            refine E_callV (as := [.int s2.2, .int s1.2, .int 3]) (b := t) (st := []) (ok_X8_needing (σ := σ) (t := t) (p1 := s2.2) (p2 := s1.2) (p3 := 3) hJ ht hr) (by decide) yfX8_needing mlX8_56 imX8_needing seX8_needing clX8 (PSy_t (j := 0) (q := (10, 0)) hJ.1 ht hr (by omega) (by decide) (by decide)) rfl (Nat.le_of_ble_eq_true rfl) rfl dX8_statesWithin_58 ?_
            refine E_iload_n dX8_statesWithin_61 rfl ?_
            refine E_icmp_gt 79 dX8_statesWithin_62 (by decide) (fun c_62_2 => ?_) (fun c_62_2 => ?_)
            · skip
              simp only [if_neg c_36_0, if_neg c_49_1, if_pos c_62_2] at hq
              exact hq
            · skip
              refine E_iload dX8_statesWithin_65 rfl ?_
              refine E_iconst (v := 1) dX8_statesWithin_67 (by decide) ?_
              refine E_iload dX8_statesWithin_68 rfl ?_
              refine E_iload dX8_statesWithin_70 rfl ?_
              refine E_callS (as := [.int s2.2, .int s1.2]) (st := [.int 1, .int s2.1]) (ok_X8_pair (σ := σ) (p1 := s2.2) (p2 := s1.2) hJ ) (by decide) yfX8_pair mlX8_26 stX8_pair rfl (Nat.le_of_ble_eq_true rfl) rfl dX8_statesWithin_72 ?_
              refine E_ishl dX8_statesWithin_75 ?_
              refine E_ior dX8_statesWithin_76 ?_
              refine E_istore (ls2 := [some (.ref t), some (.int p1), some (.int p2), some (.int p3), some (.int (s2.1 ||| (1 <<< ((v_X8_pair σ s2.2 s1.2) &&& 31)))), some (.int s1.2), some (.int s2.2)]) dX8_statesWithin_77 (by decide) rfl ?_
              simp only [if_neg c_36_0, if_neg c_49_1, if_neg c_62_2] at hq
              exact hq
      · skip
        refine P_v ((if p1 < (v_X8_needing σ t s2.2 s1.2 1) then s2.1 else (if p2 < (v_X8_needing σ t s2.2 s1.2 2) then s2.1 else (if p3 < (v_X8_needing σ t s2.2 s1.2 3) then s2.1 else (s2.1 ||| (1 <<< ((v_X8_pair σ s2.2 s1.2) &&& 31))))) : Int32)) (fun x => [some (.ref t), some (.int p1), some (.int p2), some (.int p3), some (.int x), some (.int s1.2), some (.int s2.2)]) (fun x3 => ?_)
        refine P_l (fun hJ _ _ q => E_iinc (v := 1) (ls2 := [some (.ref t), some (.int p1), some (.int p2), some (.int p3), some (.int x3), some (.int s1.2), some (.int (s2.2 + 1))]) dX8_statesWithin_79 rfl (by decide) (by decide) rfl (E_goto 19 dX8_statesWithin_82 (by decide) q)) ?_
        exact P_back ((x3, s2.2 + 1))

def b_X8_init_53 (t : Nat) (s12 : Int32 × rS) (s14 : Int32 × rS) : Option ((((Unit × rS) ⊕ (rS)) ⊕ (Int32 × rS)) ⊕ (Int32 × rS)) := if rN s14.2 = t + 5 then (if s12.1 < s14.1 then (some (.inl (.inr ((s12.1 + 1, s14.2))))) else (oB (f_X8_fillSteps s14.2 t (v_X8_pair s14.2 s14.1 s12.1) s14.1 s12.1 0) fun _ σ17 => if rN σ17 = t + 5 then (some (.inr ((s14.1 + 1, σ17)))) else none)) else none
def b_X8_init_46 (t : Nat) (p1 : Int32) (s12 : Int32 × rS) : Option (((Unit × rS) ⊕ (rS)) ⊕ (Int32 × rS)) := if rN s12.2 = t + 5 then (if p1 < s12.1 then (some (.inl (.inr s12.2))) else (oLoop (b_X8_init_53 t s12) oFuel ((0, s12.2)))) else none
def b_X8_init_93 (t : Nat) (p1 : Int32) (s25 : Int32 × rS) : Option (((Unit × rS) ⊕ (rS)) ⊕ (Int32 × rS)) := if rN s25.2 = t + 5 then (if rR s25.2 t 2 = t + 2 then (if 256 ≤ s25.1 then (some (.inl (.inr s25.2))) else (if rR s25.2 t 1 = t + 1 then (if inB s25.1 256 then (oLet (rI s25.2 (t + 1) (s25.1 : Int32).toNatClampNeg : Int32) fun x30 => oLet (wI s25.2 (t + 2) (s25.1 : Int32).toNatClampNeg ((if (x30 &&& 15) = 15 then ((x30 - 15) + (v_X8_pair s25.2 p1 p1)) else x30 : Int32))) fun σ31 => some (.inr ((s25.1 + 1, σ31)))) else none) else none)) else none) else none
def b_X8_init_146 (t : Nat) (s35 : Int32 × rS) : Option (((Unit × rS) ⊕ (rS)) ⊕ (Int32 × rS)) := if rN s35.2 = t + 5 then (if rR s35.2 t 3 = t + 3 then (if 256 ≤ s35.1 then (some (.inl (.inr s35.2))) else (if rR s35.2 t 2 = t + 2 then (if inB s35.1 256 then (if inB (s35.1 + 1) 256 then (if inB (s35.1 + 2) 256 then (oLet (wI s35.2 (t + 3) (s35.1 : Int32).toNatClampNeg (v_X8_fewestBegun s35.2 (rI s35.2 (t + 2) (s35.1 : Int32).toNatClampNeg) (v_X8_fewestBegun s35.2 (rI s35.2 (t + 2) (s35.1 + 1 : Int32).toNatClampNeg) (rI s35.2 (t + 2) (s35.1 + 2 : Int32).toNatClampNeg)))) fun σ42 => some (.inr ((s35.1 + 4, σ42)))) else none) else none) else none) else none)) else none) else none
def b_X8_init_197 (t : Nat) (s44 : Int32 × rS) : Option ((Unit × rS) ⊕ (Int32 × rS)) := if rN s44.2 = t + 5 then (if rR s44.2 t 4 = t + 4 then (if 27 ≤ s44.1 then (some (.inl (((), s44.2)))) else ((f_X8_statesWithin s44.2 t (s44.1 / 9) (iRem (s44.1 / 3) 3) (iRem s44.1 3)).bind fun v47 => if inB s44.1 27 then (oLet (wI s44.2 (t + 4) (s44.1 : Int32).toNatClampNeg v47) fun σ49 => some (.inr ((s44.1 + 1, σ49)))) else none)) else none) else none
def f_X8_init (σ : rS) (t : Nat) (p1 : Int32) : Option (Unit × rS) := if uC σ + 1 ≤ bC ∧ uS σ + 256 ≤ bS then (oLet (wN σ (0, 256)) fun σ1 => oLet (wR σ1 t 1 (t + 1)) fun σ2 => if uC σ2 + 1 ≤ bC ∧ uS σ2 + 256 ≤ bS then (oLet (wN σ2 (0, 256)) fun σ3 => oLet (wR σ3 t 2 (t + 2)) fun σ4 => if uC σ4 + 1 ≤ bC ∧ uS σ4 + 256 ≤ bS then (oLet (wN σ4 (0, 256)) fun σ5 => oLet (wR σ5 t 3 (t + 3)) fun σ6 => if uC σ6 + 1 ≤ bC ∧ uS σ6 + 27 ≤ bS then (oLet (wN σ6 (0, 27)) fun σ7 => oLet (wR σ7 t 4 (t + 4)) fun σ8 => oLet (wI σ8 t 0 p1) fun σ9 => oJoin (oLoop (b_X8_init_46 t p1) oFuel ((0, σ9))) fun j11 => if rN j11 = t + 5 then (oB (f_X8_fillSteps j11 t 15 p1 p1 1) fun _ σ21 => if rN σ21 = t + 5 then (oJoin (oLoop (b_X8_init_93 t p1) oFuel ((0, σ21))) fun j24 => if rN j24 = t + 5 then (oJoin (oLoop (b_X8_init_146 t) oFuel ((0, j24))) fun j34 => if rN j34 = t + 5 then (oLoop (b_X8_init_197 t) oFuel ((0, j34))) else none) else none) else none) else none) else none) else none) else none) else none
set_option maxRecDepth 20000 in
set_option maxHeartbeats 2000000 in
theorem ok_X8_init {σ : rS} {t : Nat} {p1 : Int32}  (ht : isT t) (hr : rN σ = t + 1) : rFn PSy yX8_init mX8_init 3 [.ref t, .int p1] σ 0 0 (fun _ => .inl none) (f_X8_init σ t p1) := by
  refine rF_of (ls := [some (.ref t), some (.int p1), none, none]) yfX8_init rfl (Nat.le_of_ble_eq_true rfl) (fun o τ => ?_)
  unfold f_X8_init
  refine P_l (fun hJ _ _ q => E_aload_n dX8_init_0 rfl (E_objInit mlX8_1 oiInst oiCode (by decide) (Nat.le_of_ble_eq_true rfl) dX8_init_1 (E_aload_n dX8_init_4 rfl (E_sipush (v := 256) dX8_init_5 (by decide) q)))) ?_
  refine P_nc (c := t + 1) (c2 := t + 2) (q := (0, 256)) (n := 256) (st := [.ref t]) hr (by first | rfl | omega) (fun hJ _ _ q => E_newaI (n := 256) ac_int dX8_init_8 rfl (Nat.le_of_ble_eq_true rfl) q) (by first | rfl | decide) (fun hJ => hJ.1.1) (fun hJ => PSy_wN hJ.1 hr (by rcases ht with rfl | rfl <;> decide)) (fun σ1 hσ1 => ?_)
  refine P_wc (fun hJ _ _ q => E_putRF clX8 1 (by decide) flX8_7 (Or.inr ⟨_, rfl⟩) rfl rfl rfl dX8_init_10 (PSy_t (j := 0) (q := (10, 0)) hJ.1 ht hσ1 (by omega) (by decide) (by decide)) q) (fun hJ => PSy_wR hJ.1) rfl rfl rfl (fun σ2 hσ2 => ?_)
  refine P_l (fun hJ _ _ q => E_aload_n dX8_init_13 rfl (E_sipush (v := 256) dX8_init_14 (by decide) q)) ?_
  refine P_nc (c := t + 2) (c2 := t + 3) (q := (0, 256)) (n := 256) (st := [.ref t]) (hσ2.trans hσ1) (by first | rfl | omega) (fun hJ _ _ q => E_newaI (n := 256) ac_int dX8_init_17 rfl (Nat.le_of_ble_eq_true rfl) q) (by first | rfl | decide) (fun hJ => hJ.1.1) (fun hJ => PSy_wN hJ.1 (hσ2.trans hσ1) (by rcases ht with rfl | rfl <;> decide)) (fun σ3 hσ3 => ?_)
  refine P_wc (fun hJ _ _ q => E_putRF clX8 2 (by decide) flX8_13 (Or.inr ⟨_, rfl⟩) rfl rfl rfl dX8_init_19 (PSy_t (j := 0) (q := (10, 0)) hJ.1 ht hσ3 (by omega) (by decide) (by decide)) q) (fun hJ => PSy_wR hJ.1) rfl rfl rfl (fun σ4 hσ4 => ?_)
  refine P_l (fun hJ _ _ q => E_aload_n dX8_init_22 rfl (E_sipush (v := 256) dX8_init_23 (by decide) q)) ?_
  refine P_nc (c := t + 3) (c2 := t + 4) (q := (0, 256)) (n := 256) (st := [.ref t]) (hσ4.trans hσ3) (by first | rfl | omega) (fun hJ _ _ q => E_newaI (n := 256) ac_int dX8_init_26 rfl (Nat.le_of_ble_eq_true rfl) q) (by first | rfl | decide) (fun hJ => hJ.1.1) (fun hJ => PSy_wN hJ.1 (hσ4.trans hσ3) (by rcases ht with rfl | rfl <;> decide)) (fun σ5 hσ5 => ?_)
  refine P_wc (fun hJ _ _ q => E_putRF clX8 3 (by decide) flX8_16 (Or.inr ⟨_, rfl⟩) rfl rfl rfl dX8_init_28 (PSy_t (j := 0) (q := (10, 0)) hJ.1 ht hσ5 (by omega) (by decide) (by decide)) q) (fun hJ => PSy_wR hJ.1) rfl rfl rfl (fun σ6 hσ6 => ?_)
  refine P_l (fun hJ _ _ q => E_aload_n dX8_init_31 rfl (E_bipush (v := 27) dX8_init_32 (by decide) q)) ?_
  refine P_nc (c := t + 4) (c2 := t + 5) (q := (0, 27)) (n := 27) (st := [.ref t]) (hσ6.trans hσ5) (by first | rfl | omega) (fun hJ _ _ q => E_newaI (n := 27) ac_int dX8_init_34 rfl (Nat.le_of_ble_eq_true rfl) q) (by first | rfl | decide) (fun hJ => hJ.1.1) (fun hJ => PSy_wN hJ.1 (hσ6.trans hσ5) (by rcases ht with rfl | rfl <;> decide)) (fun σ7 hσ7 => ?_)
  refine P_wc (fun hJ _ _ q => E_putRF clX8 4 (by decide) flX8_19 (Or.inr ⟨_, rfl⟩) rfl rfl rfl dX8_init_36 (PSy_t (j := 0) (q := (10, 0)) hJ.1 ht hσ7 (by omega) (by decide) (by decide)) q) (fun hJ => PSy_wR hJ.1) rfl rfl rfl (fun σ8 hσ8 => ?_)
  refine P_l (fun hJ _ _ q => E_aload_n dX8_init_39 rfl (E_iload_n dX8_init_40 rfl q)) ?_
  refine P_wc (fun hJ _ _ q => E_putIF clX8 0 (by decide) flX8_22 (Or.inl rfl) rfl rfl rfl dX8_init_41 (PSy_t (j := 0) (q := (10, 0)) hJ.1 ht (hσ8.trans hσ7) (by omega) (by decide) (by decide)) q) (fun hJ => PSy_wI hJ.1) rfl rfl rfl (fun σ9 hσ9 => ?_)
  refine P_l (fun hJ _ _ q => E_iconst (v := 0) dX8_init_44 (by decide) (E_istore_n (ls2 := [some (.ref t), some (.int p1), some (.int 0), none]) dX8_init_45 (by decide) rfl q)) ?_
  refine P_join (pc2 := 82) (fun j11 => [some (.ref t), some (.int p1), none, none]) (fun j11 => []) (fun j11 => j11) ?_ (fun j11 => ?_)
  · skip
    refine P_loop (fun s12 => [some (.ref t), some (.int p1), some (.int s12.1), none]) (fun s12 => s12.2) (fun s12 => ?_) _ ((0, σ9))
    unfold b_X8_init_46
    refine P_g (fun r13 => ?_)
    refine P_l (fun hJ _ _ q => E_iload_n dX8_init_46 rfl (E_iload_n dX8_init_47 rfl q)) ?_
    refine P_if (fun hJ _ _ h1 h2 => E_icmp_gt 82 dX8_init_48 (by decide) h1 h2) ?_ ?_
    · skip
      refine P_less [some (.ref t), some (.int p1), none, none] (And.intro rfl (And.intro rfl trivial)) ?_
      exact P_inl (P_back s12.2)
    · skip
      refine P_l (fun hJ _ _ q => E_iconst (v := 0) dX8_init_51 (by decide) (E_istore_n (ls2 := [some (.ref t), some (.int p1), some (.int s12.1), some (.int 0)]) dX8_init_52 (by decide) rfl q)) ?_
      refine P_loop (fun s14 => [some (.ref t), some (.int p1), some (.int s12.1), some (.int s14.1)]) (fun s14 => s14.2) (fun s14 => ?_) _ ((0, s12.2))
      unfold b_X8_init_53
      refine P_g (fun r15 => ?_)
      refine P_l (fun hJ _ _ q => E_iload_n dX8_init_53 rfl (E_iload_n dX8_init_54 rfl q)) ?_
      refine P_if (fun hJ _ _ h1 h2 => E_icmp_gt 76 dX8_init_55 (by decide) h1 h2) ?_ ?_
      · skip
        refine P_l (fun hJ _ _ q => E_iinc (v := 1) (ls2 := [some (.ref t), some (.int p1), some (.int (s12.1 + 1)), some (.int s14.1)]) dX8_init_76 rfl (by decide) (by decide) rfl (E_goto 46 dX8_init_79 (by decide) q)) ?_
        refine P_less [some (.ref t), some (.int p1), some (.int (s12.1 + 1)), none] (And.intro rfl (And.intro rfl (And.intro rfl trivial))) ?_
        exact P_inl (P_back ((s12.1 + 1, s14.2)))
      · skip
        refine P_l (fun hJ _ _ q => E_aload_n dX8_init_58 rfl (E_iload_n dX8_init_59 rfl (E_iload_n dX8_init_60 rfl (E_callS (as := [.int s14.1, .int s12.1]) (st := [.ref t]) (ok_X8_pair (σ := s14.2) (p1 := s14.1) (p2 := s12.1) hJ ) (by decide) yfX8_pair mlX8_26 stX8_pair rfl (Nat.le_of_ble_eq_true rfl) rfl dX8_init_61 (E_iload_n dX8_init_64 rfl (E_iload_n dX8_init_65 rfl (E_iconst (v := 0) dX8_init_66 (by decide) q))))))) ?_
        refine P_call (t := fun _ => none) (st2 := fun _ => []) (kc2 := 0) (ks2 := 0) (fun hJ => (ok_X8_fillSteps (σ := s14.2) (t := t) (p1 := v_X8_pair s14.2 s14.1 s12.1) (p2 := s14.1) (p3 := s12.1) (p4 := 0) ht r15)) (fun hJ _ _ _ _ v τ1 hM q => E_callV (as := [.int (v_X8_pair s14.2 s14.1 s12.1), .int s14.1, .int s12.1, .int 0]) (b := t) (st := []) hM (by decide) yfX8_fillSteps mlX8_30 imX8_fillSteps seX8_fillSteps clX8 (PSy_t (j := 0) (q := (10, 0)) hJ.1 ht r15 (by omega) (by decide) (by decide)) rfl (Nat.le_of_ble_eq_true rfl) rfl dX8_init_67 q) (by decide) (by decide) (fun v16 σ17 => ?_)
        refine P_g (fun r18 => ?_)
        refine P_l (fun hJ _ _ q => E_iinc (v := 1) (ls2 := [some (.ref t), some (.int p1), some (.int s12.1), some (.int (s14.1 + 1))]) dX8_init_70 rfl (by decide) (by decide) rfl (E_goto 53 dX8_init_73 (by decide) q)) ?_
        exact P_back ((s14.1 + 1, σ17))
  · skip
    refine P_g (fun r19 => ?_)
    refine P_l (fun hJ _ _ q => E_aload_n dX8_init_82 rfl (E_bipush (v := 15) dX8_init_83 (by decide) (E_iload_n dX8_init_85 rfl (E_iload_n dX8_init_86 rfl (E_iconst (v := 1) dX8_init_87 (by decide) q))))) ?_
    refine P_call (t := fun _ => none) (st2 := fun _ => []) (kc2 := 0) (ks2 := 0) (fun hJ => (ok_X8_fillSteps (σ := j11) (t := t) (p1 := 15) (p2 := p1) (p3 := p1) (p4 := 1) ht r19)) (fun hJ _ _ _ _ v τ1 hM q => E_callV (as := [.int 15, .int p1, .int p1, .int 1]) (b := t) (st := []) hM (by decide) yfX8_fillSteps mlX8_30 imX8_fillSteps seX8_fillSteps clX8 (PSy_t (j := 0) (q := (10, 0)) hJ.1 ht r19 (by omega) (by decide) (by decide)) rfl (Nat.le_of_ble_eq_true rfl) rfl dX8_init_88 q) (by decide) (by decide) (fun v20 σ21 => ?_)
    refine P_g (fun r22 => ?_)
    refine P_l (fun hJ _ _ q => E_iconst (v := 0) dX8_init_91 (by decide) (E_istore_n (ls2 := [some (.ref t), some (.int p1), some (.int 0), none]) dX8_init_92 (by decide) rfl q)) ?_
    refine P_join (pc2 := 144) (fun j24 => [some (.ref t), none, none, none]) (fun j24 => []) (fun j24 => j24) ?_ (fun j24 => ?_)
    · skip
      refine P_loop (fun s25 => [some (.ref t), some (.int p1), some (.int s25.1), none]) (fun s25 => s25.2) (fun s25 => ?_) _ ((0, σ21))
      unfold b_X8_init_93
      refine P_g (fun r26 => ?_)
      refine P_l (fun hJ _ _ q => E_iload_n dX8_init_93 rfl (E_aload_n dX8_init_94 rfl q)) ?_
      refine P_g (fun g27 => ?_)
      refine P_l (fun hJ _ _ q => E_getR (b := t + 2) clX8 2 (by decide) flX8_13 (Or.inr ⟨_, rfl⟩) dX8_init_95 (PSy_t (j := 0) (q := (10, 0)) hJ.1 ht r26 (by omega) (by decide) (by decide)) g27 (isT0 ht) (E_alen (v := 256) dX8_init_98 (PSy_t (j := 2) (q := (0, 256)) hJ.1 ht r26 (by omega) (by decide) (by decide)) (by decide) rfl q)) ?_
      refine P_if (fun hJ _ _ h1 h2 => E_icmp_ge 144 dX8_init_99 (by decide) h1 h2) ?_ ?_
      · skip
        refine P_less [some (.ref t), none, none, none] (And.intro rfl trivial) ?_
        exact P_inl (P_back s25.2)
      · skip
        refine P_l (fun hJ _ _ q => E_aload_n dX8_init_102 rfl q) ?_
        refine P_g (fun g28 => ?_)
        refine P_l (fun hJ _ _ q => E_getR (b := t + 1) clX8 1 (by decide) flX8_7 (Or.inr ⟨_, rfl⟩) dX8_init_103 (PSy_t (j := 0) (q := (10, 0)) hJ.1 ht r26 (by omega) (by decide) (by decide)) g28 (isT0 ht) (E_iload_n dX8_init_106 rfl q)) ?_
        refine P_g (fun g29 => ?_)
        refine P_l (fun hJ _ _ q => E_iald dX8_init_107 (PSy_t (j := 1) (q := (0, 256)) hJ.1 ht r26 (by omega) (by decide) (by decide)) (inB_vp g29) (E_istore_n (ls2 := [some (.ref t), some (.int p1), some (.int s25.1), some (.int (rI s25.2 (t + 1) (s25.1 : Int32).toNatClampNeg))]) dX8_init_108 (by decide) rfl q)) ?_
        refine P_v (rI s25.2 (t + 1) (s25.1 : Int32).toNatClampNeg) (fun x => [some (.ref t), some (.int p1), some (.int s25.1), some (.int x)]) (fun x30 => ?_)
        refine P_l (fun hJ _ _ q => E_aload_n dX8_init_109 rfl (E_getR (b := t + 2) clX8 2 (by decide) flX8_13 (Or.inr ⟨_, rfl⟩) dX8_init_110 (PSy_t (j := 0) (q := (10, 0)) hJ.1 ht r26 (by omega) (by decide) (by decide)) g27 (isT0 ht) (E_iload_n dX8_init_113 rfl (E_iload_n dX8_init_114 rfl (E_bipush (v := 15) dX8_init_115 (by decide) (E_iand dX8_init_117 (E_bipush (v := 15) dX8_init_118 (by decide) q))))))) ?_
        refine P_l (pc2 := 137) (ls2 := [some (.ref t), some (.int p1), some (.int s25.1), none]) (st2 := [.int ((if (x30 &&& 15) = 15 then ((x30 - 15) + (v_X8_pair s25.2 p1 p1)) else x30 : Int32)), .int s25.1, .ref (t + 2)]) (fun hJ _ _ hq => ?_) ?_
        · skip
          refine E_icmp_ne 136 dX8_init_120 (by decide) (fun c_120_0 => ?_) (fun c_120_0 => ?_)
          · skip
            refine E_iload_n dX8_init_136 rfl ?_
            simp only [if_neg c_120_0] at hq
            exact E_less (ls2 := [some (.ref t), some (.int p1), some (.int s25.1), none]) hq (rLe_at [some (.ref t), some (.int p1), some (.int s25.1), none] [some (.ref t), some (.int p1), some (.int s25.1), some (.int x30)] (And.intro rfl (And.intro rfl (And.intro rfl trivial))))
          · skip
            refine E_iload_n dX8_init_123 rfl ?_
            refine E_bipush (v := 15) dX8_init_124 (by decide) ?_
            refine E_isub dX8_init_126 ?_
            refine E_iload_n dX8_init_127 rfl ?_
            refine E_iload_n dX8_init_128 rfl ?_
            refine E_callS (as := [.int p1, .int p1]) (st := [.int (x30 - 15), .int s25.1, .ref (t + 2)]) (ok_X8_pair (σ := s25.2) (p1 := p1) (p2 := p1) hJ ) (by decide) yfX8_pair mlX8_26 stX8_pair rfl (Nat.le_of_ble_eq_true rfl) rfl dX8_init_129 ?_
            refine E_iadd dX8_init_132 ?_
            refine E_goto 137 dX8_init_133 (by decide) ?_
            simp only [if_pos c_120_0] at hq
            exact E_less (ls2 := [some (.ref t), some (.int p1), some (.int s25.1), none]) hq (rLe_at [some (.ref t), some (.int p1), some (.int s25.1), none] [some (.ref t), some (.int p1), some (.int s25.1), some (.int x30)] (And.intro rfl (And.intro rfl (And.intro rfl trivial))))
        · skip
          refine P_wc (fun hJ _ _ q => E_iast dX8_init_137 (PSy_t (j := 2) (q := (0, 256)) hJ.1 ht r26 (by omega) (by decide) (by decide)) (isT3 ht) (inB_vp g29) q) (fun hJ => PSy_wI hJ.1) rfl rfl rfl (fun σ31 hσ31 => ?_)
          refine P_l (fun hJ _ _ q => E_iinc (v := 1) (ls2 := [some (.ref t), some (.int p1), some (.int (s25.1 + 1)), none]) dX8_init_138 rfl (by decide) (by decide) rfl (E_goto 93 dX8_init_141 (by decide) q)) ?_
          exact P_back ((s25.1 + 1, σ31))
    · skip
      refine P_g (fun r32 => ?_)
      refine P_l (fun hJ _ _ q => E_iconst (v := 0) dX8_init_144 (by decide) (E_istore_n (ls2 := [some (.ref t), none, some (.int 0), none]) dX8_init_145 (by decide) rfl q)) ?_
      refine P_join (pc2 := 195) (fun j34 => [some (.ref t), none, none, none]) (fun j34 => []) (fun j34 => j34) ?_ (fun j34 => ?_)
      · skip
        refine P_loop (fun s35 => [some (.ref t), none, some (.int s35.1), none]) (fun s35 => s35.2) (fun s35 => ?_) _ ((0, j24))
        unfold b_X8_init_146
        refine P_g (fun r36 => ?_)
        refine P_l (fun hJ _ _ q => E_iload_n dX8_init_146 rfl (E_aload_n dX8_init_147 rfl q)) ?_
        refine P_g (fun g37 => ?_)
        refine P_l (fun hJ _ _ q => E_getR (b := t + 3) clX8 3 (by decide) flX8_16 (Or.inr ⟨_, rfl⟩) dX8_init_148 (PSy_t (j := 0) (q := (10, 0)) hJ.1 ht r36 (by omega) (by decide) (by decide)) g37 (isT0 ht) (E_alen (v := 256) dX8_init_151 (PSy_t (j := 3) (q := (0, 256)) hJ.1 ht r36 (by omega) (by decide) (by decide)) (by decide) rfl q)) ?_
        refine P_if (fun hJ _ _ h1 h2 => E_icmp_ge 195 dX8_init_152 (by decide) h1 h2) ?_ ?_
        · skip
          refine P_less [some (.ref t), none, none, none] (And.intro rfl trivial) ?_
          exact P_inl (P_back s35.2)
        · skip
          refine P_l (fun hJ _ _ q => E_aload_n dX8_init_155 rfl (E_getR (b := t + 3) clX8 3 (by decide) flX8_16 (Or.inr ⟨_, rfl⟩) dX8_init_156 (PSy_t (j := 0) (q := (10, 0)) hJ.1 ht r36 (by omega) (by decide) (by decide)) g37 (isT0 ht) (E_iload_n dX8_init_159 rfl (E_aload_n dX8_init_160 rfl q)))) ?_
          refine P_g (fun g38 => ?_)
          refine P_l (fun hJ _ _ q => E_getR (b := t + 2) clX8 2 (by decide) flX8_13 (Or.inr ⟨_, rfl⟩) dX8_init_161 (PSy_t (j := 0) (q := (10, 0)) hJ.1 ht r36 (by omega) (by decide) (by decide)) g38 (isT0 ht) (E_iload_n dX8_init_164 rfl q)) ?_
          refine P_g (fun g39 => ?_)
          refine P_l (fun hJ _ _ q => E_iald dX8_init_165 (PSy_t (j := 2) (q := (0, 256)) hJ.1 ht r36 (by omega) (by decide) (by decide)) (inB_vp g39) (E_aload_n dX8_init_166 rfl (E_getR (b := t + 2) clX8 2 (by decide) flX8_13 (Or.inr ⟨_, rfl⟩) dX8_init_167 (PSy_t (j := 0) (q := (10, 0)) hJ.1 ht r36 (by omega) (by decide) (by decide)) g38 (isT0 ht) (E_iload_n dX8_init_170 rfl (E_iconst (v := 1) dX8_init_171 (by decide) (E_iadd dX8_init_172 q)))))) ?_
          refine P_g (fun g40 => ?_)
          refine P_l (fun hJ _ _ q => E_iald dX8_init_173 (PSy_t (j := 2) (q := (0, 256)) hJ.1 ht r36 (by omega) (by decide) (by decide)) (inB_vp g40) (E_aload_n dX8_init_174 rfl (E_getR (b := t + 2) clX8 2 (by decide) flX8_13 (Or.inr ⟨_, rfl⟩) dX8_init_175 (PSy_t (j := 0) (q := (10, 0)) hJ.1 ht r36 (by omega) (by decide) (by decide)) g38 (isT0 ht) (E_iload_n dX8_init_178 rfl (E_iconst (v := 2) dX8_init_179 (by decide) (E_iadd dX8_init_180 q)))))) ?_
          refine P_g (fun g41 => ?_)
          refine P_l (fun hJ _ _ q => E_iald dX8_init_181 (PSy_t (j := 2) (q := (0, 256)) hJ.1 ht r36 (by omega) (by decide) (by decide)) (inB_vp g41) (E_callS (as := [.int (rI s35.2 (t + 2) (s35.1 + 1 : Int32).toNatClampNeg), .int (rI s35.2 (t + 2) (s35.1 + 2 : Int32).toNatClampNeg)]) (st := [.int (rI s35.2 (t + 2) (s35.1 : Int32).toNatClampNeg), .int s35.1, .ref (t + 3)]) (ok_X8_fewestBegun (σ := s35.2) (p1 := rI s35.2 (t + 2) (s35.1 + 1 : Int32).toNatClampNeg) (p2 := rI s35.2 (t + 2) (s35.1 + 2 : Int32).toNatClampNeg) hJ ) (by decide) yfX8_fewestBegun mlX8_34 stX8_fewestBegun rfl (Nat.le_of_ble_eq_true rfl) rfl dX8_init_182 (E_callS (as := [.int (rI s35.2 (t + 2) (s35.1 : Int32).toNatClampNeg), .int (v_X8_fewestBegun s35.2 (rI s35.2 (t + 2) (s35.1 + 1 : Int32).toNatClampNeg) (rI s35.2 (t + 2) (s35.1 + 2 : Int32).toNatClampNeg))]) (st := [.int s35.1, .ref (t + 3)]) (ok_X8_fewestBegun (σ := s35.2) (p1 := rI s35.2 (t + 2) (s35.1 : Int32).toNatClampNeg) (p2 := v_X8_fewestBegun s35.2 (rI s35.2 (t + 2) (s35.1 + 1 : Int32).toNatClampNeg) (rI s35.2 (t + 2) (s35.1 + 2 : Int32).toNatClampNeg)) hJ ) (by decide) yfX8_fewestBegun mlX8_34 stX8_fewestBegun rfl (Nat.le_of_ble_eq_true rfl) rfl dX8_init_185 q))) ?_
          refine P_wc (fun hJ _ _ q => E_iast dX8_init_188 (PSy_t (j := 3) (q := (0, 256)) hJ.1 ht r36 (by omega) (by decide) (by decide)) (isT3 ht) (inB_vp g39) q) (fun hJ => PSy_wI hJ.1) rfl rfl rfl (fun σ42 hσ42 => ?_)
          refine P_l (fun hJ _ _ q => E_iinc (v := 4) (ls2 := [some (.ref t), none, some (.int (s35.1 + 4)), none]) dX8_init_189 rfl (by decide) (by decide) rfl (E_goto 146 dX8_init_192 (by decide) q)) ?_
          exact P_back ((s35.1 + 4, σ42))
      · skip
        refine P_g (fun r43 => ?_)
        refine P_l (fun hJ _ _ q => E_iconst (v := 0) dX8_init_195 (by decide) (E_istore_n (ls2 := [some (.ref t), none, some (.int 0), none]) dX8_init_196 (by decide) rfl q)) ?_
        refine P_loop (fun s44 => [some (.ref t), none, some (.int s44.1), none]) (fun s44 => s44.2) (fun s44 => ?_) _ ((0, j34))
        unfold b_X8_init_197
        refine P_g (fun r45 => ?_)
        refine P_l (fun hJ _ _ q => E_iload_n dX8_init_197 rfl (E_aload_n dX8_init_198 rfl q)) ?_
        refine P_g (fun g46 => ?_)
        refine P_l (fun hJ _ _ q => E_getR (b := t + 4) clX8 4 (by decide) flX8_19 (Or.inr ⟨_, rfl⟩) dX8_init_199 (PSy_t (j := 0) (q := (10, 0)) hJ.1 ht r45 (by omega) (by decide) (by decide)) g46 (isT0 ht) (E_alen (v := 27) dX8_init_202 (PSy_t (j := 4) (q := (0, 27)) hJ.1 ht r45 (by omega) (by decide) (by decide)) (by decide) rfl q)) ?_
        refine P_if (fun hJ _ _ h1 h2 => E_icmp_ge 234 dX8_init_203 (by decide) h1 h2) ?_ ?_
        · skip
          exact P_inl (P_ret (fun _ _ => E_vret rfl dX8_init_234))
        · skip
          refine P_l (fun hJ _ _ q => E_aload_n dX8_init_206 rfl (E_getR (b := t + 4) clX8 4 (by decide) flX8_19 (Or.inr ⟨_, rfl⟩) dX8_init_207 (PSy_t (j := 0) (q := (10, 0)) hJ.1 ht r45 (by omega) (by decide) (by decide)) g46 (isT0 ht) (E_iload_n dX8_init_210 rfl (E_aload_n dX8_init_211 rfl (E_iload_n dX8_init_212 rfl (E_bipush (v := 9) dX8_init_213 (by decide) (E_idiv dX8_init_215 (by decide) (E_iload_n dX8_init_216 rfl (E_iconst (v := 3) dX8_init_217 (by decide) (E_idiv dX8_init_218 (by decide) (E_iconst (v := 3) dX8_init_219 (by decide) (E_irem dX8_init_220 (by decide) (E_iload_n dX8_init_221 rfl (E_iconst (v := 3) dX8_init_222 (by decide) q)))))))))))))) ?_
          refine P_l (fun hJ _ _ q => E_irem dX8_init_223 (by decide) q) ?_
          refine P_callr (t := fun v => some (.int v)) (st2 := fun v => .int v :: [.int s44.1, .ref (t + 4)]) (fun hJ => (ok_X8_statesWithin (σ := s44.2) (t := t) (p1 := s44.1 / 9) (p2 := iRem (s44.1 / 3) 3) (p3 := iRem s44.1 3) ht r45)) (fun hJ _ _ v hM q => E_callV (as := [.int (s44.1 / 9), .int (iRem (s44.1 / 3) 3), .int (iRem s44.1 3)]) (b := t) (st := [.int s44.1, .ref (t + 4)]) hM (by decide) yfX8_statesWithin mlX8_37 imX8_statesWithin seX8_statesWithin clX8 (PSy_t (j := 0) (q := (10, 0)) hJ.1 ht r45 (by omega) (by decide) (by decide)) rfl (Nat.le_of_ble_eq_true rfl) rfl dX8_init_224 q) (fun v47 => ?_)
          refine P_g (fun g48 => ?_)
          refine P_wc (fun hJ _ _ q => E_iast dX8_init_227 (PSy_t (j := 4) (q := (0, 27)) hJ.1 ht r45 (by omega) (by decide) (by decide)) (isT3 ht) (inB_vp g48) q) (fun hJ => PSy_wI hJ.1) rfl rfl rfl (fun σ49 hσ49 => ?_)
          refine P_l (fun hJ _ _ q => E_iinc (v := 1) (ls2 := [some (.ref t), none, some (.int (s44.1 + 1)), none]) dX8_init_228 rfl (by decide) (by decide) rfl (E_goto 197 dX8_init_231 (by decide) q)) ?_
          exact P_back ((s44.1 + 1, σ49))

def f_X1_init_5 (σ : rS) : Option (Unit × rS) := if uC σ + 1 ≤ bC ∧ uS σ + 53 ≤ bS then (oLet (wN σ (0, 53)) fun σ1 => oLet (wR σ1 5 0 6) fun σ2 => if uC σ2 + 1 ≤ bC ∧ uS σ2 + 212 ≤ bS then (oLet (wN σ2 (0, 212)) fun σ3 => oLet (wR σ3 5 1 7) fun σ4 => if uC σ4 + 1 ≤ bC ∧ uS σ4 + 4 ≤ bS then (oLet (wN σ4 (0, 4)) fun σ5 => oLet (wR σ5 5 2 8) fun σ6 => if uC σ6 + 1 ≤ bC ∧ uS σ6 + 52 ≤ bS then (oLet (wN σ6 (0, 52)) fun σ7 => oLet (wR σ7 5 3 9) fun σ8 => if uC σ8 + 1 ≤ bC ∧ uS σ8 + 52 ≤ bS then (oLet (wN σ8 (0, 52)) fun σ9 => oLet (wR σ9 5 4 10) fun σ10 => if uC σ10 + 1 ≤ bC ∧ uS σ10 + 64 ≤ bS then (oLet (wN σ10 (0, 64)) fun σ11 => oLet (wR σ11 5 5 11) fun σ12 => some (((), σ12))) else none) else none) else none) else none) else none) else none
set_option maxRecDepth 20000 in
set_option maxHeartbeats 2000000 in
theorem ok_X1_init_5 {σ : rS}  (hr : rN σ = 6) : rFn PSy yX1_init mX1_init 1 [.ref 5] σ 0 0 (fun _ => .inl none) (f_X1_init_5 σ) := by
  refine rF_of (ls := [some (.ref 5)]) yfX1_init rfl (Nat.le_of_ble_eq_true rfl) (fun o τ => ?_)
  unfold f_X1_init_5
  refine P_l (fun hJ _ _ q => E_aload_n dX1_init_0 rfl (E_objInit mlX1_3 oiInst oiCode (by decide) (Nat.le_of_ble_eq_true rfl) dX1_init_1 (E_aload_n dX1_init_4 rfl (E_bipush (v := 53) dX1_init_5 (by decide) q)))) ?_
  refine P_nc (c := 6) (c2 := 7) (q := (0, 53)) (n := 53) (st := [.ref 5]) hr (by first | rfl | omega) (fun hJ _ _ q => E_newaI (n := 53) ac_int dX1_init_7 rfl (Nat.le_of_ble_eq_true rfl) q) (by first | rfl | decide) (fun hJ => hJ.1.1) (fun hJ => PSy_wN hJ.1 hr (by decide)) (fun σ1 hσ1 => ?_)
  refine P_wc (fun hJ _ _ q => E_putRF clX1 0 (by decide) flX1_9 (Or.inr ⟨_, rfl⟩) rfl rfl rfl dX1_init_9 (PSy_k (n := 7) (i := 5) (q := (3, 0)) hJ.1 hσ1 (by decide) (by decide)) q) (fun hJ => PSy_wR hJ.1) rfl rfl rfl (fun σ2 hσ2 => ?_)
  refine P_l (fun hJ _ _ q => E_aload_n dX1_init_12 rfl (E_sipush (v := 212) dX1_init_13 (by decide) q)) ?_
  refine P_nc (c := 7) (c2 := 8) (q := (0, 212)) (n := 212) (st := [.ref 5]) (hσ2.trans hσ1) (by first | rfl | omega) (fun hJ _ _ q => E_newaI (n := 212) ac_int dX1_init_16 rfl (Nat.le_of_ble_eq_true rfl) q) (by first | rfl | decide) (fun hJ => hJ.1.1) (fun hJ => PSy_wN hJ.1 (hσ2.trans hσ1) (by decide)) (fun σ3 hσ3 => ?_)
  refine P_wc (fun hJ _ _ q => E_putRF clX1 1 (by decide) flX1_15 (Or.inr ⟨_, rfl⟩) rfl rfl rfl dX1_init_18 (PSy_k (n := 8) (i := 5) (q := (3, 0)) hJ.1 hσ3 (by decide) (by decide)) q) (fun hJ => PSy_wR hJ.1) rfl rfl rfl (fun σ4 hσ4 => ?_)
  refine P_l (fun hJ _ _ q => E_aload_n dX1_init_21 rfl (E_iconst (v := 4) dX1_init_22 (by decide) q)) ?_
  refine P_nc (c := 8) (c2 := 9) (q := (0, 4)) (n := 4) (st := [.ref 5]) (hσ4.trans hσ3) (by first | rfl | omega) (fun hJ _ _ q => E_newaI (n := 4) ac_int dX1_init_23 rfl (Nat.le_of_ble_eq_true rfl) q) (by first | rfl | decide) (fun hJ => hJ.1.1) (fun hJ => PSy_wN hJ.1 (hσ4.trans hσ3) (by decide)) (fun σ5 hσ5 => ?_)
  refine P_wc (fun hJ _ _ q => E_putRF clX1 2 (by decide) flX1_18 (Or.inr ⟨_, rfl⟩) rfl rfl rfl dX1_init_25 (PSy_k (n := 9) (i := 5) (q := (3, 0)) hJ.1 hσ5 (by decide) (by decide)) q) (fun hJ => PSy_wR hJ.1) rfl rfl rfl (fun σ6 hσ6 => ?_)
  refine P_l (fun hJ _ _ q => E_aload_n dX1_init_28 rfl (E_bipush (v := 52) dX1_init_29 (by decide) q)) ?_
  refine P_nc (c := 9) (c2 := 10) (q := (0, 52)) (n := 52) (st := [.ref 5]) (hσ6.trans hσ5) (by first | rfl | omega) (fun hJ _ _ q => E_newaI (n := 52) ac_int dX1_init_31 rfl (Nat.le_of_ble_eq_true rfl) q) (by first | rfl | decide) (fun hJ => hJ.1.1) (fun hJ => PSy_wN hJ.1 (hσ6.trans hσ5) (by decide)) (fun σ7 hσ7 => ?_)
  refine P_wc (fun hJ _ _ q => E_putRF clX1 3 (by decide) flX1_21 (Or.inr ⟨_, rfl⟩) rfl rfl rfl dX1_init_33 (PSy_k (n := 10) (i := 5) (q := (3, 0)) hJ.1 hσ7 (by decide) (by decide)) q) (fun hJ => PSy_wR hJ.1) rfl rfl rfl (fun σ8 hσ8 => ?_)
  refine P_l (fun hJ _ _ q => E_aload_n dX1_init_36 rfl (E_bipush (v := 52) dX1_init_37 (by decide) q)) ?_
  refine P_nc (c := 10) (c2 := 11) (q := (0, 52)) (n := 52) (st := [.ref 5]) (hσ8.trans hσ7) (by first | rfl | omega) (fun hJ _ _ q => E_newaI (n := 52) ac_int dX1_init_39 rfl (Nat.le_of_ble_eq_true rfl) q) (by first | rfl | decide) (fun hJ => hJ.1.1) (fun hJ => PSy_wN hJ.1 (hσ8.trans hσ7) (by decide)) (fun σ9 hσ9 => ?_)
  refine P_wc (fun hJ _ _ q => E_putRF clX1 4 (by decide) flX1_24 (Or.inr ⟨_, rfl⟩) rfl rfl rfl dX1_init_41 (PSy_k (n := 11) (i := 5) (q := (3, 0)) hJ.1 hσ9 (by decide) (by decide)) q) (fun hJ => PSy_wR hJ.1) rfl rfl rfl (fun σ10 hσ10 => ?_)
  refine P_l (fun hJ _ _ q => E_aload_n dX1_init_44 rfl (E_bipush (v := 64) dX1_init_45 (by decide) q)) ?_
  refine P_nc (c := 11) (c2 := 12) (q := (0, 64)) (n := 64) (st := [.ref 5]) (hσ10.trans hσ9) (by first | rfl | omega) (fun hJ _ _ q => E_newaI (n := 64) ac_int dX1_init_47 rfl (Nat.le_of_ble_eq_true rfl) q) (by first | rfl | decide) (fun hJ => hJ.1.1) (fun hJ => PSy_wN hJ.1 (hσ10.trans hσ9) (by decide)) (fun σ11 hσ11 => ?_)
  refine P_wc (fun hJ _ _ q => E_putRF clX1 5 (by decide) flX1_27 (Or.inr ⟨_, rfl⟩) rfl rfl rfl dX1_init_49 (PSy_k (n := 12) (i := 5) (q := (3, 0)) hJ.1 hσ11 (by decide) (by decide)) q) (fun hJ => PSy_wR hJ.1) rfl rfl rfl (fun σ12 hσ12 => ?_)
  exact P_ret (fun _ _ => E_vret rfl dX1_init_52)

def f_X1_init_12 (σ : rS) : Option (Unit × rS) := if uC σ + 1 ≤ bC ∧ uS σ + 53 ≤ bS then (oLet (wN σ (0, 53)) fun σ1 => oLet (wR σ1 12 0 13) fun σ2 => if uC σ2 + 1 ≤ bC ∧ uS σ2 + 212 ≤ bS then (oLet (wN σ2 (0, 212)) fun σ3 => oLet (wR σ3 12 1 14) fun σ4 => if uC σ4 + 1 ≤ bC ∧ uS σ4 + 4 ≤ bS then (oLet (wN σ4 (0, 4)) fun σ5 => oLet (wR σ5 12 2 15) fun σ6 => if uC σ6 + 1 ≤ bC ∧ uS σ6 + 52 ≤ bS then (oLet (wN σ6 (0, 52)) fun σ7 => oLet (wR σ7 12 3 16) fun σ8 => if uC σ8 + 1 ≤ bC ∧ uS σ8 + 52 ≤ bS then (oLet (wN σ8 (0, 52)) fun σ9 => oLet (wR σ9 12 4 17) fun σ10 => if uC σ10 + 1 ≤ bC ∧ uS σ10 + 64 ≤ bS then (oLet (wN σ10 (0, 64)) fun σ11 => oLet (wR σ11 12 5 18) fun σ12 => some (((), σ12))) else none) else none) else none) else none) else none) else none
set_option maxRecDepth 20000 in
set_option maxHeartbeats 2000000 in
theorem ok_X1_init_12 {σ : rS}  (hr : rN σ = 13) : rFn PSy yX1_init mX1_init 1 [.ref 12] σ 0 0 (fun _ => .inl none) (f_X1_init_12 σ) := by
  refine rF_of (ls := [some (.ref 12)]) yfX1_init rfl (Nat.le_of_ble_eq_true rfl) (fun o τ => ?_)
  unfold f_X1_init_12
  refine P_l (fun hJ _ _ q => E_aload_n dX1_init_0 rfl (E_objInit mlX1_3 oiInst oiCode (by decide) (Nat.le_of_ble_eq_true rfl) dX1_init_1 (E_aload_n dX1_init_4 rfl (E_bipush (v := 53) dX1_init_5 (by decide) q)))) ?_
  refine P_nc (c := 13) (c2 := 14) (q := (0, 53)) (n := 53) (st := [.ref 12]) hr (by first | rfl | omega) (fun hJ _ _ q => E_newaI (n := 53) ac_int dX1_init_7 rfl (Nat.le_of_ble_eq_true rfl) q) (by first | rfl | decide) (fun hJ => hJ.1.1) (fun hJ => PSy_wN hJ.1 hr (by decide)) (fun σ1 hσ1 => ?_)
  refine P_wc (fun hJ _ _ q => E_putRF clX1 0 (by decide) flX1_9 (Or.inr ⟨_, rfl⟩) rfl rfl rfl dX1_init_9 (PSy_k (n := 14) (i := 12) (q := (3, 0)) hJ.1 hσ1 (by decide) (by decide)) q) (fun hJ => PSy_wR hJ.1) rfl rfl rfl (fun σ2 hσ2 => ?_)
  refine P_l (fun hJ _ _ q => E_aload_n dX1_init_12 rfl (E_sipush (v := 212) dX1_init_13 (by decide) q)) ?_
  refine P_nc (c := 14) (c2 := 15) (q := (0, 212)) (n := 212) (st := [.ref 12]) (hσ2.trans hσ1) (by first | rfl | omega) (fun hJ _ _ q => E_newaI (n := 212) ac_int dX1_init_16 rfl (Nat.le_of_ble_eq_true rfl) q) (by first | rfl | decide) (fun hJ => hJ.1.1) (fun hJ => PSy_wN hJ.1 (hσ2.trans hσ1) (by decide)) (fun σ3 hσ3 => ?_)
  refine P_wc (fun hJ _ _ q => E_putRF clX1 1 (by decide) flX1_15 (Or.inr ⟨_, rfl⟩) rfl rfl rfl dX1_init_18 (PSy_k (n := 15) (i := 12) (q := (3, 0)) hJ.1 hσ3 (by decide) (by decide)) q) (fun hJ => PSy_wR hJ.1) rfl rfl rfl (fun σ4 hσ4 => ?_)
  refine P_l (fun hJ _ _ q => E_aload_n dX1_init_21 rfl (E_iconst (v := 4) dX1_init_22 (by decide) q)) ?_
  refine P_nc (c := 15) (c2 := 16) (q := (0, 4)) (n := 4) (st := [.ref 12]) (hσ4.trans hσ3) (by first | rfl | omega) (fun hJ _ _ q => E_newaI (n := 4) ac_int dX1_init_23 rfl (Nat.le_of_ble_eq_true rfl) q) (by first | rfl | decide) (fun hJ => hJ.1.1) (fun hJ => PSy_wN hJ.1 (hσ4.trans hσ3) (by decide)) (fun σ5 hσ5 => ?_)
  refine P_wc (fun hJ _ _ q => E_putRF clX1 2 (by decide) flX1_18 (Or.inr ⟨_, rfl⟩) rfl rfl rfl dX1_init_25 (PSy_k (n := 16) (i := 12) (q := (3, 0)) hJ.1 hσ5 (by decide) (by decide)) q) (fun hJ => PSy_wR hJ.1) rfl rfl rfl (fun σ6 hσ6 => ?_)
  refine P_l (fun hJ _ _ q => E_aload_n dX1_init_28 rfl (E_bipush (v := 52) dX1_init_29 (by decide) q)) ?_
  refine P_nc (c := 16) (c2 := 17) (q := (0, 52)) (n := 52) (st := [.ref 12]) (hσ6.trans hσ5) (by first | rfl | omega) (fun hJ _ _ q => E_newaI (n := 52) ac_int dX1_init_31 rfl (Nat.le_of_ble_eq_true rfl) q) (by first | rfl | decide) (fun hJ => hJ.1.1) (fun hJ => PSy_wN hJ.1 (hσ6.trans hσ5) (by decide)) (fun σ7 hσ7 => ?_)
  refine P_wc (fun hJ _ _ q => E_putRF clX1 3 (by decide) flX1_21 (Or.inr ⟨_, rfl⟩) rfl rfl rfl dX1_init_33 (PSy_k (n := 17) (i := 12) (q := (3, 0)) hJ.1 hσ7 (by decide) (by decide)) q) (fun hJ => PSy_wR hJ.1) rfl rfl rfl (fun σ8 hσ8 => ?_)
  refine P_l (fun hJ _ _ q => E_aload_n dX1_init_36 rfl (E_bipush (v := 52) dX1_init_37 (by decide) q)) ?_
  refine P_nc (c := 17) (c2 := 18) (q := (0, 52)) (n := 52) (st := [.ref 12]) (hσ8.trans hσ7) (by first | rfl | omega) (fun hJ _ _ q => E_newaI (n := 52) ac_int dX1_init_39 rfl (Nat.le_of_ble_eq_true rfl) q) (by first | rfl | decide) (fun hJ => hJ.1.1) (fun hJ => PSy_wN hJ.1 (hσ8.trans hσ7) (by decide)) (fun σ9 hσ9 => ?_)
  refine P_wc (fun hJ _ _ q => E_putRF clX1 4 (by decide) flX1_24 (Or.inr ⟨_, rfl⟩) rfl rfl rfl dX1_init_41 (PSy_k (n := 18) (i := 12) (q := (3, 0)) hJ.1 hσ9 (by decide) (by decide)) q) (fun hJ => PSy_wR hJ.1) rfl rfl rfl (fun σ10 hσ10 => ?_)
  refine P_l (fun hJ _ _ q => E_aload_n dX1_init_44 rfl (E_bipush (v := 64) dX1_init_45 (by decide) q)) ?_
  refine P_nc (c := 18) (c2 := 19) (q := (0, 64)) (n := 64) (st := [.ref 12]) (hσ10.trans hσ9) (by first | rfl | omega) (fun hJ _ _ q => E_newaI (n := 64) ac_int dX1_init_47 rfl (Nat.le_of_ble_eq_true rfl) q) (by first | rfl | decide) (fun hJ => hJ.1.1) (fun hJ => PSy_wN hJ.1 (hσ10.trans hσ9) (by decide)) (fun σ11 hσ11 => ?_)
  refine P_wc (fun hJ _ _ q => E_putRF clX1 5 (by decide) flX1_27 (Or.inr ⟨_, rfl⟩) rfl rfl rfl dX1_init_49 (PSy_k (n := 19) (i := 12) (q := (3, 0)) hJ.1 hσ11 (by decide) (by decide)) q) (fun hJ => PSy_wR hJ.1) rfl rfl rfl (fun σ12 hσ12 => ?_)
  exact P_ret (fun _ _ => E_vret rfl dX1_init_52)

def f_X3_init_51 (σ : rS) : Option (Unit × rS) := if uC σ + 1 ≤ bC ∧ uS σ + 1024 ≤ bS then (oLet (wN σ (0, 1024)) fun σ1 => oLet (wR σ1 51 0 52) fun σ2 => if uC σ2 + 1 ≤ bC ∧ uS σ2 + 1024 ≤ bS then (oLet (wN σ2 (1, 1024)) fun σ3 => oLet (wR σ3 51 1 53) fun σ4 => if uC σ4 + 1 ≤ bC ∧ uS σ4 + 1024 ≤ bS then (oLet (wN σ4 (1, 1024)) fun σ5 => oLet (wR σ5 51 2 54) fun σ6 => some (((), σ6))) else none) else none) else none
set_option maxRecDepth 20000 in
set_option maxHeartbeats 2000000 in
theorem ok_X3_init_51 {σ : rS}  (hr : rN σ = 52) : rFn PSy yX3_init mX3_init 1 [.ref 51] σ 0 0 (fun _ => .inl none) (f_X3_init_51 σ) := by
  refine rF_of (ls := [some (.ref 51)]) yfX3_init rfl (Nat.le_of_ble_eq_true rfl) (fun o τ => ?_)
  unfold f_X3_init_51
  refine P_l (fun hJ _ _ q => E_aload_n dX3_init_0 rfl (E_objInit mlX3_1 oiInst oiCode (by decide) (Nat.le_of_ble_eq_true rfl) dX3_init_1 (E_aload_n dX3_init_4 rfl (E_sipush (v := 1024) dX3_init_5 (by decide) q)))) ?_
  refine P_nc (c := 52) (c2 := 53) (q := (0, 1024)) (n := 1024) (st := [.ref 51]) hr (by first | rfl | omega) (fun hJ _ _ q => E_newaI (n := 1024) ac_int dX3_init_8 rfl (Nat.le_of_ble_eq_true rfl) q) (by first | rfl | decide) (fun hJ => hJ.1.1) (fun hJ => PSy_wN hJ.1 hr (by decide)) (fun σ1 hσ1 => ?_)
  refine P_wc (fun hJ _ _ q => E_putR clX3 0 (by decide) flX3_9 (Or.inr ⟨_, rfl⟩) rfl dX3_init_10 (PSy_k (n := 53) (i := 51) (q := (5, 0)) hJ.1 hσ1 (by decide) (by decide)) q) (fun hJ => PSy_wR hJ.1) rfl rfl rfl (fun σ2 hσ2 => ?_)
  refine P_l (fun hJ _ _ q => E_aload_n dX3_init_13 rfl (E_sipush (v := 1024) dX3_init_14 (by decide) q)) ?_
  refine P_nc (c := 53) (c2 := 54) (q := (1, 1024)) (n := 1024) (st := [.ref 51]) (hσ2.trans hσ1) (by first | rfl | omega) (fun hJ _ _ q => E_newaJ (n := 1024) ac_long dX3_init_17 rfl (Nat.le_of_ble_eq_true rfl) q) (by first | rfl | decide) (fun hJ => hJ.1.1) (fun hJ => PSy_wN hJ.1 (hσ2.trans hσ1) (by decide)) (fun σ3 hσ3 => ?_)
  refine P_wc (fun hJ _ _ q => E_putR clX3 1 (by decide) flX3_13 (Or.inr ⟨_, rfl⟩) rfl dX3_init_19 (PSy_k (n := 54) (i := 51) (q := (5, 0)) hJ.1 hσ3 (by decide) (by decide)) q) (fun hJ => PSy_wR hJ.1) rfl rfl rfl (fun σ4 hσ4 => ?_)
  refine P_l (fun hJ _ _ q => E_aload_n dX3_init_22 rfl (E_sipush (v := 1024) dX3_init_23 (by decide) q)) ?_
  refine P_nc (c := 54) (c2 := 55) (q := (1, 1024)) (n := 1024) (st := [.ref 51]) (hσ4.trans hσ3) (by first | rfl | omega) (fun hJ _ _ q => E_newaJ (n := 1024) ac_long dX3_init_26 rfl (Nat.le_of_ble_eq_true rfl) q) (by first | rfl | decide) (fun hJ => hJ.1.1) (fun hJ => PSy_wN hJ.1 (hσ4.trans hσ3) (by decide)) (fun σ5 hσ5 => ?_)
  refine P_wc (fun hJ _ _ q => E_putR clX3 2 (by decide) flX3_17 (Or.inr ⟨_, rfl⟩) rfl dX3_init_28 (PSy_k (n := 55) (i := 51) (q := (5, 0)) hJ.1 hσ5 (by decide) (by decide)) q) (fun hJ => PSy_wR hJ.1) rfl rfl rfl (fun σ6 hσ6 => ?_)
  exact P_ret (fun _ _ => E_vret rfl dX3_init_31)

def f_X3_init_55 (σ : rS) : Option (Unit × rS) := if uC σ + 1 ≤ bC ∧ uS σ + 1024 ≤ bS then (oLet (wN σ (0, 1024)) fun σ1 => oLet (wR σ1 55 0 56) fun σ2 => if uC σ2 + 1 ≤ bC ∧ uS σ2 + 1024 ≤ bS then (oLet (wN σ2 (1, 1024)) fun σ3 => oLet (wR σ3 55 1 57) fun σ4 => if uC σ4 + 1 ≤ bC ∧ uS σ4 + 1024 ≤ bS then (oLet (wN σ4 (1, 1024)) fun σ5 => oLet (wR σ5 55 2 58) fun σ6 => some (((), σ6))) else none) else none) else none
set_option maxRecDepth 20000 in
set_option maxHeartbeats 2000000 in
theorem ok_X3_init_55 {σ : rS}  (hr : rN σ = 56) : rFn PSy yX3_init mX3_init 1 [.ref 55] σ 0 0 (fun _ => .inl none) (f_X3_init_55 σ) := by
  refine rF_of (ls := [some (.ref 55)]) yfX3_init rfl (Nat.le_of_ble_eq_true rfl) (fun o τ => ?_)
  unfold f_X3_init_55
  refine P_l (fun hJ _ _ q => E_aload_n dX3_init_0 rfl (E_objInit mlX3_1 oiInst oiCode (by decide) (Nat.le_of_ble_eq_true rfl) dX3_init_1 (E_aload_n dX3_init_4 rfl (E_sipush (v := 1024) dX3_init_5 (by decide) q)))) ?_
  refine P_nc (c := 56) (c2 := 57) (q := (0, 1024)) (n := 1024) (st := [.ref 55]) hr (by first | rfl | omega) (fun hJ _ _ q => E_newaI (n := 1024) ac_int dX3_init_8 rfl (Nat.le_of_ble_eq_true rfl) q) (by first | rfl | decide) (fun hJ => hJ.1.1) (fun hJ => PSy_wN hJ.1 hr (by decide)) (fun σ1 hσ1 => ?_)
  refine P_wc (fun hJ _ _ q => E_putR clX3 0 (by decide) flX3_9 (Or.inr ⟨_, rfl⟩) rfl dX3_init_10 (PSy_k (n := 57) (i := 55) (q := (5, 0)) hJ.1 hσ1 (by decide) (by decide)) q) (fun hJ => PSy_wR hJ.1) rfl rfl rfl (fun σ2 hσ2 => ?_)
  refine P_l (fun hJ _ _ q => E_aload_n dX3_init_13 rfl (E_sipush (v := 1024) dX3_init_14 (by decide) q)) ?_
  refine P_nc (c := 57) (c2 := 58) (q := (1, 1024)) (n := 1024) (st := [.ref 55]) (hσ2.trans hσ1) (by first | rfl | omega) (fun hJ _ _ q => E_newaJ (n := 1024) ac_long dX3_init_17 rfl (Nat.le_of_ble_eq_true rfl) q) (by first | rfl | decide) (fun hJ => hJ.1.1) (fun hJ => PSy_wN hJ.1 (hσ2.trans hσ1) (by decide)) (fun σ3 hσ3 => ?_)
  refine P_wc (fun hJ _ _ q => E_putR clX3 1 (by decide) flX3_13 (Or.inr ⟨_, rfl⟩) rfl dX3_init_19 (PSy_k (n := 58) (i := 55) (q := (5, 0)) hJ.1 hσ3 (by decide) (by decide)) q) (fun hJ => PSy_wR hJ.1) rfl rfl rfl (fun σ4 hσ4 => ?_)
  refine P_l (fun hJ _ _ q => E_aload_n dX3_init_22 rfl (E_sipush (v := 1024) dX3_init_23 (by decide) q)) ?_
  refine P_nc (c := 58) (c2 := 59) (q := (1, 1024)) (n := 1024) (st := [.ref 55]) (hσ4.trans hσ3) (by first | rfl | omega) (fun hJ _ _ q => E_newaJ (n := 1024) ac_long dX3_init_26 rfl (Nat.le_of_ble_eq_true rfl) q) (by first | rfl | decide) (fun hJ => hJ.1.1) (fun hJ => PSy_wN hJ.1 (hσ4.trans hσ3) (by decide)) (fun σ5 hσ5 => ?_)
  refine P_wc (fun hJ _ _ q => E_putR clX3 2 (by decide) flX3_17 (Or.inr ⟨_, rfl⟩) rfl dX3_init_28 (PSy_k (n := 59) (i := 55) (q := (5, 0)) hJ.1 hσ5 (by decide) (by decide)) q) (fun hJ => PSy_wR hJ.1) rfl rfl rfl (fun σ6 hσ6 => ?_)
  exact P_ret (fun _ _ => E_vret rfl dX3_init_31)

def f_X5_init (σ : rS) : Option (Unit × rS) := oLet (wI σ 4 0 13) fun σ1 => oLet (wI σ1 4 1 3) fun σ2 => oLet (wI σ2 4 2 2) fun σ3 => oLet (wI σ3 4 3 30) fun σ4 => oLet (wI σ4 4 4 3) fun σ5 => some (((), σ5))
set_option maxRecDepth 20000 in
set_option maxHeartbeats 2000000 in
theorem ok_X5_init {σ : rS}  (hr : rN σ = 5) : rFn PSy yX5_init mX5_init 1 [.ref 4] σ 0 0 (fun _ => .inl none) (f_X5_init σ) := by
  refine rF_of (ls := [some (.ref 4)]) yfX5_init rfl (Nat.le_of_ble_eq_true rfl) (fun o τ => ?_)
  unfold f_X5_init
  refine P_l (fun hJ _ _ q => E_aload_n dX5_init_0 rfl (E_objInit mlX5_3 oiInst oiCode (by decide) (Nat.le_of_ble_eq_true rfl) dX5_init_1 (E_aload_n dX5_init_4 rfl (E_bipush (v := 13) dX5_init_5 (by decide) q)))) ?_
  refine P_wc (fun hJ _ _ q => E_putI clX5 0 (by decide) flX5_9 (Or.inl rfl) rfl dX5_init_7 (PSy_k (n := 5) (i := 4) (q := (7, 0)) hJ.1 hr (by decide) (by decide)) q) (fun hJ => PSy_wI hJ.1) rfl rfl rfl (fun σ1 hσ1 => ?_)
  refine P_l (fun hJ _ _ q => E_aload_n dX5_init_10 rfl (E_iconst (v := 3) dX5_init_11 (by decide) q)) ?_
  refine P_wc (fun hJ _ _ q => E_putI clX5 1 (by decide) flX5_15 (Or.inl rfl) rfl dX5_init_12 (PSy_k (n := 5) (i := 4) (q := (7, 0)) hJ.1 (hσ1.trans hr) (by decide) (by decide)) q) (fun hJ => PSy_wI hJ.1) rfl rfl rfl (fun σ2 hσ2 => ?_)
  refine P_l (fun hJ _ _ q => E_aload_n dX5_init_15 rfl (E_iconst (v := 2) dX5_init_16 (by decide) q)) ?_
  refine P_wc (fun hJ _ _ q => E_putI clX5 2 (by decide) flX5_18 (Or.inl rfl) rfl dX5_init_17 (PSy_k (n := 5) (i := 4) (q := (7, 0)) hJ.1 (hσ2.trans (hσ1.trans hr)) (by decide) (by decide)) q) (fun hJ => PSy_wI hJ.1) rfl rfl rfl (fun σ3 hσ3 => ?_)
  refine P_l (fun hJ _ _ q => E_aload_n dX5_init_20 rfl (E_bipush (v := 30) dX5_init_21 (by decide) q)) ?_
  refine P_wc (fun hJ _ _ q => E_putI clX5 3 (by decide) flX5_21 (Or.inl rfl) rfl dX5_init_23 (PSy_k (n := 5) (i := 4) (q := (7, 0)) hJ.1 (hσ3.trans (hσ2.trans (hσ1.trans hr))) (by decide) (by decide)) q) (fun hJ => PSy_wI hJ.1) rfl rfl rfl (fun σ4 hσ4 => ?_)
  refine P_l (fun hJ _ _ q => E_aload_n dX5_init_26 rfl (E_iconst (v := 3) dX5_init_27 (by decide) q)) ?_
  refine P_wc (fun hJ _ _ q => E_putI clX5 4 (by decide) flX5_24 (Or.inl rfl) rfl dX5_init_28 (PSy_k (n := 5) (i := 4) (q := (7, 0)) hJ.1 (hσ4.trans (hσ3.trans (hσ2.trans (hσ1.trans hr)))) (by decide) (by decide)) q) (fun hJ => PSy_wI hJ.1) rfl rfl rfl (fun σ5 hσ5 => ?_)
  exact P_ret (fun _ _ => E_vret rfl dX5_init_31)

def f_X6_init (σ : rS) : Option (Unit × rS) := if uC σ + 1 ≤ bC ∧ uS σ + 4 ≤ bS then (oLet (wN σ (0, 4)) fun σ1 => oLet (wR σ1 19 1 20) fun σ2 => if uC σ2 + 1 ≤ bC ∧ uS σ2 + 4 ≤ bS then (oLet (wN σ2 (0, 4)) fun σ3 => oLet (wR σ3 19 2 21) fun σ4 => if uC σ4 + 1 ≤ bC ∧ uS σ4 + 4 ≤ bS then (oLet (wN σ4 (0, 4)) fun σ5 => oLet (wR σ5 19 3 22) fun σ6 => if uC σ6 + 1 ≤ bC ∧ uS σ6 + 4 ≤ bS then (oLet (wN σ6 (0, 4)) fun σ7 => oLet (wR σ7 19 4 23) fun σ8 => if uC σ8 + 1 ≤ bC ∧ uS σ8 + 4 ≤ bS then (oLet (wN σ8 (0, 4)) fun σ9 => oLet (wR σ9 19 5 24) fun σ10 => if uC σ10 + 1 ≤ bC ∧ uS σ10 + 4 ≤ bS then (oLet (wN σ10 (0, 4)) fun σ11 => oLet (wR σ11 19 6 25) fun σ12 => if uC σ12 + 1 ≤ bC ∧ uS σ12 + 4 ≤ bS then (oLet (wN σ12 (0, 4)) fun σ13 => oLet (wR σ13 19 7 26) fun σ14 => if uC σ14 + 1 ≤ bC ∧ uS σ14 + 4 ≤ bS then (oLet (wN σ14 (0, 4)) fun σ15 => oLet (wR σ15 19 8 27) fun σ16 => if uC σ16 + 1 ≤ bC ∧ uS σ16 + 4 ≤ bS then (oLet (wN σ16 (0, 4)) fun σ17 => oLet (wR σ17 19 9 28) fun σ18 => if uC σ18 + 1 ≤ bC ∧ uS σ18 + 4 ≤ bS then (oLet (wN σ18 (1, 4)) fun σ19 => oLet (wR σ19 19 10 29) fun σ20 => if uC σ20 + 1 ≤ bC ∧ uS σ20 + 208 ≤ bS then (oLet (wN σ20 (0, 208)) fun σ21 => oLet (wR σ21 19 11 30) fun σ22 => some (((), σ22))) else none) else none) else none) else none) else none) else none) else none) else none) else none) else none) else none
set_option maxRecDepth 20000 in
set_option maxHeartbeats 2000000 in
theorem ok_X6_init {σ : rS}  (hr : rN σ = 20) : rFn PSy yX6_init mX6_init 1 [.ref 19] σ 0 0 (fun _ => .inl none) (f_X6_init σ) := by
  refine rF_of (ls := [some (.ref 19)]) yfX6_init rfl (Nat.le_of_ble_eq_true rfl) (fun o τ => ?_)
  unfold f_X6_init
  refine P_l (fun hJ _ _ q => E_aload_n dX6_init_0 rfl (E_objInit mlX6_3 oiInst oiCode (by decide) (Nat.le_of_ble_eq_true rfl) dX6_init_1 (E_aload_n dX6_init_4 rfl (E_iconst (v := 4) dX6_init_5 (by decide) q)))) ?_
  refine P_nc (c := 20) (c2 := 21) (q := (0, 4)) (n := 4) (st := [.ref 19]) hr (by first | rfl | omega) (fun hJ _ _ q => E_newaI (n := 4) ac_int dX6_init_6 rfl (Nat.le_of_ble_eq_true rfl) q) (by first | rfl | decide) (fun hJ => hJ.1.1) (fun hJ => PSy_wN hJ.1 hr (by decide)) (fun σ1 hσ1 => ?_)
  refine P_wc (fun hJ _ _ q => E_putRF clX6 1 (by decide) flX6_9 (Or.inr ⟨_, rfl⟩) rfl rfl rfl dX6_init_8 (PSy_k (n := 21) (i := 19) (q := (8, 0)) hJ.1 hσ1 (by decide) (by decide)) q) (fun hJ => PSy_wR hJ.1) rfl rfl rfl (fun σ2 hσ2 => ?_)
  refine P_l (fun hJ _ _ q => E_aload_n dX6_init_11 rfl (E_iconst (v := 4) dX6_init_12 (by decide) q)) ?_
  refine P_nc (c := 21) (c2 := 22) (q := (0, 4)) (n := 4) (st := [.ref 19]) (hσ2.trans hσ1) (by first | rfl | omega) (fun hJ _ _ q => E_newaI (n := 4) ac_int dX6_init_13 rfl (Nat.le_of_ble_eq_true rfl) q) (by first | rfl | decide) (fun hJ => hJ.1.1) (fun hJ => PSy_wN hJ.1 (hσ2.trans hσ1) (by decide)) (fun σ3 hσ3 => ?_)
  refine P_wc (fun hJ _ _ q => E_putRF clX6 2 (by decide) flX6_15 (Or.inr ⟨_, rfl⟩) rfl rfl rfl dX6_init_15 (PSy_k (n := 22) (i := 19) (q := (8, 0)) hJ.1 hσ3 (by decide) (by decide)) q) (fun hJ => PSy_wR hJ.1) rfl rfl rfl (fun σ4 hσ4 => ?_)
  refine P_l (fun hJ _ _ q => E_aload_n dX6_init_18 rfl (E_iconst (v := 4) dX6_init_19 (by decide) q)) ?_
  refine P_nc (c := 22) (c2 := 23) (q := (0, 4)) (n := 4) (st := [.ref 19]) (hσ4.trans hσ3) (by first | rfl | omega) (fun hJ _ _ q => E_newaI (n := 4) ac_int dX6_init_20 rfl (Nat.le_of_ble_eq_true rfl) q) (by first | rfl | decide) (fun hJ => hJ.1.1) (fun hJ => PSy_wN hJ.1 (hσ4.trans hσ3) (by decide)) (fun σ5 hσ5 => ?_)
  refine P_wc (fun hJ _ _ q => E_putRF clX6 3 (by decide) flX6_18 (Or.inr ⟨_, rfl⟩) rfl rfl rfl dX6_init_22 (PSy_k (n := 23) (i := 19) (q := (8, 0)) hJ.1 hσ5 (by decide) (by decide)) q) (fun hJ => PSy_wR hJ.1) rfl rfl rfl (fun σ6 hσ6 => ?_)
  refine P_l (fun hJ _ _ q => E_aload_n dX6_init_25 rfl (E_iconst (v := 4) dX6_init_26 (by decide) q)) ?_
  refine P_nc (c := 23) (c2 := 24) (q := (0, 4)) (n := 4) (st := [.ref 19]) (hσ6.trans hσ5) (by first | rfl | omega) (fun hJ _ _ q => E_newaI (n := 4) ac_int dX6_init_27 rfl (Nat.le_of_ble_eq_true rfl) q) (by first | rfl | decide) (fun hJ => hJ.1.1) (fun hJ => PSy_wN hJ.1 (hσ6.trans hσ5) (by decide)) (fun σ7 hσ7 => ?_)
  refine P_wc (fun hJ _ _ q => E_putRF clX6 4 (by decide) flX6_21 (Or.inr ⟨_, rfl⟩) rfl rfl rfl dX6_init_29 (PSy_k (n := 24) (i := 19) (q := (8, 0)) hJ.1 hσ7 (by decide) (by decide)) q) (fun hJ => PSy_wR hJ.1) rfl rfl rfl (fun σ8 hσ8 => ?_)
  refine P_l (fun hJ _ _ q => E_aload_n dX6_init_32 rfl (E_iconst (v := 4) dX6_init_33 (by decide) q)) ?_
  refine P_nc (c := 24) (c2 := 25) (q := (0, 4)) (n := 4) (st := [.ref 19]) (hσ8.trans hσ7) (by first | rfl | omega) (fun hJ _ _ q => E_newaI (n := 4) ac_int dX6_init_34 rfl (Nat.le_of_ble_eq_true rfl) q) (by first | rfl | decide) (fun hJ => hJ.1.1) (fun hJ => PSy_wN hJ.1 (hσ8.trans hσ7) (by decide)) (fun σ9 hσ9 => ?_)
  refine P_wc (fun hJ _ _ q => E_putRF clX6 5 (by decide) flX6_24 (Or.inr ⟨_, rfl⟩) rfl rfl rfl dX6_init_36 (PSy_k (n := 25) (i := 19) (q := (8, 0)) hJ.1 hσ9 (by decide) (by decide)) q) (fun hJ => PSy_wR hJ.1) rfl rfl rfl (fun σ10 hσ10 => ?_)
  refine P_l (fun hJ _ _ q => E_aload_n dX6_init_39 rfl (E_iconst (v := 4) dX6_init_40 (by decide) q)) ?_
  refine P_nc (c := 25) (c2 := 26) (q := (0, 4)) (n := 4) (st := [.ref 19]) (hσ10.trans hσ9) (by first | rfl | omega) (fun hJ _ _ q => E_newaI (n := 4) ac_int dX6_init_41 rfl (Nat.le_of_ble_eq_true rfl) q) (by first | rfl | decide) (fun hJ => hJ.1.1) (fun hJ => PSy_wN hJ.1 (hσ10.trans hσ9) (by decide)) (fun σ11 hσ11 => ?_)
  refine P_wc (fun hJ _ _ q => E_putRF clX6 6 (by decide) flX6_27 (Or.inr ⟨_, rfl⟩) rfl rfl rfl dX6_init_43 (PSy_k (n := 26) (i := 19) (q := (8, 0)) hJ.1 hσ11 (by decide) (by decide)) q) (fun hJ => PSy_wR hJ.1) rfl rfl rfl (fun σ12 hσ12 => ?_)
  refine P_l (fun hJ _ _ q => E_aload_n dX6_init_46 rfl (E_iconst (v := 4) dX6_init_47 (by decide) q)) ?_
  refine P_nc (c := 26) (c2 := 27) (q := (0, 4)) (n := 4) (st := [.ref 19]) (hσ12.trans hσ11) (by first | rfl | omega) (fun hJ _ _ q => E_newaI (n := 4) ac_int dX6_init_48 rfl (Nat.le_of_ble_eq_true rfl) q) (by first | rfl | decide) (fun hJ => hJ.1.1) (fun hJ => PSy_wN hJ.1 (hσ12.trans hσ11) (by decide)) (fun σ13 hσ13 => ?_)
  refine P_wc (fun hJ _ _ q => E_putRF clX6 7 (by decide) flX6_30 (Or.inr ⟨_, rfl⟩) rfl rfl rfl dX6_init_50 (PSy_k (n := 27) (i := 19) (q := (8, 0)) hJ.1 hσ13 (by decide) (by decide)) q) (fun hJ => PSy_wR hJ.1) rfl rfl rfl (fun σ14 hσ14 => ?_)
  refine P_l (fun hJ _ _ q => E_aload_n dX6_init_53 rfl (E_iconst (v := 4) dX6_init_54 (by decide) q)) ?_
  refine P_nc (c := 27) (c2 := 28) (q := (0, 4)) (n := 4) (st := [.ref 19]) (hσ14.trans hσ13) (by first | rfl | omega) (fun hJ _ _ q => E_newaI (n := 4) ac_int dX6_init_55 rfl (Nat.le_of_ble_eq_true rfl) q) (by first | rfl | decide) (fun hJ => hJ.1.1) (fun hJ => PSy_wN hJ.1 (hσ14.trans hσ13) (by decide)) (fun σ15 hσ15 => ?_)
  refine P_wc (fun hJ _ _ q => E_putRF clX6 8 (by decide) flX6_33 (Or.inr ⟨_, rfl⟩) rfl rfl rfl dX6_init_57 (PSy_k (n := 28) (i := 19) (q := (8, 0)) hJ.1 hσ15 (by decide) (by decide)) q) (fun hJ => PSy_wR hJ.1) rfl rfl rfl (fun σ16 hσ16 => ?_)
  refine P_l (fun hJ _ _ q => E_aload_n dX6_init_60 rfl (E_iconst (v := 4) dX6_init_61 (by decide) q)) ?_
  refine P_nc (c := 28) (c2 := 29) (q := (0, 4)) (n := 4) (st := [.ref 19]) (hσ16.trans hσ15) (by first | rfl | omega) (fun hJ _ _ q => E_newaI (n := 4) ac_int dX6_init_62 rfl (Nat.le_of_ble_eq_true rfl) q) (by first | rfl | decide) (fun hJ => hJ.1.1) (fun hJ => PSy_wN hJ.1 (hσ16.trans hσ15) (by decide)) (fun σ17 hσ17 => ?_)
  refine P_wc (fun hJ _ _ q => E_putRF clX6 9 (by decide) flX6_36 (Or.inr ⟨_, rfl⟩) rfl rfl rfl dX6_init_64 (PSy_k (n := 29) (i := 19) (q := (8, 0)) hJ.1 hσ17 (by decide) (by decide)) q) (fun hJ => PSy_wR hJ.1) rfl rfl rfl (fun σ18 hσ18 => ?_)
  refine P_l (fun hJ _ _ q => E_aload_n dX6_init_67 rfl (E_iconst (v := 4) dX6_init_68 (by decide) q)) ?_
  refine P_nc (c := 29) (c2 := 30) (q := (1, 4)) (n := 4) (st := [.ref 19]) (hσ18.trans hσ17) (by first | rfl | omega) (fun hJ _ _ q => E_newaJ (n := 4) ac_long dX6_init_69 rfl (Nat.le_of_ble_eq_true rfl) q) (by first | rfl | decide) (fun hJ => hJ.1.1) (fun hJ => PSy_wN hJ.1 (hσ18.trans hσ17) (by decide)) (fun σ19 hσ19 => ?_)
  refine P_wc (fun hJ _ _ q => E_putRF clX6 10 (by decide) flX6_39 (Or.inr ⟨_, rfl⟩) rfl rfl rfl dX6_init_71 (PSy_k (n := 30) (i := 19) (q := (8, 0)) hJ.1 hσ19 (by decide) (by decide)) q) (fun hJ => PSy_wR hJ.1) rfl rfl rfl (fun σ20 hσ20 => ?_)
  refine P_l (fun hJ _ _ q => E_aload_n dX6_init_74 rfl (E_sipush (v := 208) dX6_init_75 (by decide) q)) ?_
  refine P_nc (c := 30) (c2 := 31) (q := (0, 208)) (n := 208) (st := [.ref 19]) (hσ20.trans hσ19) (by first | rfl | omega) (fun hJ _ _ q => E_newaI (n := 208) ac_int dX6_init_78 rfl (Nat.le_of_ble_eq_true rfl) q) (by first | rfl | decide) (fun hJ => hJ.1.1) (fun hJ => PSy_wN hJ.1 (hσ20.trans hσ19) (by decide)) (fun σ21 hσ21 => ?_)
  refine P_wc (fun hJ _ _ q => E_putRF clX6 11 (by decide) flX6_43 (Or.inr ⟨_, rfl⟩) rfl rfl rfl dX6_init_80 (PSy_k (n := 31) (i := 19) (q := (8, 0)) hJ.1 hσ21 (by decide) (by decide)) q) (fun hJ => PSy_wR hJ.1) rfl rfl rfl (fun σ22 hσ22 => ?_)
  exact P_ret (fun _ _ => E_vret rfl dX6_init_83)

def f_X7_init (σ : rS) : Option (Unit × rS) := if uC σ + 1 ≤ bC ∧ uS σ + 40 ≤ bS then (oLet (wN σ (0, 40)) fun σ1 => oLet (wR σ1 31 0 32) fun σ2 => if uC σ2 + 1 ≤ bC ∧ uS σ2 + 40 ≤ bS then (oLet (wN σ2 (0, 40)) fun σ3 => oLet (wR σ3 31 2 33) fun σ4 => if uC σ4 + 1 ≤ bC ∧ uS σ4 + 40 ≤ bS then (oLet (wN σ4 (0, 40)) fun σ5 => oLet (wR σ5 31 3 34) fun σ6 => some (((), σ6))) else none) else none) else none
set_option maxRecDepth 20000 in
set_option maxHeartbeats 2000000 in
theorem ok_X7_init {σ : rS}  (hr : rN σ = 32) : rFn PSy yX7_init mX7_init 1 [.ref 31] σ 0 0 (fun _ => .inl none) (f_X7_init σ) := by
  refine rF_of (ls := [some (.ref 31)]) yfX7_init rfl (Nat.le_of_ble_eq_true rfl) (fun o τ => ?_)
  unfold f_X7_init
  refine P_l (fun hJ _ _ q => E_aload_n dX7_init_0 rfl (E_objInit mlX7_3 oiInst oiCode (by decide) (Nat.le_of_ble_eq_true rfl) dX7_init_1 (E_aload_n dX7_init_4 rfl (E_bipush (v := 40) dX7_init_5 (by decide) q)))) ?_
  refine P_nc (c := 32) (c2 := 33) (q := (0, 40)) (n := 40) (st := [.ref 31]) hr (by first | rfl | omega) (fun hJ _ _ q => E_newaI (n := 40) ac_int dX7_init_7 rfl (Nat.le_of_ble_eq_true rfl) q) (by first | rfl | decide) (fun hJ => hJ.1.1) (fun hJ => PSy_wN hJ.1 hr (by decide)) (fun σ1 hσ1 => ?_)
  refine P_wc (fun hJ _ _ q => E_putRF clX7 0 (by decide) flX7_11 (Or.inr ⟨_, rfl⟩) rfl rfl rfl dX7_init_9 (PSy_k (n := 33) (i := 31) (q := (9, 0)) hJ.1 hσ1 (by decide) (by decide)) q) (fun hJ => PSy_wR hJ.1) rfl rfl rfl (fun σ2 hσ2 => ?_)
  refine P_l (fun hJ _ _ q => E_aload_n dX7_init_12 rfl (E_bipush (v := 40) dX7_init_13 (by decide) q)) ?_
  refine P_nc (c := 33) (c2 := 34) (q := (0, 40)) (n := 40) (st := [.ref 31]) (hσ2.trans hσ1) (by first | rfl | omega) (fun hJ _ _ q => E_newaI (n := 40) ac_int dX7_init_15 rfl (Nat.le_of_ble_eq_true rfl) q) (by first | rfl | decide) (fun hJ => hJ.1.1) (fun hJ => PSy_wN hJ.1 (hσ2.trans hσ1) (by decide)) (fun σ3 hσ3 => ?_)
  refine P_wc (fun hJ _ _ q => E_putRF clX7 2 (by decide) flX7_15 (Or.inr ⟨_, rfl⟩) rfl rfl rfl dX7_init_17 (PSy_k (n := 34) (i := 31) (q := (9, 0)) hJ.1 hσ3 (by decide) (by decide)) q) (fun hJ => PSy_wR hJ.1) rfl rfl rfl (fun σ4 hσ4 => ?_)
  refine P_l (fun hJ _ _ q => E_aload_n dX7_init_20 rfl (E_bipush (v := 40) dX7_init_21 (by decide) q)) ?_
  refine P_nc (c := 34) (c2 := 35) (q := (0, 40)) (n := 40) (st := [.ref 31]) (hσ4.trans hσ3) (by first | rfl | omega) (fun hJ _ _ q => E_newaI (n := 40) ac_int dX7_init_23 rfl (Nat.le_of_ble_eq_true rfl) q) (by first | rfl | decide) (fun hJ => hJ.1.1) (fun hJ => PSy_wN hJ.1 (hσ4.trans hσ3) (by decide)) (fun σ5 hσ5 => ?_)
  refine P_wc (fun hJ _ _ q => E_putRF clX7 3 (by decide) flX7_18 (Or.inr ⟨_, rfl⟩) rfl rfl rfl dX7_init_25 (PSy_k (n := 35) (i := 31) (q := (9, 0)) hJ.1 hσ5 (by decide) (by decide)) q) (fun hJ => PSy_wR hJ.1) rfl rfl rfl (fun σ6 hσ6 => ?_)
  exact P_ret (fun _ _ => E_vret rfl dX7_init_28)

def f_X2_init (σ : rS) : Option (Unit × rS) := if uC σ + 1 ≤ bC ∧ uS σ + 1024 ≤ bS then (oLet (wN σ (0, 1024)) fun σ1 => oLet (wR σ1 35 0 36) fun σ2 => some (((), σ2))) else none
set_option maxRecDepth 20000 in
set_option maxHeartbeats 2000000 in
theorem ok_X2_init {σ : rS}  (hr : rN σ = 36) : rFn PSy yX2_init mX2_init 1 [.ref 35] σ 0 0 (fun _ => .inl none) (f_X2_init σ) := by
  refine rF_of (ls := [some (.ref 35)]) yfX2_init rfl (Nat.le_of_ble_eq_true rfl) (fun o τ => ?_)
  unfold f_X2_init
  refine P_l (fun hJ _ _ q => E_aload_n dX2_init_0 rfl (E_objInit mlX2_1 oiInst oiCode (by decide) (Nat.le_of_ble_eq_true rfl) dX2_init_1 (E_aload_n dX2_init_4 rfl (E_sipush (v := 1024) dX2_init_5 (by decide) q)))) ?_
  refine P_nc (c := 36) (c2 := 37) (q := (0, 1024)) (n := 1024) (st := [.ref 35]) hr (by first | rfl | omega) (fun hJ _ _ q => E_newaI (n := 1024) ac_int dX2_init_8 rfl (Nat.le_of_ble_eq_true rfl) q) (by first | rfl | decide) (fun hJ => hJ.1.1) (fun hJ => PSy_wN hJ.1 hr (by decide)) (fun σ1 hσ1 => ?_)
  refine P_wc (fun hJ _ _ q => E_putRF clX2 0 (by decide) flX2_9 (Or.inr ⟨_, rfl⟩) rfl rfl rfl dX2_init_10 (PSy_k (n := 37) (i := 35) (q := (4, 0)) hJ.1 hσ1 (by decide) (by decide)) q) (fun hJ => PSy_wR hJ.1) rfl rfl rfl (fun σ2 hσ2 => ?_)
  exact P_ret (fun _ _ => E_vret rfl dX2_init_13)

def f_X4_init (σ : rS) : Option (Unit × rS) := if uC σ + 1 ≤ bC ∧ uS σ + 24 ≤ bS then (oLet (wN σ (0, 24)) fun σ1 => oLet (wR σ1 65 0 66) fun σ2 => oLet (wI σ2 65 1 ((-1))) fun σ3 => oLet (wI σ3 65 2 ((-1))) fun σ4 => some (((), σ4))) else none
set_option maxRecDepth 20000 in
set_option maxHeartbeats 2000000 in
theorem ok_X4_init {σ : rS}  (hr : rN σ = 66) : rFn PSy yX4_init mX4_init 1 [.ref 65] σ 0 0 (fun _ => .inl none) (f_X4_init σ) := by
  refine rF_of (ls := [some (.ref 65)]) yfX4_init rfl (Nat.le_of_ble_eq_true rfl) (fun o τ => ?_)
  unfold f_X4_init
  refine P_l (fun hJ _ _ q => E_aload_n dX4_init_0 rfl (E_objInit mlX4_3 oiInst oiCode (by decide) (Nat.le_of_ble_eq_true rfl) dX4_init_1 (E_aload_n dX4_init_4 rfl (E_bipush (v := 24) dX4_init_5 (by decide) q)))) ?_
  refine P_nc (c := 66) (c2 := 67) (q := (0, 24)) (n := 24) (st := [.ref 65]) hr (by first | rfl | omega) (fun hJ _ _ q => E_newaI (n := 24) ac_int dX4_init_7 rfl (Nat.le_of_ble_eq_true rfl) q) (by first | rfl | decide) (fun hJ => hJ.1.1) (fun hJ => PSy_wN hJ.1 hr (by decide)) (fun σ1 hσ1 => ?_)
  refine P_wc (fun hJ _ _ q => E_putRF clX4 0 (by decide) flX4_9 (Or.inr ⟨_, rfl⟩) rfl rfl rfl dX4_init_9 (PSy_k (n := 67) (i := 65) (q := (6, 0)) hJ.1 hσ1 (by decide) (by decide)) q) (fun hJ => PSy_wR hJ.1) rfl rfl rfl (fun σ2 hσ2 => ?_)
  refine P_l (fun hJ _ _ q => E_aload_n dX4_init_12 rfl (E_iconst (v := (-1)) dX4_init_13 (by decide) q)) ?_
  refine P_wc (fun hJ _ _ q => E_putI clX4 1 (by decide) flX4_15 (Or.inl rfl) rfl dX4_init_14 (PSy_k (n := 67) (i := 65) (q := (6, 0)) hJ.1 (hσ2.trans hσ1) (by decide) (by decide)) q) (fun hJ => PSy_wI hJ.1) rfl rfl rfl (fun σ3 hσ3 => ?_)
  refine P_l (fun hJ _ _ q => E_aload_n dX4_init_17 rfl (E_iconst (v := (-1)) dX4_init_18 (by decide) q)) ?_
  refine P_wc (fun hJ _ _ q => E_putI clX4 2 (by decide) flX4_19 (Or.inl rfl) rfl dX4_init_19 (PSy_k (n := 67) (i := 65) (q := (6, 0)) hJ.1 (hσ3.trans (hσ2.trans hσ1)) (by decide) (by decide)) q) (fun hJ => PSy_wI hJ.1) rfl rfl rfl (fun σ4 hσ4 => ?_)
  exact P_ret (fun _ _ => E_vret rfl dX4_init_22)

def f_X9_init (σ : rS) : Option (Unit × rS) := if uC σ + 1 ≤ bC ∧ uS σ + 5 ≤ bS then (oLet (wN σ (10, 0)) fun σ1 => oB (f_X8_init σ1 38 3) fun _ σ3 => if rN σ3 = 43 then (oLet (wR σ3 37 0 38) fun σ5 => if uC σ5 + 1 ≤ bC ∧ uS σ5 + 5 ≤ bS then (oLet (wN σ5 (10, 0)) fun σ6 => oB (f_X8_init σ6 43 4) fun _ σ8 => if rN σ8 = 48 then (oLet (wR σ8 37 1 43) fun σ10 => if uC σ10 + 1 ≤ bC ∧ uS σ10 + 52 ≤ bS then (oLet (wN σ10 (0, 52)) fun σ11 => oLet (wR σ11 37 2 48) fun σ12 => if uC σ12 + 1 ≤ bC ∧ uS σ12 + 52 ≤ bS then (oLet (wN σ12 (0, 52)) fun σ13 => oLet (wR σ13 37 3 49) fun σ14 => if uC σ14 + 1 ≤ bC ∧ uS σ14 + 65536 ≤ bS then (oLet (wN σ14 (0, 65536)) fun σ15 => oLet (wR σ15 37 4 50) fun σ16 => if uC σ16 + 1 ≤ bC ∧ uS σ16 + 4 ≤ bS then (oLet (wN σ16 (5, 0)) fun σ17 => oB (f_X3_init_51 σ17) fun _ σ19 => if rN σ19 = 55 then (oLet (wR σ19 37 5 51) fun σ21 => if uC σ21 + 1 ≤ bC ∧ uS σ21 + 4 ≤ bS then (oLet (wN σ21 (5, 0)) fun σ22 => oB (f_X3_init_55 σ22) fun _ σ24 => if rN σ24 = 59 then (oLet (wR σ24 37 6 55) fun σ26 => if uC σ26 + 1 ≤ bC ∧ uS σ26 + 81 ≤ bS then (oLet (wN σ26 (0, 81)) fun σ27 => oLet (wR σ27 37 7 59) fun σ28 => if uC σ28 + 1 ≤ bC ∧ uS σ28 + 81 ≤ bS then (oLet (wN σ28 (1, 81)) fun σ29 => oLet (wR σ29 37 8 60) fun σ30 => if uC σ30 + 1 ≤ bC ∧ uS σ30 + 81 ≤ bS then (oLet (wN σ30 (1, 81)) fun σ31 => oLet (wR σ31 37 9 61) fun σ32 => if uC σ32 + 1 ≤ bC ∧ uS σ32 + 8739 ≤ bS then (oLet (wN σ32 (0, 8739)) fun σ33 => oLet (wR σ33 37 10 62) fun σ34 => if uC σ34 + 1 ≤ bC ∧ uS σ34 + 4 ≤ bS then (oLet (wN σ34 (0, 4)) fun σ35 => oLet (wR σ35 37 12 63) fun σ36 => if uC σ36 + 1 ≤ bC ∧ uS σ36 + 4 ≤ bS then (oLet (wN σ36 (0, 4)) fun σ37 => oLet (wR σ37 37 13 64) fun σ38 => if rR σ38 37 0 = 38 then (oLet (wR σ38 37 14 38) fun σ40 => if rR σ40 37 0 = 38 then (if rR σ40 38 2 = 40 then (oLet (wR σ40 37 15 40) fun σ43 => some (((), σ43))) else none) else none) else none) else none) else none) else none) else none) else none) else none) else none) else none) else none) else none) else none) else none) else none) else none) else none) else none) else none
set_option maxRecDepth 20000 in
set_option maxHeartbeats 2000000 in
theorem ok_X9_init {σ : rS}  (hr : rN σ = 38) : rFn PSy yX9_init mX9_init 4 [.ref 37] σ 0 0 (fun _ => .inl none) (f_X9_init σ) := by
  refine rF_of (ls := [some (.ref 37)]) yfX9_init rfl (Nat.le_of_ble_eq_true rfl) (fun o τ => ?_)
  unfold f_X9_init
  refine P_l (fun hJ _ _ q => E_aload_n dX9_init_0 rfl (E_objInit mlX9_3 oiInst oiCode (by decide) (Nat.le_of_ble_eq_true rfl) dX9_init_1 (E_aload_n dX9_init_4 rfl q))) ?_
  refine P_nc (c := 38) (c2 := 39) (q := (10, 0)) (n := 5) (st := [.ref 37]) hr (by first | rfl | omega) (fun hJ _ _ q => E_new clX8 ckX9_9 insX8 iniX8 okX8 dX9_init_5 q) (by first | rfl | decide) (fun hJ => hJ.1.1) (fun hJ => PSy_wN hJ.1 hr (by decide)) (fun σ1 hσ1 => ?_)
  refine P_l (fun hJ _ _ q => E_dup dX9_init_8 rfl (E_iconst (v := 3) dX9_init_9 (by decide) q)) ?_
  refine P_call (t := fun _ => none) (st2 := fun _ => [.ref 38, .ref 37]) (kc2 := 0) (ks2 := 0) (fun hJ => (ok_X8_init (σ := σ1) (t := 38) (p1 := 3) isT_38 hσ1)) (fun hJ _ _ _ _ v τ1 hM q => E_callIN (as := [.int 3]) (b := 38) (st := [.ref 38, .ref 37]) hM (by decide) yfX8_init mlX9_11 imX8_init rfl rfl rfl (Nat.le_of_ble_eq_true rfl) rfl dX9_init_10 q) (by decide) (by decide) (fun v2 σ3 => ?_)
  refine P_g (fun r4 => ?_)
  refine P_wc (fun hJ _ _ q => E_putRF clX9 0 (by decide) flX9_14 (Or.inl ⟨_, rfl⟩) rfl rfl rfl dX9_init_13 (PSy_k (n := 43) (i := 37) (q := (11, 0)) hJ.1 r4 (by decide) (by decide)) q) (fun hJ => PSy_wR hJ.1) rfl rfl rfl (fun σ5 hσ5 => ?_)
  refine P_l (fun hJ _ _ q => E_aload_n dX9_init_16 rfl q) ?_
  refine P_nc (c := 43) (c2 := 44) (q := (10, 0)) (n := 5) (st := [.ref 37]) (hσ5.trans r4) (by first | rfl | omega) (fun hJ _ _ q => E_new clX8 ckX9_9 insX8 iniX8 okX8 dX9_init_17 q) (by first | rfl | decide) (fun hJ => hJ.1.1) (fun hJ => PSy_wN hJ.1 (hσ5.trans r4) (by decide)) (fun σ6 hσ6 => ?_)
  refine P_l (fun hJ _ _ q => E_dup dX9_init_20 rfl (E_iconst (v := 4) dX9_init_21 (by decide) q)) ?_
  refine P_call (t := fun _ => none) (st2 := fun _ => [.ref 43, .ref 37]) (kc2 := 0) (ks2 := 0) (fun hJ => (ok_X8_init (σ := σ6) (t := 43) (p1 := 4) isT_43 hσ6)) (fun hJ _ _ _ _ v τ1 hM q => E_callIN (as := [.int 4]) (b := 43) (st := [.ref 43, .ref 37]) hM (by decide) yfX8_init mlX9_11 imX8_init rfl rfl rfl (Nat.le_of_ble_eq_true rfl) rfl dX9_init_22 q) (by decide) (by decide) (fun v7 σ8 => ?_)
  refine P_g (fun r9 => ?_)
  refine P_wc (fun hJ _ _ q => E_putRF clX9 1 (by decide) flX9_20 (Or.inl ⟨_, rfl⟩) rfl rfl rfl dX9_init_25 (PSy_k (n := 48) (i := 37) (q := (11, 0)) hJ.1 r9 (by decide) (by decide)) q) (fun hJ => PSy_wR hJ.1) rfl rfl rfl (fun σ10 hσ10 => ?_)
  refine P_l (fun hJ _ _ q => E_aload_n dX9_init_28 rfl (E_bipush (v := 52) dX9_init_29 (by decide) q)) ?_
  refine P_nc (c := 48) (c2 := 49) (q := (0, 52)) (n := 52) (st := [.ref 37]) (hσ10.trans r9) (by first | rfl | omega) (fun hJ _ _ q => E_newaI (n := 52) ac_int dX9_init_31 rfl (Nat.le_of_ble_eq_true rfl) q) (by first | rfl | decide) (fun hJ => hJ.1.1) (fun hJ => PSy_wN hJ.1 (hσ10.trans r9) (by decide)) (fun σ11 hσ11 => ?_)
  refine P_wc (fun hJ _ _ q => E_putRF clX9 2 (by decide) flX9_23 (Or.inr ⟨_, rfl⟩) rfl rfl rfl dX9_init_33 (PSy_k (n := 49) (i := 37) (q := (11, 0)) hJ.1 hσ11 (by decide) (by decide)) q) (fun hJ => PSy_wR hJ.1) rfl rfl rfl (fun σ12 hσ12 => ?_)
  refine P_l (fun hJ _ _ q => E_aload_n dX9_init_36 rfl (E_bipush (v := 52) dX9_init_37 (by decide) q)) ?_
  refine P_nc (c := 49) (c2 := 50) (q := (0, 52)) (n := 52) (st := [.ref 37]) (hσ12.trans hσ11) (by first | rfl | omega) (fun hJ _ _ q => E_newaI (n := 52) ac_int dX9_init_39 rfl (Nat.le_of_ble_eq_true rfl) q) (by first | rfl | decide) (fun hJ => hJ.1.1) (fun hJ => PSy_wN hJ.1 (hσ12.trans hσ11) (by decide)) (fun σ13 hσ13 => ?_)
  refine P_wc (fun hJ _ _ q => E_putRF clX9 3 (by decide) flX9_27 (Or.inr ⟨_, rfl⟩) rfl rfl rfl dX9_init_41 (PSy_k (n := 50) (i := 37) (q := (11, 0)) hJ.1 hσ13 (by decide) (by decide)) q) (fun hJ => PSy_wR hJ.1) rfl rfl rfl (fun σ14 hσ14 => ?_)
  refine P_l (fun hJ _ _ q => E_aload_n dX9_init_44 rfl (E_ldc dX9_init_45 kcX9_32 q)) ?_
  refine P_nc (c := 50) (c2 := 51) (q := (0, 65536)) (n := 65536) (st := [.ref 37]) (hσ14.trans hσ13) (by first | rfl | omega) (fun hJ _ _ q => E_newaI (n := 65536) ac_int dX9_init_47 rfl (Nat.le_of_ble_eq_true rfl) q) (by first | rfl | decide) (fun hJ => hJ.1.1) (fun hJ => PSy_wN hJ.1 (hσ14.trans hσ13) (by decide)) (fun σ15 hσ15 => ?_)
  refine P_wc (fun hJ _ _ q => E_putRF clX9 4 (by decide) flX9_33 (Or.inr ⟨_, rfl⟩) rfl rfl rfl dX9_init_49 (PSy_k (n := 51) (i := 37) (q := (11, 0)) hJ.1 hσ15 (by decide) (by decide)) q) (fun hJ => PSy_wR hJ.1) rfl rfl rfl (fun σ16 hσ16 => ?_)
  refine P_l (fun hJ _ _ q => E_aload_n dX9_init_52 rfl q) ?_
  refine P_nc (c := 51) (c2 := 52) (q := (5, 0)) (n := 4) (st := [.ref 37]) (hσ16.trans hσ15) (by first | rfl | omega) (fun hJ _ _ q => E_new clX3 ckX9_30 insX3 iniX3 okX3 dX9_init_53 q) (by first | rfl | decide) (fun hJ => hJ.1.1) (fun hJ => PSy_wN hJ.1 (hσ16.trans hσ15) (by decide)) (fun σ17 hσ17 => ?_)
  refine P_l (fun hJ _ _ q => E_dup dX9_init_56 rfl q) ?_
  refine P_call (t := fun _ => none) (st2 := fun _ => [.ref 51, .ref 37]) (kc2 := 0) (ks2 := 0) (fun hJ => (ok_X3_init_51 (σ := σ17)  hσ17)) (fun hJ _ _ _ _ v τ1 hM q => E_callIN (as := []) (b := 51) (st := [.ref 51, .ref 37]) hM (by decide) yfX3_init mlX9_36 imX3_init rfl rfl rfl (Nat.le_of_ble_eq_true rfl) rfl dX9_init_57 q) (by decide) (by decide) (fun v18 σ19 => ?_)
  refine P_g (fun r20 => ?_)
  refine P_wc (fun hJ _ _ q => E_putR clX9 5 (by decide) flX9_37 (Or.inl ⟨_, rfl⟩) rfl dX9_init_60 (PSy_k (n := 55) (i := 37) (q := (11, 0)) hJ.1 r20 (by decide) (by decide)) q) (fun hJ => PSy_wR hJ.1) rfl rfl rfl (fun σ21 hσ21 => ?_)
  refine P_l (fun hJ _ _ q => E_aload_n dX9_init_63 rfl q) ?_
  refine P_nc (c := 55) (c2 := 56) (q := (5, 0)) (n := 4) (st := [.ref 37]) (hσ21.trans r20) (by first | rfl | omega) (fun hJ _ _ q => E_new clX3 ckX9_30 insX3 iniX3 okX3 dX9_init_64 q) (by first | rfl | decide) (fun hJ => hJ.1.1) (fun hJ => PSy_wN hJ.1 (hσ21.trans r20) (by decide)) (fun σ22 hσ22 => ?_)
  refine P_l (fun hJ _ _ q => E_dup dX9_init_67 rfl q) ?_
  refine P_call (t := fun _ => none) (st2 := fun _ => [.ref 55, .ref 37]) (kc2 := 0) (ks2 := 0) (fun hJ => (ok_X3_init_55 (σ := σ22)  hσ22)) (fun hJ _ _ _ _ v τ1 hM q => E_callIN (as := []) (b := 55) (st := [.ref 55, .ref 37]) hM (by decide) yfX3_init mlX9_36 imX3_init rfl rfl rfl (Nat.le_of_ble_eq_true rfl) rfl dX9_init_68 q) (by decide) (by decide) (fun v23 σ24 => ?_)
  refine P_g (fun r25 => ?_)
  refine P_wc (fun hJ _ _ q => E_putR clX9 6 (by decide) flX9_41 (Or.inl ⟨_, rfl⟩) rfl dX9_init_71 (PSy_k (n := 59) (i := 37) (q := (11, 0)) hJ.1 r25 (by decide) (by decide)) q) (fun hJ => PSy_wR hJ.1) rfl rfl rfl (fun σ26 hσ26 => ?_)
  refine P_l (fun hJ _ _ q => E_aload_n dX9_init_74 rfl (E_bipush (v := 81) dX9_init_75 (by decide) q)) ?_
  refine P_nc (c := 59) (c2 := 60) (q := (0, 81)) (n := 81) (st := [.ref 37]) (hσ26.trans r25) (by first | rfl | omega) (fun hJ _ _ q => E_newaI (n := 81) ac_int dX9_init_77 rfl (Nat.le_of_ble_eq_true rfl) q) (by first | rfl | decide) (fun hJ => hJ.1.1) (fun hJ => PSy_wN hJ.1 (hσ26.trans r25) (by decide)) (fun σ27 hσ27 => ?_)
  refine P_wc (fun hJ _ _ q => E_putRF clX9 7 (by decide) flX9_44 (Or.inr ⟨_, rfl⟩) rfl rfl rfl dX9_init_79 (PSy_k (n := 60) (i := 37) (q := (11, 0)) hJ.1 hσ27 (by decide) (by decide)) q) (fun hJ => PSy_wR hJ.1) rfl rfl rfl (fun σ28 hσ28 => ?_)
  refine P_l (fun hJ _ _ q => E_aload_n dX9_init_82 rfl (E_bipush (v := 81) dX9_init_83 (by decide) q)) ?_
  refine P_nc (c := 60) (c2 := 61) (q := (1, 81)) (n := 81) (st := [.ref 37]) (hσ28.trans hσ27) (by first | rfl | omega) (fun hJ _ _ q => E_newaJ (n := 81) ac_long dX9_init_85 rfl (Nat.le_of_ble_eq_true rfl) q) (by first | rfl | decide) (fun hJ => hJ.1.1) (fun hJ => PSy_wN hJ.1 (hσ28.trans hσ27) (by decide)) (fun σ29 hσ29 => ?_)
  refine P_wc (fun hJ _ _ q => E_putRF clX9 8 (by decide) flX9_47 (Or.inr ⟨_, rfl⟩) rfl rfl rfl dX9_init_87 (PSy_k (n := 61) (i := 37) (q := (11, 0)) hJ.1 hσ29 (by decide) (by decide)) q) (fun hJ => PSy_wR hJ.1) rfl rfl rfl (fun σ30 hσ30 => ?_)
  refine P_l (fun hJ _ _ q => E_aload_n dX9_init_90 rfl (E_bipush (v := 81) dX9_init_91 (by decide) q)) ?_
  refine P_nc (c := 61) (c2 := 62) (q := (1, 81)) (n := 81) (st := [.ref 37]) (hσ30.trans hσ29) (by first | rfl | omega) (fun hJ _ _ q => E_newaJ (n := 81) ac_long dX9_init_93 rfl (Nat.le_of_ble_eq_true rfl) q) (by first | rfl | decide) (fun hJ => hJ.1.1) (fun hJ => PSy_wN hJ.1 (hσ30.trans hσ29) (by decide)) (fun σ31 hσ31 => ?_)
  refine P_wc (fun hJ _ _ q => E_putRF clX9 9 (by decide) flX9_51 (Or.inr ⟨_, rfl⟩) rfl rfl rfl dX9_init_95 (PSy_k (n := 62) (i := 37) (q := (11, 0)) hJ.1 hσ31 (by decide) (by decide)) q) (fun hJ => PSy_wR hJ.1) rfl rfl rfl (fun σ32 hσ32 => ?_)
  refine P_l (fun hJ _ _ q => E_aload_n dX9_init_98 rfl (E_sipush (v := 8739) dX9_init_99 (by decide) q)) ?_
  refine P_nc (c := 62) (c2 := 63) (q := (0, 8739)) (n := 8739) (st := [.ref 37]) (hσ32.trans hσ31) (by first | rfl | omega) (fun hJ _ _ q => E_newaI (n := 8739) ac_int dX9_init_102 rfl (Nat.le_of_ble_eq_true rfl) q) (by first | rfl | decide) (fun hJ => hJ.1.1) (fun hJ => PSy_wN hJ.1 (hσ32.trans hσ31) (by decide)) (fun σ33 hσ33 => ?_)
  refine P_wc (fun hJ _ _ q => E_putRF clX9 10 (by decide) flX9_54 (Or.inr ⟨_, rfl⟩) rfl rfl rfl dX9_init_104 (PSy_k (n := 63) (i := 37) (q := (11, 0)) hJ.1 hσ33 (by decide) (by decide)) q) (fun hJ => PSy_wR hJ.1) rfl rfl rfl (fun σ34 hσ34 => ?_)
  refine P_l (fun hJ _ _ q => E_aload_n dX9_init_107 rfl (E_iconst (v := 4) dX9_init_108 (by decide) q)) ?_
  refine P_nc (c := 63) (c2 := 64) (q := (0, 4)) (n := 4) (st := [.ref 37]) (hσ34.trans hσ33) (by first | rfl | omega) (fun hJ _ _ q => E_newaI (n := 4) ac_int dX9_init_109 rfl (Nat.le_of_ble_eq_true rfl) q) (by first | rfl | decide) (fun hJ => hJ.1.1) (fun hJ => PSy_wN hJ.1 (hσ34.trans hσ33) (by decide)) (fun σ35 hσ35 => ?_)
  refine P_wc (fun hJ _ _ q => E_putRF clX9 12 (by decide) flX9_57 (Or.inr ⟨_, rfl⟩) rfl rfl rfl dX9_init_111 (PSy_k (n := 64) (i := 37) (q := (11, 0)) hJ.1 hσ35 (by decide) (by decide)) q) (fun hJ => PSy_wR hJ.1) rfl rfl rfl (fun σ36 hσ36 => ?_)
  refine P_l (fun hJ _ _ q => E_aload_n dX9_init_114 rfl (E_iconst (v := 4) dX9_init_115 (by decide) q)) ?_
  refine P_nc (c := 64) (c2 := 65) (q := (0, 4)) (n := 4) (st := [.ref 37]) (hσ36.trans hσ35) (by first | rfl | omega) (fun hJ _ _ q => E_newaI (n := 4) ac_int dX9_init_116 rfl (Nat.le_of_ble_eq_true rfl) q) (by first | rfl | decide) (fun hJ => hJ.1.1) (fun hJ => PSy_wN hJ.1 (hσ36.trans hσ35) (by decide)) (fun σ37 hσ37 => ?_)
  refine P_wc (fun hJ _ _ q => E_putRF clX9 13 (by decide) flX9_60 (Or.inr ⟨_, rfl⟩) rfl rfl rfl dX9_init_118 (PSy_k (n := 65) (i := 37) (q := (11, 0)) hJ.1 hσ37 (by decide) (by decide)) q) (fun hJ => PSy_wR hJ.1) rfl rfl rfl (fun σ38 hσ38 => ?_)
  refine P_l (fun hJ _ _ q => E_aload_n dX9_init_121 rfl (E_aload_n dX9_init_122 rfl q)) ?_
  refine P_g (fun g39 => ?_)
  refine P_l (fun hJ _ _ q => E_getR (b := 38) clX9 0 (by decide) flX9_14 (Or.inl ⟨_, rfl⟩) dX9_init_123 (PSy_k (n := 65) (i := 37) (q := (11, 0)) hJ.1 (hσ38.trans hσ37) (by decide) (by decide)) g39 (by decide) q) ?_
  refine P_wc (fun hJ _ _ q => E_putR clX9 14 (by decide) flX9_63 (Or.inl ⟨_, rfl⟩) rfl dX9_init_126 (PSy_k (n := 65) (i := 37) (q := (11, 0)) hJ.1 (hσ38.trans hσ37) (by decide) (by decide)) q) (fun hJ => PSy_wR hJ.1) rfl rfl rfl (fun σ40 hσ40 => ?_)
  refine P_l (fun hJ _ _ q => E_aload_n dX9_init_129 rfl (E_aload_n dX9_init_130 rfl q)) ?_
  refine P_g (fun g41 => ?_)
  refine P_l (fun hJ _ _ q => E_getR (b := 38) clX9 0 (by decide) flX9_14 (Or.inl ⟨_, rfl⟩) dX9_init_131 (PSy_k (n := 65) (i := 37) (q := (11, 0)) hJ.1 (hσ40.trans (hσ38.trans hσ37)) (by decide) (by decide)) g41 (by decide) q) ?_
  refine P_g (fun g42 => ?_)
  refine P_l (fun hJ _ _ q => E_getRN (b := 40) clX8 2 (by decide) flX9_66 (Or.inr ⟨_, rfl⟩) dX9_init_134 (PSy_k (n := 65) (i := 38) (q := (10, 0)) hJ.1 (hσ40.trans (hσ38.trans hσ37)) (by decide) (by decide)) g42 (by decide) q) ?_
  refine P_wc (fun hJ _ _ q => E_putR clX9 15 (by decide) flX9_69 (Or.inr ⟨_, rfl⟩) rfl dX9_init_137 (PSy_k (n := 65) (i := 37) (q := (11, 0)) hJ.1 (hσ40.trans (hσ38.trans hσ37)) (by decide) (by decide)) q) (fun hJ => PSy_wR hJ.1) rfl rfl rfl (fun σ43 hσ43 => ?_)
  exact P_ret (fun _ _ => E_vret rfl dX9_init_140)

def f_X10_init (σ : rS) : Option (Unit × rS) := if uC σ + 1 ≤ bC ∧ uS σ + 5 ≤ bS then (oLet (wN σ (7, 0)) fun σ1 => oB (f_X5_init σ1) fun _ σ3 => if rN σ3 = 5 then (oLet (wR σ3 3 0 4) fun σ5 => if uC σ5 + 1 ≤ bC ∧ uS σ5 + 13 ≤ bS then (oLet (wN σ5 (3, 0)) fun σ6 => oB (f_X1_init_5 σ6) fun _ σ8 => if rN σ8 = 12 then (oLet (wR σ8 3 1 5) fun σ10 => if uC σ10 + 1 ≤ bC ∧ uS σ10 + 13 ≤ bS then (oLet (wN σ10 (3, 0)) fun σ11 => oB (f_X1_init_12 σ11) fun _ σ13 => if rN σ13 = 19 then (oLet (wR σ13 3 2 12) fun σ15 => if uC σ15 + 1 ≤ bC ∧ uS σ15 + 12 ≤ bS then (oLet (wN σ15 (8, 0)) fun σ16 => oB (f_X6_init σ16) fun _ σ18 => if rN σ18 = 31 then (oLet (wR σ18 3 3 19) fun σ20 => if uC σ20 + 1 ≤ bC ∧ uS σ20 + 5 ≤ bS then (oLet (wN σ20 (9, 0)) fun σ21 => oB (f_X7_init σ21) fun _ σ23 => if rN σ23 = 35 then (oLet (wR σ23 3 4 31) fun σ25 => if uC σ25 + 1 ≤ bC ∧ uS σ25 + 6 ≤ bS then (oLet (wN σ25 (4, 0)) fun σ26 => oB (f_X2_init σ26) fun _ σ28 => if rN σ28 = 37 then (oLet (wR σ28 3 5 35) fun σ30 => if uC σ30 + 1 ≤ bC ∧ uS σ30 + 19 ≤ bS then (oLet (wN σ30 (11, 0)) fun σ31 => oB (f_X9_init σ31) fun _ σ33 => if rN σ33 = 65 then (oLet (wR σ33 3 6 37) fun σ35 => if uC σ35 + 1 ≤ bC ∧ uS σ35 + 6 ≤ bS then (oLet (wN σ35 (6, 0)) fun σ36 => oB (f_X4_init σ36) fun _ σ38 => if rN σ38 = 67 then (oLet (wR σ38 3 7 65) fun σ40 => oLet (wI σ40 3 8 ((-1))) fun σ41 => oLet (wI σ41 3 11 ((-1))) fun σ42 => oLet (wI σ42 3 12 ((-1))) fun σ43 => oLet (wI σ43 3 16 ((-1))) fun σ44 => some (((), σ44))) else none) else none) else none) else none) else none) else none) else none) else none) else none) else none) else none) else none) else none) else none) else none) else none
set_option maxRecDepth 20000 in
set_option maxHeartbeats 2000000 in
theorem ok_X10_init {σ : rS}  (hr : rN σ = 4) : rFn PSy yX10_init mX10_init 5 [.ref 3] σ 0 0 (fun _ => .inl none) (f_X10_init σ) := by
  refine rF_of (ls := [some (.ref 3)]) yfX10_init rfl (Nat.le_of_ble_eq_true rfl) (fun o τ => ?_)
  unfold f_X10_init
  refine P_l (fun hJ _ _ q => E_aload_n dX10_init_0 rfl (E_objInit mlX10_3 oiInst oiCode (by decide) (Nat.le_of_ble_eq_true rfl) dX10_init_1 (E_aload_n dX10_init_4 rfl q))) ?_
  refine P_nc (c := 4) (c2 := 5) (q := (7, 0)) (n := 5) (st := [.ref 3]) hr (by first | rfl | omega) (fun hJ _ _ q => E_new clX5 ckX10_9 insX5 iniX5 okX5 dX10_init_5 q) (by first | rfl | decide) (fun hJ => hJ.1.1) (fun hJ => PSy_wN hJ.1 hr (by decide)) (fun σ1 hσ1 => ?_)
  refine P_l (fun hJ _ _ q => E_dup dX10_init_8 rfl q) ?_
  refine P_call (t := fun _ => none) (st2 := fun _ => [.ref 4, .ref 3]) (kc2 := 0) (ks2 := 0) (fun hJ => (ok_X5_init (σ := σ1)  hσ1)) (fun hJ _ _ _ _ v τ1 hM q => E_callIN (as := []) (b := 4) (st := [.ref 4, .ref 3]) hM (by decide) yfX5_init mlX10_11 imX5_init rfl rfl rfl (Nat.le_of_ble_eq_true rfl) rfl dX10_init_9 q) (by decide) (by decide) (fun v2 σ3 => ?_)
  refine P_g (fun r4 => ?_)
  refine P_wc (fun hJ _ _ q => E_putRF clX10 0 (by decide) flX10_12 (Or.inl ⟨_, rfl⟩) rfl rfl rfl dX10_init_12 (PSy_k (n := 5) (i := 3) (q := (12, 0)) hJ.1 r4 (by decide) (by decide)) q) (fun hJ => PSy_wR hJ.1) rfl rfl rfl (fun σ5 hσ5 => ?_)
  refine P_l (fun hJ _ _ q => E_aload_n dX10_init_15 rfl q) ?_
  refine P_nc (c := 5) (c2 := 6) (q := (3, 0)) (n := 13) (st := [.ref 3]) (hσ5.trans r4) (by first | rfl | omega) (fun hJ _ _ q => E_new clX1 ckX10_16 insX1 iniX1 okX1 dX10_init_16 q) (by first | rfl | decide) (fun hJ => hJ.1.1) (fun hJ => PSy_wN hJ.1 (hσ5.trans r4) (by decide)) (fun σ6 hσ6 => ?_)
  refine P_l (fun hJ _ _ q => E_dup dX10_init_19 rfl q) ?_
  refine P_call (t := fun _ => none) (st2 := fun _ => [.ref 5, .ref 3]) (kc2 := 0) (ks2 := 0) (fun hJ => (ok_X1_init_5 (σ := σ6)  hσ6)) (fun hJ _ _ _ _ v τ1 hM q => E_callIN (as := []) (b := 5) (st := [.ref 5, .ref 3]) hM (by decide) yfX1_init mlX10_18 imX1_init rfl rfl rfl (Nat.le_of_ble_eq_true rfl) rfl dX10_init_20 q) (by decide) (by decide) (fun v7 σ8 => ?_)
  refine P_g (fun r9 => ?_)
  refine P_wc (fun hJ _ _ q => E_putRF clX10 1 (by decide) flX10_19 (Or.inl ⟨_, rfl⟩) rfl rfl rfl dX10_init_23 (PSy_k (n := 12) (i := 3) (q := (12, 0)) hJ.1 r9 (by decide) (by decide)) q) (fun hJ => PSy_wR hJ.1) rfl rfl rfl (fun σ10 hσ10 => ?_)
  refine P_l (fun hJ _ _ q => E_aload_n dX10_init_26 rfl q) ?_
  refine P_nc (c := 12) (c2 := 13) (q := (3, 0)) (n := 13) (st := [.ref 3]) (hσ10.trans r9) (by first | rfl | omega) (fun hJ _ _ q => E_new clX1 ckX10_16 insX1 iniX1 okX1 dX10_init_27 q) (by first | rfl | decide) (fun hJ => hJ.1.1) (fun hJ => PSy_wN hJ.1 (hσ10.trans r9) (by decide)) (fun σ11 hσ11 => ?_)
  refine P_l (fun hJ _ _ q => E_dup dX10_init_30 rfl q) ?_
  refine P_call (t := fun _ => none) (st2 := fun _ => [.ref 12, .ref 3]) (kc2 := 0) (ks2 := 0) (fun hJ => (ok_X1_init_12 (σ := σ11)  hσ11)) (fun hJ _ _ _ _ v τ1 hM q => E_callIN (as := []) (b := 12) (st := [.ref 12, .ref 3]) hM (by decide) yfX1_init mlX10_18 imX1_init rfl rfl rfl (Nat.le_of_ble_eq_true rfl) rfl dX10_init_31 q) (by decide) (by decide) (fun v12 σ13 => ?_)
  refine P_g (fun r14 => ?_)
  refine P_wc (fun hJ _ _ q => E_putRF clX10 2 (by decide) flX10_23 (Or.inl ⟨_, rfl⟩) rfl rfl rfl dX10_init_34 (PSy_k (n := 19) (i := 3) (q := (12, 0)) hJ.1 r14 (by decide) (by decide)) q) (fun hJ => PSy_wR hJ.1) rfl rfl rfl (fun σ15 hσ15 => ?_)
  refine P_l (fun hJ _ _ q => E_aload_n dX10_init_37 rfl q) ?_
  refine P_nc (c := 19) (c2 := 20) (q := (8, 0)) (n := 12) (st := [.ref 3]) (hσ15.trans r14) (by first | rfl | omega) (fun hJ _ _ q => E_new clX6 ckX10_26 insX6 iniX6 okX6 dX10_init_38 q) (by first | rfl | decide) (fun hJ => hJ.1.1) (fun hJ => PSy_wN hJ.1 (hσ15.trans r14) (by decide)) (fun σ16 hσ16 => ?_)
  refine P_l (fun hJ _ _ q => E_dup dX10_init_41 rfl q) ?_
  refine P_call (t := fun _ => none) (st2 := fun _ => [.ref 19, .ref 3]) (kc2 := 0) (ks2 := 0) (fun hJ => (ok_X6_init (σ := σ16)  hσ16)) (fun hJ _ _ _ _ v τ1 hM q => E_callIN (as := []) (b := 19) (st := [.ref 19, .ref 3]) hM (by decide) yfX6_init mlX10_28 imX6_init rfl rfl rfl (Nat.le_of_ble_eq_true rfl) rfl dX10_init_42 q) (by decide) (by decide) (fun v17 σ18 => ?_)
  refine P_g (fun r19 => ?_)
  refine P_wc (fun hJ _ _ q => E_putRF clX10 3 (by decide) flX10_29 (Or.inl ⟨_, rfl⟩) rfl rfl rfl dX10_init_45 (PSy_k (n := 31) (i := 3) (q := (12, 0)) hJ.1 r19 (by decide) (by decide)) q) (fun hJ => PSy_wR hJ.1) rfl rfl rfl (fun σ20 hσ20 => ?_)
  refine P_l (fun hJ _ _ q => E_aload_n dX10_init_48 rfl q) ?_
  refine P_nc (c := 31) (c2 := 32) (q := (9, 0)) (n := 5) (st := [.ref 3]) (hσ20.trans r19) (by first | rfl | omega) (fun hJ _ _ q => E_new clX7 ckX10_33 insX7 iniX7 okX7 dX10_init_49 q) (by first | rfl | decide) (fun hJ => hJ.1.1) (fun hJ => PSy_wN hJ.1 (hσ20.trans r19) (by decide)) (fun σ21 hσ21 => ?_)
  refine P_l (fun hJ _ _ q => E_dup dX10_init_52 rfl q) ?_
  refine P_call (t := fun _ => none) (st2 := fun _ => [.ref 31, .ref 3]) (kc2 := 0) (ks2 := 0) (fun hJ => (ok_X7_init (σ := σ21)  hσ21)) (fun hJ _ _ _ _ v τ1 hM q => E_callIN (as := []) (b := 31) (st := [.ref 31, .ref 3]) hM (by decide) yfX7_init mlX10_35 imX7_init rfl rfl rfl (Nat.le_of_ble_eq_true rfl) rfl dX10_init_53 q) (by decide) (by decide) (fun v22 σ23 => ?_)
  refine P_g (fun r24 => ?_)
  refine P_wc (fun hJ _ _ q => E_putRF clX10 4 (by decide) flX10_36 (Or.inl ⟨_, rfl⟩) rfl rfl rfl dX10_init_56 (PSy_k (n := 35) (i := 3) (q := (12, 0)) hJ.1 r24 (by decide) (by decide)) q) (fun hJ => PSy_wR hJ.1) rfl rfl rfl (fun σ25 hσ25 => ?_)
  refine P_l (fun hJ _ _ q => E_aload_n dX10_init_59 rfl q) ?_
  refine P_nc (c := 35) (c2 := 36) (q := (4, 0)) (n := 6) (st := [.ref 3]) (hσ25.trans r24) (by first | rfl | omega) (fun hJ _ _ q => E_new clX2 ckX10_40 insX2 iniX2 okX2 dX10_init_60 q) (by first | rfl | decide) (fun hJ => hJ.1.1) (fun hJ => PSy_wN hJ.1 (hσ25.trans r24) (by decide)) (fun σ26 hσ26 => ?_)
  refine P_l (fun hJ _ _ q => E_dup dX10_init_63 rfl q) ?_
  refine P_call (t := fun _ => none) (st2 := fun _ => [.ref 35, .ref 3]) (kc2 := 0) (ks2 := 0) (fun hJ => (ok_X2_init (σ := σ26)  hσ26)) (fun hJ _ _ _ _ v τ1 hM q => E_callIN (as := []) (b := 35) (st := [.ref 35, .ref 3]) hM (by decide) yfX2_init mlX10_42 imX2_init rfl rfl rfl (Nat.le_of_ble_eq_true rfl) rfl dX10_init_64 q) (by decide) (by decide) (fun v27 σ28 => ?_)
  refine P_g (fun r29 => ?_)
  refine P_wc (fun hJ _ _ q => E_putRF clX10 5 (by decide) flX10_43 (Or.inl ⟨_, rfl⟩) rfl rfl rfl dX10_init_67 (PSy_k (n := 37) (i := 3) (q := (12, 0)) hJ.1 r29 (by decide) (by decide)) q) (fun hJ => PSy_wR hJ.1) rfl rfl rfl (fun σ30 hσ30 => ?_)
  refine P_l (fun hJ _ _ q => E_aload_n dX10_init_70 rfl q) ?_
  refine P_nc (c := 37) (c2 := 38) (q := (11, 0)) (n := 19) (st := [.ref 3]) (hσ30.trans r29) (by first | rfl | omega) (fun hJ _ _ q => E_new clX9 ckX10_47 insX9 iniX9 okX9 dX10_init_71 q) (by first | rfl | decide) (fun hJ => hJ.1.1) (fun hJ => PSy_wN hJ.1 (hσ30.trans r29) (by decide)) (fun σ31 hσ31 => ?_)
  refine P_l (fun hJ _ _ q => E_dup dX10_init_74 rfl q) ?_
  refine P_call (t := fun _ => none) (st2 := fun _ => [.ref 37, .ref 3]) (kc2 := 0) (ks2 := 0) (fun hJ => (ok_X9_init (σ := σ31)  hσ31)) (fun hJ _ _ _ _ v τ1 hM q => E_callIN (as := []) (b := 37) (st := [.ref 37, .ref 3]) hM (by decide) yfX9_init mlX10_49 imX9_init rfl rfl rfl (Nat.le_of_ble_eq_true rfl) rfl dX10_init_75 q) (by decide) (by decide) (fun v32 σ33 => ?_)
  refine P_g (fun r34 => ?_)
  refine P_wc (fun hJ _ _ q => E_putRF clX10 6 (by decide) flX10_50 (Or.inl ⟨_, rfl⟩) rfl rfl rfl dX10_init_78 (PSy_k (n := 65) (i := 3) (q := (12, 0)) hJ.1 r34 (by decide) (by decide)) q) (fun hJ => PSy_wR hJ.1) rfl rfl rfl (fun σ35 hσ35 => ?_)
  refine P_l (fun hJ _ _ q => E_aload_n dX10_init_81 rfl q) ?_
  refine P_nc (c := 65) (c2 := 66) (q := (6, 0)) (n := 6) (st := [.ref 3]) (hσ35.trans r34) (by first | rfl | omega) (fun hJ _ _ q => E_new clX4 ckX10_54 insX4 iniX4 okX4 dX10_init_82 q) (by first | rfl | decide) (fun hJ => hJ.1.1) (fun hJ => PSy_wN hJ.1 (hσ35.trans r34) (by decide)) (fun σ36 hσ36 => ?_)
  refine P_l (fun hJ _ _ q => E_dup dX10_init_85 rfl q) ?_
  refine P_call (t := fun _ => none) (st2 := fun _ => [.ref 65, .ref 3]) (kc2 := 0) (ks2 := 0) (fun hJ => (ok_X4_init (σ := σ36)  hσ36)) (fun hJ _ _ _ _ v τ1 hM q => E_callIN (as := []) (b := 65) (st := [.ref 65, .ref 3]) hM (by decide) yfX4_init mlX10_56 imX4_init rfl rfl rfl (Nat.le_of_ble_eq_true rfl) rfl dX10_init_86 q) (by decide) (by decide) (fun v37 σ38 => ?_)
  refine P_g (fun r39 => ?_)
  refine P_wc (fun hJ _ _ q => E_putRF clX10 7 (by decide) flX10_57 (Or.inl ⟨_, rfl⟩) rfl rfl rfl dX10_init_89 (PSy_k (n := 67) (i := 3) (q := (12, 0)) hJ.1 r39 (by decide) (by decide)) q) (fun hJ => PSy_wR hJ.1) rfl rfl rfl (fun σ40 hσ40 => ?_)
  refine P_l (fun hJ _ _ q => E_aload_n dX10_init_92 rfl (E_iconst (v := (-1)) dX10_init_93 (by decide) q)) ?_
  refine P_wc (fun hJ _ _ q => E_putI clX10 8 (by decide) flX10_61 (Or.inl rfl) rfl dX10_init_94 (PSy_k (n := 67) (i := 3) (q := (12, 0)) hJ.1 (hσ40.trans r39) (by decide) (by decide)) q) (fun hJ => PSy_wI hJ.1) rfl rfl rfl (fun σ41 hσ41 => ?_)
  refine P_l (fun hJ _ _ q => E_aload_n dX10_init_97 rfl (E_iconst (v := (-1)) dX10_init_98 (by decide) q)) ?_
  refine P_wc (fun hJ _ _ q => E_putI clX10 11 (by decide) flX10_65 (Or.inl rfl) rfl dX10_init_99 (PSy_k (n := 67) (i := 3) (q := (12, 0)) hJ.1 (hσ41.trans (hσ40.trans r39)) (by decide) (by decide)) q) (fun hJ => PSy_wI hJ.1) rfl rfl rfl (fun σ42 hσ42 => ?_)
  refine P_l (fun hJ _ _ q => E_aload_n dX10_init_102 rfl (E_iconst (v := (-1)) dX10_init_103 (by decide) q)) ?_
  refine P_wc (fun hJ _ _ q => E_putI clX10 12 (by decide) flX10_68 (Or.inl rfl) rfl dX10_init_104 (PSy_k (n := 67) (i := 3) (q := (12, 0)) hJ.1 (hσ42.trans (hσ41.trans (hσ40.trans r39))) (by decide) (by decide)) q) (fun hJ => PSy_wI hJ.1) rfl rfl rfl (fun σ43 hσ43 => ?_)
  refine P_l (fun hJ _ _ q => E_aload_n dX10_init_107 rfl (E_iconst (v := (-1)) dX10_init_108 (by decide) q)) ?_
  refine P_wc (fun hJ _ _ q => E_putI clX10 16 (by decide) flX10_71 (Or.inl rfl) rfl dX10_init_109 (PSy_k (n := 67) (i := 3) (q := (12, 0)) hJ.1 (hσ43.trans (hσ42.trans (hσ41.trans (hσ40.trans r39)))) (by decide) (by decide)) q) (fun hJ => PSy_wI hJ.1) rfl rfl rfl (fun σ44 hσ44 => ?_)
  exact P_ret (fun _ _ => E_vret rfl dX10_init_112)

