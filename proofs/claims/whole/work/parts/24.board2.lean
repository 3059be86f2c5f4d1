def natIter {α : Type} (f : Nat → α → α) : Nat → α → α
  | 0, a => a
  | n + 1, a => f n (natIter f n a)
theorem natIter_s {α : Type} (f : Nat → α → α) (n : Nat) (a : α) : natIter f (n + 1) a = f n (natIter f n a) := rfl
theorem natIter_inv {α : Type} {f : Nat → α → α} {P : Nat → α → Prop} {a : α} (h0 : P 0 a) (n : Nat) (hs : ∀ i s, i < n → P i s → P (i + 1) (f i s)) : P n (natIter f n a) := by
  induction n with
  | zero => exact h0
  | succ n ih => exact hs n _ (Nat.lt_succ_self n) (ih (fun i s hi => hs i s (Nat.lt_succ_of_lt hi)))
theorem cnt_exit (c : Int32) : ¬ nI c.toNatClampNeg < c := by
  rw [Int32.lt_iff_toInt_lt]
  have h := Int32.toInt_lt c
  have h1 : c.toNatClampNeg < 2 ^ 31 := by unfold Int32.toNatClampNeg; omega
  rw [nI_toInt h1]
  unfold Int32.toNatClampNeg
  omega
theorem cnt_stay {c : Int32} {i : Nat} (h : i < c.toNatClampNeg) : nI i < c := by
  rw [Int32.lt_iff_toInt_lt]
  have h2 := Int32.toInt_lt c
  have h1 : i < 2 ^ 31 := by unfold Int32.toNatClampNeg at h; omega
  rw [nI_toInt h1]
  unfold Int32.toNatClampNeg at h
  omega
theorem cnt1_exit (n : Int32) : n ≤ nI ((n.toInt - 1).toNat + 1) := by
  rw [Int32.le_iff_toInt_le]
  have h := Int32.toInt_lt n
  rw [nI_toInt (by omega)]
  omega
theorem cnt1_stay {n : Int32} {i : Nat} (h : i < (n.toInt - 1).toNat) : ¬ n ≤ nI (i + 1) := by
  rw [Int32.le_iff_toInt_le]
  have h2 := Int32.toInt_lt n
  rw [nI_toInt (by omega)]
  omega
def b_X1_worthOf_13 (σ : rS) (b : Nat) (p : Int32) (i : Nat) (s : Int32) : Int32 := s + ((((nI i) - (nI i) / 13 * 13) + 1) * (v_X1_rackOf σ b p (nI i)))
def v_X1_worthOf (σ : rS) (b : Nat) (p : Int32) : Int32 := (natIter (b_X1_worthOf_13 σ b p) 52 (30 * (v_X1_rackOf σ b p 52)))
set_option maxRecDepth 20000 in
theorem ok_X1_worthOf {σ : rS} {b : Nat} {p : Int32}  (hS : Sh σ) (hb : isB b) : rMet yX1_worthOf mX1_worthOf 2 [.ref b, .int p] σ 0 0 (some (.int (v_X1_worthOf σ b p))) σ := by
  refine rMet_of (ls := [some (.ref b), some (.int p), none, none]) yfX1_worthOf rfl (Nat.le_of_ble_eq_true rfl) ?_
  refine E_bipush (v := 30) dX1_worthOf_0 (by decide) ?_
  refine E_aload_n dX1_worthOf_2 rfl ?_
  refine E_iload_n dX1_worthOf_3 rfl ?_
  refine E_bipush (v := 52) dX1_worthOf_4 (by decide) ?_
  refine E_callV (as := [.int p, .int 52]) (b := b) (st := [.int 30]) (ok_X1_rackOf (σ := σ) (b := b) (p := p) (k := 52) hS hb) (by decide) yfX1_rackOf mlX1_97 imX1_rackOf seX1_rackOf clX1 (kdB hS hb) rfl (Nat.le_of_ble_eq_true rfl) rfl dX1_worthOf_6 ?_
  refine E_imul dX1_worthOf_9 ?_
  refine E_istore_n (ls2 := [some (.ref b), some (.int p), some (.int (30 * (v_X1_rackOf σ b p 52))), none]) dX1_worthOf_10 (by decide) rfl ?_
  refine E_iconst (v := 0) dX1_worthOf_11 (by decide) ?_
  refine E_istore_n (ls2 := [some (.ref b), some (.int p), some (.int (30 * (v_X1_rackOf σ b p 52))), some (.int 0)]) dX1_worthOf_12 (by decide) rfl ?_
  refine E_eq (loop_up (fun i => rE _ _ 13 [some (.ref b), some (.int p), some (.int ((natIter (b_X1_worthOf_13 σ b p) i (30 * (v_X1_rackOf σ b p 52))))), some (.int (nI i))] [] σ _ _ _ _) 52 ?_ ?_ 0 (Nat.zero_le _)) rfl rfl rfl
  · skip
    refine E_iload_n dX1_worthOf_13 rfl ?_
    refine E_bipush (v := 52) dX1_worthOf_14 (by decide) ?_
    refine E_icmp_ge 41 dX1_worthOf_16 (by decide) (fun c_16 => ?_) (fun c_16 => ?_)
    · skip
      refine E_iload_n dX1_worthOf_41 rfl ?_
      exact E_iretE rfl dX1_worthOf_42 rfl rfl
    · skip
      exact absurd c_16 (by decide)
  · skip
    intro i hi hp
    refine E_iload_n dX1_worthOf_13 rfl ?_
    refine E_bipush (v := 52) dX1_worthOf_14 (by decide) ?_
    refine E_icmp_ge 41 dX1_worthOf_16 (by decide) (fun c_16 => ?_) (fun c_16 => ?_)
    · skip
      exact absurd c_16 (nI_ge hi (by decide))
    · skip
      refine E_iload_n dX1_worthOf_19 rfl ?_
      refine E_iload_n dX1_worthOf_20 rfl ?_
      refine E_bipush (v := 13) dX1_worthOf_21 (by decide) ?_
      refine E_irem dX1_worthOf_23 (by decide) ?_
      refine E_iconst (v := 1) dX1_worthOf_24 (by decide) ?_
      refine E_iadd dX1_worthOf_25 ?_
      refine E_aload_n dX1_worthOf_26 rfl ?_
      refine E_iload_n dX1_worthOf_27 rfl ?_
      refine E_iload_n dX1_worthOf_28 rfl ?_
      refine E_callV (as := [.int p, .int (nI i)]) (b := b) (st := [.int (((nI i) - (nI i) / 13 * 13) + 1), .int ((natIter (b_X1_worthOf_13 σ b p) i (30 * (v_X1_rackOf σ b p 52))))]) (ok_X1_rackOf (σ := σ) (b := b) (p := p) (k := nI i) hS hb) (by decide) yfX1_rackOf mlX1_97 imX1_rackOf seX1_rackOf clX1 (kdB hS hb) rfl (Nat.le_of_ble_eq_true rfl) rfl dX1_worthOf_29 ?_
      refine E_imul dX1_worthOf_32 ?_
      refine E_iadd dX1_worthOf_33 ?_
      refine E_istore_n (ls2 := [some (.ref b), some (.int p), some (.int (((natIter (b_X1_worthOf_13 σ b p) i (30 * (v_X1_rackOf σ b p 52)))) + ((((nI i) - (nI i) / 13 * 13) + 1) * (v_X1_rackOf σ b p (nI i))))), some (.int (nI i))]) dX1_worthOf_34 (by decide) rfl ?_
      refine E_iinc (v := 1) (ls2 := [some (.ref b), some (.int p), some (.int (((natIter (b_X1_worthOf_13 σ b p) i (30 * (v_X1_rackOf σ b p 52)))) + ((((nI i) - (nI i) / 13 * 13) + 1) * (v_X1_rackOf σ b p (nI i))))), some (.int ((nI i) + 1))]) dX1_worthOf_35 rfl (by decide) (by decide) rfl ?_
      refine E_goto 13 dX1_worthOf_38 (by decide) ?_
      exact E_eq hp (by simp only [natIter_s, b_X1_worthOf_13, nI_succ]) rfl rfl

def b_X1_lightest_4 (σ : rS) (b : Nat) (i : Nat) (s : Int32) : Int32 := if (v_X1_worthOf σ b s) ≤ (v_X1_worthOf σ b (nI (i + 1))) then s else (nI (i + 1))
def v_X1_lightest (σ : rS) (b : Nat) (n : Int32) : Int32 := (natIter (b_X1_lightest_4 σ b) ((n.toInt - 1).toNat) 0)
set_option maxRecDepth 20000 in
theorem ok_X1_lightest {σ : rS} {b : Nat} {n : Int32}  (hS : Sh σ) (hb : isB b) : rMet yX1_lightest mX1_lightest 3 [.ref b, .int n] σ 0 0 (some (.int (v_X1_lightest σ b n))) σ := by
  refine rMet_of (ls := [some (.ref b), some (.int n), none, none]) yfX1_lightest rfl (Nat.le_of_ble_eq_true rfl) ?_
  refine E_iconst (v := 0) dX1_lightest_0 (by decide) ?_
  refine E_istore_n (ls2 := [some (.ref b), some (.int n), some (.int 0), none]) dX1_lightest_1 (by decide) rfl ?_
  refine E_iconst (v := 1) dX1_lightest_2 (by decide) ?_
  refine E_istore_n (ls2 := [some (.ref b), some (.int n), some (.int 0), some (.int 1)]) dX1_lightest_3 (by decide) rfl ?_
  refine E_eq (loop_up (fun i => rE _ _ 4 [some (.ref b), some (.int n), some (.int ((natIter (b_X1_lightest_4 σ b) i 0))), some (.int (nI (i + 1)))] [] σ _ _ _ _) (n.toInt - 1).toNat ?_ ?_ 0 (Nat.zero_le _)) rfl rfl rfl
  · skip
    refine E_iload_n dX1_lightest_4 rfl ?_
    refine E_iload_n dX1_lightest_5 rfl ?_
    refine E_icmp_ge 30 dX1_lightest_6 (by decide) (fun c_6 => ?_) (fun c_6 => ?_)
    · skip
      refine E_iload_n dX1_lightest_30 rfl ?_
      exact E_iretE rfl dX1_lightest_31 rfl rfl
    · skip
      exact absurd (cnt1_exit n) c_6
  · skip
    intro i hi hp
    refine E_iload_n dX1_lightest_4 rfl ?_
    refine E_iload_n dX1_lightest_5 rfl ?_
    refine E_icmp_ge 30 dX1_lightest_6 (by decide) (fun c_6 => ?_) (fun c_6 => ?_)
    · skip
      exact absurd c_6 (cnt1_stay hi)
    · skip
      refine E_aload_n dX1_lightest_9 rfl ?_
      refine E_iload_n dX1_lightest_10 rfl ?_
      refine E_callV (as := [.int (nI (i + 1))]) (b := b) (st := []) (ok_X1_worthOf (σ := σ) (b := b) (p := nI (i + 1)) hS hb) (by decide) yfX1_worthOf mlX1_100 imX1_worthOf seX1_worthOf clX1 (kdB hS hb) rfl (Nat.le_of_ble_eq_true rfl) rfl dX1_lightest_11 ?_
      refine E_aload_n dX1_lightest_14 rfl ?_
      refine E_iload_n dX1_lightest_15 rfl ?_
      refine E_callV (as := [.int ((natIter (b_X1_lightest_4 σ b) i 0))]) (b := b) (st := [.int (v_X1_worthOf σ b (nI (i + 1)))]) (ok_X1_worthOf (σ := σ) (b := b) (p := (natIter (b_X1_lightest_4 σ b) i 0)) hS hb) (by decide) yfX1_worthOf mlX1_100 imX1_worthOf seX1_worthOf clX1 (kdB hS hb) rfl (Nat.le_of_ble_eq_true rfl) rfl dX1_lightest_16 ?_
      refine E_icmp_ge 24 dX1_lightest_19 (by decide) (fun c_19 => ?_) (fun c_19 => ?_)
      · skip
        refine E_iinc (v := 1) (ls2 := [some (.ref b), some (.int n), some (.int ((natIter (b_X1_lightest_4 σ b) i 0))), some (.int ((nI (i + 1)) + 1))]) dX1_lightest_24 rfl (by decide) (by decide) rfl ?_
        refine E_goto 4 dX1_lightest_27 (by decide) ?_
        exact E_eq hp (by (try simp only [nI_succ] at c_19 ⊢); simp only [natIter_s, b_X1_lightest_4, nI_succ, if_pos c_19]) rfl rfl
      · skip
        refine E_iload_n dX1_lightest_22 rfl ?_
        refine E_istore_n (ls2 := [some (.ref b), some (.int n), some (.int (nI (i + 1))), some (.int (nI (i + 1)))]) dX1_lightest_23 (by decide) rfl ?_
        refine E_iinc (v := 1) (ls2 := [some (.ref b), some (.int n), some (.int (nI (i + 1))), some (.int ((nI (i + 1)) + 1))]) dX1_lightest_24 rfl (by decide) (by decide) rfl ?_
        refine E_goto 4 dX1_lightest_27 (by decide) ?_
        exact E_eq hp (by (try simp only [nI_succ] at c_19 ⊢); simp only [natIter_s, b_X1_lightest_4, nI_succ, if_neg c_19]) rfl rfl

def b_X1_hidden_12 (σ : rS) (b : Nat) (p : Int32) (k : Int32) (i : Nat) (s : Int32) : Int32 := if (nI i) = p then (s + 0) else (s + (v_X1_rackOf σ b (nI i) k))
def v_X1_hidden (σ : rS) (b : Nat) (p : Int32) (k : Int32) : Int32 := (natIter (b_X1_hidden_12 σ b p k) 4 (vAt (rI σ (b + 1)) 53 k))
set_option maxRecDepth 20000 in
theorem ok_X1_hidden {σ : rS} {b : Nat} {p : Int32} {k : Int32}  (hS : Sh σ) (hb : isB b) : rMet yX1_hidden mX1_hidden 2 [.ref b, .int p, .int k] σ 0 0 (some (.int (v_X1_hidden σ b p k))) σ := by
  refine rMet_of (ls := [some (.ref b), some (.int p), some (.int k), none, none]) yfX1_hidden rfl (Nat.le_of_ble_eq_true rfl) ?_
  refine E_aload_n dX1_hidden_0 rfl ?_
  refine E_getR (b := b + 1) clX1 0 (by decide) flX1_9 (Or.inr ⟨_, rfl⟩) dX1_hidden_1 (kdB hS hb) (rfB0 hS hb) (isB0 hb) ?_
  refine E_iload_n dX1_hidden_4 rfl ?_
  refine E_callSN (as := [.ref (b + 1), .int k]) (st := []) (ok_at (σ := σ) (a := b + 1) (i := k) (f := rI σ (b + 1)) (kdB0 hS hb) (by decide) rfl) (by decide) yfX10_at mlX1_89 stX10_at rfl (Nat.le_of_ble_eq_true rfl) rfl dX1_hidden_5 ?_
  refine E_istore_n (ls2 := [some (.ref b), some (.int p), some (.int k), some (.int (vAt (rI σ (b + 1)) 53 k)), none]) dX1_hidden_8 (by decide) rfl ?_
  refine E_iconst (v := 0) dX1_hidden_9 (by decide) ?_
  refine E_istore (ls2 := [some (.ref b), some (.int p), some (.int k), some (.int (vAt (rI σ (b + 1)) 53 k)), some (.int 0)]) dX1_hidden_10 (by decide) rfl ?_
  refine E_eq (loop_up (fun i => rE _ _ 12 [some (.ref b), some (.int p), some (.int k), some (.int ((natIter (b_X1_hidden_12 σ b p k) i (vAt (rI σ (b + 1)) 53 k)))), some (.int (nI i))] [] σ _ _ _ _) 4 ?_ ?_ 0 (Nat.zero_le _)) rfl rfl rfl
  · skip
    refine E_iload dX1_hidden_12 rfl ?_
    refine E_iconst (v := 4) dX1_hidden_14 (by decide) ?_
    refine E_icmp_ge 44 dX1_hidden_15 (by decide) (fun c_15 => ?_) (fun c_15 => ?_)
    · skip
      refine E_iload_n dX1_hidden_44 rfl ?_
      exact E_iretE rfl dX1_hidden_45 rfl rfl
    · skip
      exact absurd c_15 (by decide)
  · skip
    intro i hi hp
    refine E_iload dX1_hidden_12 rfl ?_
    refine E_iconst (v := 4) dX1_hidden_14 (by decide) ?_
    refine E_icmp_ge 44 dX1_hidden_15 (by decide) (fun c_15 => ?_) (fun c_15 => ?_)
    · skip
      exact absurd c_15 (nI_ge hi (by decide))
    · skip
      refine E_iload_n dX1_hidden_18 rfl ?_
      refine E_iload dX1_hidden_19 rfl ?_
      refine E_iload_n dX1_hidden_21 rfl ?_
      refine E_icmp_ne 29 dX1_hidden_22 (by decide) (fun c_22 => ?_) (fun c_22 => ?_)
      · skip
        refine E_aload_n dX1_hidden_29 rfl ?_
        refine E_iload dX1_hidden_30 rfl ?_
        refine E_iload_n dX1_hidden_32 rfl ?_
        refine E_callV (as := [.int (nI i), .int k]) (b := b) (st := [.int ((natIter (b_X1_hidden_12 σ b p k) i (vAt (rI σ (b + 1)) 53 k)))]) (ok_X1_rackOf (σ := σ) (b := b) (p := nI i) (k := k) hS hb) (by decide) yfX1_rackOf mlX1_97 imX1_rackOf seX1_rackOf clX1 (kdB hS hb) rfl (Nat.le_of_ble_eq_true rfl) rfl dX1_hidden_33 ?_
        refine E_iadd dX1_hidden_36 ?_
        refine E_istore_n (ls2 := [some (.ref b), some (.int p), some (.int k), some (.int (((natIter (b_X1_hidden_12 σ b p k) i (vAt (rI σ (b + 1)) 53 k))) + (v_X1_rackOf σ b (nI i) k))), some (.int (nI i))]) dX1_hidden_37 (by decide) rfl ?_
        refine E_iinc (v := 1) (ls2 := [some (.ref b), some (.int p), some (.int k), some (.int (((natIter (b_X1_hidden_12 σ b p k) i (vAt (rI σ (b + 1)) 53 k))) + (v_X1_rackOf σ b (nI i) k))), some (.int ((nI i) + 1))]) dX1_hidden_38 rfl (by decide) (by decide) rfl ?_
        refine E_goto 12 dX1_hidden_41 (by decide) ?_
        exact E_eq hp (by (try simp only [nI_succ] at c_22 ⊢); simp only [natIter_s, b_X1_hidden_12, nI_succ, if_neg c_22]) rfl rfl
      · skip
        refine E_iconst (v := 0) dX1_hidden_25 (by decide) ?_
        refine E_goto 36 dX1_hidden_26 (by decide) ?_
        refine E_iadd dX1_hidden_36 ?_
        refine E_istore_n (ls2 := [some (.ref b), some (.int p), some (.int k), some (.int (((natIter (b_X1_hidden_12 σ b p k) i (vAt (rI σ (b + 1)) 53 k))) + 0)), some (.int (nI i))]) dX1_hidden_37 (by decide) rfl ?_
        refine E_iinc (v := 1) (ls2 := [some (.ref b), some (.int p), some (.int k), some (.int (((natIter (b_X1_hidden_12 σ b p k) i (vAt (rI σ (b + 1)) 53 k))) + 0)), some (.int ((nI i) + 1))]) dX1_hidden_38 rfl (by decide) (by decide) rfl ?_
        refine E_goto 12 dX1_hidden_41 (by decide) ?_
        exact E_eq hp (by (try simp only [nI_succ] at c_22 ⊢); simp only [natIter_s, b_X1_hidden_12, nI_succ, if_pos c_22]) rfl rfl

def b_X1_allHidden_7 (σ : rS) (b : Nat) (p : Int32) (i : Nat) (s : Int32) : Int32 := if (nI i) = p then (s + 0) else (s + (v_X1_sizeOf σ b (nI i)))
def v_X1_allHidden (σ : rS) (b : Nat) (p : Int32) : Int32 := (natIter (b_X1_allHidden_7 σ b p) 4 (rI σ b 7))
set_option maxRecDepth 20000 in
theorem ok_X1_allHidden {σ : rS} {b : Nat} {p : Int32}  (hS : Sh σ) (hb : isB b) : rMet yX1_allHidden mX1_allHidden 2 [.ref b, .int p] σ 0 0 (some (.int (v_X1_allHidden σ b p))) σ := by
  refine rMet_of (ls := [some (.ref b), some (.int p), none, none]) yfX1_allHidden rfl (Nat.le_of_ble_eq_true rfl) ?_
  refine E_aload_n dX1_allHidden_0 rfl ?_
  refine E_getI clX1 7 (by decide) flX1_40 (Or.inl rfl) dX1_allHidden_1 (kdB hS hb) ?_
  refine E_istore_n (ls2 := [some (.ref b), some (.int p), some (.int (rI σ b 7)), none]) dX1_allHidden_4 (by decide) rfl ?_
  refine E_iconst (v := 0) dX1_allHidden_5 (by decide) ?_
  refine E_istore_n (ls2 := [some (.ref b), some (.int p), some (.int (rI σ b 7)), some (.int 0)]) dX1_allHidden_6 (by decide) rfl ?_
  refine E_eq (loop_up (fun i => rE _ _ 7 [some (.ref b), some (.int p), some (.int ((natIter (b_X1_allHidden_7 σ b p) i (rI σ b 7)))), some (.int (nI i))] [] σ _ _ _ _) 4 ?_ ?_ 0 (Nat.zero_le _)) rfl rfl rfl
  · skip
    refine E_iload_n dX1_allHidden_7 rfl ?_
    refine E_iconst (v := 4) dX1_allHidden_8 (by decide) ?_
    refine E_icmp_ge 35 dX1_allHidden_9 (by decide) (fun c_9 => ?_) (fun c_9 => ?_)
    · skip
      refine E_iload_n dX1_allHidden_35 rfl ?_
      exact E_iretE rfl dX1_allHidden_36 rfl rfl
    · skip
      exact absurd c_9 (by decide)
  · skip
    intro i hi hp
    refine E_iload_n dX1_allHidden_7 rfl ?_
    refine E_iconst (v := 4) dX1_allHidden_8 (by decide) ?_
    refine E_icmp_ge 35 dX1_allHidden_9 (by decide) (fun c_9 => ?_) (fun c_9 => ?_)
    · skip
      exact absurd c_9 (nI_ge hi (by decide))
    · skip
      refine E_iload_n dX1_allHidden_12 rfl ?_
      refine E_iload_n dX1_allHidden_13 rfl ?_
      refine E_iload_n dX1_allHidden_14 rfl ?_
      refine E_icmp_ne 22 dX1_allHidden_15 (by decide) (fun c_15 => ?_) (fun c_15 => ?_)
      · skip
        refine E_aload_n dX1_allHidden_22 rfl ?_
        refine E_iload_n dX1_allHidden_23 rfl ?_
        refine E_callV (as := [.int (nI i)]) (b := b) (st := [.int ((natIter (b_X1_allHidden_7 σ b p) i (rI σ b 7)))]) (ok_X1_sizeOf (σ := σ) (b := b) (p := nI i) hS hb) (by decide) yfX1_sizeOf mlX1_80 imX1_sizeOf seX1_sizeOf clX1 (kdB hS hb) rfl (Nat.le_of_ble_eq_true rfl) rfl dX1_allHidden_24 ?_
        refine E_iadd dX1_allHidden_27 ?_
        refine E_istore_n (ls2 := [some (.ref b), some (.int p), some (.int (((natIter (b_X1_allHidden_7 σ b p) i (rI σ b 7))) + (v_X1_sizeOf σ b (nI i)))), some (.int (nI i))]) dX1_allHidden_28 (by decide) rfl ?_
        refine E_iinc (v := 1) (ls2 := [some (.ref b), some (.int p), some (.int (((natIter (b_X1_allHidden_7 σ b p) i (rI σ b 7))) + (v_X1_sizeOf σ b (nI i)))), some (.int ((nI i) + 1))]) dX1_allHidden_29 rfl (by decide) (by decide) rfl ?_
        refine E_goto 7 dX1_allHidden_32 (by decide) ?_
        exact E_eq hp (by (try simp only [nI_succ] at c_15 ⊢); simp only [natIter_s, b_X1_allHidden_7, nI_succ, if_neg c_15]) rfl rfl
      · skip
        refine E_iconst (v := 0) dX1_allHidden_18 (by decide) ?_
        refine E_goto 27 dX1_allHidden_19 (by decide) ?_
        refine E_iadd dX1_allHidden_27 ?_
        refine E_istore_n (ls2 := [some (.ref b), some (.int p), some (.int (((natIter (b_X1_allHidden_7 σ b p) i (rI σ b 7))) + 0)), some (.int (nI i))]) dX1_allHidden_28 (by decide) rfl ?_
        refine E_iinc (v := 1) (ls2 := [some (.ref b), some (.int p), some (.int (((natIter (b_X1_allHidden_7 σ b p) i (rI σ b 7))) + 0)), some (.int ((nI i) + 1))]) dX1_allHidden_29 rfl (by decide) (by decide) rfl ?_
        refine E_goto 7 dX1_allHidden_32 (by decide) ?_
        exact E_eq hp (by (try simp only [nI_succ] at c_15 ⊢); simp only [natIter_s, b_X1_allHidden_7, nI_succ, if_pos c_15]) rfl rfl

def b_X1_laidWorth_4 (σ : rS) (b : Nat) (i : Nat) (s : Int32) : Int32 := if ((vAt (rI σ (b + 6)) 64 (nI i)) >>> (6 &&& 31)) = 0 then (s + (((v_X1_doneKind σ b (nI i)) - (v_X1_doneKind σ b (nI i)) / 13 * 13) + 1)) else (s + 0)
def v_X1_laidWorth (σ : rS) (b : Nat) : Int32 := (natIter (b_X1_laidWorth_4 σ b) ((rI σ b 6).toNatClampNeg) 0)
set_option maxRecDepth 20000 in
theorem ok_X1_laidWorth {σ : rS} {b : Nat}  (hS : Sh σ) (hb : isB b) : rMet yX1_laidWorth mX1_laidWorth 2 [.ref b] σ 0 0 (some (.int (v_X1_laidWorth σ b))) σ := by
  refine rMet_of (ls := [some (.ref b), none, none]) yfX1_laidWorth rfl (Nat.le_of_ble_eq_true rfl) ?_
  refine E_iconst (v := 0) dX1_laidWorth_0 (by decide) ?_
  refine E_istore_n (ls2 := [some (.ref b), some (.int 0), none]) dX1_laidWorth_1 (by decide) rfl ?_
  refine E_iconst (v := 0) dX1_laidWorth_2 (by decide) ?_
  refine E_istore_n (ls2 := [some (.ref b), some (.int 0), some (.int 0)]) dX1_laidWorth_3 (by decide) rfl ?_
  refine E_eq (loop_up (fun i => rE _ _ 4 [some (.ref b), some (.int ((natIter (b_X1_laidWorth_4 σ b) i 0))), some (.int (nI i))] [] σ _ _ _ _) (rI σ b 6).toNatClampNeg ?_ ?_ 0 (Nat.zero_le _)) rfl rfl rfl
  · skip
    refine E_iload_n dX1_laidWorth_4 rfl ?_
    refine E_aload_n dX1_laidWorth_5 rfl ?_
    refine E_getI clX1 6 (by decide) flX1_36 (Or.inl rfl) dX1_laidWorth_6 (kdB hS hb) ?_
    refine E_icmp_ge 49 dX1_laidWorth_9 (by decide) (fun c_9 => ?_) (fun c_9 => ?_)
    · skip
      refine E_iload_n dX1_laidWorth_49 rfl ?_
      exact E_iretE rfl dX1_laidWorth_50 rfl rfl
    · skip
      exact absurd (i32_nle.mp c_9) (cnt_exit _)
  · skip
    intro i hi hp
    refine E_iload_n dX1_laidWorth_4 rfl ?_
    refine E_aload_n dX1_laidWorth_5 rfl ?_
    refine E_getI clX1 6 (by decide) flX1_36 (Or.inl rfl) dX1_laidWorth_6 (kdB hS hb) ?_
    refine E_icmp_ge 49 dX1_laidWorth_9 (by decide) (fun c_9 => ?_) (fun c_9 => ?_)
    · skip
      exact absurd (cnt_stay hi) (i32_nlt.mpr c_9)
    · skip
      refine E_iload_n dX1_laidWorth_12 rfl ?_
      refine E_aload_n dX1_laidWorth_13 rfl ?_
      refine E_getR (b := b + 6) clX1 5 (by decide) flX1_27 (Or.inr ⟨_, rfl⟩) dX1_laidWorth_14 (kdB hS hb) (rfB5 hS hb) (isB0 hb) ?_
      refine E_iload_n dX1_laidWorth_17 rfl ?_
      refine E_callSN (as := [.ref (b + 6), .int (nI i)]) (st := [.int ((natIter (b_X1_laidWorth_4 σ b) i 0))]) (ok_at (σ := σ) (a := b + 6) (i := nI i) (f := rI σ (b + 6)) (kdB5 hS hb) (by decide) rfl) (by decide) yfX10_at mlX1_89 stX10_at rfl (Nat.le_of_ble_eq_true rfl) rfl dX1_laidWorth_18 ?_
      refine E_bipush (v := 6) dX1_laidWorth_21 (by decide) ?_
      refine E_ishr dX1_laidWorth_23 ?_
      refine E_if_ne 40 dX1_laidWorth_24 (by decide) (fun c_24 => ?_) (fun c_24 => ?_)
      · skip
        refine E_iconst (v := 0) dX1_laidWorth_40 (by decide) ?_
        refine E_iadd dX1_laidWorth_41 ?_
        refine E_istore_n (ls2 := [some (.ref b), some (.int (((natIter (b_X1_laidWorth_4 σ b) i 0)) + 0)), some (.int (nI i))]) dX1_laidWorth_42 (by decide) rfl ?_
        refine E_iinc (v := 1) (ls2 := [some (.ref b), some (.int (((natIter (b_X1_laidWorth_4 σ b) i 0)) + 0)), some (.int ((nI i) + 1))]) dX1_laidWorth_43 rfl (by decide) (by decide) rfl ?_
        refine E_goto 4 dX1_laidWorth_46 (by decide) ?_
        exact E_eq hp (by (try simp only [nI_succ] at c_24 ⊢); simp only [natIter_s, b_X1_laidWorth_4, nI_succ, if_neg c_24]) rfl rfl
      · skip
        refine E_aload_n dX1_laidWorth_27 rfl ?_
        refine E_iload_n dX1_laidWorth_28 rfl ?_
        refine E_callV (as := [.int (nI i)]) (b := b) (st := [.int ((natIter (b_X1_laidWorth_4 σ b) i 0))]) (ok_X1_doneKind (σ := σ) (b := b) (i := nI i) hS hb) (by decide) yfX1_doneKind mlX1_115 imX1_doneKind seX1_doneKind clX1 (kdB hS hb) rfl (Nat.le_of_ble_eq_true rfl) rfl dX1_laidWorth_29 ?_
        refine E_bipush (v := 13) dX1_laidWorth_32 (by decide) ?_
        refine E_irem dX1_laidWorth_34 (by decide) ?_
        refine E_iconst (v := 1) dX1_laidWorth_35 (by decide) ?_
        refine E_iadd dX1_laidWorth_36 ?_
        refine E_goto 41 dX1_laidWorth_37 (by decide) ?_
        refine E_iadd dX1_laidWorth_41 ?_
        refine E_istore_n (ls2 := [some (.ref b), some (.int (((natIter (b_X1_laidWorth_4 σ b) i 0)) + (((v_X1_doneKind σ b (nI i)) - (v_X1_doneKind σ b (nI i)) / 13 * 13) + 1))), some (.int (nI i))]) dX1_laidWorth_42 (by decide) rfl ?_
        refine E_iinc (v := 1) (ls2 := [some (.ref b), some (.int (((natIter (b_X1_laidWorth_4 σ b) i 0)) + (((v_X1_doneKind σ b (nI i)) - (v_X1_doneKind σ b (nI i)) / 13 * 13) + 1))), some (.int ((nI i) + 1))]) dX1_laidWorth_43 rfl (by decide) (by decide) rfl ?_
        refine E_goto 4 dX1_laidWorth_46 (by decide) ?_
        exact E_eq hp (by (try simp only [nI_succ] at c_24 ⊢); simp only [natIter_s, b_X1_laidWorth_4, nI_succ, if_pos c_24]) rfl rfl

