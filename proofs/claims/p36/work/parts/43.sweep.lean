def v_X8_hopefulWith (σ : rS) (t : Nat) (p1 : Int32) (p2 : Int32) (p3 : Int32) : Int32 := vAt (rI σ (t + 4)) 27 (((9 * p1) + (3 * p2)) + p3)
set_option maxRecDepth 20000 in
theorem ok_X8_hopefulWith {σ : rS} {t : Nat} {p1 : Int32} {p2 : Int32} {p3 : Int32}  (hJ : J Sy σ) (ht : isT t) : rMet yX8_hopefulWith mX8_hopefulWith 1 [.ref t, .int p1, .int p2, .int p3] σ 0 0 (some (.int (v_X8_hopefulWith σ t p1 p2 p3))) σ := by
  refine rMet_of (ls := [some (.ref t), some (.int p1), some (.int p2), some (.int p3)]) yfX8_hopefulWith rfl (Nat.le_of_ble_eq_true rfl) ?_
  refine E_aload_n dX8_hopefulWith_0 rfl ?_
  refine E_getR (b := t + 4) clX8 4 (by decide) flX8_19 (Or.inr ⟨_, rfl⟩) dX8_hopefulWith_1 (kdT hJ.1.1 ht) (rfT4 hJ.1.1 ht) (isT0 ht) ?_
  refine E_bipush (v := 9) dX8_hopefulWith_4 (by decide) ?_
  refine E_iload_n dX8_hopefulWith_6 rfl ?_
  refine E_imul dX8_hopefulWith_7 ?_
  refine E_iconst (v := 3) dX8_hopefulWith_8 (by decide) ?_
  refine E_iload_n dX8_hopefulWith_9 rfl ?_
  refine E_imul dX8_hopefulWith_10 ?_
  refine E_iadd dX8_hopefulWith_11 ?_
  refine E_iload_n dX8_hopefulWith_12 rfl ?_
  refine E_iadd dX8_hopefulWith_13 ?_
  refine E_callSN (as := [.ref (t + 4), .int (((9 * p1) + (3 * p2)) + p3)]) (st := []) (ok_at (σ := σ) (a := t + 4) (i := ((9 * p1) + (3 * p2)) + p3) (f := rI σ (t + 4)) (kdT4 hJ.1.1 ht) (by decide) rfl) (by decide) yfX10_at mlX8_59 stX10_at rfl (Nat.le_of_ble_eq_true rfl) rfl dX8_hopefulWith_14 ?_
  exact E_iretE rfl dX8_hopefulWith_17 rfl rfl

def f_X9_clear (σ : rS) : Option (Unit × rS) := oLet (rowI σ 48 (vFill (rI σ 48) 52 0)) fun σ1 => oLet (rowI σ1 49 (vFill (rI σ1 49) 52 0)) fun σ2 => some (((), σ2))
set_option maxRecDepth 20000 in
set_option maxHeartbeats 2000000 in
theorem ok_X9_clear {σ : rS}   : rFn Sy yX9_clear mX9_clear 1 [.ref 37] σ 0 0 (fun _ => .inl none) (f_X9_clear σ) := by
  refine rF_of (ls := [some (.ref 37)]) yfX9_clear rfl (Nat.le_of_ble_eq_true rfl) (fun o τ => ?_)
  unfold f_X9_clear
  refine P_l (fun hJ _ _ q => E_aload_n dX9_clear_0 rfl (E_getR (b := 48) clX9 2 (by decide) flX9_23 (Or.inr ⟨_, rfl⟩) dX9_clear_1 (kd37 hJ.1.1) (rf37_2 hJ.1.1) (by decide) (E_iconst (v := 0) dX9_clear_4 (by decide) q))) ?_
  refine P_w (fun hJ _ _ q => E_callS (as := [.ref 48, .int 0]) (st := []) (ok_fillI (σ := σ) (a := 48) (v := 0) (f := rI σ 48) (kd48 hJ.1.1) (by decide) (by decide) rfl) (by decide) yfJ7_fill_53178 mlX9_72 stJ7_fill_53178 rfl (Nat.le_of_ble_eq_true rfl) rfl dX9_clear_5 q) (fun hJ => Sy_rowI hJ.1) rfl rfl rfl (fun σ1 hσ1 => ?_)
  refine P_l (fun hJ _ _ q => E_aload_n dX9_clear_8 rfl (E_getR (b := 49) clX9 3 (by decide) flX9_27 (Or.inr ⟨_, rfl⟩) dX9_clear_9 (kd37 hJ.1.1) (rf37_3 hJ.1.1) (by decide) (E_iconst (v := 0) dX9_clear_12 (by decide) q))) ?_
  refine P_w (fun hJ _ _ q => E_callS (as := [.ref 49, .int 0]) (st := []) (ok_fillI (σ := σ1) (a := 49) (v := 0) (f := rI σ1 49) (kd49 hJ.1.1) (by decide) (by decide) rfl) (by decide) yfJ7_fill_53178 mlX9_72 stJ7_fill_53178 rfl (Nat.le_of_ble_eq_true rfl) rfl dX9_clear_13 q) (fun hJ => Sy_rowI hJ.1) rfl rfl rfl (fun σ2 hσ2 => ?_)
  exact P_ret (fun _ _ => E_vret rfl dX9_clear_16)

def f_X9_add (σ : rS) (p1 : Int32) (p2 : Int32) : Option (Unit × rS) := oLet (rowI σ 48 (vSet (rI σ 48) 52 p1 (if (vAt (rI σ 48) 52 p1) + p2 < 2 then (vAt (rI σ 48) 52 p1) + p2 else 2))) fun σ1 => oLet (rowI σ1 49 (vSet (rI σ1 49) 52 p1 (vAt (rI σ1 48) 52 p1))) fun σ2 => some (((), σ2))
set_option maxRecDepth 20000 in
set_option maxHeartbeats 2000000 in
theorem ok_X9_add {σ : rS} {p1 : Int32} {p2 : Int32}   : rFn Sy yX9_add mX9_add 1 [.ref 37, .int p1, .int p2] σ 0 0 (fun _ => .inl none) (f_X9_add σ p1 p2) := by
  refine rF_of (ls := [some (.ref 37), some (.int p1), some (.int p2)]) yfX9_add rfl (Nat.le_of_ble_eq_true rfl) (fun o τ => ?_)
  unfold f_X9_add
  refine P_l (fun hJ _ _ q => E_aload_n dX9_add_0 rfl (E_getR (b := 48) clX9 2 (by decide) flX9_23 (Or.inr ⟨_, rfl⟩) dX9_add_1 (kd37 hJ.1.1) (rf37_2 hJ.1.1) (by decide) (E_iload_n dX9_add_4 rfl (E_iconst (v := 2) dX9_add_5 (by decide) (E_aload_n dX9_add_6 rfl (E_getR (b := 48) clX9 2 (by decide) flX9_23 (Or.inr ⟨_, rfl⟩) dX9_add_7 (kd37 hJ.1.1) (rf37_2 hJ.1.1) (by decide) (E_iload_n dX9_add_10 rfl (E_callSN (as := [.ref 48, .int p1]) (st := [.int 2, .int p1, .ref 48]) (ok_at (σ := σ) (a := 48) (i := p1) (f := rI σ 48) (kd48 hJ.1.1) (by decide) rfl) (by decide) yfX10_at mlX9_78 stX10_at rfl (Nat.le_of_ble_eq_true rfl) rfl dX9_add_11 (E_iload_n dX9_add_14 rfl (E_iadd dX9_add_15 (E_mmin mlX9_82 (by decide) (Nat.le_of_ble_eq_true rfl) dX9_add_16 q))))))))))) ?_
  refine P_w (fun hJ _ _ q => E_callSN (as := [.ref 48, .int p1, .int (if (vAt (rI σ 48) 52 p1) + p2 < 2 then (vAt (rI σ 48) 52 p1) + p2 else 2)]) (st := []) (ok_set (σ := σ) (a := 48) (i := p1) (x := if (vAt (rI σ 48) 52 p1) + p2 < 2 then (vAt (rI σ 48) 52 p1) + p2 else 2) (f := rI σ 48) (kd48 hJ.1.1) (by decide) (by decide) rfl) (by decide) yfX10_set mlX9_88 stX10_set rfl (Nat.le_of_ble_eq_true rfl) rfl dX9_add_19 q) (fun hJ => Sy_rowI hJ.1) rfl rfl rfl (fun σ1 hσ1 => ?_)
  refine P_l (fun hJ _ _ q => E_aload_n dX9_add_22 rfl (E_getR (b := 49) clX9 3 (by decide) flX9_27 (Or.inr ⟨_, rfl⟩) dX9_add_23 (kd37 hJ.1.1) (rf37_3 hJ.1.1) (by decide) (E_iload_n dX9_add_26 rfl (E_aload_n dX9_add_27 rfl (E_getR (b := 48) clX9 2 (by decide) flX9_23 (Or.inr ⟨_, rfl⟩) dX9_add_28 (kd37 hJ.1.1) (rf37_2 hJ.1.1) (by decide) (E_iload_n dX9_add_31 rfl (E_callSN (as := [.ref 48, .int p1]) (st := [.int p1, .ref 49]) (ok_at (σ := σ1) (a := 48) (i := p1) (f := rI σ1 48) (kd48 hJ.1.1) (by decide) rfl) (by decide) yfX10_at mlX9_78 stX10_at rfl (Nat.le_of_ble_eq_true rfl) rfl dX9_add_32 q))))))) ?_
  refine P_w (fun hJ _ _ q => E_callSN (as := [.ref 49, .int p1, .int (vAt (rI σ1 48) 52 p1)]) (st := []) (ok_set (σ := σ1) (a := 49) (i := p1) (x := vAt (rI σ1 48) 52 p1) (f := rI σ1 49) (kd49 hJ.1.1) (by decide) (by decide) rfl) (by decide) yfX10_set mlX9_88 stX10_set rfl (Nat.le_of_ble_eq_true rfl) rfl dX9_add_35 q) (fun hJ => Sy_rowI hJ.1) rfl rfl rfl (fun σ2 hσ2 => ?_)
  exact P_ret (fun _ _ => E_vret rfl dX9_add_38)

def v_X9_kindOf (σ : rS) (p1 : Int32) (p2 : Int32) : Int32 := if p2 < 1 then ((-1)) else (if (rI σ 37 16) < p2 then ((-1)) else (((13 * p1) + p2) - 1))
set_option maxRecDepth 20000 in
theorem ok_X9_kindOf {σ : rS} {p1 : Int32} {p2 : Int32}  (hJ : J Sy σ)  : rMet yX9_kindOf mX9_kindOf 0 [.ref 37, .int p1, .int p2] σ 0 0 (some (.int (v_X9_kindOf σ p1 p2))) σ := by
  refine rMet_of (ls := [some (.ref 37), some (.int p1), some (.int p2)]) yfX9_kindOf rfl (Nat.le_of_ble_eq_true rfl) ?_
  refine E_iload_n dX9_kindOf_0 rfl ?_
  refine E_iconst (v := 1) dX9_kindOf_1 (by decide) ?_
  refine E_icmp_lt 24 dX9_kindOf_2 (by decide) (fun c_2_0 => ?_) (fun c_2_0 => ?_)
  · skip
    refine E_iconst (v := (-1)) dX9_kindOf_24 (by decide) ?_
    exact E_iretE rfl dX9_kindOf_25 (by unfold v_X9_kindOf; simp only [if_pos c_2_0]) rfl
  · skip
    refine E_iload_n dX9_kindOf_5 rfl ?_
    refine E_aload_n dX9_kindOf_6 rfl ?_
    refine E_getI clX9 16 (by decide) flX9_113 (Or.inl rfl) dX9_kindOf_7 (kd37 hJ.1.1) ?_
    refine E_icmp_gt 24 dX9_kindOf_10 (by decide) (fun c_10_1 => ?_) (fun c_10_1 => ?_)
    · skip
      refine E_iconst (v := (-1)) dX9_kindOf_24 (by decide) ?_
      exact E_iretE rfl dX9_kindOf_25 (by unfold v_X9_kindOf; simp only [if_neg c_2_0, if_pos c_10_1]) rfl
    · skip
      refine E_bipush (v := 13) dX9_kindOf_13 (by decide) ?_
      refine E_iload_n dX9_kindOf_15 rfl ?_
      refine E_imul dX9_kindOf_16 ?_
      refine E_iload_n dX9_kindOf_17 rfl ?_
      refine E_iadd dX9_kindOf_18 ?_
      refine E_iconst (v := 1) dX9_kindOf_19 (by decide) ?_
      refine E_isub dX9_kindOf_20 ?_
      refine E_goto 25 dX9_kindOf_21 (by decide) ?_
      exact E_iretE rfl dX9_kindOf_25 (by unfold v_X9_kindOf; simp only [if_neg c_2_0, if_neg c_10_1]) rfl

def v_X9_mostOf (σ : rS) (p1 : Int32) (p2 : Int32) : Int32 := if (rI σ 37 17) = 3 then (if (v_X9_kindOf σ p1 p2) = ((-1)) then (vAt (rI σ 49) 52 (v_X9_kindOf σ p1 p2)) else (if (vAt (rI σ 48) 52 (v_X9_kindOf σ p1 p2)) + 1 < 2 then (vAt (rI σ 48) 52 (v_X9_kindOf σ p1 p2)) + 1 else 2)) else (vAt (rI σ 49) 52 (v_X9_kindOf σ p1 p2))
set_option maxRecDepth 20000 in
theorem ok_X9_mostOf {σ : rS} {p1 : Int32} {p2 : Int32}  (hJ : J Sy σ)  : rMet yX9_mostOf mX9_mostOf 1 [.ref 37, .int p1, .int p2] σ 0 0 (some (.int (v_X9_mostOf σ p1 p2))) σ := by
  refine rMet_of (ls := [some (.ref 37), some (.int p1), some (.int p2), none]) yfX9_mostOf rfl (Nat.le_of_ble_eq_true rfl) ?_
  refine E_aload_n dX9_mostOf_0 rfl ?_
  refine E_iload_n dX9_mostOf_1 rfl ?_
  refine E_iload_n dX9_mostOf_2 rfl ?_
  refine E_callV (as := [.int p1, .int p2]) (b := 37) (st := []) (ok_X9_kindOf (σ := σ) (p1 := p1) (p2 := p2) hJ ) (by decide) yfX9_kindOf mlX9_141 imX9_kindOf seX9_kindOf clX9 (kd37 hJ.1.1) rfl (Nat.le_of_ble_eq_true rfl) rfl dX9_mostOf_3 ?_
  refine E_istore_n (ls2 := [some (.ref 37), some (.int p1), some (.int p2), some (.int (v_X9_kindOf σ p1 p2))]) dX9_mostOf_6 (by decide) rfl ?_
  refine E_aload_n dX9_mostOf_7 rfl ?_
  refine E_getI clX9 17 (by decide) flX9_101 (Or.inl rfl) dX9_mostOf_8 (kd37 hJ.1.1) ?_
  refine E_iconst (v := 3) dX9_mostOf_11 (by decide) ?_
  refine E_icmp_ne 35 dX9_mostOf_12 (by decide) (fun c_12_0 => ?_) (fun c_12_0 => ?_)
  · skip
    refine E_aload_n dX9_mostOf_35 rfl ?_
    refine E_getR (b := 49) clX9 3 (by decide) flX9_27 (Or.inr ⟨_, rfl⟩) dX9_mostOf_36 (kd37 hJ.1.1) (rf37_3 hJ.1.1) (by decide) ?_
    refine E_iload_n dX9_mostOf_39 rfl ?_
    refine E_callSN (as := [.ref 49, .int (v_X9_kindOf σ p1 p2)]) (st := []) (ok_at (σ := σ) (a := 49) (i := v_X9_kindOf σ p1 p2) (f := rI σ 49) (kd49 hJ.1.1) (by decide) rfl) (by decide) yfX10_at mlX9_78 stX10_at rfl (Nat.le_of_ble_eq_true rfl) rfl dX9_mostOf_40 ?_
    exact E_iretE rfl dX9_mostOf_43 (by unfold v_X9_mostOf; simp only [if_neg c_12_0]) rfl
  · skip
    refine E_iload_n dX9_mostOf_15 rfl ?_
    refine E_iconst (v := (-1)) dX9_mostOf_16 (by decide) ?_
    refine E_icmp_eq 35 dX9_mostOf_17 (by decide) (fun c_17_1 => ?_) (fun c_17_1 => ?_)
    · skip
      refine E_aload_n dX9_mostOf_35 rfl ?_
      refine E_getR (b := 49) clX9 3 (by decide) flX9_27 (Or.inr ⟨_, rfl⟩) dX9_mostOf_36 (kd37 hJ.1.1) (rf37_3 hJ.1.1) (by decide) ?_
      refine E_iload_n dX9_mostOf_39 rfl ?_
      refine E_callSN (as := [.ref 49, .int (v_X9_kindOf σ p1 p2)]) (st := []) (ok_at (σ := σ) (a := 49) (i := v_X9_kindOf σ p1 p2) (f := rI σ 49) (kd49 hJ.1.1) (by decide) rfl) (by decide) yfX10_at mlX9_78 stX10_at rfl (Nat.le_of_ble_eq_true rfl) rfl dX9_mostOf_40 ?_
      exact E_iretE rfl dX9_mostOf_43 (by unfold v_X9_mostOf; simp only [if_pos c_12_0, if_pos c_17_1]) rfl
    · skip
      refine E_iconst (v := 2) dX9_mostOf_20 (by decide) ?_
      refine E_aload_n dX9_mostOf_21 rfl ?_
      refine E_getR (b := 48) clX9 2 (by decide) flX9_23 (Or.inr ⟨_, rfl⟩) dX9_mostOf_22 (kd37 hJ.1.1) (rf37_2 hJ.1.1) (by decide) ?_
      refine E_iload_n dX9_mostOf_25 rfl ?_
      refine E_callSN (as := [.ref 48, .int (v_X9_kindOf σ p1 p2)]) (st := [.int 2]) (ok_at (σ := σ) (a := 48) (i := v_X9_kindOf σ p1 p2) (f := rI σ 48) (kd48 hJ.1.1) (by decide) rfl) (by decide) yfX10_at mlX9_78 stX10_at rfl (Nat.le_of_ble_eq_true rfl) rfl dX9_mostOf_26 ?_
      refine E_iconst (v := 1) dX9_mostOf_29 (by decide) ?_
      refine E_iadd dX9_mostOf_30 ?_
      refine E_mmin mlX9_82 (by decide) (Nat.le_of_ble_eq_true rfl) dX9_mostOf_31 ?_
      exact E_iretE rfl dX9_mostOf_34 (by unfold v_X9_mostOf; simp only [if_pos c_12_0, if_neg c_17_1]) rfl

def v_X9_firstWeight (σ : rS) (p1 : Int32) : Int64 := if (rI σ 37 18) = 0 then (if 24 ≤ p1 then (((((512 + ((iRem p1 13) + 1) : Int32)).toInt64) <<< (((48 : Int32)).toInt64 &&& 63)) + (0 : Int64)) else (((((512 + ((iRem p1 13) + 1) : Int32)).toInt64) <<< (((48 : Int32)).toInt64 &&& 63)) + ((1 : Int64) <<< (((2 * (23 - p1) : Int32)).toInt64 &&& 63)))) else (if 24 ≤ p1 then ((((((32 * ((iRem p1 13) + 1)) + 1 : Int32)).toInt64) <<< (((48 : Int32)).toInt64 &&& 63)) + (0 : Int64)) else ((((((32 * ((iRem p1 13) + 1)) + 1 : Int32)).toInt64) <<< (((48 : Int32)).toInt64 &&& 63)) + ((1 : Int64) <<< (((2 * (23 - p1) : Int32)).toInt64 &&& 63))))
set_option maxRecDepth 20000 in
theorem ok_X9_firstWeight {σ : rS} {p1 : Int32}  (hJ : J Sy σ)  : rMet yX9_firstWeight mX9_firstWeight 0 [.ref 37, .int p1] σ 0 0 (some (.long (v_X9_firstWeight σ p1))) σ := by
  refine rMet_of (ls := [some (.ref 37), some (.int p1), none, none, none]) yfX9_firstWeight rfl (Nat.le_of_ble_eq_true rfl) ?_
  refine E_iload_n dX9_firstWeight_0 rfl ?_
  refine E_bipush (v := 13) dX9_firstWeight_1 (by decide) ?_
  refine E_irem dX9_firstWeight_3 (by decide) ?_
  refine E_iconst (v := 1) dX9_firstWeight_4 (by decide) ?_
  refine E_iadd dX9_firstWeight_5 ?_
  refine E_istore_n (ls2 := [some (.ref 37), some (.int p1), some (.int ((iRem p1 13) + 1)), none, none]) dX9_firstWeight_6 (by decide) rfl ?_
  refine E_aload_n dX9_firstWeight_7 rfl ?_
  refine E_getI clX9 18 (by decide) flX9_173 (Or.inr rfl) dX9_firstWeight_8 (kd37 hJ.1.1) ?_
  refine E_if_eq 24 dX9_firstWeight_11 (by decide) (fun c_11_0 => ?_) (fun c_11_0 => ?_)
  · skip
    refine E_sipush (v := 512) dX9_firstWeight_24 (by decide) ?_
    refine E_iload_n dX9_firstWeight_27 rfl ?_
    refine E_iadd dX9_firstWeight_28 ?_
    refine E_i2l dX9_firstWeight_29 ?_
    refine E_lstore_n (ls2 := [some (.ref 37), some (.int p1), some (.int ((iRem p1 13) + 1)), some (.long (((512 + ((iRem p1 13) + 1) : Int32)).toInt64)), none]) dX9_firstWeight_30 (by decide) rfl ?_
    refine E_lload_n dX9_firstWeight_31 rfl ?_
    refine E_bipush (v := 48) dX9_firstWeight_32 (by decide) ?_
    refine E_lshl dX9_firstWeight_34 ?_
    refine E_iload_n dX9_firstWeight_35 rfl ?_
    refine E_bipush (v := 24) dX9_firstWeight_36 (by decide) ?_
    refine E_icmp_ge 52 dX9_firstWeight_38 (by decide) (fun c_38_1 => ?_) (fun c_38_1 => ?_)
    · skip
      refine E_lconst (v := 0) dX9_firstWeight_52 (by decide) ?_
      refine E_ladd dX9_firstWeight_53 ?_
      exact E_lretE rfl dX9_firstWeight_54 (by unfold v_X9_firstWeight; simp only [if_pos c_11_0, if_pos c_38_1]) rfl
    · skip
      refine E_lconst (v := 1) dX9_firstWeight_41 (by decide) ?_
      refine E_iconst (v := 2) dX9_firstWeight_42 (by decide) ?_
      refine E_bipush (v := 23) dX9_firstWeight_43 (by decide) ?_
      refine E_iload_n dX9_firstWeight_45 rfl ?_
      refine E_isub dX9_firstWeight_46 ?_
      refine E_imul dX9_firstWeight_47 ?_
      refine E_lshl dX9_firstWeight_48 ?_
      refine E_goto 53 dX9_firstWeight_49 (by decide) ?_
      refine E_ladd dX9_firstWeight_53 ?_
      exact E_lretE rfl dX9_firstWeight_54 (by unfold v_X9_firstWeight; simp only [if_pos c_11_0, if_neg c_38_1]) rfl
  · skip
    refine E_bipush (v := 32) dX9_firstWeight_14 (by decide) ?_
    refine E_iload_n dX9_firstWeight_16 rfl ?_
    refine E_imul dX9_firstWeight_17 ?_
    refine E_iconst (v := 1) dX9_firstWeight_18 (by decide) ?_
    refine E_iadd dX9_firstWeight_19 ?_
    refine E_i2l dX9_firstWeight_20 ?_
    refine E_goto 30 dX9_firstWeight_21 (by decide) ?_
    refine E_lstore_n (ls2 := [some (.ref 37), some (.int p1), some (.int ((iRem p1 13) + 1)), some (.long ((((32 * ((iRem p1 13) + 1)) + 1 : Int32)).toInt64)), none]) dX9_firstWeight_30 (by decide) rfl ?_
    refine E_lload_n dX9_firstWeight_31 rfl ?_
    refine E_bipush (v := 48) dX9_firstWeight_32 (by decide) ?_
    refine E_lshl dX9_firstWeight_34 ?_
    refine E_iload_n dX9_firstWeight_35 rfl ?_
    refine E_bipush (v := 24) dX9_firstWeight_36 (by decide) ?_
    refine E_icmp_ge 52 dX9_firstWeight_38 (by decide) (fun c_38_1 => ?_) (fun c_38_1 => ?_)
    · skip
      refine E_lconst (v := 0) dX9_firstWeight_52 (by decide) ?_
      refine E_ladd dX9_firstWeight_53 ?_
      exact E_lretE rfl dX9_firstWeight_54 (by unfold v_X9_firstWeight; simp only [if_neg c_11_0, if_pos c_38_1]) rfl
    · skip
      refine E_lconst (v := 1) dX9_firstWeight_41 (by decide) ?_
      refine E_iconst (v := 2) dX9_firstWeight_42 (by decide) ?_
      refine E_bipush (v := 23) dX9_firstWeight_43 (by decide) ?_
      refine E_iload_n dX9_firstWeight_45 rfl ?_
      refine E_isub dX9_firstWeight_46 ?_
      refine E_imul dX9_firstWeight_47 ?_
      refine E_lshl dX9_firstWeight_48 ?_
      refine E_goto 53 dX9_firstWeight_49 (by decide) ?_
      refine E_ladd dX9_firstWeight_53 ?_
      exact E_lretE rfl dX9_firstWeight_54 (by unfold v_X9_firstWeight; simp only [if_neg c_11_0, if_neg c_38_1]) rfl

def v_X9_secondWeight (σ : rS) (p1 : Int32) : Int64 := if 24 ≤ p1 then ((1 : Int64) <<< (((2 * (51 - p1) : Int32)).toInt64 &&& 63)) else (0 : Int64)
set_option maxRecDepth 20000 in
theorem ok_X9_secondWeight {σ : rS} {p1 : Int32}  (hJ : J Sy σ)  : rMet yX9_secondWeight mX9_secondWeight 0 [.ref 37, .int p1] σ 0 0 (some (.long (v_X9_secondWeight σ p1))) σ := by
  refine rMet_of (ls := [some (.ref 37), some (.int p1)]) yfX9_secondWeight rfl (Nat.le_of_ble_eq_true rfl) ?_
  refine E_iload_n dX9_secondWeight_0 rfl ?_
  refine E_bipush (v := 24) dX9_secondWeight_1 (by decide) ?_
  refine E_icmp_ge 10 dX9_secondWeight_3 (by decide) (fun c_3_0 => ?_) (fun c_3_0 => ?_)
  · skip
    refine E_lconst (v := 1) dX9_secondWeight_10 (by decide) ?_
    refine E_iconst (v := 2) dX9_secondWeight_11 (by decide) ?_
    refine E_bipush (v := 51) dX9_secondWeight_12 (by decide) ?_
    refine E_iload_n dX9_secondWeight_14 rfl ?_
    refine E_isub dX9_secondWeight_15 ?_
    refine E_imul dX9_secondWeight_16 ?_
    refine E_lshl dX9_secondWeight_17 ?_
    exact E_lretE rfl dX9_secondWeight_18 (by unfold v_X9_secondWeight; simp only [if_pos c_3_0]) rfl
  · skip
    refine E_lconst (v := 0) dX9_secondWeight_6 (by decide) ?_
    refine E_goto 18 dX9_secondWeight_7 (by decide) ?_
    exact E_lretE rfl dX9_secondWeight_18 (by unfold v_X9_secondWeight; simp only [if_neg c_3_0]) rfl

def f_X9_addWay (σ : rS) (p1 : Int32) (p2 : Int64) (p3 : Int64) : Option (Unit × rS) := if (if p1 < 0 then true else (if p1 ≤ 8738 then false else true)) = true then (some (((), σ))) else (if inB p1 8739 then (oLet ((rI σ 62 (p1 : Int32).toNatClampNeg) - 1 : Int32) fun x2 => if (if 0 ≤ x2 then true else (if 81 ≤ (rI σ 37 11) then true else false)) = true then (if (if x2 < 0 then true else (if 81 ≤ x2 then true else (if (rI σ 37 17) = 3 then false else true))) = true then (if (if x2 < 0 then true else (if 81 ≤ x2 then true else false)) = true then (some (((), σ))) else (if inB x2 81 then (if 0 < (lg_cmp p2 (rL σ 60 (x2 : Int32).toNatClampNeg)) then (oLet (wL σ 60 (x2 : Int32).toNatClampNeg p2) fun σ4 => oLet (wL σ4 61 (x2 : Int32).toNatClampNeg p3) fun σ5 => some (((), σ5))) else (if (if (lg_cmp p2 (rL σ 60 (x2 : Int32).toNatClampNeg)) = 0 then (if (lg_cmp p3 (rL σ 61 (x2 : Int32).toNatClampNeg)) ≤ 0 then true else false) else true) = true then (some (((), σ))) else (oLet (wL σ 60 (x2 : Int32).toNatClampNeg p2) fun σ6 => oLet (wL σ6 61 (x2 : Int32).toNatClampNeg p3) fun σ7 => some (((), σ7))))) else none)) else (if inB x2 81 then (oLet (wL σ 60 (x2 : Int32).toNatClampNeg ((rL σ 60 (x2 : Int32).toNatClampNeg) ||| p2)) fun σ9 => some (((), σ9))) else none)) else (oLet (wI σ 62 (p1 : Int32).toNatClampNeg ((rI σ 37 11) + 1)) fun σ10 => if inB (rI σ10 37 11) 81 then (oLet (wI σ10 59 (rI σ10 37 11 : Int32).toNatClampNeg p1) fun σ12 => if inB (rI σ12 37 11) 81 then (oLet (wL σ12 60 (rI σ12 37 11 : Int32).toNatClampNeg p2) fun σ14 => if inB (rI σ14 37 11) 81 then (oLet (wL σ14 61 (rI σ14 37 11 : Int32).toNatClampNeg p3) fun σ16 => oLet (wI σ16 37 11 ((rI σ16 37 11) + 1)) fun σ17 => some (((), σ17))) else none) else none) else none)) else none)
set_option maxRecDepth 20000 in
set_option maxHeartbeats 2000000 in
theorem ok_X9_addWay {σ : rS} {p1 : Int32} {p2 : Int64} {p3 : Int64}   : rFn Sy yX9_addWay mX9_addWay 0 [.ref 37, .int p1, .long p2, .long p3] σ 0 0 (fun _ => .inl none) (f_X9_addWay σ p1 p2 p3) := by
  refine rF_of (ls := [some (.ref 37), some (.int p1), some (.long p2), none, some (.long p3), none, none]) yfX9_addWay rfl (Nat.le_of_ble_eq_true rfl) (fun o τ => ?_)
  unfold f_X9_addWay
  refine P_l (fun hJ _ _ q => E_iload_n dX9_addWay_0 rfl q) ?_
  refine P_if (c := (if p1 < 0 then true else (if p1 ≤ 8738 then false else true)) = true) (pc1 := 11) (ls1 := [some (.ref 37), some (.int p1), some (.long p2), none, some (.long p3), none, none]) (st1 := []) (pc2 := 12) (ls2 := [some (.ref 37), some (.int p1), some (.long p2), none, some (.long p3), none, none]) (st2 := []) (fun hJ _ _ hX hY => ?_) ?_ ?_
  · skip
    refine E_if_lt 11 dX9_addWay_1 (by decide) (fun c_1_0 => ?_) (fun c_1_0 => ?_)
    · skip
      exact hX (by simp only [if_pos c_1_0])
    · skip
      refine E_iload_n dX9_addWay_4 rfl ?_
      refine E_sipush (v := 8738) dX9_addWay_5 (by decide) ?_
      refine E_icmp_le 12 dX9_addWay_8 (by decide) (fun c_8_1 => ?_) (fun c_8_1 => ?_)
      · skip
        exact hY (by simp only [if_neg c_1_0, if_pos c_8_1]; exact Bool.false_ne_true)
      · skip
        exact hX (by simp only [if_neg c_1_0, if_neg c_8_1])
  · skip
    exact P_ret (fun _ _ => E_vret rfl dX9_addWay_11)
  · skip
    refine P_l (fun hJ _ _ q => E_aload_n dX9_addWay_12 rfl (E_getR (b := 62) clX9 10 (by decide) flX9_54 (Or.inr ⟨_, rfl⟩) dX9_addWay_13 (kd37 hJ.1.1) (rf37_10 hJ.1.1) (by decide) (E_iload_n dX9_addWay_16 rfl q))) ?_
    refine P_g (fun g1 => ?_)
    refine P_l (fun hJ _ _ q => E_iald dX9_addWay_17 (kd62 hJ.1.1) (inB_vp g1) (E_iconst (v := 1) dX9_addWay_18 (by decide) (E_isub dX9_addWay_19 (E_istore (ls2 := [some (.ref 37), some (.int p1), some (.long p2), none, some (.long p3), none, some (.int ((rI σ 62 (p1 : Int32).toNatClampNeg) - 1))]) dX9_addWay_20 (by decide) rfl q)))) ?_
    refine P_v ((rI σ 62 (p1 : Int32).toNatClampNeg) - 1) (fun x => [some (.ref 37), some (.int p1), some (.long p2), none, some (.long p3), none, some (.int x)]) (fun x2 => ?_)
    refine P_l (fun hJ _ _ q => E_iload dX9_addWay_22 rfl q) ?_
    refine P_if (c := (if 0 ≤ x2 then true else (if 81 ≤ (rI σ 37 11) then true else false)) = true) (pc1 := 92) (ls1 := [some (.ref 37), some (.int p1), some (.long p2), none, some (.long p3), none, some (.int x2)]) (st1 := []) (pc2 := 36) (ls2 := [some (.ref 37), some (.int p1), some (.long p2), none, some (.long p3), none, some (.int x2)]) (st2 := []) (fun hJ _ _ hX hY => ?_) ?_ ?_
    · skip
      refine E_if_ge 92 dX9_addWay_24 (by decide) (fun c_24_0 => ?_) (fun c_24_0 => ?_)
      · skip
        exact hX (by simp only [if_pos c_24_0])
      · skip
        refine E_aload_n dX9_addWay_27 rfl ?_
        refine E_getI clX9 11 (by decide) flX9_151 (Or.inl rfl) dX9_addWay_28 (kd37 hJ.1.1) ?_
        refine E_bipush (v := 81) dX9_addWay_31 (by decide) ?_
        refine E_icmp_ge 92 dX9_addWay_33 (by decide) (fun c_33_1 => ?_) (fun c_33_1 => ?_)
        · skip
          exact hX (by simp only [if_neg c_24_0, if_pos c_33_1])
        · skip
          exact hY (by simp only [if_neg c_24_0, if_neg c_33_1]; exact Bool.false_ne_true)
    · skip
      refine P_l (fun hJ _ _ q => E_iload dX9_addWay_92 rfl q) ?_
      refine P_if (c := (if x2 < 0 then true else (if 81 ≤ x2 then true else (if (rI σ 37 17) = 3 then false else true))) = true) (pc1 := 126) (ls1 := [some (.ref 37), some (.int p1), some (.long p2), none, some (.long p3), none, some (.int x2)]) (st1 := []) (pc2 := 112) (ls2 := [some (.ref 37), some (.int p1), some (.long p2), none, some (.long p3), none, some (.int x2)]) (st2 := []) (fun hJ _ _ hX hY => ?_) ?_ ?_
      · skip
        refine E_if_lt 126 dX9_addWay_94 (by decide) (fun c_94_0 => ?_) (fun c_94_0 => ?_)
        · skip
          exact hX (by simp only [if_pos c_94_0])
        · skip
          refine E_iload dX9_addWay_97 rfl ?_
          refine E_bipush (v := 81) dX9_addWay_99 (by decide) ?_
          refine E_icmp_ge 126 dX9_addWay_101 (by decide) (fun c_101_1 => ?_) (fun c_101_1 => ?_)
          · skip
            exact hX (by simp only [if_neg c_94_0, if_pos c_101_1])
          · skip
            refine E_aload_n dX9_addWay_104 rfl ?_
            refine E_getI clX9 17 (by decide) flX9_101 (Or.inl rfl) dX9_addWay_105 (kd37 hJ.1.1) ?_
            refine E_iconst (v := 3) dX9_addWay_108 (by decide) ?_
            refine E_icmp_ne 126 dX9_addWay_109 (by decide) (fun c_109_2 => ?_) (fun c_109_2 => ?_)
            · skip
              exact hX (by simp only [if_neg c_94_0, if_neg c_101_1, if_neg c_109_2])
            · skip
              exact hY (by simp only [if_neg c_94_0, if_neg c_101_1, if_pos c_109_2]; exact Bool.false_ne_true)
      · skip
        refine P_l (fun hJ _ _ q => E_iload dX9_addWay_126 rfl q) ?_
        refine P_if (c := (if x2 < 0 then true else (if 81 ≤ x2 then true else false)) = true) (pc1 := 192) (ls1 := [some (.ref 37), some (.int p1), some (.long p2), none, some (.long p3), none, some (.int x2)]) (st1 := []) (pc2 := 138) (ls2 := [some (.ref 37), some (.int p1), some (.long p2), none, some (.long p3), none, some (.int x2)]) (st2 := []) (fun hJ _ _ hX hY => ?_) ?_ ?_
        · skip
          refine E_if_lt 192 dX9_addWay_128 (by decide) (fun c_128_0 => ?_) (fun c_128_0 => ?_)
          · skip
            exact hX (by simp only [if_pos c_128_0])
          · skip
            refine E_iload dX9_addWay_131 rfl ?_
            refine E_bipush (v := 81) dX9_addWay_133 (by decide) ?_
            refine E_icmp_ge 192 dX9_addWay_135 (by decide) (fun c_135_1 => ?_) (fun c_135_1 => ?_)
            · skip
              exact hX (by simp only [if_neg c_128_0, if_pos c_135_1])
            · skip
              exact hY (by simp only [if_neg c_128_0, if_neg c_135_1]; exact Bool.false_ne_true)
        · skip
          exact P_ret (fun _ _ => E_vret rfl dX9_addWay_192)
        · skip
          refine P_l (fun hJ _ _ q => E_lload_n dX9_addWay_138 rfl (E_aload_n dX9_addWay_139 rfl (E_getR (b := 60) clX9 8 (by decide) flX9_47 (Or.inr ⟨_, rfl⟩) dX9_addWay_140 (kd37 hJ.1.1) (rf37_8 hJ.1.1) (by decide) (E_iload dX9_addWay_143 rfl q)))) ?_
          refine P_g (fun g3 => ?_)
          refine P_l (fun hJ _ _ q => E_lald dX9_addWay_145 (kd60 hJ.1.1) (inB_vp g3) (E_lcmp dX9_addWay_146 q)) ?_
          refine P_if (fun hJ _ _ h1 h2 => E_if_gt 175 dX9_addWay_147 (by decide) h1 h2) ?_ ?_
          · skip
            refine P_l (fun hJ _ _ q => E_aload_n dX9_addWay_175 rfl (E_getR (b := 60) clX9 8 (by decide) flX9_47 (Or.inr ⟨_, rfl⟩) dX9_addWay_176 (kd37 hJ.1.1) (rf37_8 hJ.1.1) (by decide) (E_iload dX9_addWay_179 rfl (E_lload_n dX9_addWay_181 rfl q)))) ?_
            refine P_w (fun hJ _ _ q => E_last dX9_addWay_182 (kd60 hJ.1.1) (inB_vp g3) q) (fun hJ => Sy_wL hJ.1) rfl rfl rfl (fun σ4 hσ4 => ?_)
            refine P_l (fun hJ _ _ q => E_aload_n dX9_addWay_183 rfl (E_getR (b := 61) clX9 9 (by decide) flX9_51 (Or.inr ⟨_, rfl⟩) dX9_addWay_184 (kd37 hJ.1.1) (rf37_9 hJ.1.1) (by decide) (E_iload dX9_addWay_187 rfl (E_lload dX9_addWay_189 rfl q)))) ?_
            refine P_w (fun hJ _ _ q => E_last dX9_addWay_191 (kd61 hJ.1.1) (inB_vp g3) q) (fun hJ => Sy_wL hJ.1) rfl rfl rfl (fun σ5 hσ5 => ?_)
            exact P_ret (fun _ _ => E_vret rfl dX9_addWay_192)
          · skip
            refine P_l (fun hJ _ _ q => E_lload_n dX9_addWay_150 rfl (E_aload_n dX9_addWay_151 rfl (E_getR (b := 60) clX9 8 (by decide) flX9_47 (Or.inr ⟨_, rfl⟩) dX9_addWay_152 (kd37 hJ.1.1) (rf37_8 hJ.1.1) (by decide) (E_iload dX9_addWay_155 rfl (E_lald dX9_addWay_157 (kd60 hJ.1.1) (inB_vp g3) (E_lcmp dX9_addWay_158 q)))))) ?_
            refine P_if (c := (if (lg_cmp p2 (rL σ 60 (x2 : Int32).toNatClampNeg)) = 0 then (if (lg_cmp p3 (rL σ 61 (x2 : Int32).toNatClampNeg)) ≤ 0 then true else false) else true) = true) (pc1 := 192) (ls1 := [some (.ref 37), some (.int p1), some (.long p2), none, some (.long p3), none, some (.int x2)]) (st1 := []) (pc2 := 175) (ls2 := [some (.ref 37), some (.int p1), some (.long p2), none, some (.long p3), none, some (.int x2)]) (st2 := []) (fun hJ _ _ hX hY => ?_) ?_ ?_
            · skip
              refine E_if_ne 192 dX9_addWay_159 (by decide) (fun c_159_0 => ?_) (fun c_159_0 => ?_)
              · skip
                exact hX (by simp only [if_neg c_159_0])
              · skip
                refine E_lload dX9_addWay_162 rfl ?_
                refine E_aload_n dX9_addWay_164 rfl ?_
                refine E_getR (b := 61) clX9 9 (by decide) flX9_51 (Or.inr ⟨_, rfl⟩) dX9_addWay_165 (kd37 hJ.1.1) (rf37_9 hJ.1.1) (by decide) ?_
                refine E_iload dX9_addWay_168 rfl ?_
                refine E_lald dX9_addWay_170 (kd61 hJ.1.1) (inB_vp g3) ?_
                refine E_lcmp dX9_addWay_171 ?_
                refine E_if_le 192 dX9_addWay_172 (by decide) (fun c_172_1 => ?_) (fun c_172_1 => ?_)
                · skip
                  exact hX (by simp only [if_pos c_159_0, if_pos c_172_1])
                · skip
                  exact hY (by simp only [if_pos c_159_0, if_neg c_172_1]; exact Bool.false_ne_true)
            · skip
              exact P_ret (fun _ _ => E_vret rfl dX9_addWay_192)
            · skip
              refine P_l (fun hJ _ _ q => E_aload_n dX9_addWay_175 rfl (E_getR (b := 60) clX9 8 (by decide) flX9_47 (Or.inr ⟨_, rfl⟩) dX9_addWay_176 (kd37 hJ.1.1) (rf37_8 hJ.1.1) (by decide) (E_iload dX9_addWay_179 rfl (E_lload_n dX9_addWay_181 rfl q)))) ?_
              refine P_w (fun hJ _ _ q => E_last dX9_addWay_182 (kd60 hJ.1.1) (inB_vp g3) q) (fun hJ => Sy_wL hJ.1) rfl rfl rfl (fun σ6 hσ6 => ?_)
              refine P_l (fun hJ _ _ q => E_aload_n dX9_addWay_183 rfl (E_getR (b := 61) clX9 9 (by decide) flX9_51 (Or.inr ⟨_, rfl⟩) dX9_addWay_184 (kd37 hJ.1.1) (rf37_9 hJ.1.1) (by decide) (E_iload dX9_addWay_187 rfl (E_lload dX9_addWay_189 rfl q)))) ?_
              refine P_w (fun hJ _ _ q => E_last dX9_addWay_191 (kd61 hJ.1.1) (inB_vp g3) q) (fun hJ => Sy_wL hJ.1) rfl rfl rfl (fun σ7 hσ7 => ?_)
              exact P_ret (fun _ _ => E_vret rfl dX9_addWay_192)
      · skip
        refine P_l (fun hJ _ _ q => E_aload_n dX9_addWay_112 rfl (E_getR (b := 60) clX9 8 (by decide) flX9_47 (Or.inr ⟨_, rfl⟩) dX9_addWay_113 (kd37 hJ.1.1) (rf37_8 hJ.1.1) (by decide) (E_iload dX9_addWay_116 rfl (E_dup2 dX9_addWay_118 rfl rfl q)))) ?_
        refine P_g (fun g8 => ?_)
        refine P_l (fun hJ _ _ q => E_lald dX9_addWay_119 (kd60 hJ.1.1) (inB_vp g8) (E_lload_n dX9_addWay_120 rfl (E_lor dX9_addWay_121 q))) ?_
        refine P_w (fun hJ _ _ q => E_last dX9_addWay_122 (kd60 hJ.1.1) (inB_vp g8) q) (fun hJ => Sy_wL hJ.1) rfl rfl rfl (fun σ9 hσ9 => ?_)
        refine P_l (fun hJ _ _ q => E_goto 192 dX9_addWay_123 (by decide) q) ?_
        exact P_ret (fun _ _ => E_vret rfl dX9_addWay_192)
    · skip
      refine P_l (fun hJ _ _ q => E_aload_n dX9_addWay_36 rfl (E_getR (b := 62) clX9 10 (by decide) flX9_54 (Or.inr ⟨_, rfl⟩) dX9_addWay_37 (kd37 hJ.1.1) (rf37_10 hJ.1.1) (by decide) (E_iload_n dX9_addWay_40 rfl (E_aload_n dX9_addWay_41 rfl (E_getI clX9 11 (by decide) flX9_151 (Or.inl rfl) dX9_addWay_42 (kd37 hJ.1.1) (E_iconst (v := 1) dX9_addWay_45 (by decide) (E_iadd dX9_addWay_46 q))))))) ?_
      refine P_w (fun hJ _ _ q => E_iast dX9_addWay_47 (kd62 hJ.1.1) (by decide) (inB_vp g1) q) (fun hJ => Sy_wI hJ.1) rfl rfl rfl (fun σ10 hσ10 => ?_)
      refine P_l (fun hJ _ _ q => E_aload_n dX9_addWay_48 rfl (E_getR (b := 59) clX9 7 (by decide) flX9_44 (Or.inr ⟨_, rfl⟩) dX9_addWay_49 (kd37 hJ.1.1) (rf37_7 hJ.1.1) (by decide) (E_aload_n dX9_addWay_52 rfl (E_getI clX9 11 (by decide) flX9_151 (Or.inl rfl) dX9_addWay_53 (kd37 hJ.1.1) (E_iload_n dX9_addWay_56 rfl q))))) ?_
      refine P_g (fun g11 => ?_)
      refine P_w (fun hJ _ _ q => E_iast dX9_addWay_57 (kd59 hJ.1.1) (by decide) (inB_vp g11) q) (fun hJ => Sy_wI hJ.1) rfl rfl rfl (fun σ12 hσ12 => ?_)
      refine P_l (fun hJ _ _ q => E_aload_n dX9_addWay_58 rfl (E_getR (b := 60) clX9 8 (by decide) flX9_47 (Or.inr ⟨_, rfl⟩) dX9_addWay_59 (kd37 hJ.1.1) (rf37_8 hJ.1.1) (by decide) (E_aload_n dX9_addWay_62 rfl (E_getI clX9 11 (by decide) flX9_151 (Or.inl rfl) dX9_addWay_63 (kd37 hJ.1.1) (E_lload_n dX9_addWay_66 rfl q))))) ?_
      refine P_g (fun g13 => ?_)
      refine P_w (fun hJ _ _ q => E_last dX9_addWay_67 (kd60 hJ.1.1) (inB_vp g13) q) (fun hJ => Sy_wL hJ.1) rfl rfl rfl (fun σ14 hσ14 => ?_)
      refine P_l (fun hJ _ _ q => E_aload_n dX9_addWay_68 rfl (E_getR (b := 61) clX9 9 (by decide) flX9_51 (Or.inr ⟨_, rfl⟩) dX9_addWay_69 (kd37 hJ.1.1) (rf37_9 hJ.1.1) (by decide) (E_aload_n dX9_addWay_72 rfl (E_getI clX9 11 (by decide) flX9_151 (Or.inl rfl) dX9_addWay_73 (kd37 hJ.1.1) (E_lload dX9_addWay_76 rfl q))))) ?_
      refine P_g (fun g15 => ?_)
      refine P_w (fun hJ _ _ q => E_last dX9_addWay_78 (kd61 hJ.1.1) (inB_vp g15) q) (fun hJ => Sy_wL hJ.1) rfl rfl rfl (fun σ16 hσ16 => ?_)
      refine P_l (fun hJ _ _ q => E_aload_n dX9_addWay_79 rfl (E_dup dX9_addWay_80 rfl (E_getI clX9 11 (by decide) flX9_151 (Or.inl rfl) dX9_addWay_81 (kd37 hJ.1.1) (E_iconst (v := 1) dX9_addWay_84 (by decide) (E_iadd dX9_addWay_85 q))))) ?_
      refine P_w (fun hJ _ _ q => E_putI clX9 11 (by decide) flX9_151 (Or.inl rfl) rfl dX9_addWay_86 (kd37 hJ.1.1) q) (fun hJ => Sy_wI hJ.1) rfl rfl rfl (fun σ17 hσ17 => ?_)
      refine P_l (fun hJ _ _ q => E_goto 192 dX9_addWay_89 (by decide) q) ?_
      exact P_ret (fun _ _ => E_vret rfl dX9_addWay_192)

def b_X9_groupAway_29 (σ : rS) (p1 : Int32) (p2 : Int32) (s4 : Int32 × Int64 × Int64 × Int32) : Option (((Unit × rS) ⊕ (Int32 × Int64 × Int64)) ⊕ (Int32 × Int64 × Int64 × Int32)) := if 4 ≤ s4.2.2.2 then (some (.inl (.inr ((s4.1, s4.2.1, s4.2.2.1))))) else (oLet ((p2 >>> ((4 * s4.2.2.2) &&& 31)) &&& 3 : Int32) fun x5 => oLet (s4.1 + ((vAt (rI σ 48) 52 (v_X9_kindOf σ s4.2.2.2 p1)) <<< ((4 * s4.2.2.2) &&& 31)) : Int32) fun x6 => oLet ((if x5 ≤ 0 then s4.2.1 else (if (rI σ 37 17) = 3 then (s4.2.1 ||| ((1 : Int64) <<< (((v_X9_kindOf σ s4.2.2.2 p1 : Int32)).toInt64 &&& 63))) else (s4.2.1 + ((((x5 : Int32)).toInt64) * (v_X9_firstWeight σ (v_X9_kindOf σ s4.2.2.2 p1))))) : Int64) : Int64) fun x7 => oLet ((if x5 ≤ 0 then s4.2.2.1 else (if (rI σ 37 17) = 3 then s4.2.2.1 else (s4.2.2.1 + ((((x5 : Int32)).toInt64) * (v_X9_secondWeight σ (v_X9_kindOf σ s4.2.2.2 p1))))) : Int64) : Int64) fun x8 => some (.inr ((x6, x7, x8, s4.2.2.2 + 1))))
def b_X9_groupAway_140 (j3 : Int32 × Int64 × Int64) (s9 : Int32 × rS) : Option ((Unit × rS) ⊕ (Int32 × rS)) := if 21 ≤ s9.1 then (some (.inl (((), s9.2)))) else (if inB s9.1 21 then (oLet ((j3.1 ||| 34952) - (rI s9.2 1 (s9.1 : Int32).toNatClampNeg) : Int32) fun x11 => if (x11 &&& 34952) = 34952 then (oLet ((if s9.1 = 0 then 0 else (if 6 ≤ s9.1 then 2 else 1) : Int32) : Int32) fun x12 => oB (f_X9_addWay s9.2 (x11 &&& 13107) ((if (rI s9.2 37 17) = 2 then (((x12 : Int32)).toInt64) else j3.2.1 : Int64)) j3.2.2) fun _ σ14 => some (.inr ((s9.1 + 1, σ14)))) else (some (.inr ((s9.1 + 1, s9.2))))) else none)
def f_X9_groupAway (σ : rS) (p1 : Int32) (p2 : Int32) : Option (Unit × rS) := oLet ((if (rI σ 37 17) = 3 then (if p2 = 0 then (4503599627370496 : Int64) else (0 : Int64)) else (0 : Int64) : Int64) : Int64) fun x1 => oJoin (oLoop (b_X9_groupAway_29 σ p1 p2) oFuel ((p2, x1, (0 : Int64), 0))) fun j3 => oLoop (b_X9_groupAway_140 j3) oFuel ((0, σ))
set_option maxRecDepth 20000 in
set_option maxHeartbeats 2000000 in
theorem ok_X9_groupAway {σ : rS} {p1 : Int32} {p2 : Int32}   : rFn Sy yX9_groupAway mX9_groupAway 1 [.ref 37, .int p1, .int p2] σ 0 0 (fun _ => .inl none) (f_X9_groupAway σ p1 p2) := by
  refine rF_of (ls := [some (.ref 37), some (.int p1), some (.int p2), none, none, none, none, none, none, none, none]) yfX9_groupAway rfl (Nat.le_of_ble_eq_true rfl) (fun o τ => ?_)
  unfold f_X9_groupAway
  refine P_l (fun hJ _ _ q => E_iload_n dX9_groupAway_0 rfl (E_istore_n (ls2 := [some (.ref 37), some (.int p1), some (.int p2), some (.int p2), none, none, none, none, none, none, none]) dX9_groupAway_1 (by decide) rfl (E_aload_n dX9_groupAway_2 rfl (E_getI clX9 17 (by decide) flX9_101 (Or.inl rfl) dX9_groupAway_3 (kd37 hJ.1.1) (E_iconst (v := 3) dX9_groupAway_6 (by decide) q))))) ?_
  refine P_l (pc2 := 21) (ls2 := [some (.ref 37), some (.int p1), some (.int p2), some (.int p2), none, none, none, none, none, none, none]) (st2 := [.long ((if (rI σ 37 17) = 3 then (if p2 = 0 then (4503599627370496 : Int64) else (0 : Int64)) else (0 : Int64) : Int64))]) (fun hJ _ _ hq => ?_) ?_
  · skip
    refine E_icmp_ne 20 dX9_groupAway_7 (by decide) (fun c_7_0 => ?_) (fun c_7_0 => ?_)
    · skip
      refine E_lconst (v := 0) dX9_groupAway_20 (by decide) ?_
      simp only [if_neg c_7_0] at hq
      exact hq
    · skip
      refine E_iload_n dX9_groupAway_10 rfl ?_
      refine E_if_ne 20 dX9_groupAway_11 (by decide) (fun c_11_1 => ?_) (fun c_11_1 => ?_)
      · skip
        refine E_lconst (v := 0) dX9_groupAway_20 (by decide) ?_
        simp only [if_pos c_7_0, if_neg c_11_1] at hq
        exact hq
      · skip
        refine E_ldc2 dX9_groupAway_14 kcX9_123 ?_
        refine E_goto 21 dX9_groupAway_17 (by decide) ?_
        simp only [if_pos c_7_0, if_pos c_11_1] at hq
        exact hq
  · skip
    refine P_l (fun hJ _ _ q => E_lstore (ls2 := [some (.ref 37), some (.int p1), some (.int p2), some (.int p2), some (.long ((if (rI σ 37 17) = 3 then (if p2 = 0 then (4503599627370496 : Int64) else (0 : Int64)) else (0 : Int64) : Int64))), none, none, none, none, none, none]) dX9_groupAway_21 (by decide) rfl q) ?_
    refine P_v ((if (rI σ 37 17) = 3 then (if p2 = 0 then (4503599627370496 : Int64) else (0 : Int64)) else (0 : Int64) : Int64)) (fun x => [some (.ref 37), some (.int p1), some (.int p2), some (.int p2), some (.long x), none, none, none, none, none, none]) (fun x1 => ?_)
    refine P_l (fun hJ _ _ q => E_lconst (v := 0) dX9_groupAway_23 (by decide) (E_lstore (ls2 := [some (.ref 37), some (.int p1), some (.int p2), some (.int p2), some (.long x1), none, some (.long (0 : Int64)), none, none, none, none]) dX9_groupAway_24 (by decide) rfl (E_iconst (v := 0) dX9_groupAway_26 (by decide) (E_istore (ls2 := [some (.ref 37), some (.int p1), some (.int p2), some (.int p2), some (.long x1), none, some (.long (0 : Int64)), none, some (.int 0), none, none]) dX9_groupAway_27 (by decide) rfl q)))) ?_
    refine P_join (pc2 := 137) (fun j3 => [some (.ref 37), none, none, some (.int j3.1), some (.long j3.2.1), none, some (.long j3.2.2), none, none, none, none]) (fun j3 => []) (fun _ => σ) ?_ (fun j3 => ?_)
    · skip
      refine P_loop (fun s4 => [some (.ref 37), some (.int p1), some (.int p2), some (.int s4.1), some (.long s4.2.1), none, some (.long s4.2.2.1), none, some (.int s4.2.2.2), none, none]) (fun _ => σ) (fun s4 => ?_) _ ((p2, x1, (0 : Int64), 0))
      unfold b_X9_groupAway_29
      refine P_l (fun hJ _ _ q => E_iload dX9_groupAway_29 rfl (E_iconst (v := 4) dX9_groupAway_31 (by decide) q)) ?_
      refine P_if (fun hJ _ _ h1 h2 => E_icmp_ge 137 dX9_groupAway_32 (by decide) h1 h2) ?_ ?_
      · skip
        refine P_less [some (.ref 37), none, none, some (.int s4.1), some (.long s4.2.1), none, some (.long s4.2.2.1), none, none, none, none] (And.intro rfl (And.intro rfl (And.intro rfl (And.intro rfl trivial)))) ?_
        exact P_inl (P_back ((s4.1, s4.2.1, s4.2.2.1)))
      · skip
        refine P_l (fun hJ _ _ q => E_aload_n dX9_groupAway_35 rfl (E_iload dX9_groupAway_36 rfl (E_iload_n dX9_groupAway_38 rfl (E_callV (as := [.int s4.2.2.2, .int p1]) (b := 37) (st := []) (ok_X9_kindOf (σ := σ) (p1 := s4.2.2.2) (p2 := p1) hJ ) (by decide) yfX9_kindOf mlX9_141 imX9_kindOf seX9_kindOf clX9 (kd37 hJ.1.1) rfl (Nat.le_of_ble_eq_true rfl) rfl dX9_groupAway_39 (E_istore (ls2 := [some (.ref 37), some (.int p1), some (.int p2), some (.int s4.1), some (.long s4.2.1), none, some (.long s4.2.2.1), none, some (.int s4.2.2.2), some (.int (v_X9_kindOf σ s4.2.2.2 p1)), none]) dX9_groupAway_42 (by decide) rfl (E_iload_n dX9_groupAway_44 rfl (E_iconst (v := 4) dX9_groupAway_45 (by decide) (E_iload dX9_groupAway_46 rfl (E_imul dX9_groupAway_48 (E_ishr dX9_groupAway_49 (E_iconst (v := 3) dX9_groupAway_50 (by decide) (E_iand dX9_groupAway_51 (E_istore (ls2 := [some (.ref 37), some (.int p1), some (.int p2), some (.int s4.1), some (.long s4.2.1), none, some (.long s4.2.2.1), none, some (.int s4.2.2.2), some (.int (v_X9_kindOf σ s4.2.2.2 p1)), some (.int ((p2 >>> ((4 * s4.2.2.2) &&& 31)) &&& 3))]) dX9_groupAway_52 (by decide) rfl q))))))))))))) ?_
        refine P_v ((p2 >>> ((4 * s4.2.2.2) &&& 31)) &&& 3) (fun x => [some (.ref 37), some (.int p1), some (.int p2), some (.int s4.1), some (.long s4.2.1), none, some (.long s4.2.2.1), none, some (.int s4.2.2.2), some (.int (v_X9_kindOf σ s4.2.2.2 p1)), some (.int x)]) (fun x5 => ?_)
        refine P_l (fun hJ _ _ q => E_iload_n dX9_groupAway_54 rfl (E_aload_n dX9_groupAway_55 rfl (E_getR (b := 48) clX9 2 (by decide) flX9_23 (Or.inr ⟨_, rfl⟩) dX9_groupAway_56 (kd37 hJ.1.1) (rf37_2 hJ.1.1) (by decide) (E_iload dX9_groupAway_59 rfl (E_callSN (as := [.ref 48, .int (v_X9_kindOf σ s4.2.2.2 p1)]) (st := [.int s4.1]) (ok_at (σ := σ) (a := 48) (i := v_X9_kindOf σ s4.2.2.2 p1) (f := rI σ 48) (kd48 hJ.1.1) (by decide) rfl) (by decide) yfX10_at mlX9_78 stX10_at rfl (Nat.le_of_ble_eq_true rfl) rfl dX9_groupAway_61 (E_iconst (v := 4) dX9_groupAway_64 (by decide) (E_iload dX9_groupAway_65 rfl (E_imul dX9_groupAway_67 (E_ishl dX9_groupAway_68 (E_iadd dX9_groupAway_69 (E_istore_n (ls2 := [some (.ref 37), some (.int p1), some (.int p2), some (.int (s4.1 + ((vAt (rI σ 48) 52 (v_X9_kindOf σ s4.2.2.2 p1)) <<< ((4 * s4.2.2.2) &&& 31)))), some (.long s4.2.1), none, some (.long s4.2.2.1), none, some (.int s4.2.2.2), some (.int (v_X9_kindOf σ s4.2.2.2 p1)), some (.int x5)]) dX9_groupAway_70 (by decide) rfl q))))))))))) ?_
        refine P_v (s4.1 + ((vAt (rI σ 48) 52 (v_X9_kindOf σ s4.2.2.2 p1)) <<< ((4 * s4.2.2.2) &&& 31))) (fun x => [some (.ref 37), some (.int p1), some (.int p2), some (.int x), some (.long s4.2.1), none, some (.long s4.2.2.1), none, some (.int s4.2.2.2), some (.int (v_X9_kindOf σ s4.2.2.2 p1)), some (.int x5)]) (fun x6 => ?_)
        refine P_l (fun hJ _ _ q => E_iload dX9_groupAway_71 rfl q) ?_
        refine P_l (pc2 := 131) (ls2 := [some (.ref 37), some (.int p1), some (.int p2), some (.int x6), some (.long ((if x5 ≤ 0 then s4.2.1 else (if (rI σ 37 17) = 3 then (s4.2.1 ||| ((1 : Int64) <<< (((v_X9_kindOf σ s4.2.2.2 p1 : Int32)).toInt64 &&& 63))) else (s4.2.1 + ((((x5 : Int32)).toInt64) * (v_X9_firstWeight σ (v_X9_kindOf σ s4.2.2.2 p1))))) : Int64))), none, some (.long ((if x5 ≤ 0 then s4.2.2.1 else (if (rI σ 37 17) = 3 then s4.2.2.1 else (s4.2.2.1 + ((((x5 : Int32)).toInt64) * (v_X9_secondWeight σ (v_X9_kindOf σ s4.2.2.2 p1))))) : Int64))), none, some (.int s4.2.2.2), none, none]) (st2 := []) (fun hJ _ _ hq => ?_) ?_
        · skip
          refine E_if_le 96 dX9_groupAway_73 (by decide) (fun c_73_0 => ?_) (fun c_73_0 => ?_)
          · skip
            refine E_iload dX9_groupAway_96 rfl ?_
            refine E_if_le 131 dX9_groupAway_98 (by decide) (fun c_98_1 => ?_) (fun c_98_1 => ?_)
            · skip
              simp only [if_pos c_73_0] at hq
              exact E_less (ls2 := [some (.ref 37), some (.int p1), some (.int p2), some (.int x6), some (.long s4.2.1), none, some (.long s4.2.2.1), none, some (.int s4.2.2.2), none, none]) hq (rLe_at [some (.ref 37), some (.int p1), some (.int p2), some (.int x6), some (.long s4.2.1), none, some (.long s4.2.2.1), none, some (.int s4.2.2.2), none, none] [some (.ref 37), some (.int p1), some (.int p2), some (.int x6), some (.long s4.2.1), none, some (.long s4.2.2.1), none, some (.int s4.2.2.2), some (.int (v_X9_kindOf σ s4.2.2.2 p1)), some (.int x5)] (And.intro rfl (And.intro rfl (And.intro rfl (And.intro rfl (And.intro rfl (And.intro rfl (And.intro rfl trivial))))))))
            · skip
              exact absurd c_73_0 c_98_1
          · skip
            refine E_aload_n dX9_groupAway_76 rfl ?_
            refine E_getI clX9 17 (by decide) flX9_101 (Or.inl rfl) dX9_groupAway_77 (kd37 hJ.1.1) ?_
            refine E_iconst (v := 3) dX9_groupAway_80 (by decide) ?_
            refine E_icmp_ne 96 dX9_groupAway_81 (by decide) (fun c_81_1 => ?_) (fun c_81_1 => ?_)
            · skip
              refine E_iload dX9_groupAway_96 rfl ?_
              refine E_if_le 131 dX9_groupAway_98 (by decide) (fun c_98_2 => ?_) (fun c_98_2 => ?_)
              · skip
                exact absurd c_98_2 c_73_0
              · skip
                refine E_lload dX9_groupAway_101 rfl ?_
                refine E_iload dX9_groupAway_103 rfl ?_
                refine E_i2l dX9_groupAway_105 ?_
                refine E_aload_n dX9_groupAway_106 rfl ?_
                refine E_iload dX9_groupAway_107 rfl ?_
                refine E_callV (as := [.int (v_X9_kindOf σ s4.2.2.2 p1)]) (b := 37) (st := [.long (((x5 : Int32)).toInt64), .long s4.2.1]) (ok_X9_firstWeight (σ := σ) (p1 := v_X9_kindOf σ s4.2.2.2 p1) hJ ) (by decide) yfX9_firstWeight mlX9_158 imX9_firstWeight seX9_firstWeight clX9 (kd37 hJ.1.1) rfl (Nat.le_of_ble_eq_true rfl) rfl dX9_groupAway_109 ?_
                refine E_lmul dX9_groupAway_112 ?_
                refine E_ladd dX9_groupAway_113 ?_
                refine E_lstore (ls2 := [some (.ref 37), some (.int p1), some (.int p2), some (.int x6), some (.long (s4.2.1 + ((((x5 : Int32)).toInt64) * (v_X9_firstWeight σ (v_X9_kindOf σ s4.2.2.2 p1))))), none, some (.long s4.2.2.1), none, some (.int s4.2.2.2), some (.int (v_X9_kindOf σ s4.2.2.2 p1)), some (.int x5)]) dX9_groupAway_114 (by decide) rfl ?_
                refine E_lload dX9_groupAway_116 rfl ?_
                refine E_iload dX9_groupAway_118 rfl ?_
                refine E_i2l dX9_groupAway_120 ?_
                refine E_aload_n dX9_groupAway_121 rfl ?_
                refine E_iload dX9_groupAway_122 rfl ?_
                refine E_callV (as := [.int (v_X9_kindOf σ s4.2.2.2 p1)]) (b := 37) (st := [.long (((x5 : Int32)).toInt64), .long s4.2.2.1]) (ok_X9_secondWeight (σ := σ) (p1 := v_X9_kindOf σ s4.2.2.2 p1) hJ ) (by decide) yfX9_secondWeight mlX9_162 imX9_secondWeight seX9_secondWeight clX9 (kd37 hJ.1.1) rfl (Nat.le_of_ble_eq_true rfl) rfl dX9_groupAway_124 ?_
                refine E_lmul dX9_groupAway_127 ?_
                refine E_ladd dX9_groupAway_128 ?_
                refine E_lstore (ls2 := [some (.ref 37), some (.int p1), some (.int p2), some (.int x6), some (.long (s4.2.1 + ((((x5 : Int32)).toInt64) * (v_X9_firstWeight σ (v_X9_kindOf σ s4.2.2.2 p1))))), none, some (.long (s4.2.2.1 + ((((x5 : Int32)).toInt64) * (v_X9_secondWeight σ (v_X9_kindOf σ s4.2.2.2 p1))))), none, some (.int s4.2.2.2), some (.int (v_X9_kindOf σ s4.2.2.2 p1)), some (.int x5)]) dX9_groupAway_129 (by decide) rfl ?_
                simp only [if_neg c_73_0, if_neg c_81_1] at hq
                exact E_less (ls2 := [some (.ref 37), some (.int p1), some (.int p2), some (.int x6), some (.long (s4.2.1 + ((((x5 : Int32)).toInt64) * (v_X9_firstWeight σ (v_X9_kindOf σ s4.2.2.2 p1))))), none, some (.long (s4.2.2.1 + ((((x5 : Int32)).toInt64) * (v_X9_secondWeight σ (v_X9_kindOf σ s4.2.2.2 p1))))), none, some (.int s4.2.2.2), none, none]) hq (rLe_at [some (.ref 37), some (.int p1), some (.int p2), some (.int x6), some (.long (s4.2.1 + ((((x5 : Int32)).toInt64) * (v_X9_firstWeight σ (v_X9_kindOf σ s4.2.2.2 p1))))), none, some (.long (s4.2.2.1 + ((((x5 : Int32)).toInt64) * (v_X9_secondWeight σ (v_X9_kindOf σ s4.2.2.2 p1))))), none, some (.int s4.2.2.2), none, none] [some (.ref 37), some (.int p1), some (.int p2), some (.int x6), some (.long (s4.2.1 + ((((x5 : Int32)).toInt64) * (v_X9_firstWeight σ (v_X9_kindOf σ s4.2.2.2 p1))))), none, some (.long (s4.2.2.1 + ((((x5 : Int32)).toInt64) * (v_X9_secondWeight σ (v_X9_kindOf σ s4.2.2.2 p1))))), none, some (.int s4.2.2.2), some (.int (v_X9_kindOf σ s4.2.2.2 p1)), some (.int x5)] (And.intro rfl (And.intro rfl (And.intro rfl (And.intro rfl (And.intro rfl (And.intro rfl (And.intro rfl trivial))))))))
            · skip
              refine E_lload dX9_groupAway_84 rfl ?_
              refine E_lconst (v := 1) dX9_groupAway_86 (by decide) ?_
              refine E_iload dX9_groupAway_87 rfl ?_
              refine E_lshl dX9_groupAway_89 ?_
              refine E_lor dX9_groupAway_90 ?_
              refine E_lstore (ls2 := [some (.ref 37), some (.int p1), some (.int p2), some (.int x6), some (.long (s4.2.1 ||| ((1 : Int64) <<< (((v_X9_kindOf σ s4.2.2.2 p1 : Int32)).toInt64 &&& 63)))), none, some (.long s4.2.2.1), none, some (.int s4.2.2.2), some (.int (v_X9_kindOf σ s4.2.2.2 p1)), some (.int x5)]) dX9_groupAway_91 (by decide) rfl ?_
              refine E_goto 131 dX9_groupAway_93 (by decide) ?_
              simp only [if_neg c_73_0, if_pos c_81_1] at hq
              exact E_less (ls2 := [some (.ref 37), some (.int p1), some (.int p2), some (.int x6), some (.long (s4.2.1 ||| ((1 : Int64) <<< (((v_X9_kindOf σ s4.2.2.2 p1 : Int32)).toInt64 &&& 63)))), none, some (.long s4.2.2.1), none, some (.int s4.2.2.2), none, none]) hq (rLe_at [some (.ref 37), some (.int p1), some (.int p2), some (.int x6), some (.long (s4.2.1 ||| ((1 : Int64) <<< (((v_X9_kindOf σ s4.2.2.2 p1 : Int32)).toInt64 &&& 63)))), none, some (.long s4.2.2.1), none, some (.int s4.2.2.2), none, none] [some (.ref 37), some (.int p1), some (.int p2), some (.int x6), some (.long (s4.2.1 ||| ((1 : Int64) <<< (((v_X9_kindOf σ s4.2.2.2 p1 : Int32)).toInt64 &&& 63)))), none, some (.long s4.2.2.1), none, some (.int s4.2.2.2), some (.int (v_X9_kindOf σ s4.2.2.2 p1)), some (.int x5)] (And.intro rfl (And.intro rfl (And.intro rfl (And.intro rfl (And.intro rfl (And.intro rfl (And.intro rfl trivial))))))))
        · skip
          refine P_v ((if x5 ≤ 0 then s4.2.1 else (if (rI σ 37 17) = 3 then (s4.2.1 ||| ((1 : Int64) <<< (((v_X9_kindOf σ s4.2.2.2 p1 : Int32)).toInt64 &&& 63))) else (s4.2.1 + ((((x5 : Int32)).toInt64) * (v_X9_firstWeight σ (v_X9_kindOf σ s4.2.2.2 p1))))) : Int64)) (fun x => [some (.ref 37), some (.int p1), some (.int p2), some (.int x6), some (.long x), none, some (.long ((if x5 ≤ 0 then s4.2.2.1 else (if (rI σ 37 17) = 3 then s4.2.2.1 else (s4.2.2.1 + ((((x5 : Int32)).toInt64) * (v_X9_secondWeight σ (v_X9_kindOf σ s4.2.2.2 p1))))) : Int64))), none, some (.int s4.2.2.2), none, none]) (fun x7 => ?_)
          refine P_v ((if x5 ≤ 0 then s4.2.2.1 else (if (rI σ 37 17) = 3 then s4.2.2.1 else (s4.2.2.1 + ((((x5 : Int32)).toInt64) * (v_X9_secondWeight σ (v_X9_kindOf σ s4.2.2.2 p1))))) : Int64)) (fun x => [some (.ref 37), some (.int p1), some (.int p2), some (.int x6), some (.long x7), none, some (.long x), none, some (.int s4.2.2.2), none, none]) (fun x8 => ?_)
          refine P_l (fun hJ _ _ q => E_iinc (v := 1) (ls2 := [some (.ref 37), some (.int p1), some (.int p2), some (.int x6), some (.long x7), none, some (.long x8), none, some (.int (s4.2.2.2 + 1)), none, none]) dX9_groupAway_131 rfl (by decide) (by decide) rfl (E_goto 29 dX9_groupAway_134 (by decide) q)) ?_
          exact P_back ((x6, x7, x8, s4.2.2.2 + 1))
    · skip
      refine P_l (fun hJ _ _ q => E_iconst (v := 0) dX9_groupAway_137 (by decide) (E_istore (ls2 := [some (.ref 37), none, none, some (.int j3.1), some (.long j3.2.1), none, some (.long j3.2.2), none, some (.int 0), none, none]) dX9_groupAway_138 (by decide) rfl q)) ?_
      refine P_loop (fun s9 => [some (.ref 37), none, none, some (.int j3.1), some (.long j3.2.1), none, some (.long j3.2.2), none, some (.int s9.1), none, none]) (fun s9 => s9.2) (fun s9 => ?_) _ ((0, σ))
      unfold b_X9_groupAway_140
      refine P_l (fun hJ _ _ q => E_iload dX9_groupAway_140 rfl (E_getsN flX9_165 dX9_groupAway_142 (E_alen (v := 21) dX9_groupAway_145 (Sy_one hJ.1) (by decide) rfl q))) ?_
      refine P_if (fun hJ _ _ h1 h2 => E_icmp_ge 229 dX9_groupAway_146 (by decide) h1 h2) ?_ ?_
      · skip
        exact P_inl (P_ret (fun _ _ => E_vret rfl dX9_groupAway_229))
      · skip
        refine P_l (fun hJ _ _ q => E_iload_n dX9_groupAway_149 rfl (E_ldc dX9_groupAway_150 kcX9_168 (E_ior dX9_groupAway_152 (E_getsN flX9_165 dX9_groupAway_153 (E_iload dX9_groupAway_156 rfl q))))) ?_
        refine P_g (fun g10 => ?_)
        refine P_l (fun hJ _ _ q => E_iald dX9_groupAway_158 (Sy_one hJ.1) (inB_vp g10) (E_isub dX9_groupAway_159 (E_istore (ls2 := [some (.ref 37), none, none, some (.int j3.1), some (.long j3.2.1), none, some (.long j3.2.2), none, some (.int s9.1), some (.int ((j3.1 ||| 34952) - (rI s9.2 1 (s9.1 : Int32).toNatClampNeg))), none]) dX9_groupAway_160 (by decide) rfl q))) ?_
        refine P_v ((j3.1 ||| 34952) - (rI s9.2 1 (s9.1 : Int32).toNatClampNeg)) (fun x => [some (.ref 37), none, none, some (.int j3.1), some (.long j3.2.1), none, some (.long j3.2.2), none, some (.int s9.1), some (.int x), none]) (fun x11 => ?_)
        refine P_l (fun hJ _ _ q => E_iload dX9_groupAway_162 rfl (E_ldc dX9_groupAway_164 kcX9_168 (E_iand dX9_groupAway_166 (E_ldc dX9_groupAway_167 kcX9_168 q)))) ?_
        refine P_if (fun hJ _ _ h1 h2 => E_icmp_ne 223 dX9_groupAway_169 (by decide) h2 h1) ?_ ?_
        · skip
          refine P_l (fun hJ _ _ q => E_iload dX9_groupAway_172 rfl q) ?_
          refine P_l (pc2 := 193) (ls2 := [some (.ref 37), none, none, some (.int j3.1), some (.long j3.2.1), none, some (.long j3.2.2), none, some (.int s9.1), some (.int x11), none]) (st2 := [.int ((if s9.1 = 0 then 0 else (if 6 ≤ s9.1 then 2 else 1) : Int32))]) (fun hJ _ _ hq => ?_) ?_
          · skip
            refine E_if_ne 181 dX9_groupAway_174 (by decide) (fun c_174_0 => ?_) (fun c_174_0 => ?_)
            · skip
              refine E_iload dX9_groupAway_181 rfl ?_
              refine E_bipush (v := 6) dX9_groupAway_183 (by decide) ?_
              refine E_icmp_ge 192 dX9_groupAway_185 (by decide) (fun c_185_1 => ?_) (fun c_185_1 => ?_)
              · skip
                refine E_iconst (v := 2) dX9_groupAway_192 (by decide) ?_
                simp only [if_neg c_174_0, if_pos c_185_1] at hq
                exact hq
              · skip
                refine E_iconst (v := 1) dX9_groupAway_188 (by decide) ?_
                refine E_goto 193 dX9_groupAway_189 (by decide) ?_
                simp only [if_neg c_174_0, if_neg c_185_1] at hq
                exact hq
            · skip
              refine E_iconst (v := 0) dX9_groupAway_177 (by decide) ?_
              refine E_goto 193 dX9_groupAway_178 (by decide) ?_
              simp only [if_pos c_174_0] at hq
              exact hq
          · skip
            refine P_l (fun hJ _ _ q => E_istore (ls2 := [some (.ref 37), none, none, some (.int j3.1), some (.long j3.2.1), none, some (.long j3.2.2), none, some (.int s9.1), some (.int x11), some (.int ((if s9.1 = 0 then 0 else (if 6 ≤ s9.1 then 2 else 1) : Int32)))]) dX9_groupAway_193 (by decide) rfl q) ?_
            refine P_v ((if s9.1 = 0 then 0 else (if 6 ≤ s9.1 then 2 else 1) : Int32)) (fun x => [some (.ref 37), none, none, some (.int j3.1), some (.long j3.2.1), none, some (.long j3.2.2), none, some (.int s9.1), some (.int x11), some (.int x)]) (fun x12 => ?_)
            refine P_l (fun hJ _ _ q => E_aload_n dX9_groupAway_195 rfl (E_iload dX9_groupAway_196 rfl (E_sipush (v := 13107) dX9_groupAway_198 (by decide) (E_iand dX9_groupAway_201 (E_aload_n dX9_groupAway_202 rfl (E_getI clX9 17 (by decide) flX9_101 (Or.inl rfl) dX9_groupAway_203 (kd37 hJ.1.1) (E_iconst (v := 2) dX9_groupAway_206 (by decide) q))))))) ?_
            refine P_l (pc2 := 218) (ls2 := [some (.ref 37), none, none, some (.int j3.1), some (.long j3.2.1), none, some (.long j3.2.2), none, some (.int s9.1), none, none]) (st2 := [.long ((if (rI s9.2 37 17) = 2 then (((x12 : Int32)).toInt64) else j3.2.1 : Int64)), .int (x11 &&& 13107), .ref 37]) (fun hJ _ _ hq => ?_) ?_
            · skip
              refine E_icmp_ne 216 dX9_groupAway_207 (by decide) (fun c_207_0 => ?_) (fun c_207_0 => ?_)
              · skip
                refine E_lload dX9_groupAway_216 rfl ?_
                simp only [if_neg c_207_0] at hq
                exact E_less (ls2 := [some (.ref 37), none, none, some (.int j3.1), some (.long j3.2.1), none, some (.long j3.2.2), none, some (.int s9.1), none, none]) hq (rLe_at [some (.ref 37), none, none, some (.int j3.1), some (.long j3.2.1), none, some (.long j3.2.2), none, some (.int s9.1), none, none] [some (.ref 37), none, none, some (.int j3.1), some (.long j3.2.1), none, some (.long j3.2.2), none, some (.int s9.1), some (.int x11), some (.int x12)] (And.intro rfl (And.intro rfl (And.intro rfl (And.intro rfl (And.intro rfl trivial))))))
              · skip
                refine E_iload dX9_groupAway_210 rfl ?_
                refine E_i2l dX9_groupAway_212 ?_
                refine E_goto 218 dX9_groupAway_213 (by decide) ?_
                simp only [if_pos c_207_0] at hq
                exact E_less (ls2 := [some (.ref 37), none, none, some (.int j3.1), some (.long j3.2.1), none, some (.long j3.2.2), none, some (.int s9.1), none, none]) hq (rLe_at [some (.ref 37), none, none, some (.int j3.1), some (.long j3.2.1), none, some (.long j3.2.2), none, some (.int s9.1), none, none] [some (.ref 37), none, none, some (.int j3.1), some (.long j3.2.1), none, some (.long j3.2.2), none, some (.int s9.1), some (.int x11), some (.int x12)] (And.intro rfl (And.intro rfl (And.intro rfl (And.intro rfl (And.intro rfl trivial))))))
            · skip
              refine P_l (fun hJ _ _ q => E_lload dX9_groupAway_218 rfl q) ?_
              refine P_call (t := fun _ => none) (st2 := fun _ => []) (kc2 := 0) (ks2 := 0) (fun hJ => (ok_X9_addWay (σ := s9.2) (p1 := x11 &&& 13107) (p2 := (if (rI s9.2 37 17) = 2 then (((x12 : Int32)).toInt64) else j3.2.1 : Int64)) (p3 := j3.2.2) )) (fun hJ _ _ _ _ v τ1 hM q => E_callV (as := [.int (x11 &&& 13107), .long ((if (rI s9.2 37 17) = 2 then (((x12 : Int32)).toInt64) else j3.2.1 : Int64)), .long j3.2.2]) (b := 37) (st := []) hM (by decide) yfX9_addWay mlX9_169 imX9_addWay seX9_addWay clX9 (kd37 hJ.1.1) rfl (Nat.le_of_ble_eq_true rfl) rfl dX9_groupAway_220 q) (by decide) (by decide) (fun v13 σ14 => ?_)
              refine P_l (fun hJ _ _ q => E_iinc (v := 1) (ls2 := [some (.ref 37), none, none, some (.int j3.1), some (.long j3.2.1), none, some (.long j3.2.2), none, some (.int (s9.1 + 1)), none, none]) dX9_groupAway_223 rfl (by decide) (by decide) rfl (E_goto 140 dX9_groupAway_226 (by decide) q)) ?_
              exact P_back ((s9.1 + 1, σ14))
        · skip
          refine P_l (fun hJ _ _ q => E_iinc (v := 1) (ls2 := [some (.ref 37), none, none, some (.int j3.1), some (.long j3.2.1), none, some (.long j3.2.2), none, some (.int (s9.1 + 1)), some (.int x11), none]) dX9_groupAway_223 rfl (by decide) (by decide) rfl (E_goto 140 dX9_groupAway_226 (by decide) q)) ?_
          refine P_less [some (.ref 37), none, none, some (.int j3.1), some (.long j3.2.1), none, some (.long j3.2.2), none, some (.int (s9.1 + 1)), none, none] (And.intro rfl (And.intro rfl (And.intro rfl (And.intro rfl (And.intro rfl trivial))))) ?_
          exact P_back ((s9.1 + 1, s9.2))

def b_X9_gatherWays_2 (s3 : Int32 × rS) : Option (((Unit × rS) ⊕ (rS)) ⊕ (Int32 × rS)) := if (if (rI s3.2 37 11) ≤ s3.1 then true else (if 81 ≤ s3.1 then true else false)) = true then (some (.inl (.inr s3.2))) else (if inB s3.1 81 then (oLet (rowI s3.2 62 (vSet (rI s3.2 62) 8739 (rI s3.2 59 (s3.1 : Int32).toNatClampNeg) 0)) fun σ5 => some (.inr ((s3.1 + 1, σ5)))) else none)
def b_X9_gatherWays_158 (p1 : Int32) (x10 : Int32) (s11 : Int32 × rS) (s12 : Int32 × rS) (s13 : Int32 × rS) (s14 : Int32 × rS) : Option (((((Unit × rS) ⊕ (Int32 × rS)) ⊕ (Int32 × rS)) ⊕ (Int32 × rS)) ⊕ (Int32 × rS)) := if x10 < s14.1 then (some (.inl (.inr ((s13.1 + 1, s14.2))))) else (if (if (rI s14.2 37 17) = 3 then (if 1 < (((s11.1 + s12.1) + s13.1) + s14.1) then false else true) else true) = true then (oB (f_X9_groupAway s14.2 p1 (((s11.1 ||| (s12.1 <<< ((4 : Int32) &&& 31))) ||| (s13.1 <<< ((8 : Int32) &&& 31))) ||| (s14.1 <<< ((12 : Int32) &&& 31)))) fun _ σ16 => some (.inr ((s14.1 + 1, σ16)))) else (some (.inr ((s14.1 + 1, s14.2)))))
def b_X9_gatherWays_148 (p1 : Int32) (x9 : Int32) (x10 : Int32) (s11 : Int32 × rS) (s12 : Int32 × rS) (s13 : Int32 × rS) : Option ((((Unit × rS) ⊕ (Int32 × rS)) ⊕ (Int32 × rS)) ⊕ (Int32 × rS)) := if x9 < s13.1 then (some (.inl (.inr ((s12.1 + 1, s13.2))))) else (oLoop (b_X9_gatherWays_158 p1 x10 s11 s12 s13) oFuel ((0, s13.2)))
def b_X9_gatherWays_139 (p1 : Int32) (x8 : Int32) (x9 : Int32) (x10 : Int32) (s11 : Int32 × rS) (s12 : Int32 × rS) : Option (((Unit × rS) ⊕ (Int32 × rS)) ⊕ (Int32 × rS)) := if x8 < s12.1 then (some (.inl (.inr ((s11.1 + 1, s12.2))))) else (oLoop (b_X9_gatherWays_148 p1 x9 x10 s11 s12) oFuel ((0, s12.2)))
def b_X9_gatherWays_130 (p1 : Int32) (x7 : Int32) (x8 : Int32) (x9 : Int32) (x10 : Int32) (s11 : Int32 × rS) : Option ((Unit × rS) ⊕ (Int32 × rS)) := if x7 < s11.1 then (some (.inl (((), s11.2)))) else (oLoop (b_X9_gatherWays_139 p1 x8 x9 x10 s11) oFuel ((0, s11.2)))
def f_X9_gatherWays (σ : rS) (p1 : Int32) : Option (Unit × rS) := oJoin (oLoop (b_X9_gatherWays_2) oFuel ((0, σ))) fun j2 => oLet (wI j2 37 11 0) fun σ6 => oLet ((v_X9_mostOf σ6 0 p1) - (vAt (rI σ6 48) 52 (v_X9_kindOf σ6 0 p1)) : Int32) fun x7 => oLet ((v_X9_mostOf σ6 1 p1) - (vAt (rI σ6 48) 52 (v_X9_kindOf σ6 1 p1)) : Int32) fun x8 => oLet ((v_X9_mostOf σ6 2 p1) - (vAt (rI σ6 48) 52 (v_X9_kindOf σ6 2 p1)) : Int32) fun x9 => oLet ((v_X9_mostOf σ6 3 p1) - (vAt (rI σ6 48) 52 (v_X9_kindOf σ6 3 p1)) : Int32) fun x10 => oLoop (b_X9_gatherWays_130 p1 x7 x8 x9 x10) oFuel ((0, σ6))
set_option maxRecDepth 20000 in
set_option maxHeartbeats 2000000 in
theorem ok_X9_gatherWays {σ : rS} {p1 : Int32}   : rFn Sy yX9_gatherWays mX9_gatherWays 2 [.ref 37, .int p1] σ 0 0 (fun _ => .inl none) (f_X9_gatherWays σ p1) := by
  refine rF_of (ls := [some (.ref 37), some (.int p1), none, none, none, none, none, none, none, none]) yfX9_gatherWays rfl (Nat.le_of_ble_eq_true rfl) (fun o τ => ?_)
  unfold f_X9_gatherWays
  refine P_l (fun hJ _ _ q => E_iconst (v := 0) dX9_gatherWays_0 (by decide) (E_istore_n (ls2 := [some (.ref 37), some (.int p1), some (.int 0), none, none, none, none, none, none, none]) dX9_gatherWays_1 (by decide) rfl q)) ?_
  refine P_join (pc2 := 36) (fun j2 => [some (.ref 37), some (.int p1), none, none, none, none, none, none, none, none]) (fun j2 => []) (fun j2 => j2) ?_ (fun j2 => ?_)
  · skip
    refine P_loop (fun s3 => [some (.ref 37), some (.int p1), some (.int s3.1), none, none, none, none, none, none, none]) (fun s3 => s3.2) (fun s3 => ?_) _ ((0, σ))
    unfold b_X9_gatherWays_2
    refine P_l (fun hJ _ _ q => E_iload_n dX9_gatherWays_2 rfl (E_aload_n dX9_gatherWays_3 rfl (E_getI clX9 11 (by decide) flX9_151 (Or.inl rfl) dX9_gatherWays_4 (kd37 hJ.1.1) q))) ?_
    refine P_if (c := (if (rI s3.2 37 11) ≤ s3.1 then true else (if 81 ≤ s3.1 then true else false)) = true) (pc1 := 36) (ls1 := [some (.ref 37), some (.int p1), some (.int s3.1), none, none, none, none, none, none, none]) (st1 := []) (pc2 := 16) (ls2 := [some (.ref 37), some (.int p1), some (.int s3.1), none, none, none, none, none, none, none]) (st2 := []) (fun hJ _ _ hX hY => ?_) ?_ ?_
    · skip
      refine E_icmp_ge 36 dX9_gatherWays_7 (by decide) (fun c_7_0 => ?_) (fun c_7_0 => ?_)
      · skip
        exact hX (by simp only [if_pos c_7_0])
      · skip
        refine E_iload_n dX9_gatherWays_10 rfl ?_
        refine E_bipush (v := 81) dX9_gatherWays_11 (by decide) ?_
        refine E_icmp_ge 36 dX9_gatherWays_13 (by decide) (fun c_13_1 => ?_) (fun c_13_1 => ?_)
        · skip
          exact hX (by simp only [if_neg c_7_0, if_pos c_13_1])
        · skip
          exact hY (by simp only [if_neg c_7_0, if_neg c_13_1]; exact Bool.false_ne_true)
    · skip
      refine P_less [some (.ref 37), some (.int p1), none, none, none, none, none, none, none, none] (And.intro rfl (And.intro rfl trivial)) ?_
      exact P_inl (P_back s3.2)
    · skip
      refine P_l (fun hJ _ _ q => E_aload_n dX9_gatherWays_16 rfl (E_getR (b := 62) clX9 10 (by decide) flX9_54 (Or.inr ⟨_, rfl⟩) dX9_gatherWays_17 (kd37 hJ.1.1) (rf37_10 hJ.1.1) (by decide) (E_aload_n dX9_gatherWays_20 rfl (E_getR (b := 59) clX9 7 (by decide) flX9_44 (Or.inr ⟨_, rfl⟩) dX9_gatherWays_21 (kd37 hJ.1.1) (rf37_7 hJ.1.1) (by decide) (E_iload_n dX9_gatherWays_24 rfl q))))) ?_
      refine P_g (fun g4 => ?_)
      refine P_l (fun hJ _ _ q => E_iald dX9_gatherWays_25 (kd59 hJ.1.1) (inB_vp g4) (E_iconst (v := 0) dX9_gatherWays_26 (by decide) q)) ?_
      refine P_w (fun hJ _ _ q => E_callSN (as := [.ref 62, .int (rI s3.2 59 (s3.1 : Int32).toNatClampNeg), .int 0]) (st := []) (ok_set (σ := s3.2) (a := 62) (i := rI s3.2 59 (s3.1 : Int32).toNatClampNeg) (x := 0) (f := rI s3.2 62) (kd62 hJ.1.1) (by decide) (by decide) rfl) (by decide) yfX10_set mlX9_88 stX10_set rfl (Nat.le_of_ble_eq_true rfl) rfl dX9_gatherWays_27 q) (fun hJ => Sy_rowI hJ.1) rfl rfl rfl (fun σ5 hσ5 => ?_)
      refine P_l (fun hJ _ _ q => E_iinc (v := 1) (ls2 := [some (.ref 37), some (.int p1), some (.int (s3.1 + 1)), none, none, none, none, none, none, none]) dX9_gatherWays_30 rfl (by decide) (by decide) rfl (E_goto 2 dX9_gatherWays_33 (by decide) q)) ?_
      exact P_back ((s3.1 + 1, σ5))
  · skip
    refine P_l (fun hJ _ _ q => E_aload_n dX9_gatherWays_36 rfl (E_iconst (v := 0) dX9_gatherWays_37 (by decide) q)) ?_
    refine P_w (fun hJ _ _ q => E_putI clX9 11 (by decide) flX9_151 (Or.inl rfl) rfl dX9_gatherWays_38 (kd37 hJ.1.1) q) (fun hJ => Sy_wI hJ.1) rfl rfl rfl (fun σ6 hσ6 => ?_)
    refine P_l (fun hJ _ _ q => E_aload_n dX9_gatherWays_41 rfl (E_iconst (v := 0) dX9_gatherWays_42 (by decide) (E_iload_n dX9_gatherWays_43 rfl (E_callV (as := [.int 0, .int p1]) (b := 37) (st := []) (ok_X9_mostOf (σ := σ6) (p1 := 0) (p2 := p1) hJ ) (by decide) yfX9_mostOf mlX9_148 imX9_mostOf seX9_mostOf clX9 (kd37 hJ.1.1) rfl (Nat.le_of_ble_eq_true rfl) rfl dX9_gatherWays_44 (E_aload_n dX9_gatherWays_47 rfl (E_getR (b := 48) clX9 2 (by decide) flX9_23 (Or.inr ⟨_, rfl⟩) dX9_gatherWays_48 (kd37 hJ.1.1) (rf37_2 hJ.1.1) (by decide) (E_aload_n dX9_gatherWays_51 rfl (E_iconst (v := 0) dX9_gatherWays_52 (by decide) (E_iload_n dX9_gatherWays_53 rfl (E_callV (as := [.int 0, .int p1]) (b := 37) (st := [.ref 48, .int (v_X9_mostOf σ6 0 p1)]) (ok_X9_kindOf (σ := σ6) (p1 := 0) (p2 := p1) hJ ) (by decide) yfX9_kindOf mlX9_141 imX9_kindOf seX9_kindOf clX9 (kd37 hJ.1.1) rfl (Nat.le_of_ble_eq_true rfl) rfl dX9_gatherWays_54 (E_callSN (as := [.ref 48, .int (v_X9_kindOf σ6 0 p1)]) (st := [.int (v_X9_mostOf σ6 0 p1)]) (ok_at (σ := σ6) (a := 48) (i := v_X9_kindOf σ6 0 p1) (f := rI σ6 48) (kd48 hJ.1.1) (by decide) rfl) (by decide) yfX10_at mlX9_78 stX10_at rfl (Nat.le_of_ble_eq_true rfl) rfl dX9_gatherWays_57 (E_isub dX9_gatherWays_60 (E_istore_n (ls2 := [some (.ref 37), some (.int p1), some (.int ((v_X9_mostOf σ6 0 p1) - (vAt (rI σ6 48) 52 (v_X9_kindOf σ6 0 p1)))), none, none, none, none, none, none, none]) dX9_gatherWays_61 (by decide) rfl q))))))))))))) ?_
    refine P_v ((v_X9_mostOf σ6 0 p1) - (vAt (rI σ6 48) 52 (v_X9_kindOf σ6 0 p1))) (fun x => [some (.ref 37), some (.int p1), some (.int x), none, none, none, none, none, none, none]) (fun x7 => ?_)
    refine P_l (fun hJ _ _ q => E_aload_n dX9_gatherWays_62 rfl (E_iconst (v := 1) dX9_gatherWays_63 (by decide) (E_iload_n dX9_gatherWays_64 rfl (E_callV (as := [.int 1, .int p1]) (b := 37) (st := []) (ok_X9_mostOf (σ := σ6) (p1 := 1) (p2 := p1) hJ ) (by decide) yfX9_mostOf mlX9_148 imX9_mostOf seX9_mostOf clX9 (kd37 hJ.1.1) rfl (Nat.le_of_ble_eq_true rfl) rfl dX9_gatherWays_65 (E_aload_n dX9_gatherWays_68 rfl (E_getR (b := 48) clX9 2 (by decide) flX9_23 (Or.inr ⟨_, rfl⟩) dX9_gatherWays_69 (kd37 hJ.1.1) (rf37_2 hJ.1.1) (by decide) (E_aload_n dX9_gatherWays_72 rfl (E_iconst (v := 1) dX9_gatherWays_73 (by decide) (E_iload_n dX9_gatherWays_74 rfl (E_callV (as := [.int 1, .int p1]) (b := 37) (st := [.ref 48, .int (v_X9_mostOf σ6 1 p1)]) (ok_X9_kindOf (σ := σ6) (p1 := 1) (p2 := p1) hJ ) (by decide) yfX9_kindOf mlX9_141 imX9_kindOf seX9_kindOf clX9 (kd37 hJ.1.1) rfl (Nat.le_of_ble_eq_true rfl) rfl dX9_gatherWays_75 (E_callSN (as := [.ref 48, .int (v_X9_kindOf σ6 1 p1)]) (st := [.int (v_X9_mostOf σ6 1 p1)]) (ok_at (σ := σ6) (a := 48) (i := v_X9_kindOf σ6 1 p1) (f := rI σ6 48) (kd48 hJ.1.1) (by decide) rfl) (by decide) yfX10_at mlX9_78 stX10_at rfl (Nat.le_of_ble_eq_true rfl) rfl dX9_gatherWays_78 (E_isub dX9_gatherWays_81 (E_istore_n (ls2 := [some (.ref 37), some (.int p1), some (.int x7), some (.int ((v_X9_mostOf σ6 1 p1) - (vAt (rI σ6 48) 52 (v_X9_kindOf σ6 1 p1)))), none, none, none, none, none, none]) dX9_gatherWays_82 (by decide) rfl q))))))))))))) ?_
    refine P_v ((v_X9_mostOf σ6 1 p1) - (vAt (rI σ6 48) 52 (v_X9_kindOf σ6 1 p1))) (fun x => [some (.ref 37), some (.int p1), some (.int x7), some (.int x), none, none, none, none, none, none]) (fun x8 => ?_)
    refine P_l (fun hJ _ _ q => E_aload_n dX9_gatherWays_83 rfl (E_iconst (v := 2) dX9_gatherWays_84 (by decide) (E_iload_n dX9_gatherWays_85 rfl (E_callV (as := [.int 2, .int p1]) (b := 37) (st := []) (ok_X9_mostOf (σ := σ6) (p1 := 2) (p2 := p1) hJ ) (by decide) yfX9_mostOf mlX9_148 imX9_mostOf seX9_mostOf clX9 (kd37 hJ.1.1) rfl (Nat.le_of_ble_eq_true rfl) rfl dX9_gatherWays_86 (E_aload_n dX9_gatherWays_89 rfl (E_getR (b := 48) clX9 2 (by decide) flX9_23 (Or.inr ⟨_, rfl⟩) dX9_gatherWays_90 (kd37 hJ.1.1) (rf37_2 hJ.1.1) (by decide) (E_aload_n dX9_gatherWays_93 rfl (E_iconst (v := 2) dX9_gatherWays_94 (by decide) (E_iload_n dX9_gatherWays_95 rfl (E_callV (as := [.int 2, .int p1]) (b := 37) (st := [.ref 48, .int (v_X9_mostOf σ6 2 p1)]) (ok_X9_kindOf (σ := σ6) (p1 := 2) (p2 := p1) hJ ) (by decide) yfX9_kindOf mlX9_141 imX9_kindOf seX9_kindOf clX9 (kd37 hJ.1.1) rfl (Nat.le_of_ble_eq_true rfl) rfl dX9_gatherWays_96 (E_callSN (as := [.ref 48, .int (v_X9_kindOf σ6 2 p1)]) (st := [.int (v_X9_mostOf σ6 2 p1)]) (ok_at (σ := σ6) (a := 48) (i := v_X9_kindOf σ6 2 p1) (f := rI σ6 48) (kd48 hJ.1.1) (by decide) rfl) (by decide) yfX10_at mlX9_78 stX10_at rfl (Nat.le_of_ble_eq_true rfl) rfl dX9_gatherWays_99 (E_isub dX9_gatherWays_102 (E_istore (ls2 := [some (.ref 37), some (.int p1), some (.int x7), some (.int x8), some (.int ((v_X9_mostOf σ6 2 p1) - (vAt (rI σ6 48) 52 (v_X9_kindOf σ6 2 p1)))), none, none, none, none, none]) dX9_gatherWays_103 (by decide) rfl q))))))))))))) ?_
    refine P_v ((v_X9_mostOf σ6 2 p1) - (vAt (rI σ6 48) 52 (v_X9_kindOf σ6 2 p1))) (fun x => [some (.ref 37), some (.int p1), some (.int x7), some (.int x8), some (.int x), none, none, none, none, none]) (fun x9 => ?_)
    refine P_l (fun hJ _ _ q => E_aload_n dX9_gatherWays_105 rfl (E_iconst (v := 3) dX9_gatherWays_106 (by decide) (E_iload_n dX9_gatherWays_107 rfl (E_callV (as := [.int 3, .int p1]) (b := 37) (st := []) (ok_X9_mostOf (σ := σ6) (p1 := 3) (p2 := p1) hJ ) (by decide) yfX9_mostOf mlX9_148 imX9_mostOf seX9_mostOf clX9 (kd37 hJ.1.1) rfl (Nat.le_of_ble_eq_true rfl) rfl dX9_gatherWays_108 (E_aload_n dX9_gatherWays_111 rfl (E_getR (b := 48) clX9 2 (by decide) flX9_23 (Or.inr ⟨_, rfl⟩) dX9_gatherWays_112 (kd37 hJ.1.1) (rf37_2 hJ.1.1) (by decide) (E_aload_n dX9_gatherWays_115 rfl (E_iconst (v := 3) dX9_gatherWays_116 (by decide) (E_iload_n dX9_gatherWays_117 rfl (E_callV (as := [.int 3, .int p1]) (b := 37) (st := [.ref 48, .int (v_X9_mostOf σ6 3 p1)]) (ok_X9_kindOf (σ := σ6) (p1 := 3) (p2 := p1) hJ ) (by decide) yfX9_kindOf mlX9_141 imX9_kindOf seX9_kindOf clX9 (kd37 hJ.1.1) rfl (Nat.le_of_ble_eq_true rfl) rfl dX9_gatherWays_118 (E_callSN (as := [.ref 48, .int (v_X9_kindOf σ6 3 p1)]) (st := [.int (v_X9_mostOf σ6 3 p1)]) (ok_at (σ := σ6) (a := 48) (i := v_X9_kindOf σ6 3 p1) (f := rI σ6 48) (kd48 hJ.1.1) (by decide) rfl) (by decide) yfX10_at mlX9_78 stX10_at rfl (Nat.le_of_ble_eq_true rfl) rfl dX9_gatherWays_121 (E_isub dX9_gatherWays_124 (E_istore (ls2 := [some (.ref 37), some (.int p1), some (.int x7), some (.int x8), some (.int x9), some (.int ((v_X9_mostOf σ6 3 p1) - (vAt (rI σ6 48) 52 (v_X9_kindOf σ6 3 p1)))), none, none, none, none]) dX9_gatherWays_125 (by decide) rfl q))))))))))))) ?_
    refine P_v ((v_X9_mostOf σ6 3 p1) - (vAt (rI σ6 48) 52 (v_X9_kindOf σ6 3 p1))) (fun x => [some (.ref 37), some (.int p1), some (.int x7), some (.int x8), some (.int x9), some (.int x), none, none, none, none]) (fun x10 => ?_)
    refine P_l (fun hJ _ _ q => E_iconst (v := 0) dX9_gatherWays_127 (by decide) (E_istore (ls2 := [some (.ref 37), some (.int p1), some (.int x7), some (.int x8), some (.int x9), some (.int x10), some (.int 0), none, none, none]) dX9_gatherWays_128 (by decide) rfl q)) ?_
    refine P_loop (fun s11 => [some (.ref 37), some (.int p1), some (.int x7), some (.int x8), some (.int x9), some (.int x10), some (.int s11.1), none, none, none]) (fun s11 => s11.2) (fun s11 => ?_) _ ((0, σ6))
    unfold b_X9_gatherWays_130
    refine P_l (fun hJ _ _ q => E_iload dX9_gatherWays_130 rfl (E_iload_n dX9_gatherWays_132 rfl q)) ?_
    refine P_if (fun hJ _ _ h1 h2 => E_icmp_gt 236 dX9_gatherWays_133 (by decide) h1 h2) ?_ ?_
    · skip
      exact P_inl (P_ret (fun _ _ => E_vret rfl dX9_gatherWays_236))
    · skip
      refine P_l (fun hJ _ _ q => E_iconst (v := 0) dX9_gatherWays_136 (by decide) (E_istore (ls2 := [some (.ref 37), some (.int p1), some (.int x7), some (.int x8), some (.int x9), some (.int x10), some (.int s11.1), some (.int 0), none, none]) dX9_gatherWays_137 (by decide) rfl q)) ?_
      refine P_loop (fun s12 => [some (.ref 37), some (.int p1), some (.int x7), some (.int x8), some (.int x9), some (.int x10), some (.int s11.1), some (.int s12.1), none, none]) (fun s12 => s12.2) (fun s12 => ?_) _ ((0, s11.2))
      unfold b_X9_gatherWays_139
      refine P_l (fun hJ _ _ q => E_iload dX9_gatherWays_139 rfl (E_iload_n dX9_gatherWays_141 rfl q)) ?_
      refine P_if (fun hJ _ _ h1 h2 => E_icmp_gt 230 dX9_gatherWays_142 (by decide) h1 h2) ?_ ?_
      · skip
        refine P_l (fun hJ _ _ q => E_iinc (v := 1) (ls2 := [some (.ref 37), some (.int p1), some (.int x7), some (.int x8), some (.int x9), some (.int x10), some (.int (s11.1 + 1)), some (.int s12.1), none, none]) dX9_gatherWays_230 rfl (by decide) (by decide) rfl (E_goto 130 dX9_gatherWays_233 (by decide) q)) ?_
        refine P_less [some (.ref 37), some (.int p1), some (.int x7), some (.int x8), some (.int x9), some (.int x10), some (.int (s11.1 + 1)), none, none, none] (And.intro rfl (And.intro rfl (And.intro rfl (And.intro rfl (And.intro rfl (And.intro rfl (And.intro rfl trivial))))))) ?_
        exact P_inl (P_back ((s11.1 + 1, s12.2)))
      · skip
        refine P_l (fun hJ _ _ q => E_iconst (v := 0) dX9_gatherWays_145 (by decide) (E_istore (ls2 := [some (.ref 37), some (.int p1), some (.int x7), some (.int x8), some (.int x9), some (.int x10), some (.int s11.1), some (.int s12.1), some (.int 0), none]) dX9_gatherWays_146 (by decide) rfl q)) ?_
        refine P_loop (fun s13 => [some (.ref 37), some (.int p1), some (.int x7), some (.int x8), some (.int x9), some (.int x10), some (.int s11.1), some (.int s12.1), some (.int s13.1), none]) (fun s13 => s13.2) (fun s13 => ?_) _ ((0, s12.2))
        unfold b_X9_gatherWays_148
        refine P_l (fun hJ _ _ q => E_iload dX9_gatherWays_148 rfl (E_iload dX9_gatherWays_150 rfl q)) ?_
        refine P_if (fun hJ _ _ h1 h2 => E_icmp_gt 224 dX9_gatherWays_152 (by decide) h1 h2) ?_ ?_
        · skip
          refine P_l (fun hJ _ _ q => E_iinc (v := 1) (ls2 := [some (.ref 37), some (.int p1), some (.int x7), some (.int x8), some (.int x9), some (.int x10), some (.int s11.1), some (.int (s12.1 + 1)), some (.int s13.1), none]) dX9_gatherWays_224 rfl (by decide) (by decide) rfl (E_goto 139 dX9_gatherWays_227 (by decide) q)) ?_
          refine P_less [some (.ref 37), some (.int p1), some (.int x7), some (.int x8), some (.int x9), some (.int x10), some (.int s11.1), some (.int (s12.1 + 1)), none, none] (And.intro rfl (And.intro rfl (And.intro rfl (And.intro rfl (And.intro rfl (And.intro rfl (And.intro rfl (And.intro rfl trivial)))))))) ?_
          exact P_inl (P_back ((s12.1 + 1, s13.2)))
        · skip
          refine P_l (fun hJ _ _ q => E_iconst (v := 0) dX9_gatherWays_155 (by decide) (E_istore (ls2 := [some (.ref 37), some (.int p1), some (.int x7), some (.int x8), some (.int x9), some (.int x10), some (.int s11.1), some (.int s12.1), some (.int s13.1), some (.int 0)]) dX9_gatherWays_156 (by decide) rfl q)) ?_
          refine P_loop (fun s14 => [some (.ref 37), some (.int p1), some (.int x7), some (.int x8), some (.int x9), some (.int x10), some (.int s11.1), some (.int s12.1), some (.int s13.1), some (.int s14.1)]) (fun s14 => s14.2) (fun s14 => ?_) _ ((0, s13.2))
          unfold b_X9_gatherWays_158
          refine P_l (fun hJ _ _ q => E_iload dX9_gatherWays_158 rfl (E_iload dX9_gatherWays_160 rfl q)) ?_
          refine P_if (fun hJ _ _ h1 h2 => E_icmp_gt 218 dX9_gatherWays_162 (by decide) h1 h2) ?_ ?_
          · skip
            refine P_l (fun hJ _ _ q => E_iinc (v := 1) (ls2 := [some (.ref 37), some (.int p1), some (.int x7), some (.int x8), some (.int x9), some (.int x10), some (.int s11.1), some (.int s12.1), some (.int (s13.1 + 1)), some (.int s14.1)]) dX9_gatherWays_218 rfl (by decide) (by decide) rfl (E_goto 148 dX9_gatherWays_221 (by decide) q)) ?_
            refine P_less [some (.ref 37), some (.int p1), some (.int x7), some (.int x8), some (.int x9), some (.int x10), some (.int s11.1), some (.int s12.1), some (.int (s13.1 + 1)), none] (And.intro rfl (And.intro rfl (And.intro rfl (And.intro rfl (And.intro rfl (And.intro rfl (And.intro rfl (And.intro rfl (And.intro rfl trivial))))))))) ?_
            exact P_inl (P_back ((s13.1 + 1, s14.2)))
          · skip
            refine P_l (fun hJ _ _ q => E_aload_n dX9_gatherWays_165 rfl (E_getI clX9 17 (by decide) flX9_101 (Or.inl rfl) dX9_gatherWays_166 (kd37 hJ.1.1) (E_iconst (v := 3) dX9_gatherWays_169 (by decide) q))) ?_
            refine P_if (c := (if (rI s14.2 37 17) = 3 then (if 1 < (((s11.1 + s12.1) + s13.1) + s14.1) then false else true) else true) = true) (pc1 := 188) (ls1 := [some (.ref 37), some (.int p1), some (.int x7), some (.int x8), some (.int x9), some (.int x10), some (.int s11.1), some (.int s12.1), some (.int s13.1), some (.int s14.1)]) (st1 := []) (pc2 := 212) (ls2 := [some (.ref 37), some (.int p1), some (.int x7), some (.int x8), some (.int x9), some (.int x10), some (.int s11.1), some (.int s12.1), some (.int s13.1), some (.int s14.1)]) (st2 := []) (fun hJ _ _ hX hY => ?_) ?_ ?_
            · skip
              refine E_icmp_ne 188 dX9_gatherWays_170 (by decide) (fun c_170_0 => ?_) (fun c_170_0 => ?_)
              · skip
                exact hX (by simp only [if_neg c_170_0])
              · skip
                refine E_iload dX9_gatherWays_173 rfl ?_
                refine E_iload dX9_gatherWays_175 rfl ?_
                refine E_iadd dX9_gatherWays_177 ?_
                refine E_iload dX9_gatherWays_178 rfl ?_
                refine E_iadd dX9_gatherWays_180 ?_
                refine E_iload dX9_gatherWays_181 rfl ?_
                refine E_iadd dX9_gatherWays_183 ?_
                refine E_iconst (v := 1) dX9_gatherWays_184 (by decide) ?_
                refine E_icmp_gt 212 dX9_gatherWays_185 (by decide) (fun c_185_1 => ?_) (fun c_185_1 => ?_)
                · skip
                  exact hY (by simp only [if_pos c_170_0, if_pos c_185_1]; exact Bool.false_ne_true)
                · skip
                  exact hX (by simp only [if_pos c_170_0, if_neg c_185_1])
            · skip
              refine P_l (fun hJ _ _ q => E_aload_n dX9_gatherWays_188 rfl (E_iload_n dX9_gatherWays_189 rfl (E_iload dX9_gatherWays_190 rfl (E_iload dX9_gatherWays_192 rfl (E_iconst (v := 4) dX9_gatherWays_194 (by decide) (E_ishl dX9_gatherWays_195 (E_ior dX9_gatherWays_196 (E_iload dX9_gatherWays_197 rfl (E_bipush (v := 8) dX9_gatherWays_199 (by decide) (E_ishl dX9_gatherWays_201 (E_ior dX9_gatherWays_202 (E_iload dX9_gatherWays_203 rfl (E_bipush (v := 12) dX9_gatherWays_205 (by decide) (E_ishl dX9_gatherWays_207 q)))))))))))))) ?_
              refine P_l (fun hJ _ _ q => E_ior dX9_gatherWays_208 q) ?_
              refine P_call (t := fun _ => none) (st2 := fun _ => []) (kc2 := 0) (ks2 := 0) (fun hJ => (ok_X9_groupAway (σ := s14.2) (p1 := p1) (p2 := ((s11.1 ||| (s12.1 <<< ((4 : Int32) &&& 31))) ||| (s13.1 <<< ((8 : Int32) &&& 31))) ||| (s14.1 <<< ((12 : Int32) &&& 31))) )) (fun hJ _ _ _ _ v τ1 hM q => E_callV (as := [.int p1, .int (((s11.1 ||| (s12.1 <<< ((4 : Int32) &&& 31))) ||| (s13.1 <<< ((8 : Int32) &&& 31))) ||| (s14.1 <<< ((12 : Int32) &&& 31)))]) (b := 37) (st := []) hM (by decide) yfX9_groupAway mlX9_154 imX9_groupAway seX9_groupAway clX9 (kd37 hJ.1.1) rfl (Nat.le_of_ble_eq_true rfl) rfl dX9_gatherWays_209 q) (by decide) (by decide) (fun v15 σ16 => ?_)
              refine P_l (fun hJ _ _ q => E_iinc (v := 1) (ls2 := [some (.ref 37), some (.int p1), some (.int x7), some (.int x8), some (.int x9), some (.int x10), some (.int s11.1), some (.int s12.1), some (.int s13.1), some (.int (s14.1 + 1))]) dX9_gatherWays_212 rfl (by decide) (by decide) rfl (E_goto 158 dX9_gatherWays_215 (by decide) q)) ?_
              exact P_back ((s14.1 + 1, σ16))
            · skip
              refine P_l (fun hJ _ _ q => E_iinc (v := 1) (ls2 := [some (.ref 37), some (.int p1), some (.int x7), some (.int x8), some (.int x9), some (.int x10), some (.int s11.1), some (.int s12.1), some (.int s13.1), some (.int (s14.1 + 1))]) dX9_gatherWays_212 rfl (by decide) (by decide) rfl (E_goto 158 dX9_gatherWays_215 (by decide) q)) ?_
              exact P_back ((s14.1 + 1, s14.2))

def b_X9_lookAhead_2 (p1 : Int32) (s1 : Int32 × rS) : Option ((Unit × rS) ⊕ (Int32 × rS)) := if 4 ≤ s1.1 then (some (.inl (((), s1.2)))) else (oLet (v_X9_kindOf s1.2 s1.1 (p1 + 1) : Int32) fun x2 => oLet (v_X9_kindOf s1.2 s1.1 (p1 + 2) : Int32) fun x3 => oLet (v_X9_kindOf s1.2 s1.1 (p1 + 3) : Int32) fun x4 => if inB s1.1 4 then (oLet (wI s1.2 64 (s1.1 : Int32).toNatClampNeg (v_X8_hopefulWith s1.2 (rR s1.2 37 14) (vAt (rI s1.2 48) 52 x2) (vAt (rI s1.2 48) 52 x3) (vAt (rI s1.2 48) 52 x4))) fun σ6 => oLet (wI σ6 63 (s1.1 : Int32).toNatClampNeg ((if (rI σ6 37 17) = 0 then 65535 else (v_X8_hopefulWith σ6 (rR σ6 37 14) (v_X9_mostOf σ6 s1.1 (p1 + 1)) (v_X9_mostOf σ6 s1.1 (p1 + 2)) (v_X9_mostOf σ6 s1.1 (p1 + 3))) : Int32))) fun σ7 => some (.inr ((s1.1 + 1, σ7)))) else none)
def f_X9_lookAhead (σ : rS) (p1 : Int32) : Option (Unit × rS) := oLoop (b_X9_lookAhead_2 p1) oFuel ((0, σ))
set_option maxRecDepth 20000 in
set_option maxHeartbeats 2000000 in
theorem ok_X9_lookAhead {σ : rS} {p1 : Int32}   : rFn Sy yX9_lookAhead mX9_lookAhead 2 [.ref 37, .int p1] σ 0 0 (fun _ => .inl none) (f_X9_lookAhead σ p1) := by
  refine rF_of (ls := [some (.ref 37), some (.int p1), none, none, none, none]) yfX9_lookAhead rfl (Nat.le_of_ble_eq_true rfl) (fun o τ => ?_)
  unfold f_X9_lookAhead
  refine P_l (fun hJ _ _ q => E_iconst (v := 0) dX9_lookAhead_0 (by decide) (E_istore_n (ls2 := [some (.ref 37), some (.int p1), some (.int 0), none, none, none]) dX9_lookAhead_1 (by decide) rfl q)) ?_
  refine P_loop (fun s1 => [some (.ref 37), some (.int p1), some (.int s1.1), none, none, none]) (fun s1 => s1.2) (fun s1 => ?_) _ ((0, σ))
  unfold b_X9_lookAhead_2
  refine P_l (fun hJ _ _ q => E_iload_n dX9_lookAhead_2 rfl (E_iconst (v := 4) dX9_lookAhead_3 (by decide) q)) ?_
  refine P_if (fun hJ _ _ h1 h2 => E_icmp_ge 130 dX9_lookAhead_4 (by decide) h1 h2) ?_ ?_
  · skip
    exact P_inl (P_ret (fun _ _ => E_vret rfl dX9_lookAhead_130))
  · skip
    refine P_l (fun hJ _ _ q => E_aload_n dX9_lookAhead_7 rfl (E_iload_n dX9_lookAhead_8 rfl (E_iload_n dX9_lookAhead_9 rfl (E_iconst (v := 1) dX9_lookAhead_10 (by decide) (E_iadd dX9_lookAhead_11 (E_callV (as := [.int s1.1, .int (p1 + 1)]) (b := 37) (st := []) (ok_X9_kindOf (σ := s1.2) (p1 := s1.1) (p2 := p1 + 1) hJ ) (by decide) yfX9_kindOf mlX9_141 imX9_kindOf seX9_kindOf clX9 (kd37 hJ.1.1) rfl (Nat.le_of_ble_eq_true rfl) rfl dX9_lookAhead_12 (E_istore_n (ls2 := [some (.ref 37), some (.int p1), some (.int s1.1), some (.int (v_X9_kindOf s1.2 s1.1 (p1 + 1))), none, none]) dX9_lookAhead_15 (by decide) rfl q))))))) ?_
    refine P_v (v_X9_kindOf s1.2 s1.1 (p1 + 1)) (fun x => [some (.ref 37), some (.int p1), some (.int s1.1), some (.int x), none, none]) (fun x2 => ?_)
    refine P_l (fun hJ _ _ q => E_aload_n dX9_lookAhead_16 rfl (E_iload_n dX9_lookAhead_17 rfl (E_iload_n dX9_lookAhead_18 rfl (E_iconst (v := 2) dX9_lookAhead_19 (by decide) (E_iadd dX9_lookAhead_20 (E_callV (as := [.int s1.1, .int (p1 + 2)]) (b := 37) (st := []) (ok_X9_kindOf (σ := s1.2) (p1 := s1.1) (p2 := p1 + 2) hJ ) (by decide) yfX9_kindOf mlX9_141 imX9_kindOf seX9_kindOf clX9 (kd37 hJ.1.1) rfl (Nat.le_of_ble_eq_true rfl) rfl dX9_lookAhead_21 (E_istore (ls2 := [some (.ref 37), some (.int p1), some (.int s1.1), some (.int x2), some (.int (v_X9_kindOf s1.2 s1.1 (p1 + 2))), none]) dX9_lookAhead_24 (by decide) rfl q))))))) ?_
    refine P_v (v_X9_kindOf s1.2 s1.1 (p1 + 2)) (fun x => [some (.ref 37), some (.int p1), some (.int s1.1), some (.int x2), some (.int x), none]) (fun x3 => ?_)
    refine P_l (fun hJ _ _ q => E_aload_n dX9_lookAhead_26 rfl (E_iload_n dX9_lookAhead_27 rfl (E_iload_n dX9_lookAhead_28 rfl (E_iconst (v := 3) dX9_lookAhead_29 (by decide) (E_iadd dX9_lookAhead_30 (E_callV (as := [.int s1.1, .int (p1 + 3)]) (b := 37) (st := []) (ok_X9_kindOf (σ := s1.2) (p1 := s1.1) (p2 := p1 + 3) hJ ) (by decide) yfX9_kindOf mlX9_141 imX9_kindOf seX9_kindOf clX9 (kd37 hJ.1.1) rfl (Nat.le_of_ble_eq_true rfl) rfl dX9_lookAhead_31 (E_istore (ls2 := [some (.ref 37), some (.int p1), some (.int s1.1), some (.int x2), some (.int x3), some (.int (v_X9_kindOf s1.2 s1.1 (p1 + 3)))]) dX9_lookAhead_34 (by decide) rfl q))))))) ?_
    refine P_v (v_X9_kindOf s1.2 s1.1 (p1 + 3)) (fun x => [some (.ref 37), some (.int p1), some (.int s1.1), some (.int x2), some (.int x3), some (.int x)]) (fun x4 => ?_)
    refine P_l (fun hJ _ _ q => E_aload_n dX9_lookAhead_36 rfl (E_getR (b := 64) clX9 13 (by decide) flX9_60 (Or.inr ⟨_, rfl⟩) dX9_lookAhead_37 (kd37 hJ.1.1) (rf37_13 hJ.1.1) (by decide) (E_iload_n dX9_lookAhead_40 rfl (E_aload_n dX9_lookAhead_41 rfl (E_getR (b := rR s1.2 37 14) clX9 14 (by decide) flX9_63 (Or.inl ⟨_, rfl⟩) dX9_lookAhead_42 (kd37 hJ.1.1) rfl (Nat.pos_iff_ne_zero.mp (Nat.lt_of_lt_of_le (by decide : 0 < 3) (Sy_steps hJ.1).2.1)) (E_aload_n dX9_lookAhead_45 rfl (E_getR (b := 48) clX9 2 (by decide) flX9_23 (Or.inr ⟨_, rfl⟩) dX9_lookAhead_46 (kd37 hJ.1.1) (rf37_2 hJ.1.1) (by decide) (E_iload_n dX9_lookAhead_49 rfl (E_callSN (as := [.ref 48, .int x2]) (st := [.ref (rR s1.2 37 14), .int s1.1, .ref 64]) (ok_at (σ := s1.2) (a := 48) (i := x2) (f := rI s1.2 48) (kd48 hJ.1.1) (by decide) rfl) (by decide) yfX10_at mlX9_78 stX10_at rfl (Nat.le_of_ble_eq_true rfl) rfl dX9_lookAhead_50 (E_aload_n dX9_lookAhead_53 rfl (E_getR (b := 48) clX9 2 (by decide) flX9_23 (Or.inr ⟨_, rfl⟩) dX9_lookAhead_54 (kd37 hJ.1.1) (rf37_2 hJ.1.1) (by decide) (E_iload dX9_lookAhead_57 rfl (E_callSN (as := [.ref 48, .int x3]) (st := [.int (vAt (rI s1.2 48) 52 x2), .ref (rR s1.2 37 14), .int s1.1, .ref 64]) (ok_at (σ := s1.2) (a := 48) (i := x3) (f := rI s1.2 48) (kd48 hJ.1.1) (by decide) rfl) (by decide) yfX10_at mlX9_78 stX10_at rfl (Nat.le_of_ble_eq_true rfl) rfl dX9_lookAhead_59 (E_aload_n dX9_lookAhead_62 rfl q)))))))))))))) ?_
    refine P_l (fun hJ _ _ q => E_getR (b := 48) clX9 2 (by decide) flX9_23 (Or.inr ⟨_, rfl⟩) dX9_lookAhead_63 (kd37 hJ.1.1) (rf37_2 hJ.1.1) (by decide) (E_iload dX9_lookAhead_66 rfl (E_callSN (as := [.ref 48, .int x4]) (st := [.int (vAt (rI s1.2 48) 52 x3), .int (vAt (rI s1.2 48) 52 x2), .ref (rR s1.2 37 14), .int s1.1, .ref 64]) (ok_at (σ := s1.2) (a := 48) (i := x4) (f := rI s1.2 48) (kd48 hJ.1.1) (by decide) rfl) (by decide) yfX10_at mlX9_78 stX10_at rfl (Nat.le_of_ble_eq_true rfl) rfl dX9_lookAhead_68 (E_callVN (as := [.int (vAt (rI s1.2 48) 52 x2), .int (vAt (rI s1.2 48) 52 x3), .int (vAt (rI s1.2 48) 52 x4)]) (b := rR s1.2 37 14) (st := [.int s1.1, .ref 64]) (ok_X8_hopefulWith (σ := s1.2) (t := rR s1.2 37 14) (p1 := vAt (rI s1.2 48) 52 x2) (p2 := vAt (rI s1.2 48) 52 x3) (p3 := vAt (rI s1.2 48) 52 x4) hJ (Sy_steps hJ.1).2.2) (by decide) yfX8_hopefulWith mlX9_144 imX8_hopefulWith seX8_hopefulWith clX8 (Sy_steps hJ.1).1 rfl (Nat.le_of_ble_eq_true rfl) rfl dX9_lookAhead_71 q)))) ?_
    refine P_g (fun g5 => ?_)
    refine P_w (fun hJ _ _ q => E_iast dX9_lookAhead_74 (kd64 hJ.1.1) (by decide) (inB_vp g5) q) (fun hJ => Sy_wI hJ.1) rfl rfl rfl (fun σ6 hσ6 => ?_)
    refine P_l (fun hJ _ _ q => E_aload_n dX9_lookAhead_75 rfl (E_getR (b := 63) clX9 12 (by decide) flX9_57 (Or.inr ⟨_, rfl⟩) dX9_lookAhead_76 (kd37 hJ.1.1) (rf37_12 hJ.1.1) (by decide) (E_iload_n dX9_lookAhead_79 rfl (E_aload_n dX9_lookAhead_80 rfl (E_getI clX9 17 (by decide) flX9_101 (Or.inl rfl) dX9_lookAhead_81 (kd37 hJ.1.1) q))))) ?_
    refine P_l (pc2 := 123) (ls2 := [some (.ref 37), some (.int p1), some (.int s1.1), none, none, none]) (st2 := [.int ((if (rI σ6 37 17) = 0 then 65535 else (v_X8_hopefulWith σ6 (rR σ6 37 14) (v_X9_mostOf σ6 s1.1 (p1 + 1)) (v_X9_mostOf σ6 s1.1 (p1 + 2)) (v_X9_mostOf σ6 s1.1 (p1 + 3))) : Int32)), .int s1.1, .ref 63]) (fun hJ _ _ hq => ?_) ?_
    · skip
      refine E_if_ne 92 dX9_lookAhead_84 (by decide) (fun c_84_0 => ?_) (fun c_84_0 => ?_)
      · skip
        refine E_aload_n dX9_lookAhead_92 rfl ?_
        refine E_getR (b := rR σ6 37 14) clX9 14 (by decide) flX9_63 (Or.inl ⟨_, rfl⟩) dX9_lookAhead_93 (kd37 hJ.1.1) rfl (Nat.pos_iff_ne_zero.mp (Nat.lt_of_lt_of_le (by decide : 0 < 3) (Sy_steps hJ.1).2.1)) ?_
        refine E_aload_n dX9_lookAhead_96 rfl ?_
        refine E_iload_n dX9_lookAhead_97 rfl ?_
        refine E_iload_n dX9_lookAhead_98 rfl ?_
        refine E_iconst (v := 1) dX9_lookAhead_99 (by decide) ?_
        refine E_iadd dX9_lookAhead_100 ?_
        refine E_callV (as := [.int s1.1, .int (p1 + 1)]) (b := 37) (st := [.ref (rR σ6 37 14), .int s1.1, .ref 63]) (ok_X9_mostOf (σ := σ6) (p1 := s1.1) (p2 := p1 + 1) hJ ) (by decide) yfX9_mostOf mlX9_148 imX9_mostOf seX9_mostOf clX9 (kd37 hJ.1.1) rfl (Nat.le_of_ble_eq_true rfl) rfl dX9_lookAhead_101 ?_
        refine E_aload_n dX9_lookAhead_104 rfl ?_
        refine E_iload_n dX9_lookAhead_105 rfl ?_
        refine E_iload_n dX9_lookAhead_106 rfl ?_
        refine E_iconst (v := 2) dX9_lookAhead_107 (by decide) ?_
        refine E_iadd dX9_lookAhead_108 ?_
        refine E_callV (as := [.int s1.1, .int (p1 + 2)]) (b := 37) (st := [.int (v_X9_mostOf σ6 s1.1 (p1 + 1)), .ref (rR σ6 37 14), .int s1.1, .ref 63]) (ok_X9_mostOf (σ := σ6) (p1 := s1.1) (p2 := p1 + 2) hJ ) (by decide) yfX9_mostOf mlX9_148 imX9_mostOf seX9_mostOf clX9 (kd37 hJ.1.1) rfl (Nat.le_of_ble_eq_true rfl) rfl dX9_lookAhead_109 ?_
        refine E_aload_n dX9_lookAhead_112 rfl ?_
        refine E_iload_n dX9_lookAhead_113 rfl ?_
        refine E_iload_n dX9_lookAhead_114 rfl ?_
        refine E_iconst (v := 3) dX9_lookAhead_115 (by decide) ?_
        refine E_iadd dX9_lookAhead_116 ?_
        refine E_callV (as := [.int s1.1, .int (p1 + 3)]) (b := 37) (st := [.int (v_X9_mostOf σ6 s1.1 (p1 + 2)), .int (v_X9_mostOf σ6 s1.1 (p1 + 1)), .ref (rR σ6 37 14), .int s1.1, .ref 63]) (ok_X9_mostOf (σ := σ6) (p1 := s1.1) (p2 := p1 + 3) hJ ) (by decide) yfX9_mostOf mlX9_148 imX9_mostOf seX9_mostOf clX9 (kd37 hJ.1.1) rfl (Nat.le_of_ble_eq_true rfl) rfl dX9_lookAhead_117 ?_
        refine E_callVN (as := [.int (v_X9_mostOf σ6 s1.1 (p1 + 1)), .int (v_X9_mostOf σ6 s1.1 (p1 + 2)), .int (v_X9_mostOf σ6 s1.1 (p1 + 3))]) (b := rR σ6 37 14) (st := [.int s1.1, .ref 63]) (ok_X8_hopefulWith (σ := σ6) (t := rR σ6 37 14) (p1 := v_X9_mostOf σ6 s1.1 (p1 + 1)) (p2 := v_X9_mostOf σ6 s1.1 (p1 + 2)) (p3 := v_X9_mostOf σ6 s1.1 (p1 + 3)) hJ (Sy_steps hJ.1).2.2) (by decide) yfX8_hopefulWith mlX9_144 imX8_hopefulWith seX8_hopefulWith clX8 (Sy_steps hJ.1).1 rfl (Nat.le_of_ble_eq_true rfl) rfl dX9_lookAhead_120 ?_
        simp only [if_neg c_84_0] at hq
        exact E_less (ls2 := [some (.ref 37), some (.int p1), some (.int s1.1), none, none, none]) hq (rLe_at [some (.ref 37), some (.int p1), some (.int s1.1), none, none, none] [some (.ref 37), some (.int p1), some (.int s1.1), some (.int x2), some (.int x3), some (.int x4)] (And.intro rfl (And.intro rfl (And.intro rfl trivial))))
      · skip
        refine E_ldc dX9_lookAhead_87 kcX9_140 ?_
        refine E_goto 123 dX9_lookAhead_89 (by decide) ?_
        simp only [if_pos c_84_0] at hq
        exact E_less (ls2 := [some (.ref 37), some (.int p1), some (.int s1.1), none, none, none]) hq (rLe_at [some (.ref 37), some (.int p1), some (.int s1.1), none, none, none] [some (.ref 37), some (.int p1), some (.int s1.1), some (.int x2), some (.int x3), some (.int x4)] (And.intro rfl (And.intro rfl (And.intro rfl trivial))))
    · skip
      refine P_w (fun hJ _ _ q => E_iast dX9_lookAhead_123 (kd63 hJ.1.1) (by decide) (inB_vp g5) q) (fun hJ => Sy_wI hJ.1) rfl rfl rfl (fun σ7 hσ7 => ?_)
      refine P_l (fun hJ _ _ q => E_iinc (v := 1) (ls2 := [some (.ref 37), some (.int p1), some (.int (s1.1 + 1)), none, none, none]) dX9_lookAhead_124 rfl (by decide) (by decide) rfl (E_goto 2 dX9_lookAhead_127 (by decide) q)) ?_
      exact P_back ((s1.1 + 1, σ7))

def b_X9_withExtras_43 (σ : rS) (p3 : Int32) (s4 : Int32 × Int32) : Option ((Int64 ⊕ (Int32)) ⊕ (Int32 × Int32)) := if 4 ≤ s4.2 then (some (.inl (.inr s4.1))) else (if inB s4.2 4 then (oLet (s4.1 + ((((rI σ 64 (s4.2 : Int32).toNatClampNeg) >>> (((p3 >>> ((4 * s4.2) &&& 31)) &&& 15) &&& 31)) &&& 1) ^^^ 1) : Int32) fun x6 => some (.inr ((x6, s4.2 + 1)))) else none)
def f_X9_withExtras (σ : rS) (p1 : Int64) (p2 : Int64) (p3 : Int32) : Option Int64 := oLet (((if (lg_cmp (p2 &&& (4503599627370496 : Int64)) (0 : Int64)) = 0 then (0 : Int64) else p1 : Int64)) ||| ((if (lg_cmp (p1 &&& (4503599627370496 : Int64)) (0 : Int64)) = 0 then (0 : Int64) else (p2 &&& (((-4503599627370497) : Int64))) : Int64)) : Int64) fun x1 => oJoin (oLoop (b_X9_withExtras_43 σ p3) oFuel ((0, 0))) fun j3 => some ((if j3 = 0 then x1 else (if j3 = 1 then (x1 &&& (4503599627370496 : Int64)) else (0 : Int64)) : Int64))
set_option maxRecDepth 20000 in
set_option maxHeartbeats 2000000 in
theorem ok_X9_withExtras {σ : rS} {p1 : Int64} {p2 : Int64} {p3 : Int32}   : rFr Sy yX9_withExtras mX9_withExtras 0 [.ref 37, .long p1, .long p2, .int p3] σ (fun v => some (.long v)) (f_X9_withExtras σ p1 p2 p3) := by
  refine rFr_of (ls := [some (.ref 37), some (.long p1), none, some (.long p2), none, some (.int p3), none, none, none, none]) yfX9_withExtras rfl (Nat.le_of_ble_eq_true rfl) (fun o τ => ?_)
  unfold f_X9_withExtras
  refine P_l (fun hJ _ _ q => E_lload_n dX9_withExtras_0 rfl (E_ldc2 dX9_withExtras_1 kcX9_123 (E_land dX9_withExtras_4 (E_lconst (v := 0) dX9_withExtras_5 (by decide) (E_lcmp dX9_withExtras_6 q))))) ?_
  refine P_l (pc2 := 15) (ls2 := [some (.ref 37), some (.long p1), none, some (.long p2), none, some (.int p3), none, none, none, none]) (st2 := [.long ((if (lg_cmp (p2 &&& (4503599627370496 : Int64)) (0 : Int64)) = 0 then (0 : Int64) else p1 : Int64))]) (fun hJ _ _ hq => ?_) ?_
  · skip
    refine E_if_eq 14 dX9_withExtras_7 (by decide) (fun c_7_0 => ?_) (fun c_7_0 => ?_)
    · skip
      refine E_lconst (v := 0) dX9_withExtras_14 (by decide) ?_
      simp only [if_pos c_7_0] at hq
      exact hq
    · skip
      refine E_lload_n dX9_withExtras_10 rfl ?_
      refine E_goto 15 dX9_withExtras_11 (by decide) ?_
      simp only [if_neg c_7_0] at hq
      exact hq
  · skip
    refine P_l (fun hJ _ _ q => E_lload_n dX9_withExtras_15 rfl (E_ldc2 dX9_withExtras_16 kcX9_123 (E_land dX9_withExtras_19 (E_lconst (v := 0) dX9_withExtras_20 (by decide) (E_lcmp dX9_withExtras_21 q))))) ?_
    refine P_l (pc2 := 34) (ls2 := [some (.ref 37), none, none, none, none, some (.int p3), none, none, none, none]) (st2 := [.long ((if (lg_cmp (p1 &&& (4503599627370496 : Int64)) (0 : Int64)) = 0 then (0 : Int64) else (p2 &&& (((-4503599627370497) : Int64))) : Int64)), .long ((if (lg_cmp (p2 &&& (4503599627370496 : Int64)) (0 : Int64)) = 0 then (0 : Int64) else p1 : Int64))]) (fun hJ _ _ hq => ?_) ?_
    · skip
      refine E_if_eq 33 dX9_withExtras_22 (by decide) (fun c_22_0 => ?_) (fun c_22_0 => ?_)
      · skip
        refine E_lconst (v := 0) dX9_withExtras_33 (by decide) ?_
        simp only [if_pos c_22_0] at hq
        exact E_less (ls2 := [some (.ref 37), none, none, none, none, some (.int p3), none, none, none, none]) hq (rLe_at [some (.ref 37), none, none, none, none, some (.int p3), none, none, none, none] [some (.ref 37), some (.long p1), none, some (.long p2), none, some (.int p3), none, none, none, none] (And.intro rfl (And.intro rfl trivial)))
      · skip
        refine E_lload_n dX9_withExtras_25 rfl ?_
        refine E_ldc2 dX9_withExtras_26 kcX9_200 ?_
        refine E_land dX9_withExtras_29 ?_
        refine E_goto 34 dX9_withExtras_30 (by decide) ?_
        simp only [if_neg c_22_0] at hq
        exact E_less (ls2 := [some (.ref 37), none, none, none, none, some (.int p3), none, none, none, none]) hq (rLe_at [some (.ref 37), none, none, none, none, some (.int p3), none, none, none, none] [some (.ref 37), some (.long p1), none, some (.long p2), none, some (.int p3), none, none, none, none] (And.intro rfl (And.intro rfl trivial)))
    · skip
      refine P_l (fun hJ _ _ q => E_lor dX9_withExtras_34 (E_lstore (ls2 := [some (.ref 37), none, none, none, none, some (.int p3), some (.long (((if (lg_cmp (p2 &&& (4503599627370496 : Int64)) (0 : Int64)) = 0 then (0 : Int64) else p1 : Int64)) ||| ((if (lg_cmp (p1 &&& (4503599627370496 : Int64)) (0 : Int64)) = 0 then (0 : Int64) else (p2 &&& (((-4503599627370497) : Int64))) : Int64)))), none, none, none]) dX9_withExtras_35 (by decide) rfl q)) ?_
      refine P_v (((if (lg_cmp (p2 &&& (4503599627370496 : Int64)) (0 : Int64)) = 0 then (0 : Int64) else p1 : Int64)) ||| ((if (lg_cmp (p1 &&& (4503599627370496 : Int64)) (0 : Int64)) = 0 then (0 : Int64) else (p2 &&& (((-4503599627370497) : Int64))) : Int64))) (fun x => [some (.ref 37), none, none, none, none, some (.int p3), some (.long x), none, none, none]) (fun x1 => ?_)
      refine P_l (fun hJ _ _ q => E_iconst (v := 0) dX9_withExtras_37 (by decide) (E_istore (ls2 := [some (.ref 37), none, none, none, none, some (.int p3), some (.long x1), none, some (.int 0), none]) dX9_withExtras_38 (by decide) rfl (E_iconst (v := 0) dX9_withExtras_40 (by decide) (E_istore (ls2 := [some (.ref 37), none, none, none, none, some (.int p3), some (.long x1), none, some (.int 0), some (.int 0)]) dX9_withExtras_41 (by decide) rfl q)))) ?_
      refine P_join (pc2 := 82) (fun j3 => [none, none, none, none, none, none, some (.long x1), none, some (.int j3), none]) (fun j3 => []) (fun _ => σ) ?_ (fun j3 => ?_)
      · skip
        refine P_loop (fun s4 => [some (.ref 37), none, none, none, none, some (.int p3), some (.long x1), none, some (.int s4.1), some (.int s4.2)]) (fun _ => σ) (fun s4 => ?_) _ ((0, 0))
        unfold b_X9_withExtras_43
        refine P_l (fun hJ _ _ q => E_iload dX9_withExtras_43 rfl (E_iconst (v := 4) dX9_withExtras_45 (by decide) q)) ?_
        refine P_if (fun hJ _ _ h1 h2 => E_icmp_ge 82 dX9_withExtras_46 (by decide) h1 h2) ?_ ?_
        · skip
          refine P_less [none, none, none, none, none, none, some (.long x1), none, some (.int s4.1), none] (And.intro rfl (And.intro rfl trivial)) ?_
          exact P_inl (P_back s4.1)
        · skip
          refine P_l (fun hJ _ _ q => E_iload dX9_withExtras_49 rfl (E_aload_n dX9_withExtras_51 rfl (E_getR (b := 64) clX9 13 (by decide) flX9_60 (Or.inr ⟨_, rfl⟩) dX9_withExtras_52 (kd37 hJ.1.1) (rf37_13 hJ.1.1) (by decide) (E_iload dX9_withExtras_55 rfl q)))) ?_
          refine P_g (fun g5 => ?_)
          refine P_l (fun hJ _ _ q => E_iald dX9_withExtras_57 (kd64 hJ.1.1) (inB_vp g5) (E_iload dX9_withExtras_58 rfl (E_iconst (v := 4) dX9_withExtras_60 (by decide) (E_iload dX9_withExtras_61 rfl (E_imul dX9_withExtras_63 (E_ishr dX9_withExtras_64 (E_bipush (v := 15) dX9_withExtras_65 (by decide) (E_iand dX9_withExtras_67 (E_ishr dX9_withExtras_68 (E_iconst (v := 1) dX9_withExtras_69 (by decide) (E_iand dX9_withExtras_70 (E_iconst (v := 1) dX9_withExtras_71 (by decide) (E_ixor dX9_withExtras_72 (E_iadd dX9_withExtras_73 q)))))))))))))) ?_
          refine P_l (fun hJ _ _ q => E_istore (ls2 := [some (.ref 37), none, none, none, none, some (.int p3), some (.long x1), none, some (.int (s4.1 + ((((rI σ 64 (s4.2 : Int32).toNatClampNeg) >>> (((p3 >>> ((4 * s4.2) &&& 31)) &&& 15) &&& 31)) &&& 1) ^^^ 1))), some (.int s4.2)]) dX9_withExtras_74 (by decide) rfl q) ?_
          refine P_v (s4.1 + ((((rI σ 64 (s4.2 : Int32).toNatClampNeg) >>> (((p3 >>> ((4 * s4.2) &&& 31)) &&& 15) &&& 31)) &&& 1) ^^^ 1)) (fun x => [some (.ref 37), none, none, none, none, some (.int p3), some (.long x1), none, some (.int x), some (.int s4.2)]) (fun x6 => ?_)
          refine P_l (fun hJ _ _ q => E_iinc (v := 1) (ls2 := [some (.ref 37), none, none, none, none, some (.int p3), some (.long x1), none, some (.int x6), some (.int (s4.2 + 1))]) dX9_withExtras_76 rfl (by decide) (by decide) rfl (E_goto 43 dX9_withExtras_79 (by decide) q)) ?_
          exact P_back ((x6, s4.2 + 1))
      · skip
        refine P_l (fun hJ _ _ q => E_iload dX9_withExtras_82 rfl q) ?_
        refine P_l (pc2 := 108) (ls2 := [none, none, none, none, none, none, none, none, none, none]) (st2 := [.long ((if j3 = 0 then x1 else (if j3 = 1 then (x1 &&& (4503599627370496 : Int64)) else (0 : Int64)) : Int64))]) (fun hJ _ _ hq => ?_) ?_
        · skip
          refine E_if_ne 92 dX9_withExtras_84 (by decide) (fun c_84_0 => ?_) (fun c_84_0 => ?_)
          · skip
            refine E_iload dX9_withExtras_92 rfl ?_
            refine E_iconst (v := 1) dX9_withExtras_94 (by decide) ?_
            refine E_icmp_ne 107 dX9_withExtras_95 (by decide) (fun c_95_1 => ?_) (fun c_95_1 => ?_)
            · skip
              refine E_lconst (v := 0) dX9_withExtras_107 (by decide) ?_
              simp only [if_neg c_84_0, if_neg c_95_1] at hq
              exact E_less (ls2 := [none, none, none, none, none, none, none, none, none, none]) hq (rLe_at [none, none, none, none, none, none, none, none, none, none] [none, none, none, none, none, none, some (.long x1), none, some (.int j3), none] trivial)
            · skip
              refine E_lload dX9_withExtras_98 rfl ?_
              refine E_ldc2 dX9_withExtras_100 kcX9_123 ?_
              refine E_land dX9_withExtras_103 ?_
              refine E_goto 108 dX9_withExtras_104 (by decide) ?_
              simp only [if_neg c_84_0, if_pos c_95_1] at hq
              exact E_less (ls2 := [none, none, none, none, none, none, none, none, none, none]) hq (rLe_at [none, none, none, none, none, none, none, none, none, none] [none, none, none, none, none, none, some (.long x1), none, some (.int j3), none] trivial)
          · skip
            refine E_lload dX9_withExtras_87 rfl ?_
            refine E_goto 108 dX9_withExtras_89 (by decide) ?_
            simp only [if_pos c_84_0] at hq
            exact E_less (ls2 := [none, none, none, none, none, none, none, none, none, none]) hq (rLe_at [none, none, none, none, none, none, none, none, none, none] [none, none, none, none, none, none, some (.long x1), none, some (.int j3), none] trivial)
        · skip
          exact P_retr (fun _ _ => E_lret rfl dX9_withExtras_108)

def f_X9_append (σ : rS) (p1 : Int32) (p2 : Int64) (p3 : Int64) : Option (Unit × rS) := if (nI (rK σ (rR σ (rR σ 37 6) 0)).2) ≤ (rI σ (rR σ 37 6) 3) then (some (((), σ))) else (if inB (rI σ (rR σ 37 6) 3) ((rK σ (rR σ (rR σ 37 6) 0)).2) then (oLet (wI σ (rR σ (rR σ 37 6) 0) (rI σ (rR σ 37 6) 3 : Int32).toNatClampNeg p1) fun σ2 => if inB (rI σ (rR σ 37 6) 3) ((rK σ2 (rR σ2 (rR σ2 37 6) 0)).2) then (oLet (wL σ2 (rR σ2 (rR σ2 37 6) 1) (rI σ (rR σ 37 6) 3 : Int32).toNatClampNeg p2) fun σ4 => if inB (rI σ (rR σ 37 6) 3) ((rK σ4 (rR σ4 (rR σ4 37 6) 0)).2) then (oLet (wL σ4 (rR σ4 (rR σ4 37 6) 2) (rI σ (rR σ 37 6) 3 : Int32).toNatClampNeg p3) fun σ6 => oLet (wI σ6 (rR σ6 37 6) 3 ((rI σ6 (rR σ6 37 6) 3) + 1)) fun σ7 => if inB (p1 &&& 65535) 65536 then (oLet (wI σ7 50 (p1 &&& 65535 : Int32).toNatClampNeg ((rI σ (rR σ 37 6) 3) + 1)) fun σ9 => some (((), σ9))) else none) else none) else none) else none)
set_option maxRecDepth 20000 in
set_option maxHeartbeats 2000000 in
theorem ok_X9_append {σ : rS} {p1 : Int32} {p2 : Int64} {p3 : Int64}   : rFn Sy yX9_append mX9_append 0 [.ref 37, .int p1, .long p2, .long p3] σ 0 0 (fun _ => .inl none) (f_X9_append σ p1 p2 p3) := by
  refine rF_of (ls := [some (.ref 37), some (.int p1), some (.long p2), none, some (.long p3), none, none]) yfX9_append rfl (Nat.le_of_ble_eq_true rfl) (fun o τ => ?_)
  unfold f_X9_append
  refine P_l (fun hJ _ _ q => E_aload_n dX9_append_0 rfl (E_getR (b := rR σ 37 6) clX9 6 (by decide) flX9_41 (Or.inl ⟨_, rfl⟩) dX9_append_1 (kd37 hJ.1.1) rfl (Nat.pos_iff_ne_zero.mp (Nat.lt_of_lt_of_le (by decide : 0 < 3) (Sy_there hJ.1).2)) (E_getIN clX3 3 (by decide) flX9_114 (Or.inl rfl) dX9_append_4 (Sy_there hJ.1).1 (E_istore (ls2 := [some (.ref 37), some (.int p1), some (.long p2), none, some (.long p3), none, some (.int (rI σ (rR σ 37 6) 3))]) dX9_append_7 (by decide) rfl (E_iload dX9_append_9 rfl (E_aload_n dX9_append_11 rfl (E_getR (b := rR σ 37 6) clX9 6 (by decide) flX9_41 (Or.inl ⟨_, rfl⟩) dX9_append_12 (kd37 hJ.1.1) rfl (Nat.pos_iff_ne_zero.mp (Nat.lt_of_lt_of_le (by decide : 0 < 3) (Sy_there hJ.1).2)) (E_getRN (b := rR σ (rR σ 37 6) 0) clX3 0 (by decide) flX9_117 (Or.inr ⟨_, rfl⟩) dX9_append_15 (Sy_there hJ.1).1 rfl (Nat.pos_iff_ne_zero.mp (Nat.lt_of_lt_of_le (by decide : 0 < 3) (Sy_there0 hJ.1).2)) (E_alen (v := nI (rK σ (rR σ (rR σ 37 6) 0)).2) dX9_append_18 (Sy_there0 hJ.1).1 (by decide) rfl q))))))))) ?_
  refine P_if (fun hJ _ _ h1 h2 => E_icmp_ge 82 dX9_append_19 (by decide) h1 h2) ?_ ?_
  · skip
    exact P_ret (fun _ _ => E_vret rfl dX9_append_82)
  · skip
    refine P_l (fun hJ _ _ q => E_aload_n dX9_append_22 rfl (E_getR (b := rR σ 37 6) clX9 6 (by decide) flX9_41 (Or.inl ⟨_, rfl⟩) dX9_append_23 (kd37 hJ.1.1) rfl (Nat.pos_iff_ne_zero.mp (Nat.lt_of_lt_of_le (by decide : 0 < 3) (Sy_there hJ.1).2)) (E_getRN (b := rR σ (rR σ 37 6) 0) clX3 0 (by decide) flX9_117 (Or.inr ⟨_, rfl⟩) dX9_append_26 (Sy_there hJ.1).1 rfl (Nat.pos_iff_ne_zero.mp (Nat.lt_of_lt_of_le (by decide : 0 < 3) (Sy_there0 hJ.1).2)) (E_iload dX9_append_29 rfl (E_iload_n dX9_append_31 rfl q))))) ?_
    refine P_g (fun g1 => ?_)
    refine P_w (fun hJ _ _ q => E_iast dX9_append_32 (Sy_there0 hJ.1).1 (Sy_there0 hJ.1).2 (inB_vp g1) q) (fun hJ => Sy_wI hJ.1) rfl rfl rfl (fun σ2 hσ2 => ?_)
    refine P_l (fun hJ _ _ q => E_aload_n dX9_append_33 rfl (E_getR (b := rR σ2 37 6) clX9 6 (by decide) flX9_41 (Or.inl ⟨_, rfl⟩) dX9_append_34 (kd37 hJ.1.1) rfl (Nat.pos_iff_ne_zero.mp (Nat.lt_of_lt_of_le (by decide : 0 < 3) (Sy_there hJ.1).2)) (E_getRN (b := rR σ2 (rR σ2 37 6) 1) clX3 1 (by decide) flX9_120 (Or.inr ⟨_, rfl⟩) dX9_append_37 (Sy_there hJ.1).1 rfl (Nat.pos_iff_ne_zero.mp (Nat.lt_of_lt_of_le (by decide : 0 < 3) (Sy_there1 hJ.1).2)) (E_iload dX9_append_40 rfl (E_lload_n dX9_append_42 rfl q))))) ?_
    refine P_g (fun g3 => ?_)
    refine P_w (fun hJ _ _ q => E_last dX9_append_43 (Sy_there1 hJ.1).1 (inB_vp g3) q) (fun hJ => Sy_wL hJ.1) rfl rfl rfl (fun σ4 hσ4 => ?_)
    refine P_l (fun hJ _ _ q => E_aload_n dX9_append_44 rfl (E_getR (b := rR σ4 37 6) clX9 6 (by decide) flX9_41 (Or.inl ⟨_, rfl⟩) dX9_append_45 (kd37 hJ.1.1) rfl (Nat.pos_iff_ne_zero.mp (Nat.lt_of_lt_of_le (by decide : 0 < 3) (Sy_there hJ.1).2)) (E_getRN (b := rR σ4 (rR σ4 37 6) 2) clX3 2 (by decide) flX9_125 (Or.inr ⟨_, rfl⟩) dX9_append_48 (Sy_there hJ.1).1 rfl (Nat.pos_iff_ne_zero.mp (Nat.lt_of_lt_of_le (by decide : 0 < 3) (Sy_there2 hJ.1).2)) (E_iload dX9_append_51 rfl (E_lload dX9_append_53 rfl q))))) ?_
    refine P_g (fun g5 => ?_)
    refine P_w (fun hJ _ _ q => E_last dX9_append_55 (Sy_there2 hJ.1).1 (inB_vp g5) q) (fun hJ => Sy_wL hJ.1) rfl rfl rfl (fun σ6 hσ6 => ?_)
    refine P_l (fun hJ _ _ q => E_aload_n dX9_append_56 rfl (E_getR (b := rR σ6 37 6) clX9 6 (by decide) flX9_41 (Or.inl ⟨_, rfl⟩) dX9_append_57 (kd37 hJ.1.1) rfl (Nat.pos_iff_ne_zero.mp (Nat.lt_of_lt_of_le (by decide : 0 < 3) (Sy_there hJ.1).2)) (E_dup dX9_append_60 rfl (E_getIN clX3 3 (by decide) flX9_114 (Or.inl rfl) dX9_append_61 (Sy_there hJ.1).1 (E_iconst (v := 1) dX9_append_64 (by decide) (E_iadd dX9_append_65 q)))))) ?_
    refine P_w (fun hJ _ _ q => E_putIN clX3 3 (by decide) flX9_114 (Or.inl rfl) rfl dX9_append_66 (Sy_there hJ.1).1 q) (fun hJ => Sy_wI hJ.1) rfl rfl rfl (fun σ7 hσ7 => ?_)
    refine P_l (fun hJ _ _ q => E_aload_n dX9_append_69 rfl (E_getR (b := 50) clX9 4 (by decide) flX9_33 (Or.inr ⟨_, rfl⟩) dX9_append_70 (kd37 hJ.1.1) (rf37_4 hJ.1.1) (by decide) (E_iload_n dX9_append_73 rfl (E_ldc dX9_append_74 kcX9_140 (E_iand dX9_append_76 (E_iload dX9_append_77 rfl (E_iconst (v := 1) dX9_append_79 (by decide) (E_iadd dX9_append_80 q)))))))) ?_
    refine P_g (fun g8 => ?_)
    refine P_w (fun hJ _ _ q => E_iast dX9_append_81 (kd50 hJ.1.1) (by decide) (inB_vp g8) q) (fun hJ => Sy_wI hJ.1) rfl rfl rfl (fun σ9 hσ9 => ?_)
    exact P_ret (fun _ _ => E_vret rfl dX9_append_82)

def f_X9_merge (σ : rS) (p1 : Int32) (p2 : Int64) (p3 : Int64) : Option (Unit × rS) := if (rI σ 37 17) = 3 then (if inB p1 ((rK σ (rR σ (rR σ 37 6) 0)).2) then (oLet (wL σ (rR σ (rR σ 37 6) 1) (p1 : Int32).toNatClampNeg ((rL σ (rR σ (rR σ 37 6) 1) (p1 : Int32).toNatClampNeg) ||| p2)) fun σ4 => some (((), σ4))) else none) else (if (rI σ 37 17) = 2 then (if inB p1 ((rK σ (rR σ (rR σ 37 6) 0)).2) then (if ¬ (1000000007 : Int64) = 0 then (oLet (wL σ (rR σ (rR σ 37 6) 1) (p1 : Int32).toNatClampNeg (lRem ((rL σ (rR σ (rR σ 37 6) 1) (p1 : Int32).toNatClampNeg) + p2) (1000000007 : Int64))) fun σ9 => oLet (rL σ9 (rR σ (rR σ 37 6) 2) (p1 : Int32).toNatClampNeg : Int64) fun x10 => oLet ((if 0 ≤ (lg_cmp ((x10.toUInt64 >>> (((32 : Int32)).toInt64.toUInt64 &&& Int64.toUInt64 63)).toInt64) ((p3.toUInt64 >>> (((32 : Int32)).toInt64.toUInt64 &&& Int64.toUInt64 63)).toInt64)) then ((p3.toUInt64 >>> (((32 : Int32)).toInt64.toUInt64 &&& Int64.toUInt64 63)).toInt64) else ((x10.toUInt64 >>> (((32 : Int32)).toInt64.toUInt64 &&& Int64.toUInt64 63)).toInt64) : Int64) : Int64) fun x11 => oLet ((if (((x10 : Int64)).toInt32) ≤ (((p3 : Int64)).toInt32) then (((((p3 : Int64)).toInt32 : Int32)).toInt64) else (((((x10 : Int64)).toInt32 : Int32)).toInt64) : Int64) : Int64) fun x12 => oLet (wL σ9 (rR σ (rR σ 37 6) 2) (p1 : Int32).toNatClampNeg ((x11 <<< (((32 : Int32)).toInt64 &&& 63)) ||| x12)) fun σ13 => some (((), σ13))) else none) else none) else (if (rI σ 37 17) = 4 then (if inB p1 ((rK σ (rR σ (rR σ 37 6) 0)).2) then (if 0 < (lg_cmp p2 (rL σ (rR σ (rR σ 37 6) 1) (p1 : Int32).toNatClampNeg)) then (oLet (wL σ (rR σ (rR σ 37 6) 1) (p1 : Int32).toNatClampNeg p2) fun σ17 => oLet (wL σ17 (rR σ (rR σ 37 6) 2) (p1 : Int32).toNatClampNeg p3) fun σ18 => some (((), σ18))) else (if (if (lg_cmp p2 (rL σ (rR σ (rR σ 37 6) 1) (p1 : Int32).toNatClampNeg)) = 0 then (if (lg_cmp p3 (rL σ (rR σ (rR σ 37 6) 2) (p1 : Int32).toNatClampNeg)) ≤ 0 then true else false) else true) = true then (some (((), σ))) else (oLet (wL σ (rR σ (rR σ 37 6) 1) (p1 : Int32).toNatClampNeg p2) fun σ21 => oLet (wL σ21 (rR σ (rR σ 37 6) 2) (p1 : Int32).toNatClampNeg p3) fun σ22 => some (((), σ22))))) else none) else (some (((), σ)))))
set_option maxRecDepth 20000 in
set_option maxHeartbeats 2000000 in
theorem ok_X9_merge {σ : rS} {p1 : Int32} {p2 : Int64} {p3 : Int64}   : rFn Sy yX9_merge mX9_merge 0 [.ref 37, .int p1, .long p2, .long p3] σ 0 0 (fun _ => .inl none) (f_X9_merge σ p1 p2 p3) := by
  refine rF_of (ls := [some (.ref 37), some (.int p1), some (.long p2), none, some (.long p3), none, none, none, none, none, none, none, none, none]) yfX9_merge rfl (Nat.le_of_ble_eq_true rfl) (fun o τ => ?_)
  unfold f_X9_merge
  refine P_l (fun hJ _ _ q => E_aload_n dX9_merge_0 rfl (E_getR (b := rR σ 37 6) clX9 6 (by decide) flX9_41 (Or.inl ⟨_, rfl⟩) dX9_merge_1 (kd37 hJ.1.1) rfl (Nat.pos_iff_ne_zero.mp (Nat.lt_of_lt_of_le (by decide : 0 < 3) (Sy_there hJ.1).2)) (E_getRN (b := rR σ (rR σ 37 6) 1) clX3 1 (by decide) flX9_120 (Or.inr ⟨_, rfl⟩) dX9_merge_4 (Sy_there hJ.1).1 rfl (Nat.pos_iff_ne_zero.mp (Nat.lt_of_lt_of_le (by decide : 0 < 3) (Sy_there1 hJ.1).2)) (E_astore (ls2 := [some (.ref 37), some (.int p1), some (.long p2), none, some (.long p3), none, some (.ref (rR σ (rR σ 37 6) 1)), none, none, none, none, none, none, none]) dX9_merge_7 (by decide) rfl (E_aload_n dX9_merge_9 rfl (E_getR (b := rR σ 37 6) clX9 6 (by decide) flX9_41 (Or.inl ⟨_, rfl⟩) dX9_merge_10 (kd37 hJ.1.1) rfl (Nat.pos_iff_ne_zero.mp (Nat.lt_of_lt_of_le (by decide : 0 < 3) (Sy_there hJ.1).2)) (E_getRN (b := rR σ (rR σ 37 6) 2) clX3 2 (by decide) flX9_125 (Or.inr ⟨_, rfl⟩) dX9_merge_13 (Sy_there hJ.1).1 rfl (Nat.pos_iff_ne_zero.mp (Nat.lt_of_lt_of_le (by decide : 0 < 3) (Sy_there2 hJ.1).2)) (E_astore (ls2 := [some (.ref 37), some (.int p1), some (.long p2), none, some (.long p3), none, some (.ref (rR σ (rR σ 37 6) 1)), some (.ref (rR σ (rR σ 37 6) 2)), none, none, none, none, none, none]) dX9_merge_16 (by decide) rfl (E_aload_n dX9_merge_18 rfl (E_getI clX9 17 (by decide) flX9_101 (Or.inl rfl) dX9_merge_19 (kd37 hJ.1.1) (E_iconst (v := 3) dX9_merge_22 (by decide) q))))))))))) ?_
  refine P_if (fun hJ _ _ h1 h2 => E_icmp_ne 37 dX9_merge_23 (by decide) h2 h1) ?_ ?_
  · skip
    refine P_l (fun hJ _ _ q => E_aload dX9_merge_26 rfl (E_iload_n dX9_merge_28 rfl (E_dup2 dX9_merge_29 rfl rfl q))) ?_
    refine P_g (fun g1 => ?_)
    refine P_l (fun hJ _ _ q => E_lald dX9_merge_30 (Sy_there1 hJ.1).1 (inB_vp g1) (E_lload_n dX9_merge_31 rfl (E_lor dX9_merge_32 q))) ?_
    refine P_J (fun hJ => ?_)
    have k2 := And.intro ((Sy_there1 hJ.1).1) ((Sy_there1 hJ.1).2)
    refine P_J (fun hJ => ?_)
    have k3 := And.intro ((Sy_there2 hJ.1).1) ((Sy_there2 hJ.1).2)
    refine P_w (fun hJ _ _ q => E_last dX9_merge_33 (Sy_there1 hJ.1).1 (inB_vp g1) q) (fun hJ => Sy_wL hJ.1) rfl rfl rfl (fun σ4 hσ4 => ?_)
    refine P_l (fun hJ _ _ q => E_goto 178 dX9_merge_34 (by decide) q) ?_
    exact P_ret (fun _ _ => E_vret rfl dX9_merge_178)
  · skip
    refine P_l (fun hJ _ _ q => E_aload_n dX9_merge_37 rfl (E_getI clX9 17 (by decide) flX9_101 (Or.inl rfl) dX9_merge_38 (kd37 hJ.1.1) (E_iconst (v := 2) dX9_merge_41 (by decide) q))) ?_
    refine P_if (fun hJ _ _ h1 h2 => E_icmp_ne 131 dX9_merge_42 (by decide) h2 h1) ?_ ?_
    · skip
      refine P_l (fun hJ _ _ q => E_aload dX9_merge_45 rfl (E_iload_n dX9_merge_47 rfl (E_aload dX9_merge_48 rfl (E_iload_n dX9_merge_50 rfl q)))) ?_
      refine P_g (fun g5 => ?_)
      refine P_l (fun hJ _ _ q => E_lald dX9_merge_51 (Sy_there1 hJ.1).1 (inB_vp g5) (E_lload_n dX9_merge_52 rfl (E_ladd dX9_merge_53 (E_ldc2 dX9_merge_54 kcX9_186 q)))) ?_
      refine P_g (fun g6 => ?_)
      refine P_l (fun hJ _ _ q => E_lrem dX9_merge_57 g6 q) ?_
      refine P_J (fun hJ => ?_)
      have k7 := And.intro ((Sy_there1 hJ.1).1) ((Sy_there1 hJ.1).2)
      refine P_J (fun hJ => ?_)
      have k8 := And.intro ((Sy_there2 hJ.1).1) ((Sy_there2 hJ.1).2)
      refine P_w (fun hJ _ _ q => E_last dX9_merge_58 (Sy_there1 hJ.1).1 (inB_vp g5) q) (fun hJ => Sy_wL hJ.1) rfl rfl rfl (fun σ9 hσ9 => ?_)
      refine P_l (fun hJ _ _ q => E_aload dX9_merge_59 rfl (E_iload_n dX9_merge_61 rfl (E_lald dX9_merge_62 ((congrFun hσ9 _).trans k8.1) (inB_vp g5) (E_lstore (ls2 := [some (.ref 37), some (.int p1), some (.long p2), none, some (.long p3), none, some (.ref (rR σ (rR σ 37 6) 1)), some (.ref (rR σ (rR σ 37 6) 2)), some (.long (rL σ9 (rR σ (rR σ 37 6) 2) (p1 : Int32).toNatClampNeg)), none, none, none, none, none]) dX9_merge_63 (by decide) rfl q)))) ?_
      refine P_v (rL σ9 (rR σ (rR σ 37 6) 2) (p1 : Int32).toNatClampNeg) (fun x => [some (.ref 37), some (.int p1), some (.long p2), none, some (.long p3), none, some (.ref (rR σ (rR σ 37 6) 1)), some (.ref (rR σ (rR σ 37 6) 2)), some (.long x), none, none, none, none, none]) (fun x10 => ?_)
      refine P_l (fun hJ _ _ q => E_lload dX9_merge_65 rfl (E_bipush (v := 32) dX9_merge_67 (by decide) (E_lushr dX9_merge_69 (E_lload dX9_merge_70 rfl (E_bipush (v := 32) dX9_merge_72 (by decide) (E_lushr dX9_merge_74 (E_lcmp dX9_merge_75 q))))))) ?_
      refine P_l (pc2 := 92) (ls2 := [none, some (.int p1), none, none, some (.long p3), none, none, some (.ref (rR σ (rR σ 37 6) 2)), some (.long x10), none, none, none, none, none]) (st2 := [.long ((if 0 ≤ (lg_cmp ((x10.toUInt64 >>> (((32 : Int32)).toInt64.toUInt64 &&& Int64.toUInt64 63)).toInt64) ((p3.toUInt64 >>> (((32 : Int32)).toInt64.toUInt64 &&& Int64.toUInt64 63)).toInt64)) then ((p3.toUInt64 >>> (((32 : Int32)).toInt64.toUInt64 &&& Int64.toUInt64 63)).toInt64) else ((x10.toUInt64 >>> (((32 : Int32)).toInt64.toUInt64 &&& Int64.toUInt64 63)).toInt64) : Int64))]) (fun hJ _ _ hq => ?_) ?_
      · skip
        refine E_if_ge 87 dX9_merge_76 (by decide) (fun c_76_0 => ?_) (fun c_76_0 => ?_)
        · skip
          refine E_lload dX9_merge_87 rfl ?_
          refine E_bipush (v := 32) dX9_merge_89 (by decide) ?_
          refine E_lushr dX9_merge_91 ?_
          simp only [if_pos c_76_0] at hq
          exact E_less (ls2 := [none, some (.int p1), none, none, some (.long p3), none, none, some (.ref (rR σ (rR σ 37 6) 2)), some (.long x10), none, none, none, none, none]) hq (rLe_at [none, some (.int p1), none, none, some (.long p3), none, none, some (.ref (rR σ (rR σ 37 6) 2)), some (.long x10), none, none, none, none, none] [some (.ref 37), some (.int p1), some (.long p2), none, some (.long p3), none, some (.ref (rR σ (rR σ 37 6) 1)), some (.ref (rR σ (rR σ 37 6) 2)), some (.long x10), none, none, none, none, none] (And.intro rfl (And.intro rfl (And.intro rfl (And.intro rfl trivial)))))
        · skip
          refine E_lload dX9_merge_79 rfl ?_
          refine E_bipush (v := 32) dX9_merge_81 (by decide) ?_
          refine E_lushr dX9_merge_83 ?_
          refine E_goto 92 dX9_merge_84 (by decide) ?_
          simp only [if_neg c_76_0] at hq
          exact E_less (ls2 := [none, some (.int p1), none, none, some (.long p3), none, none, some (.ref (rR σ (rR σ 37 6) 2)), some (.long x10), none, none, none, none, none]) hq (rLe_at [none, some (.int p1), none, none, some (.long p3), none, none, some (.ref (rR σ (rR σ 37 6) 2)), some (.long x10), none, none, none, none, none] [some (.ref 37), some (.int p1), some (.long p2), none, some (.long p3), none, some (.ref (rR σ (rR σ 37 6) 1)), some (.ref (rR σ (rR σ 37 6) 2)), some (.long x10), none, none, none, none, none] (And.intro rfl (And.intro rfl (And.intro rfl (And.intro rfl trivial)))))
      · skip
        refine P_l (fun hJ _ _ q => E_lstore (ls2 := [none, some (.int p1), none, none, some (.long p3), none, none, some (.ref (rR σ (rR σ 37 6) 2)), some (.long x10), none, some (.long ((if 0 ≤ (lg_cmp ((x10.toUInt64 >>> (((32 : Int32)).toInt64.toUInt64 &&& Int64.toUInt64 63)).toInt64) ((p3.toUInt64 >>> (((32 : Int32)).toInt64.toUInt64 &&& Int64.toUInt64 63)).toInt64)) then ((p3.toUInt64 >>> (((32 : Int32)).toInt64.toUInt64 &&& Int64.toUInt64 63)).toInt64) else ((x10.toUInt64 >>> (((32 : Int32)).toInt64.toUInt64 &&& Int64.toUInt64 63)).toInt64) : Int64))), none, none, none]) dX9_merge_92 (by decide) rfl q) ?_
        refine P_v ((if 0 ≤ (lg_cmp ((x10.toUInt64 >>> (((32 : Int32)).toInt64.toUInt64 &&& Int64.toUInt64 63)).toInt64) ((p3.toUInt64 >>> (((32 : Int32)).toInt64.toUInt64 &&& Int64.toUInt64 63)).toInt64)) then ((p3.toUInt64 >>> (((32 : Int32)).toInt64.toUInt64 &&& Int64.toUInt64 63)).toInt64) else ((x10.toUInt64 >>> (((32 : Int32)).toInt64.toUInt64 &&& Int64.toUInt64 63)).toInt64) : Int64)) (fun x => [none, some (.int p1), none, none, some (.long p3), none, none, some (.ref (rR σ (rR σ 37 6) 2)), some (.long x10), none, some (.long x), none, none, none]) (fun x11 => ?_)
        refine P_l (fun hJ _ _ q => E_lload dX9_merge_94 rfl (E_l2i dX9_merge_96 (E_lload dX9_merge_97 rfl (E_l2i dX9_merge_99 q)))) ?_
        refine P_l (pc2 := 114) (ls2 := [none, some (.int p1), none, none, none, none, none, some (.ref (rR σ (rR σ 37 6) 2)), none, none, some (.long x11), none, none, none]) (st2 := [.long ((if (((x10 : Int64)).toInt32) ≤ (((p3 : Int64)).toInt32) then (((((p3 : Int64)).toInt32 : Int32)).toInt64) else (((((x10 : Int64)).toInt32 : Int32)).toInt64) : Int64))]) (fun hJ _ _ hq => ?_) ?_
        · skip
          refine E_icmp_le 110 dX9_merge_100 (by decide) (fun c_100_0 => ?_) (fun c_100_0 => ?_)
          · skip
            refine E_lload dX9_merge_110 rfl ?_
            refine E_l2i dX9_merge_112 ?_
            refine E_i2l dX9_merge_113 ?_
            simp only [if_pos c_100_0] at hq
            exact E_less (ls2 := [none, some (.int p1), none, none, none, none, none, some (.ref (rR σ (rR σ 37 6) 2)), none, none, some (.long x11), none, none, none]) hq (rLe_at [none, some (.int p1), none, none, none, none, none, some (.ref (rR σ (rR σ 37 6) 2)), none, none, some (.long x11), none, none, none] [none, some (.int p1), none, none, some (.long p3), none, none, some (.ref (rR σ (rR σ 37 6) 2)), some (.long x10), none, some (.long x11), none, none, none] (And.intro rfl (And.intro rfl (And.intro rfl trivial))))
          · skip
            refine E_lload dX9_merge_103 rfl ?_
            refine E_l2i dX9_merge_105 ?_
            refine E_i2l dX9_merge_106 ?_
            refine E_goto 114 dX9_merge_107 (by decide) ?_
            simp only [if_neg c_100_0] at hq
            exact E_less (ls2 := [none, some (.int p1), none, none, none, none, none, some (.ref (rR σ (rR σ 37 6) 2)), none, none, some (.long x11), none, none, none]) hq (rLe_at [none, some (.int p1), none, none, none, none, none, some (.ref (rR σ (rR σ 37 6) 2)), none, none, some (.long x11), none, none, none] [none, some (.int p1), none, none, some (.long p3), none, none, some (.ref (rR σ (rR σ 37 6) 2)), some (.long x10), none, some (.long x11), none, none, none] (And.intro rfl (And.intro rfl (And.intro rfl trivial))))
        · skip
          refine P_l (fun hJ _ _ q => E_lstore (ls2 := [none, some (.int p1), none, none, none, none, none, some (.ref (rR σ (rR σ 37 6) 2)), none, none, some (.long x11), none, some (.long ((if (((x10 : Int64)).toInt32) ≤ (((p3 : Int64)).toInt32) then (((((p3 : Int64)).toInt32 : Int32)).toInt64) else (((((x10 : Int64)).toInt32 : Int32)).toInt64) : Int64))), none]) dX9_merge_114 (by decide) rfl q) ?_
          refine P_v ((if (((x10 : Int64)).toInt32) ≤ (((p3 : Int64)).toInt32) then (((((p3 : Int64)).toInt32 : Int32)).toInt64) else (((((x10 : Int64)).toInt32 : Int32)).toInt64) : Int64)) (fun x => [none, some (.int p1), none, none, none, none, none, some (.ref (rR σ (rR σ 37 6) 2)), none, none, some (.long x11), none, some (.long x), none]) (fun x12 => ?_)
          refine P_l (fun hJ _ _ q => E_aload dX9_merge_116 rfl (E_iload_n dX9_merge_118 rfl (E_lload dX9_merge_119 rfl (E_bipush (v := 32) dX9_merge_121 (by decide) (E_lshl dX9_merge_123 (E_lload dX9_merge_124 rfl (E_lor dX9_merge_126 q))))))) ?_
          refine P_w (fun hJ _ _ q => E_last dX9_merge_127 ((congrFun hσ9 _).trans k8.1) (inB_vp g5) q) (fun hJ => Sy_wL hJ.1) rfl rfl rfl (fun σ13 hσ13 => ?_)
          refine P_l (fun hJ _ _ q => E_goto 178 dX9_merge_128 (by decide) q) ?_
          exact P_ret (fun _ _ => E_vret rfl dX9_merge_178)
    · skip
      refine P_l (fun hJ _ _ q => E_aload_n dX9_merge_131 rfl (E_getI clX9 17 (by decide) flX9_101 (Or.inl rfl) dX9_merge_132 (kd37 hJ.1.1) (E_iconst (v := 4) dX9_merge_135 (by decide) q))) ?_
      refine P_if (fun hJ _ _ h1 h2 => E_icmp_ne 178 dX9_merge_136 (by decide) h2 h1) ?_ ?_
      · skip
        refine P_l (fun hJ _ _ q => E_lload_n dX9_merge_139 rfl (E_aload dX9_merge_140 rfl (E_iload_n dX9_merge_142 rfl q))) ?_
        refine P_g (fun g14 => ?_)
        refine P_l (fun hJ _ _ q => E_lald dX9_merge_143 (Sy_there1 hJ.1).1 (inB_vp g14) (E_lcmp dX9_merge_144 q)) ?_
        refine P_if (fun hJ _ _ h1 h2 => E_if_gt 167 dX9_merge_145 (by decide) h1 h2) ?_ ?_
        · skip
          refine P_l (fun hJ _ _ q => E_aload dX9_merge_167 rfl (E_iload_n dX9_merge_169 rfl (E_lload_n dX9_merge_170 rfl q))) ?_
          refine P_J (fun hJ => ?_)
          have k15 := And.intro ((Sy_there1 hJ.1).1) ((Sy_there1 hJ.1).2)
          refine P_J (fun hJ => ?_)
          have k16 := And.intro ((Sy_there2 hJ.1).1) ((Sy_there2 hJ.1).2)
          refine P_w (fun hJ _ _ q => E_last dX9_merge_171 (Sy_there1 hJ.1).1 (inB_vp g14) q) (fun hJ => Sy_wL hJ.1) rfl rfl rfl (fun σ17 hσ17 => ?_)
          refine P_l (fun hJ _ _ q => E_aload dX9_merge_172 rfl (E_iload_n dX9_merge_174 rfl (E_lload dX9_merge_175 rfl q))) ?_
          refine P_w (fun hJ _ _ q => E_last dX9_merge_177 ((congrFun hσ17 _).trans k16.1) (inB_vp g14) q) (fun hJ => Sy_wL hJ.1) rfl rfl rfl (fun σ18 hσ18 => ?_)
          exact P_ret (fun _ _ => E_vret rfl dX9_merge_178)
        · skip
          refine P_l (fun hJ _ _ q => E_lload_n dX9_merge_148 rfl (E_aload dX9_merge_149 rfl (E_iload_n dX9_merge_151 rfl (E_lald dX9_merge_152 (Sy_there1 hJ.1).1 (inB_vp g14) (E_lcmp dX9_merge_153 q))))) ?_
          refine P_if (c := (if (lg_cmp p2 (rL σ (rR σ (rR σ 37 6) 1) (p1 : Int32).toNatClampNeg)) = 0 then (if (lg_cmp p3 (rL σ (rR σ (rR σ 37 6) 2) (p1 : Int32).toNatClampNeg)) ≤ 0 then true else false) else true) = true) (pc1 := 178) (ls1 := [some (.ref 37), some (.int p1), some (.long p2), none, some (.long p3), none, some (.ref (rR σ (rR σ 37 6) 1)), some (.ref (rR σ (rR σ 37 6) 2)), none, none, none, none, none, none]) (st1 := []) (pc2 := 167) (ls2 := [some (.ref 37), some (.int p1), some (.long p2), none, some (.long p3), none, some (.ref (rR σ (rR σ 37 6) 1)), some (.ref (rR σ (rR σ 37 6) 2)), none, none, none, none, none, none]) (st2 := []) (fun hJ _ _ hX hY => ?_) ?_ ?_
          · skip
            refine E_if_ne 178 dX9_merge_154 (by decide) (fun c_154_0 => ?_) (fun c_154_0 => ?_)
            · skip
              exact hX (by simp only [if_neg c_154_0])
            · skip
              refine E_lload dX9_merge_157 rfl ?_
              refine E_aload dX9_merge_159 rfl ?_
              refine E_iload_n dX9_merge_161 rfl ?_
              refine E_lald dX9_merge_162 (Sy_there2 hJ.1).1 (inB_vp g14) ?_
              refine E_lcmp dX9_merge_163 ?_
              refine E_if_le 178 dX9_merge_164 (by decide) (fun c_164_1 => ?_) (fun c_164_1 => ?_)
              · skip
                exact hX (by simp only [if_pos c_154_0, if_pos c_164_1])
              · skip
                exact hY (by simp only [if_pos c_154_0, if_neg c_164_1]; exact Bool.false_ne_true)
          · skip
            exact P_ret (fun _ _ => E_vret rfl dX9_merge_178)
          · skip
            refine P_l (fun hJ _ _ q => E_aload dX9_merge_167 rfl (E_iload_n dX9_merge_169 rfl (E_lload_n dX9_merge_170 rfl q))) ?_
            refine P_J (fun hJ => ?_)
            have k19 := And.intro ((Sy_there1 hJ.1).1) ((Sy_there1 hJ.1).2)
            refine P_J (fun hJ => ?_)
            have k20 := And.intro ((Sy_there2 hJ.1).1) ((Sy_there2 hJ.1).2)
            refine P_w (fun hJ _ _ q => E_last dX9_merge_171 (Sy_there1 hJ.1).1 (inB_vp g14) q) (fun hJ => Sy_wL hJ.1) rfl rfl rfl (fun σ21 hσ21 => ?_)
            refine P_l (fun hJ _ _ q => E_aload dX9_merge_172 rfl (E_iload_n dX9_merge_174 rfl (E_lload dX9_merge_175 rfl q))) ?_
            refine P_w (fun hJ _ _ q => E_last dX9_merge_177 ((congrFun hσ21 _).trans k20.1) (inB_vp g14) q) (fun hJ => Sy_wL hJ.1) rfl rfl rfl (fun σ22 hσ22 => ?_)
            exact P_ret (fun _ _ => E_vret rfl dX9_merge_178)
      · skip
        exact P_ret (fun _ _ => E_vret rfl dX9_merge_178)

def f_X9_put (σ : rS) (p1 : Int32) (p2 : Int32) (p3 : Int32) (p4 : Int32) : Option (Unit × rS) := if inB p1 ((rK σ (rR σ (rR σ 37 5) 0)).2) then (oLet (rL σ (rR σ (rR σ 37 5) 1) (p1 : Int32).toNatClampNeg : Int64) fun x2 => oLet (rL σ (rR σ (rR σ 37 5) 2) (p1 : Int32).toNatClampNeg : Int64) fun x3 => if (rI σ 37 17) = 4 then (if inB p2 81 then (oLet (x2 + (rL σ 60 (p2 : Int32).toNatClampNeg) : Int64) fun x5 => oLet (x3 + (rL σ 61 (p2 : Int32).toNatClampNeg) : Int64) fun x6 => if inB (p3 &&& 65535) 65536 then (oLet ((rI σ 50 (p3 &&& 65535 : Int32).toNatClampNeg) - 1 : Int32) fun x8 => if 0 ≤ x8 then (if (if (rI σ (rR σ 37 6) 3) ≤ x8 then true else (if (nI (rK σ (rR σ (rR σ 37 6) 0)).2) ≤ x8 then true else false)) = true then (some (((), σ))) else (oB (f_X9_merge σ x8 x5 x6) fun _ σ10 => some (((), σ10)))) else (oB (f_X9_append σ p3 x5 x6) fun _ σ12 => some (((), σ12)))) else none) else none) else (if (rI σ 37 17) = 2 then (if ¬ (1000000007 : Int64) = 0 then (oLet (lRem (x2 <<< ((((p4 >>> ((8 : Int32) &&& 31)) &&& 7 : Int32)).toInt64 &&& 63)) (1000000007 : Int64) : Int64) fun x14 => if inB p2 81 then (oLet (x3 + ((4294967297 : Int64) * (((((p4 >>> ((16 : Int32) &&& 31)) &&& 15 : Int32)).toInt64) + (rL σ 60 (p2 : Int32).toNatClampNeg))) : Int64) fun x16 => if inB (p3 &&& 65535) 65536 then (oLet ((rI σ 50 (p3 &&& 65535 : Int32).toNatClampNeg) - 1 : Int32) fun x18 => if 0 ≤ x18 then (if (if (rI σ (rR σ 37 6) 3) ≤ x18 then true else (if (nI (rK σ (rR σ (rR σ 37 6) 0)).2) ≤ x18 then true else false)) = true then (some (((), σ))) else (oB (f_X9_merge σ x18 x14 x16) fun _ σ20 => some (((), σ20)))) else (oB (f_X9_append σ p3 x14 x16) fun _ σ22 => some (((), σ22)))) else none) else none) else none) else (if (rI σ 37 17) = 3 then (if inB p2 81 then ((f_X9_withExtras σ x2 (rL σ 60 (p2 : Int32).toNatClampNeg) p3).bind fun v24 => if (lg_cmp v24 (0 : Int64)) = 0 then (some (((), σ))) else (if inB (p3 &&& 65535) 65536 then (oLet ((rI σ 50 (p3 &&& 65535 : Int32).toNatClampNeg) - 1 : Int32) fun x26 => if 0 ≤ x26 then (if (if (rI σ (rR σ 37 6) 3) ≤ x26 then true else (if (nI (rK σ (rR σ (rR σ 37 6) 0)).2) ≤ x26 then true else false)) = true then (some (((), σ))) else (oB (f_X9_merge σ x26 v24 x3) fun _ σ28 => some (((), σ28)))) else (oB (f_X9_append σ p3 v24 x3) fun _ σ30 => some (((), σ30)))) else none)) else none) else (if inB (p3 &&& 65535) 65536 then (oLet ((rI σ 50 (p3 &&& 65535 : Int32).toNatClampNeg) - 1 : Int32) fun x32 => if 0 ≤ x32 then (if (if (rI σ (rR σ 37 6) 3) ≤ x32 then true else (if (nI (rK σ (rR σ (rR σ 37 6) 0)).2) ≤ x32 then true else false)) = true then (some (((), σ))) else (oB (f_X9_merge σ x32 x2 x3) fun _ σ34 => some (((), σ34)))) else (oB (f_X9_append σ p3 x2 x3) fun _ σ36 => some (((), σ36)))) else none)))) else none
set_option maxRecDepth 20000 in
set_option maxHeartbeats 2000000 in
theorem ok_X9_put {σ : rS} {p1 : Int32} {p2 : Int32} {p3 : Int32} {p4 : Int32}   : rFn Sy yX9_put mX9_put 1 [.ref 37, .int p1, .int p2, .int p3, .int p4] σ 0 0 (fun _ => .inl none) (f_X9_put σ p1 p2 p3 p4) := by
  refine rF_of (ls := [some (.ref 37), some (.int p1), some (.int p2), some (.int p3), some (.int p4), none, none, none, none, none]) yfX9_put rfl (Nat.le_of_ble_eq_true rfl) (fun o τ => ?_)
  unfold f_X9_put
  refine P_l (fun hJ _ _ q => E_aload_n dX9_put_0 rfl (E_getR (b := rR σ 37 5) clX9 5 (by decide) flX9_37 (Or.inl ⟨_, rfl⟩) dX9_put_1 (kd37 hJ.1.1) rfl (Nat.pos_iff_ne_zero.mp (Nat.lt_of_lt_of_le (by decide : 0 < 3) (Sy_here hJ.1).2)) (E_getRN (b := rR σ (rR σ 37 5) 1) clX3 1 (by decide) flX9_120 (Or.inr ⟨_, rfl⟩) dX9_put_4 (Sy_here hJ.1).1 rfl (Nat.pos_iff_ne_zero.mp (Nat.lt_of_lt_of_le (by decide : 0 < 3) (Sy_here1 hJ.1).2)) (E_iload_n dX9_put_7 rfl q)))) ?_
  refine P_g (fun g1 => ?_)
  refine P_l (fun hJ _ _ q => E_lald dX9_put_8 (Sy_here1 hJ.1).1 (inB_vp g1) (E_lstore (ls2 := [some (.ref 37), some (.int p1), some (.int p2), some (.int p3), some (.int p4), some (.long (rL σ (rR σ (rR σ 37 5) 1) (p1 : Int32).toNatClampNeg)), none, none, none, none]) dX9_put_9 (by decide) rfl q)) ?_
  refine P_v (rL σ (rR σ (rR σ 37 5) 1) (p1 : Int32).toNatClampNeg) (fun x => [some (.ref 37), some (.int p1), some (.int p2), some (.int p3), some (.int p4), some (.long x), none, none, none, none]) (fun x2 => ?_)
  refine P_l (fun hJ _ _ q => E_aload_n dX9_put_11 rfl (E_getR (b := rR σ 37 5) clX9 5 (by decide) flX9_37 (Or.inl ⟨_, rfl⟩) dX9_put_12 (kd37 hJ.1.1) rfl (Nat.pos_iff_ne_zero.mp (Nat.lt_of_lt_of_le (by decide : 0 < 3) (Sy_here hJ.1).2)) (E_getRN (b := rR σ (rR σ 37 5) 2) clX3 2 (by decide) flX9_125 (Or.inr ⟨_, rfl⟩) dX9_put_15 (Sy_here hJ.1).1 rfl (Nat.pos_iff_ne_zero.mp (Nat.lt_of_lt_of_le (by decide : 0 < 3) (Sy_here2 hJ.1).2)) (E_iload_n dX9_put_18 rfl (E_lald dX9_put_19 (Sy_here2 hJ.1).1 (inB_vp g1) (E_lstore (ls2 := [some (.ref 37), some (.int p1), some (.int p2), some (.int p3), some (.int p4), some (.long x2), none, some (.long (rL σ (rR σ (rR σ 37 5) 2) (p1 : Int32).toNatClampNeg)), none, none]) dX9_put_20 (by decide) rfl q)))))) ?_
  refine P_v (rL σ (rR σ (rR σ 37 5) 2) (p1 : Int32).toNatClampNeg) (fun x => [some (.ref 37), some (.int p1), some (.int p2), some (.int p3), some (.int p4), some (.long x2), none, some (.long x), none, none]) (fun x3 => ?_)
  refine P_l (fun hJ _ _ q => E_aload_n dX9_put_22 rfl (E_getI clX9 17 (by decide) flX9_101 (Or.inl rfl) dX9_put_23 (kd37 hJ.1.1) (E_iconst (v := 4) dX9_put_26 (by decide) q))) ?_
  refine P_if (fun hJ _ _ h1 h2 => E_icmp_ne 55 dX9_put_27 (by decide) h2 h1) ?_ ?_
  · skip
    refine P_l (fun hJ _ _ q => E_lload dX9_put_30 rfl (E_aload_n dX9_put_32 rfl (E_getR (b := 60) clX9 8 (by decide) flX9_47 (Or.inr ⟨_, rfl⟩) dX9_put_33 (kd37 hJ.1.1) (rf37_8 hJ.1.1) (by decide) (E_iload_n dX9_put_36 rfl q)))) ?_
    refine P_g (fun g4 => ?_)
    refine P_l (fun hJ _ _ q => E_lald dX9_put_37 (kd60 hJ.1.1) (inB_vp g4) (E_ladd dX9_put_38 (E_lstore (ls2 := [some (.ref 37), some (.int p1), some (.int p2), some (.int p3), some (.int p4), some (.long (x2 + (rL σ 60 (p2 : Int32).toNatClampNeg))), none, some (.long x3), none, none]) dX9_put_39 (by decide) rfl q))) ?_
    refine P_v (x2 + (rL σ 60 (p2 : Int32).toNatClampNeg)) (fun x => [some (.ref 37), some (.int p1), some (.int p2), some (.int p3), some (.int p4), some (.long x), none, some (.long x3), none, none]) (fun x5 => ?_)
    refine P_l (fun hJ _ _ q => E_lload dX9_put_41 rfl (E_aload_n dX9_put_43 rfl (E_getR (b := 61) clX9 9 (by decide) flX9_51 (Or.inr ⟨_, rfl⟩) dX9_put_44 (kd37 hJ.1.1) (rf37_9 hJ.1.1) (by decide) (E_iload_n dX9_put_47 rfl (E_lald dX9_put_48 (kd61 hJ.1.1) (inB_vp g4) (E_ladd dX9_put_49 (E_lstore (ls2 := [some (.ref 37), some (.int p1), some (.int p2), some (.int p3), some (.int p4), some (.long x5), none, some (.long (x3 + (rL σ 61 (p2 : Int32).toNatClampNeg))), none, none]) dX9_put_50 (by decide) rfl q))))))) ?_
    refine P_v (x3 + (rL σ 61 (p2 : Int32).toNatClampNeg)) (fun x => [some (.ref 37), some (.int p1), some (.int p2), some (.int p3), some (.int p4), some (.long x5), none, some (.long x), none, none]) (fun x6 => ?_)
    refine P_l (fun hJ _ _ q => E_goto 139 dX9_put_52 (by decide) (E_aload_n dX9_put_139 rfl (E_getR (b := 50) clX9 4 (by decide) flX9_33 (Or.inr ⟨_, rfl⟩) dX9_put_140 (kd37 hJ.1.1) (rf37_4 hJ.1.1) (by decide) (E_iload_n dX9_put_143 rfl (E_ldc dX9_put_144 kcX9_140 (E_iand dX9_put_146 q)))))) ?_
    refine P_g (fun g7 => ?_)
    refine P_l (fun hJ _ _ q => E_iald dX9_put_147 (kd50 hJ.1.1) (inB_vp g7) (E_iconst (v := 1) dX9_put_148 (by decide) (E_isub dX9_put_149 (E_istore (ls2 := [some (.ref 37), some (.int p1), some (.int p2), some (.int p3), some (.int p4), some (.long x5), none, some (.long x6), none, some (.int ((rI σ 50 (p3 &&& 65535 : Int32).toNatClampNeg) - 1))]) dX9_put_150 (by decide) rfl q)))) ?_
    refine P_v ((rI σ 50 (p3 &&& 65535 : Int32).toNatClampNeg) - 1) (fun x => [some (.ref 37), some (.int p1), some (.int p2), some (.int p3), some (.int p4), some (.long x5), none, some (.long x6), none, some (.int x)]) (fun x8 => ?_)
    refine P_l (fun hJ _ _ q => E_iload dX9_put_152 rfl q) ?_
    refine P_if (fun hJ _ _ h1 h2 => E_if_ge 169 dX9_put_154 (by decide) h1 h2) ?_ ?_
    · skip
      refine P_l (fun hJ _ _ q => E_iload dX9_put_169 rfl (E_aload_n dX9_put_171 rfl (E_getR (b := rR σ 37 6) clX9 6 (by decide) flX9_41 (Or.inl ⟨_, rfl⟩) dX9_put_172 (kd37 hJ.1.1) rfl (Nat.pos_iff_ne_zero.mp (Nat.lt_of_lt_of_le (by decide : 0 < 3) (Sy_there hJ.1).2)) (E_getIN clX3 3 (by decide) flX9_114 (Or.inl rfl) dX9_put_175 (Sy_there hJ.1).1 q)))) ?_
      refine P_if (c := (if (rI σ (rR σ 37 6) 3) ≤ x8 then true else (if (nI (rK σ (rR σ (rR σ 37 6) 0)).2) ≤ x8 then true else false)) = true) (pc1 := 204) (ls1 := [some (.ref 37), some (.int p1), some (.int p2), some (.int p3), some (.int p4), some (.long x5), none, some (.long x6), none, some (.int x8)]) (st1 := []) (pc2 := 194) (ls2 := [some (.ref 37), some (.int p1), some (.int p2), some (.int p3), some (.int p4), some (.long x5), none, some (.long x6), none, some (.int x8)]) (st2 := []) (fun hJ _ _ hX hY => ?_) ?_ ?_
      · skip
        refine E_icmp_ge 204 dX9_put_178 (by decide) (fun c_178_0 => ?_) (fun c_178_0 => ?_)
        · skip
          exact hX (by simp only [if_pos c_178_0])
        · skip
          refine E_iload dX9_put_181 rfl ?_
          refine E_aload_n dX9_put_183 rfl ?_
          refine E_getR (b := rR σ 37 6) clX9 6 (by decide) flX9_41 (Or.inl ⟨_, rfl⟩) dX9_put_184 (kd37 hJ.1.1) rfl (Nat.pos_iff_ne_zero.mp (Nat.lt_of_lt_of_le (by decide : 0 < 3) (Sy_there hJ.1).2)) ?_
          refine E_getRN (b := rR σ (rR σ 37 6) 0) clX3 0 (by decide) flX9_117 (Or.inr ⟨_, rfl⟩) dX9_put_187 (Sy_there hJ.1).1 rfl (Nat.pos_iff_ne_zero.mp (Nat.lt_of_lt_of_le (by decide : 0 < 3) (Sy_there0 hJ.1).2)) ?_
          refine E_alen (v := nI (rK σ (rR σ (rR σ 37 6) 0)).2) dX9_put_190 (Sy_there0 hJ.1).1 (by decide) rfl ?_
          refine E_icmp_ge 204 dX9_put_191 (by decide) (fun c_191_1 => ?_) (fun c_191_1 => ?_)
          · skip
            exact hX (by simp only [if_neg c_178_0, if_pos c_191_1])
          · skip
            exact hY (by simp only [if_neg c_178_0, if_neg c_191_1]; exact Bool.false_ne_true)
      · skip
        exact P_ret (fun _ _ => E_vret rfl dX9_put_204)
      · skip
        refine P_l (fun hJ _ _ q => E_aload_n dX9_put_194 rfl (E_iload dX9_put_195 rfl (E_lload dX9_put_197 rfl (E_lload dX9_put_199 rfl q)))) ?_
        refine P_call (t := fun _ => none) (st2 := fun _ => []) (kc2 := 0) (ks2 := 0) (fun hJ => (ok_X9_merge (σ := σ) (p1 := x8) (p2 := x5) (p3 := x6) )) (fun hJ _ _ _ _ v τ1 hM q => E_callV (as := [.int x8, .long x5, .long x6]) (b := 37) (st := []) hM (by decide) yfX9_merge mlX9_197 imX9_merge seX9_merge clX9 (kd37 hJ.1.1) rfl (Nat.le_of_ble_eq_true rfl) rfl dX9_put_201 q) (by decide) (by decide) (fun v9 σ10 => ?_)
        exact P_ret (fun _ _ => E_vret rfl dX9_put_204)
    · skip
      refine P_l (fun hJ _ _ q => E_aload_n dX9_put_157 rfl (E_iload_n dX9_put_158 rfl (E_lload dX9_put_159 rfl (E_lload dX9_put_161 rfl q)))) ?_
      refine P_call (t := fun _ => none) (st2 := fun _ => []) (kc2 := 0) (ks2 := 0) (fun hJ => (ok_X9_append (σ := σ) (p1 := p3) (p2 := x5) (p3 := x6) )) (fun hJ _ _ _ _ v τ1 hM q => E_callV (as := [.int p3, .long x5, .long x6]) (b := 37) (st := []) hM (by decide) yfX9_append mlX9_194 imX9_append seX9_append clX9 (kd37 hJ.1.1) rfl (Nat.le_of_ble_eq_true rfl) rfl dX9_put_163 q) (by decide) (by decide) (fun v11 σ12 => ?_)
      refine P_l (fun hJ _ _ q => E_goto 204 dX9_put_166 (by decide) q) ?_
      exact P_ret (fun _ _ => E_vret rfl dX9_put_204)
  · skip
    refine P_l (fun hJ _ _ q => E_aload_n dX9_put_55 rfl (E_getI clX9 17 (by decide) flX9_101 (Or.inl rfl) dX9_put_56 (kd37 hJ.1.1) (E_iconst (v := 2) dX9_put_59 (by decide) q))) ?_
    refine P_if (fun hJ _ _ h1 h2 => E_icmp_ne 108 dX9_put_60 (by decide) h2 h1) ?_ ?_
    · skip
      refine P_l (fun hJ _ _ q => E_lload dX9_put_63 rfl (E_iload dX9_put_65 rfl (E_bipush (v := 8) dX9_put_67 (by decide) (E_ishr dX9_put_69 (E_bipush (v := 7) dX9_put_70 (by decide) (E_iand dX9_put_72 (E_lshl dX9_put_73 (E_ldc2 dX9_put_74 kcX9_186 q)))))))) ?_
      refine P_g (fun g13 => ?_)
      refine P_l (fun hJ _ _ q => E_lrem dX9_put_77 g13 (E_lstore (ls2 := [some (.ref 37), some (.int p1), some (.int p2), some (.int p3), some (.int p4), some (.long (lRem (x2 <<< ((((p4 >>> ((8 : Int32) &&& 31)) &&& 7 : Int32)).toInt64 &&& 63)) (1000000007 : Int64))), none, some (.long x3), none, none]) dX9_put_78 (by decide) rfl q)) ?_
      refine P_v (lRem (x2 <<< ((((p4 >>> ((8 : Int32) &&& 31)) &&& 7 : Int32)).toInt64 &&& 63)) (1000000007 : Int64)) (fun x => [some (.ref 37), some (.int p1), some (.int p2), some (.int p3), some (.int p4), some (.long x), none, some (.long x3), none, none]) (fun x14 => ?_)
      refine P_l (fun hJ _ _ q => E_lload dX9_put_80 rfl (E_ldc2 dX9_put_82 kcX9_188 (E_iload dX9_put_85 rfl (E_bipush (v := 16) dX9_put_87 (by decide) (E_ishr dX9_put_89 (E_bipush (v := 15) dX9_put_90 (by decide) (E_iand dX9_put_92 (E_i2l dX9_put_93 (E_aload_n dX9_put_94 rfl (E_getR (b := 60) clX9 8 (by decide) flX9_47 (Or.inr ⟨_, rfl⟩) dX9_put_95 (kd37 hJ.1.1) (rf37_8 hJ.1.1) (by decide) (E_iload_n dX9_put_98 rfl q))))))))))) ?_
      refine P_g (fun g15 => ?_)
      refine P_l (fun hJ _ _ q => E_lald dX9_put_99 (kd60 hJ.1.1) (inB_vp g15) (E_ladd dX9_put_100 (E_lmul dX9_put_101 (E_ladd dX9_put_102 (E_lstore (ls2 := [some (.ref 37), some (.int p1), some (.int p2), some (.int p3), some (.int p4), some (.long x14), none, some (.long (x3 + ((4294967297 : Int64) * (((((p4 >>> ((16 : Int32) &&& 31)) &&& 15 : Int32)).toInt64) + (rL σ 60 (p2 : Int32).toNatClampNeg))))), none, none]) dX9_put_103 (by decide) rfl q))))) ?_
      refine P_v (x3 + ((4294967297 : Int64) * (((((p4 >>> ((16 : Int32) &&& 31)) &&& 15 : Int32)).toInt64) + (rL σ 60 (p2 : Int32).toNatClampNeg)))) (fun x => [some (.ref 37), some (.int p1), some (.int p2), some (.int p3), some (.int p4), some (.long x14), none, some (.long x), none, none]) (fun x16 => ?_)
      refine P_l (fun hJ _ _ q => E_goto 139 dX9_put_105 (by decide) (E_aload_n dX9_put_139 rfl (E_getR (b := 50) clX9 4 (by decide) flX9_33 (Or.inr ⟨_, rfl⟩) dX9_put_140 (kd37 hJ.1.1) (rf37_4 hJ.1.1) (by decide) (E_iload_n dX9_put_143 rfl (E_ldc dX9_put_144 kcX9_140 (E_iand dX9_put_146 q)))))) ?_
      refine P_g (fun g17 => ?_)
      refine P_l (fun hJ _ _ q => E_iald dX9_put_147 (kd50 hJ.1.1) (inB_vp g17) (E_iconst (v := 1) dX9_put_148 (by decide) (E_isub dX9_put_149 (E_istore (ls2 := [some (.ref 37), some (.int p1), some (.int p2), some (.int p3), some (.int p4), some (.long x14), none, some (.long x16), none, some (.int ((rI σ 50 (p3 &&& 65535 : Int32).toNatClampNeg) - 1))]) dX9_put_150 (by decide) rfl q)))) ?_
      refine P_v ((rI σ 50 (p3 &&& 65535 : Int32).toNatClampNeg) - 1) (fun x => [some (.ref 37), some (.int p1), some (.int p2), some (.int p3), some (.int p4), some (.long x14), none, some (.long x16), none, some (.int x)]) (fun x18 => ?_)
      refine P_l (fun hJ _ _ q => E_iload dX9_put_152 rfl q) ?_
      refine P_if (fun hJ _ _ h1 h2 => E_if_ge 169 dX9_put_154 (by decide) h1 h2) ?_ ?_
      · skip
        refine P_l (fun hJ _ _ q => E_iload dX9_put_169 rfl (E_aload_n dX9_put_171 rfl (E_getR (b := rR σ 37 6) clX9 6 (by decide) flX9_41 (Or.inl ⟨_, rfl⟩) dX9_put_172 (kd37 hJ.1.1) rfl (Nat.pos_iff_ne_zero.mp (Nat.lt_of_lt_of_le (by decide : 0 < 3) (Sy_there hJ.1).2)) (E_getIN clX3 3 (by decide) flX9_114 (Or.inl rfl) dX9_put_175 (Sy_there hJ.1).1 q)))) ?_
        refine P_if (c := (if (rI σ (rR σ 37 6) 3) ≤ x18 then true else (if (nI (rK σ (rR σ (rR σ 37 6) 0)).2) ≤ x18 then true else false)) = true) (pc1 := 204) (ls1 := [some (.ref 37), some (.int p1), some (.int p2), some (.int p3), some (.int p4), some (.long x14), none, some (.long x16), none, some (.int x18)]) (st1 := []) (pc2 := 194) (ls2 := [some (.ref 37), some (.int p1), some (.int p2), some (.int p3), some (.int p4), some (.long x14), none, some (.long x16), none, some (.int x18)]) (st2 := []) (fun hJ _ _ hX hY => ?_) ?_ ?_
        · skip
          refine E_icmp_ge 204 dX9_put_178 (by decide) (fun c_178_0 => ?_) (fun c_178_0 => ?_)
          · skip
            exact hX (by simp only [if_pos c_178_0])
          · skip
            refine E_iload dX9_put_181 rfl ?_
            refine E_aload_n dX9_put_183 rfl ?_
            refine E_getR (b := rR σ 37 6) clX9 6 (by decide) flX9_41 (Or.inl ⟨_, rfl⟩) dX9_put_184 (kd37 hJ.1.1) rfl (Nat.pos_iff_ne_zero.mp (Nat.lt_of_lt_of_le (by decide : 0 < 3) (Sy_there hJ.1).2)) ?_
            refine E_getRN (b := rR σ (rR σ 37 6) 0) clX3 0 (by decide) flX9_117 (Or.inr ⟨_, rfl⟩) dX9_put_187 (Sy_there hJ.1).1 rfl (Nat.pos_iff_ne_zero.mp (Nat.lt_of_lt_of_le (by decide : 0 < 3) (Sy_there0 hJ.1).2)) ?_
            refine E_alen (v := nI (rK σ (rR σ (rR σ 37 6) 0)).2) dX9_put_190 (Sy_there0 hJ.1).1 (by decide) rfl ?_
            refine E_icmp_ge 204 dX9_put_191 (by decide) (fun c_191_1 => ?_) (fun c_191_1 => ?_)
            · skip
              exact hX (by simp only [if_neg c_178_0, if_pos c_191_1])
            · skip
              exact hY (by simp only [if_neg c_178_0, if_neg c_191_1]; exact Bool.false_ne_true)
        · skip
          exact P_ret (fun _ _ => E_vret rfl dX9_put_204)
        · skip
          refine P_l (fun hJ _ _ q => E_aload_n dX9_put_194 rfl (E_iload dX9_put_195 rfl (E_lload dX9_put_197 rfl (E_lload dX9_put_199 rfl q)))) ?_
          refine P_call (t := fun _ => none) (st2 := fun _ => []) (kc2 := 0) (ks2 := 0) (fun hJ => (ok_X9_merge (σ := σ) (p1 := x18) (p2 := x14) (p3 := x16) )) (fun hJ _ _ _ _ v τ1 hM q => E_callV (as := [.int x18, .long x14, .long x16]) (b := 37) (st := []) hM (by decide) yfX9_merge mlX9_197 imX9_merge seX9_merge clX9 (kd37 hJ.1.1) rfl (Nat.le_of_ble_eq_true rfl) rfl dX9_put_201 q) (by decide) (by decide) (fun v19 σ20 => ?_)
          exact P_ret (fun _ _ => E_vret rfl dX9_put_204)
      · skip
        refine P_l (fun hJ _ _ q => E_aload_n dX9_put_157 rfl (E_iload_n dX9_put_158 rfl (E_lload dX9_put_159 rfl (E_lload dX9_put_161 rfl q)))) ?_
        refine P_call (t := fun _ => none) (st2 := fun _ => []) (kc2 := 0) (ks2 := 0) (fun hJ => (ok_X9_append (σ := σ) (p1 := p3) (p2 := x14) (p3 := x16) )) (fun hJ _ _ _ _ v τ1 hM q => E_callV (as := [.int p3, .long x14, .long x16]) (b := 37) (st := []) hM (by decide) yfX9_append mlX9_194 imX9_append seX9_append clX9 (kd37 hJ.1.1) rfl (Nat.le_of_ble_eq_true rfl) rfl dX9_put_163 q) (by decide) (by decide) (fun v21 σ22 => ?_)
        refine P_l (fun hJ _ _ q => E_goto 204 dX9_put_166 (by decide) q) ?_
        exact P_ret (fun _ _ => E_vret rfl dX9_put_204)
    · skip
      refine P_l (fun hJ _ _ q => E_aload_n dX9_put_108 rfl (E_getI clX9 17 (by decide) flX9_101 (Or.inl rfl) dX9_put_109 (kd37 hJ.1.1) (E_iconst (v := 3) dX9_put_112 (by decide) q))) ?_
      refine P_if (fun hJ _ _ h1 h2 => E_icmp_ne 139 dX9_put_113 (by decide) h2 h1) ?_ ?_
      · skip
        refine P_l (fun hJ _ _ q => E_aload_n dX9_put_116 rfl (E_lload dX9_put_117 rfl (E_aload_n dX9_put_119 rfl (E_getR (b := 60) clX9 8 (by decide) flX9_47 (Or.inr ⟨_, rfl⟩) dX9_put_120 (kd37 hJ.1.1) (rf37_8 hJ.1.1) (by decide) (E_iload_n dX9_put_123 rfl q))))) ?_
        refine P_g (fun g23 => ?_)
        refine P_l (fun hJ _ _ q => E_lald dX9_put_124 (kd60 hJ.1.1) (inB_vp g23) (E_iload_n dX9_put_125 rfl q)) ?_
        refine P_callr (t := fun v => some (.long v)) (st2 := fun v => .long v :: []) (fun hJ => (ok_X9_withExtras (σ := σ) (p1 := x2) (p2 := rL σ 60 (p2 : Int32).toNatClampNeg) (p3 := p3) )) (fun hJ _ _ v hM q => E_callV (as := [.long x2, .long (rL σ 60 (p2 : Int32).toNatClampNeg), .int p3]) (b := 37) (st := []) hM (by decide) yfX9_withExtras mlX9_190 imX9_withExtras seX9_withExtras clX9 (kd37 hJ.1.1) rfl (Nat.le_of_ble_eq_true rfl) rfl dX9_put_126 q) (fun v24 => ?_)
        refine P_l (fun hJ _ _ q => E_lstore (ls2 := [some (.ref 37), some (.int p1), some (.int p2), some (.int p3), some (.int p4), some (.long v24), none, some (.long x3), none, none]) dX9_put_129 (by decide) rfl (E_lload dX9_put_131 rfl (E_lconst (v := 0) dX9_put_133 (by decide) (E_lcmp dX9_put_134 q)))) ?_
        refine P_if (fun hJ _ _ h1 h2 => E_if_ne 139 dX9_put_135 (by decide) h2 h1) ?_ ?_
        · skip
          exact P_ret (fun _ _ => E_vret rfl dX9_put_138)
        · skip
          refine P_l (fun hJ _ _ q => E_aload_n dX9_put_139 rfl (E_getR (b := 50) clX9 4 (by decide) flX9_33 (Or.inr ⟨_, rfl⟩) dX9_put_140 (kd37 hJ.1.1) (rf37_4 hJ.1.1) (by decide) (E_iload_n dX9_put_143 rfl (E_ldc dX9_put_144 kcX9_140 (E_iand dX9_put_146 q))))) ?_
          refine P_g (fun g25 => ?_)
          refine P_l (fun hJ _ _ q => E_iald dX9_put_147 (kd50 hJ.1.1) (inB_vp g25) (E_iconst (v := 1) dX9_put_148 (by decide) (E_isub dX9_put_149 (E_istore (ls2 := [some (.ref 37), some (.int p1), some (.int p2), some (.int p3), some (.int p4), some (.long v24), none, some (.long x3), none, some (.int ((rI σ 50 (p3 &&& 65535 : Int32).toNatClampNeg) - 1))]) dX9_put_150 (by decide) rfl q)))) ?_
          refine P_v ((rI σ 50 (p3 &&& 65535 : Int32).toNatClampNeg) - 1) (fun x => [some (.ref 37), some (.int p1), some (.int p2), some (.int p3), some (.int p4), some (.long v24), none, some (.long x3), none, some (.int x)]) (fun x26 => ?_)
          refine P_l (fun hJ _ _ q => E_iload dX9_put_152 rfl q) ?_
          refine P_if (fun hJ _ _ h1 h2 => E_if_ge 169 dX9_put_154 (by decide) h1 h2) ?_ ?_
          · skip
            refine P_l (fun hJ _ _ q => E_iload dX9_put_169 rfl (E_aload_n dX9_put_171 rfl (E_getR (b := rR σ 37 6) clX9 6 (by decide) flX9_41 (Or.inl ⟨_, rfl⟩) dX9_put_172 (kd37 hJ.1.1) rfl (Nat.pos_iff_ne_zero.mp (Nat.lt_of_lt_of_le (by decide : 0 < 3) (Sy_there hJ.1).2)) (E_getIN clX3 3 (by decide) flX9_114 (Or.inl rfl) dX9_put_175 (Sy_there hJ.1).1 q)))) ?_
            refine P_if (c := (if (rI σ (rR σ 37 6) 3) ≤ x26 then true else (if (nI (rK σ (rR σ (rR σ 37 6) 0)).2) ≤ x26 then true else false)) = true) (pc1 := 204) (ls1 := [some (.ref 37), some (.int p1), some (.int p2), some (.int p3), some (.int p4), some (.long v24), none, some (.long x3), none, some (.int x26)]) (st1 := []) (pc2 := 194) (ls2 := [some (.ref 37), some (.int p1), some (.int p2), some (.int p3), some (.int p4), some (.long v24), none, some (.long x3), none, some (.int x26)]) (st2 := []) (fun hJ _ _ hX hY => ?_) ?_ ?_
            · skip
              refine E_icmp_ge 204 dX9_put_178 (by decide) (fun c_178_0 => ?_) (fun c_178_0 => ?_)
              · skip
                exact hX (by simp only [if_pos c_178_0])
              · skip
                refine E_iload dX9_put_181 rfl ?_
                refine E_aload_n dX9_put_183 rfl ?_
                refine E_getR (b := rR σ 37 6) clX9 6 (by decide) flX9_41 (Or.inl ⟨_, rfl⟩) dX9_put_184 (kd37 hJ.1.1) rfl (Nat.pos_iff_ne_zero.mp (Nat.lt_of_lt_of_le (by decide : 0 < 3) (Sy_there hJ.1).2)) ?_
                refine E_getRN (b := rR σ (rR σ 37 6) 0) clX3 0 (by decide) flX9_117 (Or.inr ⟨_, rfl⟩) dX9_put_187 (Sy_there hJ.1).1 rfl (Nat.pos_iff_ne_zero.mp (Nat.lt_of_lt_of_le (by decide : 0 < 3) (Sy_there0 hJ.1).2)) ?_
                refine E_alen (v := nI (rK σ (rR σ (rR σ 37 6) 0)).2) dX9_put_190 (Sy_there0 hJ.1).1 (by decide) rfl ?_
                refine E_icmp_ge 204 dX9_put_191 (by decide) (fun c_191_1 => ?_) (fun c_191_1 => ?_)
                · skip
                  exact hX (by simp only [if_neg c_178_0, if_pos c_191_1])
                · skip
                  exact hY (by simp only [if_neg c_178_0, if_neg c_191_1]; exact Bool.false_ne_true)
            · skip
              exact P_ret (fun _ _ => E_vret rfl dX9_put_204)
            · skip
              refine P_l (fun hJ _ _ q => E_aload_n dX9_put_194 rfl (E_iload dX9_put_195 rfl (E_lload dX9_put_197 rfl (E_lload dX9_put_199 rfl q)))) ?_
              refine P_call (t := fun _ => none) (st2 := fun _ => []) (kc2 := 0) (ks2 := 0) (fun hJ => (ok_X9_merge (σ := σ) (p1 := x26) (p2 := v24) (p3 := x3) )) (fun hJ _ _ _ _ v τ1 hM q => E_callV (as := [.int x26, .long v24, .long x3]) (b := 37) (st := []) hM (by decide) yfX9_merge mlX9_197 imX9_merge seX9_merge clX9 (kd37 hJ.1.1) rfl (Nat.le_of_ble_eq_true rfl) rfl dX9_put_201 q) (by decide) (by decide) (fun v27 σ28 => ?_)
              exact P_ret (fun _ _ => E_vret rfl dX9_put_204)
          · skip
            refine P_l (fun hJ _ _ q => E_aload_n dX9_put_157 rfl (E_iload_n dX9_put_158 rfl (E_lload dX9_put_159 rfl (E_lload dX9_put_161 rfl q)))) ?_
            refine P_call (t := fun _ => none) (st2 := fun _ => []) (kc2 := 0) (ks2 := 0) (fun hJ => (ok_X9_append (σ := σ) (p1 := p3) (p2 := v24) (p3 := x3) )) (fun hJ _ _ _ _ v τ1 hM q => E_callV (as := [.int p3, .long v24, .long x3]) (b := 37) (st := []) hM (by decide) yfX9_append mlX9_194 imX9_append seX9_append clX9 (kd37 hJ.1.1) rfl (Nat.le_of_ble_eq_true rfl) rfl dX9_put_163 q) (by decide) (by decide) (fun v29 σ30 => ?_)
            refine P_l (fun hJ _ _ q => E_goto 204 dX9_put_166 (by decide) q) ?_
            exact P_ret (fun _ _ => E_vret rfl dX9_put_204)
      · skip
        refine P_l (fun hJ _ _ q => E_aload_n dX9_put_139 rfl (E_getR (b := 50) clX9 4 (by decide) flX9_33 (Or.inr ⟨_, rfl⟩) dX9_put_140 (kd37 hJ.1.1) (rf37_4 hJ.1.1) (by decide) (E_iload_n dX9_put_143 rfl (E_ldc dX9_put_144 kcX9_140 (E_iand dX9_put_146 q))))) ?_
        refine P_g (fun g31 => ?_)
        refine P_l (fun hJ _ _ q => E_iald dX9_put_147 (kd50 hJ.1.1) (inB_vp g31) (E_iconst (v := 1) dX9_put_148 (by decide) (E_isub dX9_put_149 (E_istore (ls2 := [some (.ref 37), some (.int p1), some (.int p2), some (.int p3), some (.int p4), some (.long x2), none, some (.long x3), none, some (.int ((rI σ 50 (p3 &&& 65535 : Int32).toNatClampNeg) - 1))]) dX9_put_150 (by decide) rfl q)))) ?_
        refine P_v ((rI σ 50 (p3 &&& 65535 : Int32).toNatClampNeg) - 1) (fun x => [some (.ref 37), some (.int p1), some (.int p2), some (.int p3), some (.int p4), some (.long x2), none, some (.long x3), none, some (.int x)]) (fun x32 => ?_)
        refine P_l (fun hJ _ _ q => E_iload dX9_put_152 rfl q) ?_
        refine P_if (fun hJ _ _ h1 h2 => E_if_ge 169 dX9_put_154 (by decide) h1 h2) ?_ ?_
        · skip
          refine P_l (fun hJ _ _ q => E_iload dX9_put_169 rfl (E_aload_n dX9_put_171 rfl (E_getR (b := rR σ 37 6) clX9 6 (by decide) flX9_41 (Or.inl ⟨_, rfl⟩) dX9_put_172 (kd37 hJ.1.1) rfl (Nat.pos_iff_ne_zero.mp (Nat.lt_of_lt_of_le (by decide : 0 < 3) (Sy_there hJ.1).2)) (E_getIN clX3 3 (by decide) flX9_114 (Or.inl rfl) dX9_put_175 (Sy_there hJ.1).1 q)))) ?_
          refine P_if (c := (if (rI σ (rR σ 37 6) 3) ≤ x32 then true else (if (nI (rK σ (rR σ (rR σ 37 6) 0)).2) ≤ x32 then true else false)) = true) (pc1 := 204) (ls1 := [some (.ref 37), some (.int p1), some (.int p2), some (.int p3), some (.int p4), some (.long x2), none, some (.long x3), none, some (.int x32)]) (st1 := []) (pc2 := 194) (ls2 := [some (.ref 37), some (.int p1), some (.int p2), some (.int p3), some (.int p4), some (.long x2), none, some (.long x3), none, some (.int x32)]) (st2 := []) (fun hJ _ _ hX hY => ?_) ?_ ?_
          · skip
            refine E_icmp_ge 204 dX9_put_178 (by decide) (fun c_178_0 => ?_) (fun c_178_0 => ?_)
            · skip
              exact hX (by simp only [if_pos c_178_0])
            · skip
              refine E_iload dX9_put_181 rfl ?_
              refine E_aload_n dX9_put_183 rfl ?_
              refine E_getR (b := rR σ 37 6) clX9 6 (by decide) flX9_41 (Or.inl ⟨_, rfl⟩) dX9_put_184 (kd37 hJ.1.1) rfl (Nat.pos_iff_ne_zero.mp (Nat.lt_of_lt_of_le (by decide : 0 < 3) (Sy_there hJ.1).2)) ?_
              refine E_getRN (b := rR σ (rR σ 37 6) 0) clX3 0 (by decide) flX9_117 (Or.inr ⟨_, rfl⟩) dX9_put_187 (Sy_there hJ.1).1 rfl (Nat.pos_iff_ne_zero.mp (Nat.lt_of_lt_of_le (by decide : 0 < 3) (Sy_there0 hJ.1).2)) ?_
              refine E_alen (v := nI (rK σ (rR σ (rR σ 37 6) 0)).2) dX9_put_190 (Sy_there0 hJ.1).1 (by decide) rfl ?_
              refine E_icmp_ge 204 dX9_put_191 (by decide) (fun c_191_1 => ?_) (fun c_191_1 => ?_)
              · skip
                exact hX (by simp only [if_neg c_178_0, if_pos c_191_1])
              · skip
                exact hY (by simp only [if_neg c_178_0, if_neg c_191_1]; exact Bool.false_ne_true)
          · skip
            exact P_ret (fun _ _ => E_vret rfl dX9_put_204)
          · skip
            refine P_l (fun hJ _ _ q => E_aload_n dX9_put_194 rfl (E_iload dX9_put_195 rfl (E_lload dX9_put_197 rfl (E_lload dX9_put_199 rfl q)))) ?_
            refine P_call (t := fun _ => none) (st2 := fun _ => []) (kc2 := 0) (ks2 := 0) (fun hJ => (ok_X9_merge (σ := σ) (p1 := x32) (p2 := x2) (p3 := x3) )) (fun hJ _ _ _ _ v τ1 hM q => E_callV (as := [.int x32, .long x2, .long x3]) (b := 37) (st := []) hM (by decide) yfX9_merge mlX9_197 imX9_merge seX9_merge clX9 (kd37 hJ.1.1) rfl (Nat.le_of_ble_eq_true rfl) rfl dX9_put_201 q) (by decide) (by decide) (fun v33 σ34 => ?_)
            exact P_ret (fun _ _ => E_vret rfl dX9_put_204)
        · skip
          refine P_l (fun hJ _ _ q => E_aload_n dX9_put_157 rfl (E_iload_n dX9_put_158 rfl (E_lload dX9_put_159 rfl (E_lload dX9_put_161 rfl q)))) ?_
          refine P_call (t := fun _ => none) (st2 := fun _ => []) (kc2 := 0) (ks2 := 0) (fun hJ => (ok_X9_append (σ := σ) (p1 := p3) (p2 := x2) (p3 := x3) )) (fun hJ _ _ _ _ v τ1 hM q => E_callV (as := [.int p3, .long x2, .long x3]) (b := 37) (st := []) hM (by decide) yfX9_append mlX9_194 imX9_append seX9_append clX9 (kd37 hJ.1.1) rfl (Nat.le_of_ble_eq_true rfl) rfl dX9_put_163 q) (by decide) (by decide) (fun v35 σ36 => ?_)
          refine P_l (fun hJ _ _ q => E_goto 204 dX9_put_166 (by decide) q) ?_
          exact P_ret (fun _ _ => E_vret rfl dX9_put_204)

def f_X9_allow (σ : rS) (p1 : Int32) (p2 : Int32) : Option (Unit × rS) := oLet (rowI σ 49 (vSet (rI σ 49) 52 p1 (if (vAt (rI σ 48) 52 p1) + (if 0 < p2 then p2 else 0) < 2 then (vAt (rI σ 48) 52 p1) + (if 0 < p2 then p2 else 0) else 2))) fun σ1 => some (((), σ1))
set_option maxRecDepth 20000 in
set_option maxHeartbeats 2000000 in
theorem ok_X9_allow {σ : rS} {p1 : Int32} {p2 : Int32}   : rFn Sy yX9_allow mX9_allow 1 [.ref 37, .int p1, .int p2] σ 0 0 (fun _ => .inl none) (f_X9_allow σ p1 p2) := by
  refine rF_of (ls := [some (.ref 37), some (.int p1), some (.int p2)]) yfX9_allow rfl (Nat.le_of_ble_eq_true rfl) (fun o τ => ?_)
  unfold f_X9_allow
  refine P_l (fun hJ _ _ q => E_aload_n dX9_allow_0 rfl (E_getR (b := 49) clX9 3 (by decide) flX9_27 (Or.inr ⟨_, rfl⟩) dX9_allow_1 (kd37 hJ.1.1) (rf37_3 hJ.1.1) (by decide) (E_iload_n dX9_allow_4 rfl (E_iconst (v := 2) dX9_allow_5 (by decide) (E_aload_n dX9_allow_6 rfl (E_getR (b := 48) clX9 2 (by decide) flX9_23 (Or.inr ⟨_, rfl⟩) dX9_allow_7 (kd37 hJ.1.1) (rf37_2 hJ.1.1) (by decide) (E_iload_n dX9_allow_10 rfl (E_callSN (as := [.ref 48, .int p1]) (st := [.int 2, .int p1, .ref 49]) (ok_at (σ := σ) (a := 48) (i := p1) (f := rI σ 48) (kd48 hJ.1.1) (by decide) rfl) (by decide) yfX10_at mlX9_78 stX10_at rfl (Nat.le_of_ble_eq_true rfl) rfl dX9_allow_11 (E_iconst (v := 0) dX9_allow_14 (by decide) (E_iload_n dX9_allow_15 rfl (E_mmax mlX9_92 (by decide) (Nat.le_of_ble_eq_true rfl) dX9_allow_16 (E_iadd dX9_allow_19 (E_mmin mlX9_82 (by decide) (Nat.le_of_ble_eq_true rfl) dX9_allow_20 q))))))))))))) ?_
  refine P_w (fun hJ _ _ q => E_callSN (as := [.ref 49, .int p1, .int (if (vAt (rI σ 48) 52 p1) + (if 0 < p2 then p2 else 0) < 2 then (vAt (rI σ 48) 52 p1) + (if 0 < p2 then p2 else 0) else 2)]) (st := []) (ok_set (σ := σ) (a := 49) (i := p1) (x := if (vAt (rI σ 48) 52 p1) + (if 0 < p2 then p2 else 0) < 2 then (vAt (rI σ 48) 52 p1) + (if 0 < p2 then p2 else 0) else 2) (f := rI σ 49) (kd49 hJ.1.1) (by decide) (by decide) rfl) (by decide) yfX10_set mlX9_88 stX10_set rfl (Nat.le_of_ble_eq_true rfl) rfl dX9_allow_23 q) (fun hJ => Sy_rowI hJ.1) rfl rfl rfl (fun σ1 hσ1 => ?_)
  exact P_ret (fun _ _ => E_vret rfl dX9_allow_26)

def v_X9_tilesOf (σ : rS) (p1 : Int64) (p2 : Int64) (p3 : Int32) : Int32 := if 24 ≤ p3 then (((((p2.toUInt64 >>> (((2 * (51 - p3) : Int32)).toInt64.toUInt64 &&& Int64.toUInt64 63)).toInt64) &&& (3 : Int64) : Int64)).toInt32) else (((((p1.toUInt64 >>> (((2 * (23 - p3) : Int32)).toInt64.toUInt64 &&& Int64.toUInt64 63)).toInt64) &&& (3 : Int64) : Int64)).toInt32)
set_option maxRecDepth 20000 in
theorem ok_X9_tilesOf {σ : rS} {p1 : Int64} {p2 : Int64} {p3 : Int32}  (hJ : J Sy σ)  : rMet yX9_tilesOf mX9_tilesOf 0 [.long p1, .long p2, .int p3] σ 0 0 (some (.int (v_X9_tilesOf σ p1 p2 p3))) σ := by
  refine rMet_of (ls := [some (.long p1), none, some (.long p2), none, some (.int p3), none, none]) yfX9_tilesOf rfl (Nat.le_of_ble_eq_true rfl) ?_
  refine E_iload dX9_tilesOf_0 rfl ?_
  refine E_bipush (v := 24) dX9_tilesOf_2 (by decide) ?_
  refine E_icmp_ge 19 dX9_tilesOf_4 (by decide) (fun c_4_0 => ?_) (fun c_4_0 => ?_)
  · skip
    refine E_lload_n dX9_tilesOf_19 rfl ?_
    refine E_iconst (v := 2) dX9_tilesOf_20 (by decide) ?_
    refine E_bipush (v := 51) dX9_tilesOf_21 (by decide) ?_
    refine E_iload dX9_tilesOf_23 rfl ?_
    refine E_isub dX9_tilesOf_25 ?_
    refine E_imul dX9_tilesOf_26 ?_
    refine E_lushr dX9_tilesOf_27 ?_
    refine E_lstore (ls2 := [some (.long p1), none, some (.long p2), none, some (.int p3), some (.long ((p2.toUInt64 >>> (((2 * (51 - p3) : Int32)).toInt64.toUInt64 &&& Int64.toUInt64 63)).toInt64)), none]) dX9_tilesOf_28 (by decide) rfl ?_
    refine E_lload dX9_tilesOf_30 rfl ?_
    refine E_ldc2 dX9_tilesOf_32 kcX9_177 ?_
    refine E_land dX9_tilesOf_35 ?_
    refine E_l2i dX9_tilesOf_36 ?_
    exact E_iretE rfl dX9_tilesOf_37 (by unfold v_X9_tilesOf; simp only [if_pos c_4_0]) rfl
  · skip
    refine E_lload_n dX9_tilesOf_7 rfl ?_
    refine E_iconst (v := 2) dX9_tilesOf_8 (by decide) ?_
    refine E_bipush (v := 23) dX9_tilesOf_9 (by decide) ?_
    refine E_iload dX9_tilesOf_11 rfl ?_
    refine E_isub dX9_tilesOf_13 ?_
    refine E_imul dX9_tilesOf_14 ?_
    refine E_lushr dX9_tilesOf_15 ?_
    refine E_goto 28 dX9_tilesOf_16 (by decide) ?_
    refine E_lstore (ls2 := [some (.long p1), none, some (.long p2), none, some (.int p3), some (.long ((p1.toUInt64 >>> (((2 * (23 - p3) : Int32)).toInt64.toUInt64 &&& Int64.toUInt64 63)).toInt64)), none]) dX9_tilesOf_28 (by decide) rfl ?_
    refine E_lload dX9_tilesOf_30 rfl ?_
    refine E_ldc2 dX9_tilesOf_32 kcX9_177 ?_
    refine E_land dX9_tilesOf_35 ?_
    refine E_l2i dX9_tilesOf_36 ?_
    exact E_iretE rfl dX9_tilesOf_37 (by unfold v_X9_tilesOf; simp only [if_neg c_4_0]) rfl

