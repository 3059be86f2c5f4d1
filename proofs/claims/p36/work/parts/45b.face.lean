def f_X10_layJoker (σ : rS) (p1 : Int32) : Option (Unit × rS) := oB (f_X1_layJoker σ 5 (rI σ 3 8) p1) fun _ σ2 => oB (f_X2_add σ2 2 (rI σ2 3 8) p1 0) fun _ σ4 => some (((), σ4))
set_option maxRecDepth 20000 in
set_option maxHeartbeats 2000000 in
theorem ok_X10_layJoker {σ : rS} {p1 : Int32}   : rFn Sy yX10_layJoker mX10_layJoker 3 [.ref 3, .int p1] σ 0 0 (fun _ => .inl none) (f_X10_layJoker σ p1) := by
  refine rF_of (ls := [some (.ref 3), some (.int p1)]) yfX10_layJoker rfl (Nat.le_of_ble_eq_true rfl) (fun o τ => ?_)
  unfold f_X10_layJoker
  refine P_l (fun hJ _ _ q => E_aload_n dX10_layJoker_0 rfl (E_getR (b := 5) clX10 1 (by decide) flX10_19 (Or.inl ⟨_, rfl⟩) dX10_layJoker_1 (kd3 hJ.1.1) (rf3_1 hJ.1.1) (by decide) (E_aload_n dX10_layJoker_4 rfl (E_getI clX10 8 (by decide) flX10_61 (Or.inl rfl) dX10_layJoker_5 (kd3 hJ.1.1) (E_iload_n dX10_layJoker_8 rfl q))))) ?_
  refine P_call (t := fun _ => none) (st2 := fun _ => []) (kc2 := 0) (ks2 := 0) (fun hJ => (ok_X1_layJoker (σ := σ) (b := 5) (p := rI σ 3 8) (k := p1) (Or.inl rfl))) (fun hJ _ _ _ _ v τ1 hM q => E_callVN (as := [.int (rI σ 3 8), .int p1]) (b := 5) (st := []) hM (by decide) yfX1_layJoker mlX10_416 imX1_layJoker seX1_layJoker clX1 (kd5 hJ.1.1) rfl (Nat.le_of_ble_eq_true rfl) rfl dX10_layJoker_9 q) (by decide) (by decide) (fun v1 σ2 => ?_)
  refine P_l (fun hJ _ _ q => E_aload_n dX10_layJoker_12 rfl (E_getR (b := 35) clX10 5 (by decide) flX10_43 (Or.inl ⟨_, rfl⟩) dX10_layJoker_13 (kd3 hJ.1.1) (rf3_5 hJ.1.1) (by decide) (E_iconst (v := 2) dX10_layJoker_16 (by decide) (E_aload_n dX10_layJoker_17 rfl (E_getI clX10 8 (by decide) flX10_61 (Or.inl rfl) dX10_layJoker_18 (kd3 hJ.1.1) (E_iload_n dX10_layJoker_21 rfl (E_iconst (v := 0) dX10_layJoker_22 (by decide) q))))))) ?_
  refine P_call (t := fun _ => none) (st2 := fun _ => []) (kc2 := 0) (ks2 := 0) (fun hJ => (ok_X2_add (σ := σ2) (p1 := 2) (p2 := rI σ2 3 8) (p3 := p1) (p4 := 0) )) (fun hJ _ _ _ _ v τ1 hM q => E_callVN (as := [.int 2, .int (rI σ2 3 8), .int p1, .int 0]) (b := 35) (st := []) hM (by decide) yfX2_add mlX10_413 imX2_add seX2_add clX2 (kd35 hJ.1.1) rfl (Nat.le_of_ble_eq_true rfl) rfl dX10_layJoker_23 q) (by decide) (by decide) (fun v3 σ4 => ?_)
  exact P_ret (fun _ _ => E_vret rfl dX10_layJoker_26)

def f_X10_joker (σ : rS) (p1 : Int32) : Option ((Int32 ⊕ String) × rS) := oBx (f_X10_needKind σ p1) fun _ σ2 => if (v_X10_mayLayJoker σ2 p1) = 0 then (some ((.inr "java/lang/IllegalStateException", σ2))) else (oB (f_X10_layJoker σ2 p1) fun _ σ4 => some ((.inl (rI σ4 5 9), σ4)))
set_option maxRecDepth 20000 in
set_option maxHeartbeats 2000000 in
theorem ok_X10_joker {σ : rS} {p1 : Int32}   : rFn Sy yX10_joker mX10_joker 7 [.ref 3, .int p1] σ 2 12 (tX (fun v => .inl (some (.int v)))) (f_X10_joker σ p1) := by
  refine rF_of (ls := [some (.ref 3), some (.int p1)]) yfX10_joker rfl (Nat.le_of_ble_eq_true rfl) (fun o τ => ?_)
  unfold f_X10_joker
  refine P_l (fun hJ _ _ q => E_aload_n dX10_joker_0 rfl (E_iload_n dX10_joker_1 rfl q)) ?_
  refine P_callx (t2 := fun _ => none) (st2 := fun _ => []) (kc2 := 1) (ks2 := 6) (fun hJ => (ok_X10_needKind (σ := σ) (p1 := p1) )) (fun hJ _ _ _ _ v τ1 hM q => E_callV (as := [.int p1]) (b := 3) (st := []) hM (by decide) yfX10_needKind mlX10_136 imX10_needKind seX10_needKind clX10 (kd3 hJ.1.1) rfl (Nat.le_of_ble_eq_true rfl) rfl dX10_joker_2 q) (fun hJ _ _ _ _ E τ1 hM => E_callVx (τ := τ1) (as := [.int p1]) (b := 3) (st := []) hM (by decide) yfX10_needKind mlX10_136 imX10_needKind seX10_needKind clX10 (kd3 hJ.1.1) rfl (Nat.le_of_ble_eq_true rfl) rfl dX10_joker_2 rfl) (by decide) (by decide) (fun v1 σ2 => ?_)
  refine P_l (fun hJ _ _ q => E_aload_n dX10_joker_5 rfl (E_iload_n dX10_joker_6 rfl (E_callV (as := [.int p1]) (b := 3) (st := []) (ok_X10_mayLayJoker (σ := σ2) (p1 := p1) hJ ) (by decide) yfX10_mayLayJoker mlX10_150 imX10_mayLayJoker seX10_mayLayJoker clX10 (kd3 hJ.1.1) rfl (Nat.le_of_ble_eq_true rfl) rfl dX10_joker_7 q))) ?_
  refine P_if (fun hJ _ _ h1 h2 => E_if_ne 21 dX10_joker_10 (by decide) h2 h1) ?_ ?_
  · skip
    exact P_thr (fun kc ks => xt_IllegalStateException (M := mX10_joker) (pc := 13) rfl rfl (by decide) (Nat.le_of_ble_eq_true rfl) dX10_joker_13 dX10_joker_16 dX10_joker_17 dX10_joker_20 kc ks) (by decide) (by decide)
  · skip
    refine P_l (fun hJ _ _ q => E_aload_n dX10_joker_21 rfl (E_iload_n dX10_joker_22 rfl q)) ?_
    refine P_call (t := fun _ => none) (st2 := fun _ => []) (kc2 := 1) (ks2 := 6) (fun hJ => (ok_X10_layJoker (σ := σ2) (p1 := p1) )) (fun hJ _ _ _ _ v τ1 hM q => E_callV (as := [.int p1]) (b := 3) (st := []) hM (by decide) yfX10_layJoker mlX10_153 imX10_layJoker seX10_layJoker clX10 (kd3 hJ.1.1) rfl (Nat.le_of_ble_eq_true rfl) rfl dX10_joker_23 q) (by decide) (by decide) (fun v3 σ4 => ?_)
    refine P_l (fun hJ _ _ q => E_aload_n dX10_joker_26 rfl (E_getR (b := 5) clX10 1 (by decide) flX10_19 (Or.inl ⟨_, rfl⟩) dX10_joker_27 (kd3 hJ.1.1) (rf3_1 hJ.1.1) (by decide) (E_getIN clX1 9 (by decide) flX10_156 (Or.inl rfl) dX10_joker_30 (kd5 hJ.1.1) q))) ?_
    exact P_ret (fun _ _ => E_iret rfl dX10_joker_33)

def v_X10_hasMelded (σ : rS) (p1 : Int32) : Int32 := if (vAt (rI σ 24) 4 p1) = 1 then 1 else 0
set_option maxRecDepth 20000 in
theorem ok_X10_hasMelded {σ : rS} {p1 : Int32}  (hJ : J Sy σ)  : rMet yX10_hasMelded mX10_hasMelded 1 [.ref 3, .int p1] σ 0 0 (some (.int (v_X10_hasMelded σ p1))) σ := by
  refine rMet_of (ls := [some (.ref 3), some (.int p1)]) yfX10_hasMelded rfl (Nat.le_of_ble_eq_true rfl) ?_
  refine E_aload_n dX10_hasMelded_0 rfl ?_
  refine E_getR (b := 19) clX10 3 (by decide) flX10_29 (Or.inl ⟨_, rfl⟩) dX10_hasMelded_1 (kd3 hJ.1.1) (rf3_3 hJ.1.1) (by decide) ?_
  refine E_getRN (b := 24) clX6 5 (by decide) flX10_401 (Or.inr ⟨_, rfl⟩) dX10_hasMelded_4 (kd19 hJ.1.1) (rf19_5 hJ.1.1) (by decide) ?_
  refine E_iload_n dX10_hasMelded_7 rfl ?_
  refine E_callS (as := [.ref 24, .int p1]) (st := []) (ok_at (σ := σ) (a := 24) (i := p1) (f := rI σ 24) (kd24 hJ.1.1) (by decide) rfl) (by decide) yfX10_at mlX10_193 stX10_at rfl (Nat.le_of_ble_eq_true rfl) rfl dX10_hasMelded_8 ?_
  refine E_iconst (v := 1) dX10_hasMelded_11 (by decide) ?_
  refine E_icmp_ne 19 dX10_hasMelded_12 (by decide) (fun c_12_0 => ?_) (fun c_12_0 => ?_)
  · skip
    refine E_iconst (v := 0) dX10_hasMelded_19 (by decide) ?_
    exact E_zretE rfl dX10_hasMelded_20 (by decide) (by unfold v_X10_hasMelded; simp only [if_neg c_12_0]) rfl
  · skip
    refine E_iconst (v := 1) dX10_hasMelded_15 (by decide) ?_
    refine E_goto 20 dX10_hasMelded_16 (by decide) ?_
    exact E_zretE rfl dX10_hasMelded_20 (by decide) (by unfold v_X10_hasMelded; simp only [if_pos c_12_0]) rfl
theorem z_X10_hasMelded (σ : rS) (p1 : Int32) : v_X10_hasMelded σ p1 = 0 ∨ v_X10_hasMelded σ p1 = 1 := by
  unfold v_X10_hasMelded
  (repeat' split) <;> first | decide | exact vIn_01 _ _ _ | exact vBit_01 _ _

def v_X10_maySwap (σ : rS) (p1 : Int32) : Int32 := if (v_X10_isOn σ) = 0 then 0 else (if (v_X10_hasMelded σ (rI σ 3 8)) = 0 then 0 else (if (v_X1_rackOf σ 5 (rI σ 3 8) p1) ≤ 0 then 0 else (if (vAt (rI σ 10) 52 p1) ≤ 0 then 0 else 1)))
set_option maxRecDepth 20000 in
theorem ok_X10_maySwap {σ : rS} {p1 : Int32}  (hJ : J Sy σ)  : rMet yX10_maySwap mX10_maySwap 2 [.ref 3, .int p1] σ 0 0 (some (.int (v_X10_maySwap σ p1))) σ := by
  refine rMet_of (ls := [some (.ref 3), some (.int p1)]) yfX10_maySwap rfl (Nat.le_of_ble_eq_true rfl) ?_
  refine E_aload_n dX10_maySwap_0 rfl ?_
  refine E_callV (as := []) (b := 3) (st := []) (ok_X10_isOn (σ := σ)  hJ ) (by decide) yfX10_isOn mlX10_81 imX10_isOn seX10_isOn clX10 (kd3 hJ.1.1) rfl (Nat.le_of_ble_eq_true rfl) rfl dX10_maySwap_1 ?_
  refine E_if_eq 51 dX10_maySwap_4 (by decide) (fun c_4_0 => ?_) (fun c_4_0 => ?_)
  · skip
    refine E_iconst (v := 0) dX10_maySwap_51 (by decide) ?_
    exact E_zretE rfl dX10_maySwap_52 (by decide) (by unfold v_X10_maySwap; simp only [if_pos c_4_0]) rfl
  · skip
    refine E_aload_n dX10_maySwap_7 rfl ?_
    refine E_aload_n dX10_maySwap_8 rfl ?_
    refine E_getI clX10 8 (by decide) flX10_61 (Or.inl rfl) dX10_maySwap_9 (kd3 hJ.1.1) ?_
    refine E_callV (as := [.int (rI σ 3 8)]) (b := 3) (st := []) (ok_X10_hasMelded (σ := σ) (p1 := rI σ 3 8) hJ ) (by decide) yfX10_hasMelded mlX10_209 imX10_hasMelded seX10_hasMelded clX10 (kd3 hJ.1.1) rfl (Nat.le_of_ble_eq_true rfl) rfl dX10_maySwap_12 ?_
    refine E_if_eq 51 dX10_maySwap_15 (by decide) (fun c_15_1 => ?_) (fun c_15_1 => ?_)
    · skip
      refine E_iconst (v := 0) dX10_maySwap_51 (by decide) ?_
      exact E_zretE rfl dX10_maySwap_52 (by decide) (by unfold v_X10_maySwap; simp only [if_neg c_4_0, if_pos c_15_1]) rfl
    · skip
      refine E_aload_n dX10_maySwap_18 rfl ?_
      refine E_getR (b := 5) clX10 1 (by decide) flX10_19 (Or.inl ⟨_, rfl⟩) dX10_maySwap_19 (kd3 hJ.1.1) (rf3_1 hJ.1.1) (by decide) ?_
      refine E_aload_n dX10_maySwap_22 rfl ?_
      refine E_getI clX10 8 (by decide) flX10_61 (Or.inl rfl) dX10_maySwap_23 (kd3 hJ.1.1) ?_
      refine E_iload_n dX10_maySwap_26 rfl ?_
      refine E_callVN (as := [.int (rI σ 3 8), .int p1]) (b := 5) (st := []) (ok_X1_rackOf (σ := σ) (b := 5) (p := rI σ 3 8) (k := p1) hJ (Or.inl rfl)) (by decide) yfX1_rackOf mlX10_333 imX1_rackOf seX1_rackOf clX1 (kd5 hJ.1.1) rfl (Nat.le_of_ble_eq_true rfl) rfl dX10_maySwap_27 ?_
      refine E_if_le 51 dX10_maySwap_30 (by decide) (fun c_30_2 => ?_) (fun c_30_2 => ?_)
      · skip
        refine E_iconst (v := 0) dX10_maySwap_51 (by decide) ?_
        exact E_zretE rfl dX10_maySwap_52 (by decide) (by unfold v_X10_maySwap; simp only [if_neg c_4_0, if_neg c_15_1, if_pos c_30_2]) rfl
      · skip
        refine E_aload_n dX10_maySwap_33 rfl ?_
        refine E_getR (b := 5) clX10 1 (by decide) flX10_19 (Or.inl ⟨_, rfl⟩) dX10_maySwap_34 (kd3 hJ.1.1) (rf3_1 hJ.1.1) (by decide) ?_
        refine E_getRN (b := 10) clX1 4 (by decide) flX10_336 (Or.inr ⟨_, rfl⟩) dX10_maySwap_37 (kd5 hJ.1.1) (rf5_4 hJ.1.1) (by decide) ?_
        refine E_iload_n dX10_maySwap_40 rfl ?_
        refine E_callS (as := [.ref 10, .int p1]) (st := []) (ok_at (σ := σ) (a := 10) (i := p1) (f := rI σ 10) (kd10 hJ.1.1) (by decide) rfl) (by decide) yfX10_at mlX10_193 stX10_at rfl (Nat.le_of_ble_eq_true rfl) rfl dX10_maySwap_41 ?_
        refine E_if_le 51 dX10_maySwap_44 (by decide) (fun c_44_3 => ?_) (fun c_44_3 => ?_)
        · skip
          refine E_iconst (v := 0) dX10_maySwap_51 (by decide) ?_
          exact E_zretE rfl dX10_maySwap_52 (by decide) (by unfold v_X10_maySwap; simp only [if_neg c_4_0, if_neg c_15_1, if_neg c_30_2, if_pos c_44_3]) rfl
        · skip
          refine E_iconst (v := 1) dX10_maySwap_47 (by decide) ?_
          refine E_goto 52 dX10_maySwap_48 (by decide) ?_
          exact E_zretE rfl dX10_maySwap_52 (by decide) (by unfold v_X10_maySwap; simp only [if_neg c_4_0, if_neg c_15_1, if_neg c_30_2, if_neg c_44_3]) rfl
theorem z_X10_maySwap (σ : rS) (p1 : Int32) : v_X10_maySwap σ p1 = 0 ∨ v_X10_maySwap σ p1 = 1 := by
  unfold v_X10_maySwap
  (repeat' split) <;> first | decide | exact vIn_01 _ _ _ | exact vBit_01 _ _ | exact z_X10_isOn _ | exact z_X10_hasMelded _ _

def f_X10_swapJoker (σ : rS) (p1 : Int32) : Option (Unit × rS) := oB (f_X1_swapJoker σ 5 (rI σ 3 8) p1) fun _ σ2 => oB (f_X2_add σ2 3 (rI σ2 3 8) p1 0) fun _ σ4 => some (((), σ4))
set_option maxRecDepth 20000 in
set_option maxHeartbeats 2000000 in
theorem ok_X10_swapJoker {σ : rS} {p1 : Int32}   : rFn Sy yX10_swapJoker mX10_swapJoker 3 [.ref 3, .int p1] σ 0 0 (fun _ => .inl none) (f_X10_swapJoker σ p1) := by
  refine rF_of (ls := [some (.ref 3), some (.int p1)]) yfX10_swapJoker rfl (Nat.le_of_ble_eq_true rfl) (fun o τ => ?_)
  unfold f_X10_swapJoker
  refine P_l (fun hJ _ _ q => E_aload_n dX10_swapJoker_0 rfl (E_getR (b := 5) clX10 1 (by decide) flX10_19 (Or.inl ⟨_, rfl⟩) dX10_swapJoker_1 (kd3 hJ.1.1) (rf3_1 hJ.1.1) (by decide) (E_aload_n dX10_swapJoker_4 rfl (E_getI clX10 8 (by decide) flX10_61 (Or.inl rfl) dX10_swapJoker_5 (kd3 hJ.1.1) (E_iload_n dX10_swapJoker_8 rfl q))))) ?_
  refine P_call (t := fun _ => none) (st2 := fun _ => []) (kc2 := 0) (ks2 := 0) (fun hJ => (ok_X1_swapJoker (σ := σ) (b := 5) (p := rI σ 3 8) (k := p1) (Or.inl rfl))) (fun hJ _ _ _ _ v τ1 hM q => E_callVN (as := [.int (rI σ 3 8), .int p1]) (b := 5) (st := []) hM (by decide) yfX1_swapJoker mlX10_418 imX1_swapJoker seX1_swapJoker clX1 (kd5 hJ.1.1) rfl (Nat.le_of_ble_eq_true rfl) rfl dX10_swapJoker_9 q) (by decide) (by decide) (fun v1 σ2 => ?_)
  refine P_l (fun hJ _ _ q => E_aload_n dX10_swapJoker_12 rfl (E_getR (b := 35) clX10 5 (by decide) flX10_43 (Or.inl ⟨_, rfl⟩) dX10_swapJoker_13 (kd3 hJ.1.1) (rf3_5 hJ.1.1) (by decide) (E_iconst (v := 3) dX10_swapJoker_16 (by decide) (E_aload_n dX10_swapJoker_17 rfl (E_getI clX10 8 (by decide) flX10_61 (Or.inl rfl) dX10_swapJoker_18 (kd3 hJ.1.1) (E_iload_n dX10_swapJoker_21 rfl (E_iconst (v := 0) dX10_swapJoker_22 (by decide) q))))))) ?_
  refine P_call (t := fun _ => none) (st2 := fun _ => []) (kc2 := 0) (ks2 := 0) (fun hJ => (ok_X2_add (σ := σ2) (p1 := 3) (p2 := rI σ2 3 8) (p3 := p1) (p4 := 0) )) (fun hJ _ _ _ _ v τ1 hM q => E_callVN (as := [.int 3, .int (rI σ2 3 8), .int p1, .int 0]) (b := 35) (st := []) hM (by decide) yfX2_add mlX10_413 imX2_add seX2_add clX2 (kd35 hJ.1.1) rfl (Nat.le_of_ble_eq_true rfl) rfl dX10_swapJoker_23 q) (by decide) (by decide) (fun v3 σ4 => ?_)
  exact P_ret (fun _ _ => E_vret rfl dX10_swapJoker_26)

def f_X10_swap (σ : rS) (p1 : Int32) : Option ((Int32 ⊕ String) × rS) := oBx (f_X10_needKind σ p1) fun _ σ2 => if (v_X10_maySwap σ2 p1) = 0 then (some ((.inr "java/lang/IllegalStateException", σ2))) else (oB (f_X10_swapJoker σ2 p1) fun _ σ4 => some ((.inl (rI σ4 5 10), σ4)))
set_option maxRecDepth 20000 in
set_option maxHeartbeats 2000000 in
theorem ok_X10_swap {σ : rS} {p1 : Int32}   : rFn Sy yX10_swap mX10_swap 7 [.ref 3, .int p1] σ 2 12 (tX (fun v => .inl (some (.int v)))) (f_X10_swap σ p1) := by
  refine rF_of (ls := [some (.ref 3), some (.int p1)]) yfX10_swap rfl (Nat.le_of_ble_eq_true rfl) (fun o τ => ?_)
  unfold f_X10_swap
  refine P_l (fun hJ _ _ q => E_aload_n dX10_swap_0 rfl (E_iload_n dX10_swap_1 rfl q)) ?_
  refine P_callx (t2 := fun _ => none) (st2 := fun _ => []) (kc2 := 1) (ks2 := 6) (fun hJ => (ok_X10_needKind (σ := σ) (p1 := p1) )) (fun hJ _ _ _ _ v τ1 hM q => E_callV (as := [.int p1]) (b := 3) (st := []) hM (by decide) yfX10_needKind mlX10_136 imX10_needKind seX10_needKind clX10 (kd3 hJ.1.1) rfl (Nat.le_of_ble_eq_true rfl) rfl dX10_swap_2 q) (fun hJ _ _ _ _ E τ1 hM => E_callVx (τ := τ1) (as := [.int p1]) (b := 3) (st := []) hM (by decide) yfX10_needKind mlX10_136 imX10_needKind seX10_needKind clX10 (kd3 hJ.1.1) rfl (Nat.le_of_ble_eq_true rfl) rfl dX10_swap_2 rfl) (by decide) (by decide) (fun v1 σ2 => ?_)
  refine P_l (fun hJ _ _ q => E_aload_n dX10_swap_5 rfl (E_iload_n dX10_swap_6 rfl (E_callV (as := [.int p1]) (b := 3) (st := []) (ok_X10_maySwap (σ := σ2) (p1 := p1) hJ ) (by decide) yfX10_maySwap mlX10_159 imX10_maySwap seX10_maySwap clX10 (kd3 hJ.1.1) rfl (Nat.le_of_ble_eq_true rfl) rfl dX10_swap_7 q))) ?_
  refine P_if (fun hJ _ _ h1 h2 => E_if_ne 21 dX10_swap_10 (by decide) h2 h1) ?_ ?_
  · skip
    exact P_thr (fun kc ks => xt_IllegalStateException (M := mX10_swap) (pc := 13) rfl rfl (by decide) (Nat.le_of_ble_eq_true rfl) dX10_swap_13 dX10_swap_16 dX10_swap_17 dX10_swap_20 kc ks) (by decide) (by decide)
  · skip
    refine P_l (fun hJ _ _ q => E_aload_n dX10_swap_21 rfl (E_iload_n dX10_swap_22 rfl q)) ?_
    refine P_call (t := fun _ => none) (st2 := fun _ => []) (kc2 := 1) (ks2 := 6) (fun hJ => (ok_X10_swapJoker (σ := σ2) (p1 := p1) )) (fun hJ _ _ _ _ v τ1 hM q => E_callV (as := [.int p1]) (b := 3) (st := []) hM (by decide) yfX10_swapJoker mlX10_162 imX10_swapJoker seX10_swapJoker clX10 (kd3 hJ.1.1) rfl (Nat.le_of_ble_eq_true rfl) rfl dX10_swap_23 q) (by decide) (by decide) (fun v3 σ4 => ?_)
    refine P_l (fun hJ _ _ q => E_aload_n dX10_swap_26 rfl (E_getR (b := 5) clX10 1 (by decide) flX10_19 (Or.inl ⟨_, rfl⟩) dX10_swap_27 (kd3 hJ.1.1) (rf3_1 hJ.1.1) (by decide) (E_getIN clX1 10 (by decide) flX10_165 (Or.inl rfl) dX10_swap_30 (kd5 hJ.1.1) q))) ?_
    exact P_ret (fun _ _ => E_iret rfl dX10_swap_33)

def v_X10_mayTakeBack (σ : rS) : Int32 := if (v_X10_isOn σ) = 0 then 0 else (if (rI σ 5 6) ≤ 0 then 0 else 1)
set_option maxRecDepth 20000 in
theorem ok_X10_mayTakeBack {σ : rS}  (hJ : J Sy σ)  : rMet yX10_mayTakeBack mX10_mayTakeBack 1 [.ref 3] σ 0 0 (some (.int (v_X10_mayTakeBack σ))) σ := by
  refine rMet_of (ls := [some (.ref 3)]) yfX10_mayTakeBack rfl (Nat.le_of_ble_eq_true rfl) ?_
  refine E_aload_n dX10_mayTakeBack_0 rfl ?_
  refine E_callV (as := []) (b := 3) (st := []) (ok_X10_isOn (σ := σ)  hJ ) (by decide) yfX10_isOn mlX10_81 imX10_isOn seX10_isOn clX10 (kd3 hJ.1.1) rfl (Nat.le_of_ble_eq_true rfl) rfl dX10_mayTakeBack_1 ?_
  refine E_if_eq 21 dX10_mayTakeBack_4 (by decide) (fun c_4_0 => ?_) (fun c_4_0 => ?_)
  · skip
    refine E_iconst (v := 0) dX10_mayTakeBack_21 (by decide) ?_
    exact E_zretE rfl dX10_mayTakeBack_22 (by decide) (by unfold v_X10_mayTakeBack; simp only [if_pos c_4_0]) rfl
  · skip
    refine E_aload_n dX10_mayTakeBack_7 rfl ?_
    refine E_getR (b := 5) clX10 1 (by decide) flX10_19 (Or.inl ⟨_, rfl⟩) dX10_mayTakeBack_8 (kd3 hJ.1.1) (rf3_1 hJ.1.1) (by decide) ?_
    refine E_getIN clX1 6 (by decide) flX10_174 (Or.inl rfl) dX10_mayTakeBack_11 (kd5 hJ.1.1) ?_
    refine E_if_le 21 dX10_mayTakeBack_14 (by decide) (fun c_14_1 => ?_) (fun c_14_1 => ?_)
    · skip
      refine E_iconst (v := 0) dX10_mayTakeBack_21 (by decide) ?_
      exact E_zretE rfl dX10_mayTakeBack_22 (by decide) (by unfold v_X10_mayTakeBack; simp only [if_neg c_4_0, if_pos c_14_1]) rfl
    · skip
      refine E_iconst (v := 1) dX10_mayTakeBack_17 (by decide) ?_
      refine E_goto 22 dX10_mayTakeBack_18 (by decide) ?_
      exact E_zretE rfl dX10_mayTakeBack_22 (by decide) (by unfold v_X10_mayTakeBack; simp only [if_neg c_4_0, if_neg c_14_1]) rfl
theorem z_X10_mayTakeBack (σ : rS) : v_X10_mayTakeBack σ = 0 ∨ v_X10_mayTakeBack σ = 1 := by
  unfold v_X10_mayTakeBack
  (repeat' split) <;> first | decide | exact vIn_01 _ _ _ | exact vBit_01 _ _ | exact z_X10_isOn _

def f_X10_takeBack (σ : rS) : Option (Unit × rS) := oB (f_X1_undo σ 5 (rI σ 3 8)) fun v1 σ2 => oB (f_X2_add σ2 4 (rI σ2 3 8) v1 0) fun _ σ4 => some (((), σ4))
set_option maxRecDepth 20000 in
set_option maxHeartbeats 2000000 in
theorem ok_X10_takeBack {σ : rS}   : rFn Sy yX10_takeBack mX10_takeBack 4 [.ref 3] σ 0 0 (fun _ => .inl none) (f_X10_takeBack σ) := by
  refine rF_of (ls := [some (.ref 3), none]) yfX10_takeBack rfl (Nat.le_of_ble_eq_true rfl) (fun o τ => ?_)
  unfold f_X10_takeBack
  refine P_l (fun hJ _ _ q => E_aload_n dX10_takeBack_0 rfl (E_getR (b := 5) clX10 1 (by decide) flX10_19 (Or.inl ⟨_, rfl⟩) dX10_takeBack_1 (kd3 hJ.1.1) (rf3_1 hJ.1.1) (by decide) (E_aload_n dX10_takeBack_4 rfl (E_getI clX10 8 (by decide) flX10_61 (Or.inl rfl) dX10_takeBack_5 (kd3 hJ.1.1) q)))) ?_
  refine P_call (t := fun v => some (.int v)) (st2 := fun v => .int v :: []) (kc2 := 0) (ks2 := 0) (fun hJ => (ok_X1_undo (σ := σ) (b := 5) (p := rI σ 3 8) (Or.inl rfl))) (fun hJ _ _ _ _ v τ1 hM q => E_callVN (as := [.int (rI σ 3 8)]) (b := 5) (st := []) hM (by decide) yfX1_undo mlX10_420 imX1_undo seX1_undo clX1 (kd5 hJ.1.1) rfl (Nat.le_of_ble_eq_true rfl) rfl dX10_takeBack_8 q) (by decide) (by decide) (fun v1 σ2 => ?_)
  refine P_l (fun hJ _ _ q => E_istore_n (ls2 := [some (.ref 3), some (.int v1)]) dX10_takeBack_11 (by decide) rfl (E_aload_n dX10_takeBack_12 rfl (E_getR (b := 35) clX10 5 (by decide) flX10_43 (Or.inl ⟨_, rfl⟩) dX10_takeBack_13 (kd3 hJ.1.1) (rf3_5 hJ.1.1) (by decide) (E_iconst (v := 4) dX10_takeBack_16 (by decide) (E_aload_n dX10_takeBack_17 rfl (E_getI clX10 8 (by decide) flX10_61 (Or.inl rfl) dX10_takeBack_18 (kd3 hJ.1.1) (E_iload_n dX10_takeBack_21 rfl (E_iconst (v := 0) dX10_takeBack_22 (by decide) q)))))))) ?_
  refine P_call (t := fun _ => none) (st2 := fun _ => []) (kc2 := 0) (ks2 := 0) (fun hJ => (ok_X2_add (σ := σ2) (p1 := 4) (p2 := rI σ2 3 8) (p3 := v1) (p4 := 0) )) (fun hJ _ _ _ _ v τ1 hM q => E_callVN (as := [.int 4, .int (rI σ2 3 8), .int v1, .int 0]) (b := 35) (st := []) hM (by decide) yfX2_add mlX10_413 imX2_add seX2_add clX2 (kd35 hJ.1.1) rfl (Nat.le_of_ble_eq_true rfl) rfl dX10_takeBack_23 q) (by decide) (by decide) (fun v3 σ4 => ?_)
  exact P_ret (fun _ _ => E_vret rfl dX10_takeBack_26)

def f_X10_back (σ : rS) : Option ((Int32 ⊕ String) × rS) := if (v_X10_mayTakeBack σ) = 0 then (some ((.inr "java/lang/IllegalStateException", σ))) else (oB (f_X10_takeBack σ) fun _ σ2 => some ((.inl (rI σ2 5 6), σ2)))
set_option maxRecDepth 20000 in
set_option maxHeartbeats 2000000 in
theorem ok_X10_back {σ : rS}   : rFn Sy yX10_back mX10_back 6 [.ref 3] σ 1 6 (tX (fun v => .inl (some (.int v)))) (f_X10_back σ) := by
  refine rF_of (ls := [some (.ref 3)]) yfX10_back rfl (Nat.le_of_ble_eq_true rfl) (fun o τ => ?_)
  unfold f_X10_back
  refine P_l (fun hJ _ _ q => E_aload_n dX10_back_0 rfl (E_callV (as := []) (b := 3) (st := []) (ok_X10_mayTakeBack (σ := σ)  hJ ) (by decide) yfX10_mayTakeBack mlX10_168 imX10_mayTakeBack seX10_mayTakeBack clX10 (kd3 hJ.1.1) rfl (Nat.le_of_ble_eq_true rfl) rfl dX10_back_1 q)) ?_
  refine P_if (fun hJ _ _ h1 h2 => E_if_ne 15 dX10_back_4 (by decide) h2 h1) ?_ ?_
  · skip
    exact P_thr (fun kc ks => xt_IllegalStateException (M := mX10_back) (pc := 7) rfl rfl (by decide) (Nat.le_of_ble_eq_true rfl) dX10_back_7 dX10_back_10 dX10_back_11 dX10_back_14 kc ks) (by decide) (by decide)
  · skip
    refine P_l (fun hJ _ _ q => E_aload_n dX10_back_15 rfl q) ?_
    refine P_call (t := fun _ => none) (st2 := fun _ => []) (kc2 := 1) (ks2 := 6) (fun hJ => (ok_X10_takeBack (σ := σ)  )) (fun hJ _ _ _ _ v τ1 hM q => E_callV (as := []) (b := 3) (st := []) hM (by decide) yfX10_takeBack mlX10_171 imX10_takeBack seX10_takeBack clX10 (kd3 hJ.1.1) rfl (Nat.le_of_ble_eq_true rfl) rfl dX10_back_16 q) (by decide) (by decide) (fun v1 σ2 => ?_)
    refine P_l (fun hJ _ _ q => E_aload_n dX10_back_19 rfl (E_getR (b := 5) clX10 1 (by decide) flX10_19 (Or.inl ⟨_, rfl⟩) dX10_back_20 (kd3 hJ.1.1) (rf3_1 hJ.1.1) (by decide) (E_getIN clX1 6 (by decide) flX10_174 (Or.inl rfl) dX10_back_23 (kd5 hJ.1.1) q))) ?_
    exact P_ret (fun _ _ => E_iret rfl dX10_back_26)

def b_X10_takeLaid_9 (s3 : Int32 × rS) : Option ((Unit × rS) ⊕ (Int32 × rS)) := if (rI s3.2 5 6) ≤ s3.1 then (some (.inl (((), s3.2)))) else (oB (f_X9_add s3.2 (v_X1_doneKind s3.2 5 s3.1) 1) fun _ σ5 => some (.inr ((s3.1 + 1, σ5))))
def f_X10_takeLaid (σ : rS) : Option (Unit × rS) := oB (f_X9_clear σ) fun _ σ2 => oLoop (b_X10_takeLaid_9) oFuel ((0, σ2))
set_option maxRecDepth 20000 in
set_option maxHeartbeats 2000000 in
theorem ok_X10_takeLaid {σ : rS}   : rFn Sy yX10_takeLaid mX10_takeLaid 2 [.ref 3] σ 0 0 (fun _ => .inl none) (f_X10_takeLaid σ) := by
  refine rF_of (ls := [some (.ref 3), none]) yfX10_takeLaid rfl (Nat.le_of_ble_eq_true rfl) (fun o τ => ?_)
  unfold f_X10_takeLaid
  refine P_l (fun hJ _ _ q => E_aload_n dX10_takeLaid_0 rfl (E_getR (b := 37) clX10 6 (by decide) flX10_50 (Or.inl ⟨_, rfl⟩) dX10_takeLaid_1 (kd3 hJ.1.1) (rf3_6 hJ.1.1) (by decide) q)) ?_
  refine P_call (t := fun _ => none) (st2 := fun _ => []) (kc2 := 0) (ks2 := 0) (fun hJ => (ok_X9_clear (σ := σ)  )) (fun hJ _ _ _ _ v τ1 hM q => E_callVN (as := []) (b := 37) (st := []) hM (by decide) yfX9_clear mlX10_454 imX9_clear seX9_clear clX9 (kd37 hJ.1.1) rfl (Nat.le_of_ble_eq_true rfl) rfl dX10_takeLaid_4 q) (by decide) (by decide) (fun v1 σ2 => ?_)
  refine P_l (fun hJ _ _ q => E_iconst (v := 0) dX10_takeLaid_7 (by decide) (E_istore_n (ls2 := [some (.ref 3), some (.int 0)]) dX10_takeLaid_8 (by decide) rfl q)) ?_
  refine P_loop (fun s3 => [some (.ref 3), some (.int s3.1)]) (fun s3 => s3.2) (fun s3 => ?_) _ ((0, σ2))
  unfold b_X10_takeLaid_9
  refine P_l (fun hJ _ _ q => E_iload_n dX10_takeLaid_9 rfl (E_aload_n dX10_takeLaid_10 rfl (E_getR (b := 5) clX10 1 (by decide) flX10_19 (Or.inl ⟨_, rfl⟩) dX10_takeLaid_11 (kd3 hJ.1.1) (rf3_1 hJ.1.1) (by decide) (E_getIN clX1 6 (by decide) flX10_174 (Or.inl rfl) dX10_takeLaid_14 (kd5 hJ.1.1) q)))) ?_
  refine P_if (fun hJ _ _ h1 h2 => E_icmp_ge 42 dX10_takeLaid_17 (by decide) h1 h2) ?_ ?_
  · skip
    exact P_inl (P_ret (fun _ _ => E_vret rfl dX10_takeLaid_42))
  · skip
    refine P_l (fun hJ _ _ q => E_aload_n dX10_takeLaid_20 rfl (E_getR (b := 37) clX10 6 (by decide) flX10_50 (Or.inl ⟨_, rfl⟩) dX10_takeLaid_21 (kd3 hJ.1.1) (rf3_6 hJ.1.1) (by decide) (E_aload_n dX10_takeLaid_24 rfl (E_getR (b := 5) clX10 1 (by decide) flX10_19 (Or.inl ⟨_, rfl⟩) dX10_takeLaid_25 (kd3 hJ.1.1) (rf3_1 hJ.1.1) (by decide) (E_iload_n dX10_takeLaid_28 rfl (E_callVN (as := [.int s3.1]) (b := 5) (st := [.ref 37]) (ok_X1_doneKind (σ := s3.2) (b := 5) (i := s3.1) hJ (Or.inl rfl)) (by decide) yfX1_doneKind mlX10_457 imX1_doneKind seX1_doneKind clX1 (kd5 hJ.1.1) rfl (Nat.le_of_ble_eq_true rfl) rfl dX10_takeLaid_29 (E_iconst (v := 1) dX10_takeLaid_32 (by decide) q))))))) ?_
    refine P_call (t := fun _ => none) (st2 := fun _ => []) (kc2 := 0) (ks2 := 0) (fun hJ => (ok_X9_add (σ := s3.2) (p1 := v_X1_doneKind s3.2 5 s3.1) (p2 := 1) )) (fun hJ _ _ _ _ v τ1 hM q => E_callVN (as := [.int (v_X1_doneKind s3.2 5 s3.1), .int 1]) (b := 37) (st := []) hM (by decide) yfX9_add mlX10_455 imX9_add seX9_add clX9 (kd37 hJ.1.1) rfl (Nat.le_of_ble_eq_true rfl) rfl dX10_takeLaid_33 q) (by decide) (by decide) (fun v4 σ5 => ?_)
    refine P_l (fun hJ _ _ q => E_iinc (v := 1) (ls2 := [some (.ref 3), some (.int (s3.1 + 1))]) dX10_takeLaid_36 rfl (by decide) (by decide) rfl (E_goto 9 dX10_takeLaid_39 (by decide) q)) ?_
    exact P_back ((s3.1 + 1, σ5))

def b_X10_takeTable_9 (s3 : Int32 × rS) : Option ((Unit × rS) ⊕ (Int32 × rS)) := if 52 ≤ s3.1 then (some (.inl (((), s3.2)))) else (oB (f_X9_add s3.2 s3.1 (v_X1_lies s3.2 5 s3.1)) fun _ σ5 => some (.inr ((s3.1 + 1, σ5))))
def f_X10_takeTable (σ : rS) : Option (Unit × rS) := oB (f_X9_clear σ) fun _ σ2 => oLoop (b_X10_takeTable_9) oFuel ((0, σ2))
set_option maxRecDepth 20000 in
set_option maxHeartbeats 2000000 in
theorem ok_X10_takeTable {σ : rS}   : rFn Sy yX10_takeTable mX10_takeTable 2 [.ref 3] σ 0 0 (fun _ => .inl none) (f_X10_takeTable σ) := by
  refine rF_of (ls := [some (.ref 3), none]) yfX10_takeTable rfl (Nat.le_of_ble_eq_true rfl) (fun o τ => ?_)
  unfold f_X10_takeTable
  refine P_l (fun hJ _ _ q => E_aload_n dX10_takeTable_0 rfl (E_getR (b := 37) clX10 6 (by decide) flX10_50 (Or.inl ⟨_, rfl⟩) dX10_takeTable_1 (kd3 hJ.1.1) (rf3_6 hJ.1.1) (by decide) q)) ?_
  refine P_call (t := fun _ => none) (st2 := fun _ => []) (kc2 := 0) (ks2 := 0) (fun hJ => (ok_X9_clear (σ := σ)  )) (fun hJ _ _ _ _ v τ1 hM q => E_callVN (as := []) (b := 37) (st := []) hM (by decide) yfX9_clear mlX10_454 imX9_clear seX9_clear clX9 (kd37 hJ.1.1) rfl (Nat.le_of_ble_eq_true rfl) rfl dX10_takeTable_4 q) (by decide) (by decide) (fun v1 σ2 => ?_)
  refine P_l (fun hJ _ _ q => E_iconst (v := 0) dX10_takeTable_7 (by decide) (E_istore_n (ls2 := [some (.ref 3), some (.int 0)]) dX10_takeTable_8 (by decide) rfl q)) ?_
  refine P_loop (fun s3 => [some (.ref 3), some (.int s3.1)]) (fun s3 => s3.2) (fun s3 => ?_) _ ((0, σ2))
  unfold b_X10_takeTable_9
  refine P_l (fun hJ _ _ q => E_iload_n dX10_takeTable_9 rfl (E_bipush (v := 52) dX10_takeTable_10 (by decide) q)) ?_
  refine P_if (fun hJ _ _ h1 h2 => E_icmp_ge 37 dX10_takeTable_12 (by decide) h1 h2) ?_ ?_
  · skip
    exact P_inl (P_ret (fun _ _ => E_vret rfl dX10_takeTable_37))
  · skip
    refine P_l (fun hJ _ _ q => E_aload_n dX10_takeTable_15 rfl (E_getR (b := 37) clX10 6 (by decide) flX10_50 (Or.inl ⟨_, rfl⟩) dX10_takeTable_16 (kd3 hJ.1.1) (rf3_6 hJ.1.1) (by decide) (E_iload_n dX10_takeTable_19 rfl (E_aload_n dX10_takeTable_20 rfl (E_getR (b := 5) clX10 1 (by decide) flX10_19 (Or.inl ⟨_, rfl⟩) dX10_takeTable_21 (kd3 hJ.1.1) (rf3_1 hJ.1.1) (by decide) (E_iload_n dX10_takeTable_24 rfl (E_callVN (as := [.int s3.1]) (b := 5) (st := [.int s3.1, .ref 37]) (ok_X1_lies (σ := s3.2) (b := 5) (k := s3.1) hJ (Or.inl rfl)) (by decide) yfX1_lies mlX10_146 imX1_lies seX1_lies clX1 (kd5 hJ.1.1) rfl (Nat.le_of_ble_eq_true rfl) rfl dX10_takeTable_25 q))))))) ?_
    refine P_call (t := fun _ => none) (st2 := fun _ => []) (kc2 := 0) (ks2 := 0) (fun hJ => (ok_X9_add (σ := s3.2) (p1 := s3.1) (p2 := v_X1_lies s3.2 5 s3.1) )) (fun hJ _ _ _ _ v τ1 hM q => E_callVN (as := [.int s3.1, .int (v_X1_lies s3.2 5 s3.1)]) (b := 37) (st := []) hM (by decide) yfX9_add mlX10_455 imX9_add seX9_add clX9 (kd37 hJ.1.1) rfl (Nat.le_of_ble_eq_true rfl) rfl dX10_takeTable_28 q) (by decide) (by decide) (fun v4 σ5 => ?_)
    refine P_l (fun hJ _ _ q => E_iinc (v := 1) (ls2 := [some (.ref 3), some (.int (s3.1 + 1))]) dX10_takeTable_31 rfl (by decide) (by decide) rfl (E_goto 9 dX10_takeTable_34 (by decide) q)) ?_
    exact P_back ((s3.1 + 1, σ5))

def f_X10_mayEnd (σ : rS) : Option (Int32 × rS) := if (if (v_X10_isOn σ) = 0 then true else (if (rI σ 5 6) = 0 then true else (if (rI σ 5 10) ≤ 0 then false else true))) = true then (some ((0, σ))) else (if (v_X10_hasMelded σ (rI σ 3 8)) = 0 then (oB (f_X10_takeLaid σ) fun _ σ2 => (f_X1_laidWorth σ2 5).bind fun v3 => if v3 < (rI σ2 4 3) then (some ((0, σ2))) else (oB (f_X9_go σ2 1 ((rI σ2 4 0) + 1)) fun v4 σ5 => if v4 = 0 then (some ((0, σ5))) else (oB (f_X10_takeTable σ5) fun _ σ7 => oB (f_X9_go σ7 1 ((rI σ7 4 0) + 1)) fun v8 σ9 => some (((if v8 ≤ 0 then 0 else 1 : Int32), σ9))))) else (oB (f_X10_takeTable σ) fun _ σ11 => oB (f_X9_go σ11 1 ((rI σ11 4 0) + 1)) fun v12 σ13 => some (((if v12 ≤ 0 then 0 else 1 : Int32), σ13))))
set_option maxRecDepth 20000 in
set_option maxHeartbeats 2000000 in
theorem ok_X10_mayEnd {σ : rS}   : rFn Sy yX10_mayEnd mX10_mayEnd 5 [.ref 3] σ 0 0 (fun v => .inl (some (.int v))) (f_X10_mayEnd σ) := by
  refine rF_of (ls := [some (.ref 3)]) yfX10_mayEnd rfl (Nat.le_of_ble_eq_true rfl) (fun o τ => ?_)
  unfold f_X10_mayEnd
  refine P_l (fun hJ _ _ q => E_aload_n dX10_mayEnd_0 rfl (E_callV (as := []) (b := 3) (st := []) (ok_X10_isOn (σ := σ)  hJ ) (by decide) yfX10_isOn mlX10_81 imX10_isOn seX10_isOn clX10 (kd3 hJ.1.1) rfl (Nat.le_of_ble_eq_true rfl) rfl dX10_mayEnd_1 q)) ?_
  refine P_if (c := (if (v_X10_isOn σ) = 0 then true else (if (rI σ 5 6) = 0 then true else (if (rI σ 5 10) ≤ 0 then false else true))) = true) (pc1 := 27) (ls1 := [some (.ref 3)]) (st1 := []) (pc2 := 29) (ls2 := [some (.ref 3)]) (st2 := []) (fun hJ _ _ hX hY => ?_) ?_ ?_
  · skip
    refine E_if_eq 27 dX10_mayEnd_4 (by decide) (fun c_4_0 => ?_) (fun c_4_0 => ?_)
    · skip
      exact hX (by simp only [if_pos c_4_0])
    · skip
      refine E_aload_n dX10_mayEnd_7 rfl ?_
      refine E_getR (b := 5) clX10 1 (by decide) flX10_19 (Or.inl ⟨_, rfl⟩) dX10_mayEnd_8 (kd3 hJ.1.1) (rf3_1 hJ.1.1) (by decide) ?_
      refine E_getIN clX1 6 (by decide) flX10_174 (Or.inl rfl) dX10_mayEnd_11 (kd5 hJ.1.1) ?_
      refine E_if_eq 27 dX10_mayEnd_14 (by decide) (fun c_14_1 => ?_) (fun c_14_1 => ?_)
      · skip
        exact hX (by simp only [if_neg c_4_0, if_pos c_14_1])
      · skip
        refine E_aload_n dX10_mayEnd_17 rfl ?_
        refine E_getR (b := 5) clX10 1 (by decide) flX10_19 (Or.inl ⟨_, rfl⟩) dX10_mayEnd_18 (kd3 hJ.1.1) (rf3_1 hJ.1.1) (by decide) ?_
        refine E_getIN clX1 10 (by decide) flX10_165 (Or.inl rfl) dX10_mayEnd_21 (kd5 hJ.1.1) ?_
        refine E_if_le 29 dX10_mayEnd_24 (by decide) (fun c_24_2 => ?_) (fun c_24_2 => ?_)
        · skip
          exact hY (by simp only [if_neg c_4_0, if_neg c_14_1, if_pos c_24_2]; exact Bool.false_ne_true)
        · skip
          exact hX (by simp only [if_neg c_4_0, if_neg c_14_1, if_neg c_24_2])
  · skip
    refine P_l (fun hJ _ _ q => E_iconst (v := 0) dX10_mayEnd_27 (by decide) q) ?_
    exact P_ret (fun _ _ => E_zret01 rfl (by decide) dX10_mayEnd_28)
  · skip
    refine P_l (fun hJ _ _ q => E_aload_n dX10_mayEnd_29 rfl (E_aload_n dX10_mayEnd_30 rfl (E_getI clX10 8 (by decide) flX10_61 (Or.inl rfl) dX10_mayEnd_31 (kd3 hJ.1.1) (E_callV (as := [.int (rI σ 3 8)]) (b := 3) (st := []) (ok_X10_hasMelded (σ := σ) (p1 := rI σ 3 8) hJ ) (by decide) yfX10_hasMelded mlX10_209 imX10_hasMelded seX10_hasMelded clX10 (kd3 hJ.1.1) rfl (Nat.le_of_ble_eq_true rfl) rfl dX10_mayEnd_34 q)))) ?_
    refine P_if (fun hJ _ _ h1 h2 => E_if_ne 87 dX10_mayEnd_37 (by decide) h2 h1) ?_ ?_
    · skip
      refine P_l (fun hJ _ _ q => E_aload_n dX10_mayEnd_40 rfl q) ?_
      refine P_call (t := fun _ => none) (st2 := fun _ => []) (kc2 := 0) (ks2 := 0) (fun hJ => (ok_X10_takeLaid (σ := σ)  )) (fun hJ _ _ _ _ v τ1 hM q => E_callV (as := []) (b := 3) (st := []) hM (by decide) yfX10_takeLaid mlX10_404 imX10_takeLaid seX10_takeLaid clX10 (kd3 hJ.1.1) rfl (Nat.le_of_ble_eq_true rfl) rfl dX10_mayEnd_41 q) (by decide) (by decide) (fun v1 σ2 => ?_)
      refine P_l (fun hJ _ _ q => E_aload_n dX10_mayEnd_44 rfl (E_getR (b := 5) clX10 1 (by decide) flX10_19 (Or.inl ⟨_, rfl⟩) dX10_mayEnd_45 (kd3 hJ.1.1) (rf3_1 hJ.1.1) (by decide) q)) ?_
      refine P_callr (t := fun v => some (.int v)) (st2 := fun v => .int v :: []) (fun hJ => (ok_X1_laidWorth (σ := σ2) (b := 5) (Or.inl rfl))) (fun hJ _ _ v hM q => E_callVN (as := []) (b := 5) (st := []) hM (by decide) yfX1_laidWorth mlX10_407 imX1_laidWorth seX1_laidWorth clX1 (kd5 hJ.1.1) rfl (Nat.le_of_ble_eq_true rfl) rfl dX10_mayEnd_48 q) (fun v3 => ?_)
      refine P_l (fun hJ _ _ q => E_aload_n dX10_mayEnd_51 rfl (E_getR (b := 4) clX10 0 (by decide) flX10_12 (Or.inl ⟨_, rfl⟩) dX10_mayEnd_52 (kd3 hJ.1.1) (rf3_0 hJ.1.1) (by decide) (E_getIN clX5 3 (by decide) flX10_97 (Or.inl rfl) dX10_mayEnd_55 (kd4 hJ.1.1) q))) ?_
      refine P_if (fun hJ _ _ h1 h2 => E_icmp_lt 85 dX10_mayEnd_58 (by decide) h1 h2) ?_ ?_
      · skip
        refine P_l (fun hJ _ _ q => E_iconst (v := 0) dX10_mayEnd_85 (by decide) q) ?_
        exact P_ret (fun _ _ => E_zret01 rfl (by decide) dX10_mayEnd_86)
      · skip
        refine P_l (fun hJ _ _ q => E_aload_n dX10_mayEnd_61 rfl (E_getR (b := 37) clX10 6 (by decide) flX10_50 (Or.inl ⟨_, rfl⟩) dX10_mayEnd_62 (kd3 hJ.1.1) (rf3_6 hJ.1.1) (by decide) (E_aload_n dX10_mayEnd_65 rfl (E_getR (b := 4) clX10 0 (by decide) flX10_12 (Or.inl ⟨_, rfl⟩) dX10_mayEnd_66 (kd3 hJ.1.1) (rf3_0 hJ.1.1) (by decide) (E_iconst (v := 1) dX10_mayEnd_69 (by decide) (E_aload_n dX10_mayEnd_70 rfl (E_getR (b := 4) clX10 0 (by decide) flX10_12 (Or.inl ⟨_, rfl⟩) dX10_mayEnd_71 (kd3 hJ.1.1) (rf3_0 hJ.1.1) (by decide) (E_getIN clX5 0 (by decide) flX10_88 (Or.inl rfl) dX10_mayEnd_74 (kd4 hJ.1.1) (E_iconst (v := 1) dX10_mayEnd_77 (by decide) (E_iadd dX10_mayEnd_78 q)))))))))) ?_
        refine P_call (t := fun v => some (.int v)) (st2 := fun v => .int v :: []) (kc2 := 0) (ks2 := 0) (fun hJ => (ok_X9_go (σ := σ2) (p2 := 1) (p3 := (rI σ2 4 0) + 1) )) (fun hJ _ _ _ _ v τ1 hM q => E_callVN (as := [.ref 4, .int 1, .int ((rI σ2 4 0) + 1)]) (b := 37) (st := []) hM (by decide) yfX9_go mlX10_245 imX9_go seX9_go clX9 (kd37 hJ.1.1) rfl (Nat.le_of_ble_eq_true rfl) rfl dX10_mayEnd_79 q) (by decide) (by decide) (fun v4 σ5 => ?_)
        refine P_if (fun hJ _ _ h1 h2 => E_if_ne 87 dX10_mayEnd_82 (by decide) h2 h1) ?_ ?_
        · skip
          refine P_l (fun hJ _ _ q => E_iconst (v := 0) dX10_mayEnd_85 (by decide) q) ?_
          exact P_ret (fun _ _ => E_zret01 rfl (by decide) dX10_mayEnd_86)
        · skip
          refine P_l (fun hJ _ _ q => E_aload_n dX10_mayEnd_87 rfl q) ?_
          refine P_call (t := fun _ => none) (st2 := fun _ => []) (kc2 := 0) (ks2 := 0) (fun hJ => (ok_X10_takeTable (σ := σ5)  )) (fun hJ _ _ _ _ v τ1 hM q => E_callV (as := []) (b := 3) (st := []) hM (by decide) yfX10_takeTable mlX10_242 imX10_takeTable seX10_takeTable clX10 (kd3 hJ.1.1) rfl (Nat.le_of_ble_eq_true rfl) rfl dX10_mayEnd_88 q) (by decide) (by decide) (fun v6 σ7 => ?_)
          refine P_l (fun hJ _ _ q => E_aload_n dX10_mayEnd_91 rfl (E_getR (b := 37) clX10 6 (by decide) flX10_50 (Or.inl ⟨_, rfl⟩) dX10_mayEnd_92 (kd3 hJ.1.1) (rf3_6 hJ.1.1) (by decide) (E_aload_n dX10_mayEnd_95 rfl (E_getR (b := 4) clX10 0 (by decide) flX10_12 (Or.inl ⟨_, rfl⟩) dX10_mayEnd_96 (kd3 hJ.1.1) (rf3_0 hJ.1.1) (by decide) (E_iconst (v := 1) dX10_mayEnd_99 (by decide) (E_aload_n dX10_mayEnd_100 rfl (E_getR (b := 4) clX10 0 (by decide) flX10_12 (Or.inl ⟨_, rfl⟩) dX10_mayEnd_101 (kd3 hJ.1.1) (rf3_0 hJ.1.1) (by decide) (E_getIN clX5 0 (by decide) flX10_88 (Or.inl rfl) dX10_mayEnd_104 (kd4 hJ.1.1) (E_iconst (v := 1) dX10_mayEnd_107 (by decide) (E_iadd dX10_mayEnd_108 q)))))))))) ?_
          refine P_call (t := fun v => some (.int v)) (st2 := fun v => .int v :: []) (kc2 := 0) (ks2 := 0) (fun hJ => (ok_X9_go (σ := σ7) (p2 := 1) (p3 := (rI σ7 4 0) + 1) )) (fun hJ _ _ _ _ v τ1 hM q => E_callVN (as := [.ref 4, .int 1, .int ((rI σ7 4 0) + 1)]) (b := 37) (st := []) hM (by decide) yfX9_go mlX10_245 imX9_go seX9_go clX9 (kd37 hJ.1.1) rfl (Nat.le_of_ble_eq_true rfl) rfl dX10_mayEnd_109 q) (by decide) (by decide) (fun v8 σ9 => ?_)
          refine P_l (pc2 := 120) (ls2 := [none]) (st2 := [.int ((if v8 ≤ 0 then 0 else 1 : Int32))]) (fun hJ _ _ hq => ?_) ?_
          · skip
            refine E_if_le 119 dX10_mayEnd_112 (by decide) (fun c_112_0 => ?_) (fun c_112_0 => ?_)
            · skip
              refine E_iconst (v := 0) dX10_mayEnd_119 (by decide) ?_
              simp only [if_pos c_112_0] at hq
              exact E_less (ls2 := [none]) hq (rLe_at [none] [some (.ref 3)] trivial)
            · skip
              refine E_iconst (v := 1) dX10_mayEnd_115 (by decide) ?_
              refine E_goto 120 dX10_mayEnd_116 (by decide) ?_
              simp only [if_neg c_112_0] at hq
              exact E_less (ls2 := [none]) hq (rLe_at [none] [some (.ref 3)] trivial)
          · skip
            exact P_ret (fun _ _ => E_zret01 rfl (by split <;> decide) dX10_mayEnd_120)
    · skip
      refine P_l (fun hJ _ _ q => E_aload_n dX10_mayEnd_87 rfl q) ?_
      refine P_call (t := fun _ => none) (st2 := fun _ => []) (kc2 := 0) (ks2 := 0) (fun hJ => (ok_X10_takeTable (σ := σ)  )) (fun hJ _ _ _ _ v τ1 hM q => E_callV (as := []) (b := 3) (st := []) hM (by decide) yfX10_takeTable mlX10_242 imX10_takeTable seX10_takeTable clX10 (kd3 hJ.1.1) rfl (Nat.le_of_ble_eq_true rfl) rfl dX10_mayEnd_88 q) (by decide) (by decide) (fun v10 σ11 => ?_)
      refine P_l (fun hJ _ _ q => E_aload_n dX10_mayEnd_91 rfl (E_getR (b := 37) clX10 6 (by decide) flX10_50 (Or.inl ⟨_, rfl⟩) dX10_mayEnd_92 (kd3 hJ.1.1) (rf3_6 hJ.1.1) (by decide) (E_aload_n dX10_mayEnd_95 rfl (E_getR (b := 4) clX10 0 (by decide) flX10_12 (Or.inl ⟨_, rfl⟩) dX10_mayEnd_96 (kd3 hJ.1.1) (rf3_0 hJ.1.1) (by decide) (E_iconst (v := 1) dX10_mayEnd_99 (by decide) (E_aload_n dX10_mayEnd_100 rfl (E_getR (b := 4) clX10 0 (by decide) flX10_12 (Or.inl ⟨_, rfl⟩) dX10_mayEnd_101 (kd3 hJ.1.1) (rf3_0 hJ.1.1) (by decide) (E_getIN clX5 0 (by decide) flX10_88 (Or.inl rfl) dX10_mayEnd_104 (kd4 hJ.1.1) (E_iconst (v := 1) dX10_mayEnd_107 (by decide) (E_iadd dX10_mayEnd_108 q)))))))))) ?_
      refine P_call (t := fun v => some (.int v)) (st2 := fun v => .int v :: []) (kc2 := 0) (ks2 := 0) (fun hJ => (ok_X9_go (σ := σ11) (p2 := 1) (p3 := (rI σ11 4 0) + 1) )) (fun hJ _ _ _ _ v τ1 hM q => E_callVN (as := [.ref 4, .int 1, .int ((rI σ11 4 0) + 1)]) (b := 37) (st := []) hM (by decide) yfX9_go mlX10_245 imX9_go seX9_go clX9 (kd37 hJ.1.1) rfl (Nat.le_of_ble_eq_true rfl) rfl dX10_mayEnd_109 q) (by decide) (by decide) (fun v12 σ13 => ?_)
      refine P_l (pc2 := 120) (ls2 := [none]) (st2 := [.int ((if v12 ≤ 0 then 0 else 1 : Int32))]) (fun hJ _ _ hq => ?_) ?_
      · skip
        refine E_if_le 119 dX10_mayEnd_112 (by decide) (fun c_112_0 => ?_) (fun c_112_0 => ?_)
        · skip
          refine E_iconst (v := 0) dX10_mayEnd_119 (by decide) ?_
          simp only [if_pos c_112_0] at hq
          exact E_less (ls2 := [none]) hq (rLe_at [none] [some (.ref 3)] trivial)
        · skip
          refine E_iconst (v := 1) dX10_mayEnd_115 (by decide) ?_
          refine E_goto 120 dX10_mayEnd_116 (by decide) ?_
          simp only [if_neg c_112_0] at hq
          exact E_less (ls2 := [none]) hq (rLe_at [none] [some (.ref 3)] trivial)
      · skip
        exact P_ret (fun _ _ => E_zret01 rfl (by split <;> decide) dX10_mayEnd_120)

