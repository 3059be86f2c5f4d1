def f_X10_passed (σ : rS) (p1 : Int32) (p2 : Int32) : Option ((Int32 ⊕ String) × rS) := oBx (f_X10_needPlayer σ p1) fun _ σ2 => oBx (f_X10_needKind σ2 p2) fun _ σ4 => (f_X6_passedBy σ4 p1).bind fun v5 => some ((.inl (vBit v5 p2), σ4))
set_option maxRecDepth 20000 in
set_option maxHeartbeats 2000000 in
theorem ok_X10_passed {σ : rS} {p1 : Int32} {p2 : Int32}   : rFn Sy yX10_passed mX10_passed 7 [.ref 3, .int p1, .int p2] σ 2 12 (tX (fun v => .inl (some (.int v)))) (f_X10_passed σ p1 p2) := by
  refine rF_of (ls := [some (.ref 3), some (.int p1), some (.int p2)]) yfX10_passed rfl (Nat.le_of_ble_eq_true rfl) (fun o τ => ?_)
  unfold f_X10_passed
  refine P_l (fun hJ _ _ q => E_aload_n dX10_passed_0 rfl (E_iload_n dX10_passed_1 rfl q)) ?_
  refine P_callx (t2 := fun _ => none) (st2 := fun _ => []) (kc2 := 1) (ks2 := 6) (fun hJ => (ok_X10_needPlayer (σ := σ) (p1 := p1) )) (fun hJ _ _ _ _ v τ1 hM q => E_callV (as := [.int p1]) (b := 3) (st := []) hM (by decide) yfX10_needPlayer mlX10_273 imX10_needPlayer seX10_needPlayer clX10 (kd3 hJ.1.1) rfl (Nat.le_of_ble_eq_true rfl) rfl dX10_passed_2 q) (fun hJ _ _ _ _ E τ1 hM => E_callVx (τ := τ1) (as := [.int p1]) (b := 3) (st := []) hM (by decide) yfX10_needPlayer mlX10_273 imX10_needPlayer seX10_needPlayer clX10 (kd3 hJ.1.1) rfl (Nat.le_of_ble_eq_true rfl) rfl dX10_passed_2 rfl) (by decide) (by decide) (fun v1 σ2 => ?_)
  refine P_l (fun hJ _ _ q => E_aload_n dX10_passed_5 rfl (E_iload_n dX10_passed_6 rfl q)) ?_
  refine P_callx (t2 := fun _ => none) (st2 := fun _ => []) (kc2 := 0) (ks2 := 0) (fun hJ => (ok_X10_needKind (σ := σ2) (p1 := p2) )) (fun hJ _ _ _ _ v τ1 hM q => E_callV (as := [.int p2]) (b := 3) (st := []) hM (by decide) yfX10_needKind mlX10_136 imX10_needKind seX10_needKind clX10 (kd3 hJ.1.1) rfl (Nat.le_of_ble_eq_true rfl) rfl dX10_passed_7 q) (fun hJ _ _ _ _ E τ1 hM => E_callVx (τ := τ1) (as := [.int p2]) (b := 3) (st := []) hM (by decide) yfX10_needKind mlX10_136 imX10_needKind seX10_needKind clX10 (kd3 hJ.1.1) rfl (Nat.le_of_ble_eq_true rfl) rfl dX10_passed_7 rfl) (by decide) (by decide) (fun v3 σ4 => ?_)
  refine P_l (fun hJ _ _ q => E_aload_n dX10_passed_10 rfl (E_getR (b := 19) clX10 3 (by decide) flX10_29 (Or.inl ⟨_, rfl⟩) dX10_passed_11 (kd3 hJ.1.1) (rf3_3 hJ.1.1) (by decide) (E_iload_n dX10_passed_14 rfl q))) ?_
  refine P_callr (t := fun v => some (.long v)) (st2 := fun v => .long v :: []) (fun hJ => (ok_X6_passedBy (σ := σ4) (p1 := p1) )) (fun hJ _ _ v hM q => E_callVN (as := [.int p1]) (b := 19) (st := []) hM (by decide) yfX6_passedBy mlX10_304 imX6_passedBy seX6_passedBy clX6 (kd19 hJ.1.1) rfl (Nat.le_of_ble_eq_true rfl) rfl dX10_passed_15 q) (fun v5 => ?_)
  refine P_l (fun hJ _ _ q => E_iload_n dX10_passed_18 rfl (E_callS (as := [.long v5, .int p2]) (st := []) (ok_isIn (σ := σ4) (s := v5) (k := p2)) (by decide) yfX10_isIn mlX10_294 stX10_isIn rfl (Nat.le_of_ble_eq_true rfl) rfl dX10_passed_19 q)) ?_
  exact P_ret (fun _ _ => E_zret01 rfl (vBit_01 _ _) dX10_passed_22)

def f_X10_claim (σ : rS) (p1 : Int32) (p2 : Int32) (p3 : Int32) : Option ((Int32 ⊕ String) × rS) := oBx (f_X10_needPlayer σ p1) fun _ σ2 => oBx (f_X10_needKind σ2 p2) fun _ σ4 => if (vIn p3 0 2) = 0 then (some ((.inr "java/lang/IllegalArgumentException", σ4))) else (oLet (vAt (rI σ4 30) 208 ((p1 * 52) + p2) : Int32) fun x5 => oLet (rowI σ4 30 (vSet (rI σ4 30) 208 ((p1 * 52) + p2) p3)) fun σ6 => some ((.inl x5, σ6)))
set_option maxRecDepth 20000 in
set_option maxHeartbeats 2000000 in
theorem ok_X10_claim {σ : rS} {p1 : Int32} {p2 : Int32} {p3 : Int32}   : rFn Sy yX10_claim mX10_claim 7 [.ref 3, .int p1, .int p2, .int p3] σ 3 18 (tX (fun v => .inl (some (.int v)))) (f_X10_claim σ p1 p2 p3) := by
  refine rF_of (ls := [some (.ref 3), some (.int p1), some (.int p2), some (.int p3), none]) yfX10_claim rfl (Nat.le_of_ble_eq_true rfl) (fun o τ => ?_)
  unfold f_X10_claim
  refine P_l (fun hJ _ _ q => E_aload_n dX10_claim_0 rfl (E_iload_n dX10_claim_1 rfl q)) ?_
  refine P_callx (t2 := fun _ => none) (st2 := fun _ => []) (kc2 := 2) (ks2 := 12) (fun hJ => (ok_X10_needPlayer (σ := σ) (p1 := p1) )) (fun hJ _ _ _ _ v τ1 hM q => E_callV (as := [.int p1]) (b := 3) (st := []) hM (by decide) yfX10_needPlayer mlX10_273 imX10_needPlayer seX10_needPlayer clX10 (kd3 hJ.1.1) rfl (Nat.le_of_ble_eq_true rfl) rfl dX10_claim_2 q) (fun hJ _ _ _ _ E τ1 hM => E_callVx (τ := τ1) (as := [.int p1]) (b := 3) (st := []) hM (by decide) yfX10_needPlayer mlX10_273 imX10_needPlayer seX10_needPlayer clX10 (kd3 hJ.1.1) rfl (Nat.le_of_ble_eq_true rfl) rfl dX10_claim_2 rfl) (by decide) (by decide) (fun v1 σ2 => ?_)
  refine P_l (fun hJ _ _ q => E_aload_n dX10_claim_5 rfl (E_iload_n dX10_claim_6 rfl q)) ?_
  refine P_callx (t2 := fun _ => none) (st2 := fun _ => []) (kc2 := 1) (ks2 := 6) (fun hJ => (ok_X10_needKind (σ := σ2) (p1 := p2) )) (fun hJ _ _ _ _ v τ1 hM q => E_callV (as := [.int p2]) (b := 3) (st := []) hM (by decide) yfX10_needKind mlX10_136 imX10_needKind seX10_needKind clX10 (kd3 hJ.1.1) rfl (Nat.le_of_ble_eq_true rfl) rfl dX10_claim_7 q) (fun hJ _ _ _ _ E τ1 hM => E_callVx (τ := τ1) (as := [.int p2]) (b := 3) (st := []) hM (by decide) yfX10_needKind mlX10_136 imX10_needKind seX10_needKind clX10 (kd3 hJ.1.1) rfl (Nat.le_of_ble_eq_true rfl) rfl dX10_claim_7 rfl) (by decide) (by decide) (fun v3 σ4 => ?_)
  refine P_l (fun hJ _ _ q => E_iload_n dX10_claim_10 rfl (E_iconst (v := 0) dX10_claim_11 (by decide) (E_iconst (v := 2) dX10_claim_12 (by decide) (E_callS (as := [.int p3, .int 0, .int 2]) (st := []) (ok_within (σ := σ4) (v := p3) (a := 0) (b := 2)) (by decide) yfX10_within mlX10_74 stX10_within rfl (Nat.le_of_ble_eq_true rfl) rfl dX10_claim_13 q)))) ?_
  refine P_if (fun hJ _ _ h1 h2 => E_if_ne 27 dX10_claim_16 (by decide) h2 h1) ?_ ?_
  · skip
    exact P_thr (fun kc ks => xt_IllegalArgumentException (M := mX10_claim) (pc := 19) rfl rfl (by decide) (Nat.le_of_ble_eq_true rfl) dX10_claim_19 dX10_claim_22 dX10_claim_23 dX10_claim_26 kc ks) (by decide) (by decide)
  · skip
    refine P_l (fun hJ _ _ q => E_aload_n dX10_claim_27 rfl (E_getR (b := 19) clX10 3 (by decide) flX10_29 (Or.inl ⟨_, rfl⟩) dX10_claim_28 (kd3 hJ.1.1) (rf3_3 hJ.1.1) (by decide) (E_getRN (b := 30) clX6 11 (by decide) flX10_324 (Or.inr ⟨_, rfl⟩) dX10_claim_31 (kd19 hJ.1.1) (rf19_11 hJ.1.1) (by decide) (E_iload_n dX10_claim_34 rfl (E_bipush (v := 52) dX10_claim_35 (by decide) (E_imul dX10_claim_37 (E_iload_n dX10_claim_38 rfl (E_iadd dX10_claim_39 (E_callS (as := [.ref 30, .int ((p1 * 52) + p2)]) (st := []) (ok_at (σ := σ4) (a := 30) (i := (p1 * 52) + p2) (f := rI σ4 30) (kd30 hJ.1.1) (by decide) rfl) (by decide) yfX10_at mlX10_193 stX10_at rfl (Nat.le_of_ble_eq_true rfl) rfl dX10_claim_40 (E_istore (ls2 := [some (.ref 3), some (.int p1), some (.int p2), some (.int p3), some (.int (vAt (rI σ4 30) 208 ((p1 * 52) + p2)))]) dX10_claim_43 (by decide) rfl q)))))))))) ?_
    refine P_v (vAt (rI σ4 30) 208 ((p1 * 52) + p2)) (fun x => [some (.ref 3), some (.int p1), some (.int p2), some (.int p3), some (.int x)]) (fun x5 => ?_)
    refine P_l (fun hJ _ _ q => E_aload_n dX10_claim_45 rfl (E_getR (b := 19) clX10 3 (by decide) flX10_29 (Or.inl ⟨_, rfl⟩) dX10_claim_46 (kd3 hJ.1.1) (rf3_3 hJ.1.1) (by decide) (E_getRN (b := 30) clX6 11 (by decide) flX10_324 (Or.inr ⟨_, rfl⟩) dX10_claim_49 (kd19 hJ.1.1) (rf19_11 hJ.1.1) (by decide) (E_iload_n dX10_claim_52 rfl (E_bipush (v := 52) dX10_claim_53 (by decide) (E_imul dX10_claim_55 (E_iload_n dX10_claim_56 rfl (E_iadd dX10_claim_57 (E_iload_n dX10_claim_58 rfl q))))))))) ?_
    refine P_w (fun hJ _ _ q => E_callS (as := [.ref 30, .int ((p1 * 52) + p2), .int p3]) (st := []) (ok_set (σ := σ4) (a := 30) (i := (p1 * 52) + p2) (x := p3) (f := rI σ4 30) (kd30 hJ.1.1) (by decide) (by decide) rfl) (by decide) yfX10_set mlX10_202 stX10_set rfl (Nat.le_of_ble_eq_true rfl) rfl dX10_claim_59 q) (fun hJ => Sy_rowI hJ.1) rfl rfl rfl (fun σ6 hσ6 => ?_)
    refine P_l (fun hJ _ _ q => E_iload dX10_claim_62 rfl q) ?_
    exact P_ret (fun _ _ => E_iret rfl dX10_claim_64)

def f_X10_rackIs (σ : rS) (p1 : Int32) (p2 : Int32) : Option ((Int32 ⊕ String) × rS) := oBx (f_X10_needPlayer σ p1) fun _ σ2 => oBx (f_X10_needPiece σ2 p2) fun _ σ4 => some ((.inl (v_X1_rackOf σ4 5 p1 p2), σ4))
set_option maxRecDepth 20000 in
set_option maxHeartbeats 2000000 in
theorem ok_X10_rackIs {σ : rS} {p1 : Int32} {p2 : Int32}   : rFn Sy yX10_rackIs mX10_rackIs 7 [.ref 3, .int p1, .int p2] σ 2 12 (tX (fun v => .inl (some (.int v)))) (f_X10_rackIs σ p1 p2) := by
  refine rF_of (ls := [some (.ref 3), some (.int p1), some (.int p2)]) yfX10_rackIs rfl (Nat.le_of_ble_eq_true rfl) (fun o τ => ?_)
  unfold f_X10_rackIs
  refine P_l (fun hJ _ _ q => E_aload_n dX10_rackIs_0 rfl (E_iload_n dX10_rackIs_1 rfl q)) ?_
  refine P_callx (t2 := fun _ => none) (st2 := fun _ => []) (kc2 := 1) (ks2 := 6) (fun hJ => (ok_X10_needPlayer (σ := σ) (p1 := p1) )) (fun hJ _ _ _ _ v τ1 hM q => E_callV (as := [.int p1]) (b := 3) (st := []) hM (by decide) yfX10_needPlayer mlX10_273 imX10_needPlayer seX10_needPlayer clX10 (kd3 hJ.1.1) rfl (Nat.le_of_ble_eq_true rfl) rfl dX10_rackIs_2 q) (fun hJ _ _ _ _ E τ1 hM => E_callVx (τ := τ1) (as := [.int p1]) (b := 3) (st := []) hM (by decide) yfX10_needPlayer mlX10_273 imX10_needPlayer seX10_needPlayer clX10 (kd3 hJ.1.1) rfl (Nat.le_of_ble_eq_true rfl) rfl dX10_rackIs_2 rfl) (by decide) (by decide) (fun v1 σ2 => ?_)
  refine P_l (fun hJ _ _ q => E_aload_n dX10_rackIs_5 rfl (E_iload_n dX10_rackIs_6 rfl q)) ?_
  refine P_callx (t2 := fun _ => none) (st2 := fun _ => []) (kc2 := 0) (ks2 := 0) (fun hJ => (ok_X10_needPiece (σ := σ2) (p1 := p2) )) (fun hJ _ _ _ _ v τ1 hM q => E_callV (as := [.int p2]) (b := 3) (st := []) hM (by decide) yfX10_needPiece mlX10_298 imX10_needPiece seX10_needPiece clX10 (kd3 hJ.1.1) rfl (Nat.le_of_ble_eq_true rfl) rfl dX10_rackIs_7 q) (fun hJ _ _ _ _ E τ1 hM => E_callVx (τ := τ1) (as := [.int p2]) (b := 3) (st := []) hM (by decide) yfX10_needPiece mlX10_298 imX10_needPiece seX10_needPiece clX10 (kd3 hJ.1.1) rfl (Nat.le_of_ble_eq_true rfl) rfl dX10_rackIs_7 rfl) (by decide) (by decide) (fun v3 σ4 => ?_)
  refine P_l (fun hJ _ _ q => E_aload_n dX10_rackIs_10 rfl (E_getR (b := 5) clX10 1 (by decide) flX10_19 (Or.inl ⟨_, rfl⟩) dX10_rackIs_11 (kd3 hJ.1.1) (rf3_1 hJ.1.1) (by decide) (E_iload_n dX10_rackIs_14 rfl (E_iload_n dX10_rackIs_15 rfl (E_callVN (as := [.int p1, .int p2]) (b := 5) (st := []) (ok_X1_rackOf (σ := σ4) (b := 5) (p := p1) (k := p2) hJ (Or.inl rfl)) (by decide) yfX1_rackOf mlX10_333 imX1_rackOf seX1_rackOf clX1 (kd5 hJ.1.1) rfl (Nat.le_of_ble_eq_true rfl) rfl dX10_rackIs_16 q))))) ?_
  exact P_ret (fun _ _ => E_iret rfl dX10_rackIs_19)

def f_X10_tableIs (σ : rS) (p1 : Int32) (p2 : Int32) : Option ((Int32 ⊕ String) × rS) := oBx (f_X10_needKind σ p1) fun _ σ2 => some ((.inl ((if p2 = 0 then (vAt (rI σ2 9) 52 p1) else (vAt (rI σ2 10) 52 p1) : Int32)), σ2))
set_option maxRecDepth 20000 in
set_option maxHeartbeats 2000000 in
theorem ok_X10_tableIs {σ : rS} {p1 : Int32} {p2 : Int32}   : rFn Sy yX10_tableIs mX10_tableIs 7 [.ref 3, .int p1, .int p2] σ 1 6 (tX (fun v => .inl (some (.int v)))) (f_X10_tableIs σ p1 p2) := by
  refine rF_of (ls := [some (.ref 3), some (.int p1), some (.int p2)]) yfX10_tableIs rfl (Nat.le_of_ble_eq_true rfl) (fun o τ => ?_)
  unfold f_X10_tableIs
  refine P_l (fun hJ _ _ q => E_aload_n dX10_tableIs_0 rfl (E_iload_n dX10_tableIs_1 rfl q)) ?_
  refine P_callx (t2 := fun _ => none) (st2 := fun _ => []) (kc2 := 0) (ks2 := 0) (fun hJ => (ok_X10_needKind (σ := σ) (p1 := p1) )) (fun hJ _ _ _ _ v τ1 hM q => E_callV (as := [.int p1]) (b := 3) (st := []) hM (by decide) yfX10_needKind mlX10_136 imX10_needKind seX10_needKind clX10 (kd3 hJ.1.1) rfl (Nat.le_of_ble_eq_true rfl) rfl dX10_tableIs_2 q) (fun hJ _ _ _ _ E τ1 hM => E_callVx (τ := τ1) (as := [.int p1]) (b := 3) (st := []) hM (by decide) yfX10_needKind mlX10_136 imX10_needKind seX10_needKind clX10 (kd3 hJ.1.1) rfl (Nat.le_of_ble_eq_true rfl) rfl dX10_tableIs_2 rfl) (by decide) (by decide) (fun v1 σ2 => ?_)
  refine P_l (fun hJ _ _ q => E_iload_n dX10_tableIs_5 rfl q) ?_
  refine P_l (pc2 := 34) (ls2 := [none, none, none]) (st2 := [.int ((if p2 = 0 then (vAt (rI σ2 9) 52 p1) else (vAt (rI σ2 10) 52 p1) : Int32))]) (fun hJ _ _ hq => ?_) ?_
  · skip
    refine E_if_eq 23 dX10_tableIs_6 (by decide) (fun c_6_0 => ?_) (fun c_6_0 => ?_)
    · skip
      refine E_aload_n dX10_tableIs_23 rfl ?_
      refine E_getR (b := 5) clX10 1 (by decide) flX10_19 (Or.inl ⟨_, rfl⟩) dX10_tableIs_24 (kd3 hJ.1.1) (rf3_1 hJ.1.1) (by decide) ?_
      refine E_getRN (b := 9) clX1 3 (by decide) flX10_330 (Or.inr ⟨_, rfl⟩) dX10_tableIs_27 (kd5 hJ.1.1) (rf5_3 hJ.1.1) (by decide) ?_
      refine E_iload_n dX10_tableIs_30 rfl ?_
      refine E_callS (as := [.ref 9, .int p1]) (st := []) (ok_at (σ := σ2) (a := 9) (i := p1) (f := rI σ2 9) (kd9 hJ.1.1) (by decide) rfl) (by decide) yfX10_at mlX10_193 stX10_at rfl (Nat.le_of_ble_eq_true rfl) rfl dX10_tableIs_31 ?_
      simp only [if_pos c_6_0] at hq
      exact E_less (ls2 := [none, none, none]) hq (rLe_at [none, none, none] [some (.ref 3), some (.int p1), some (.int p2)] trivial)
    · skip
      refine E_aload_n dX10_tableIs_9 rfl ?_
      refine E_getR (b := 5) clX10 1 (by decide) flX10_19 (Or.inl ⟨_, rfl⟩) dX10_tableIs_10 (kd3 hJ.1.1) (rf3_1 hJ.1.1) (by decide) ?_
      refine E_getRN (b := 10) clX1 4 (by decide) flX10_336 (Or.inr ⟨_, rfl⟩) dX10_tableIs_13 (kd5 hJ.1.1) (rf5_4 hJ.1.1) (by decide) ?_
      refine E_iload_n dX10_tableIs_16 rfl ?_
      refine E_callS (as := [.ref 10, .int p1]) (st := []) (ok_at (σ := σ2) (a := 10) (i := p1) (f := rI σ2 10) (kd10 hJ.1.1) (by decide) rfl) (by decide) yfX10_at mlX10_193 stX10_at rfl (Nat.le_of_ble_eq_true rfl) rfl dX10_tableIs_17 ?_
      refine E_goto 34 dX10_tableIs_20 (by decide) ?_
      simp only [if_neg c_6_0] at hq
      exact E_less (ls2 := [none, none, none]) hq (rLe_at [none, none, none] [some (.ref 3), some (.int p1), some (.int p2)] trivial)
  · skip
    exact P_ret (fun _ _ => E_iret rfl dX10_tableIs_34)

def f_X10_poolIs (σ : rS) (p1 : Int32) : Option ((Int32 ⊕ String) × rS) := oBx (f_X10_needPiece σ p1) fun _ σ2 => some ((.inl (vAt (rI σ2 6) 53 p1), σ2))
set_option maxRecDepth 20000 in
set_option maxHeartbeats 2000000 in
theorem ok_X10_poolIs {σ : rS} {p1 : Int32}   : rFn Sy yX10_poolIs mX10_poolIs 7 [.ref 3, .int p1] σ 1 6 (tX (fun v => .inl (some (.int v)))) (f_X10_poolIs σ p1) := by
  refine rF_of (ls := [some (.ref 3), some (.int p1)]) yfX10_poolIs rfl (Nat.le_of_ble_eq_true rfl) (fun o τ => ?_)
  unfold f_X10_poolIs
  refine P_l (fun hJ _ _ q => E_aload_n dX10_poolIs_0 rfl (E_iload_n dX10_poolIs_1 rfl q)) ?_
  refine P_callx (t2 := fun _ => none) (st2 := fun _ => []) (kc2 := 0) (ks2 := 0) (fun hJ => (ok_X10_needPiece (σ := σ) (p1 := p1) )) (fun hJ _ _ _ _ v τ1 hM q => E_callV (as := [.int p1]) (b := 3) (st := []) hM (by decide) yfX10_needPiece mlX10_298 imX10_needPiece seX10_needPiece clX10 (kd3 hJ.1.1) rfl (Nat.le_of_ble_eq_true rfl) rfl dX10_poolIs_2 q) (fun hJ _ _ _ _ E τ1 hM => E_callVx (τ := τ1) (as := [.int p1]) (b := 3) (st := []) hM (by decide) yfX10_needPiece mlX10_298 imX10_needPiece seX10_needPiece clX10 (kd3 hJ.1.1) rfl (Nat.le_of_ble_eq_true rfl) rfl dX10_poolIs_2 rfl) (by decide) (by decide) (fun v1 σ2 => ?_)
  refine P_l (fun hJ _ _ q => E_aload_n dX10_poolIs_5 rfl (E_getR (b := 5) clX10 1 (by decide) flX10_19 (Or.inl ⟨_, rfl⟩) dX10_poolIs_6 (kd3 hJ.1.1) (rf3_1 hJ.1.1) (by decide) (E_getRN (b := 6) clX1 0 (by decide) flX10_338 (Or.inr ⟨_, rfl⟩) dX10_poolIs_9 (kd5 hJ.1.1) (rf5_0 hJ.1.1) (by decide) (E_iload_n dX10_poolIs_12 rfl (E_callS (as := [.ref 6, .int p1]) (st := []) (ok_at (σ := σ2) (a := 6) (i := p1) (f := rI σ2 6) (kd6 hJ.1.1) (by decide) rfl) (by decide) yfX10_at mlX10_193 stX10_at rfl (Nat.le_of_ble_eq_true rfl) rfl dX10_poolIs_13 q))))) ?_
  exact P_ret (fun _ _ => E_iret rfl dX10_poolIs_16)

def f_X10_playerIs (σ : rS) (p1 : Int32) (p2 : Int32) : Option ((Int32 ⊕ String) × rS) := oBx (f_X10_needPlayer σ p1) fun _ σ2 => if p2 = 0 then (some ((.inl (vAt (rI σ2 20) 4 p1), σ2))) else (if p2 = 1 then (some ((.inl (vAt (rI σ2 21) 4 p1), σ2))) else (if p2 = 2 then (some ((.inl (vAt (rI σ2 22) 4 p1), σ2))) else (if p2 = 3 then (some ((.inl (vAt (rI σ2 23) 4 p1), σ2))) else (if p2 = 4 then (some ((.inl ((if (v_X10_hasMelded σ2 p1) = 0 then 0 else 1 : Int32)), σ2))) else (if p2 = 5 then (some ((.inl (v_X1_sizeOf σ2 5 p1), σ2))) else (if p2 = 6 then ((f_X1_worthOf σ2 5 p1).bind fun v10 => some ((.inl v10, σ2))) else (if p2 = 7 then ((f_X6_placeOf σ2 p1).bind fun v12 => some ((.inl v12, σ2))) else (if p2 = 8 then (some ((.inl (vAt (rI σ2 25) 4 p1), σ2))) else (if p2 = 9 then (some ((.inl (vAt (rI σ2 27) 4 p1), σ2))) else (some ((.inr "java/lang/IllegalArgumentException", σ2))))))))))))
set_option maxRecDepth 20000 in
set_option maxHeartbeats 2000000 in
theorem ok_X10_playerIs {σ : rS} {p1 : Int32} {p2 : Int32}   : rFn Sy yX10_playerIs mX10_playerIs 7 [.ref 3, .int p1, .int p2] σ 2 12 (tX (fun v => .inl (some (.int v)))) (f_X10_playerIs σ p1 p2) := by
  refine rF_of (ls := [some (.ref 3), some (.int p1), some (.int p2)]) yfX10_playerIs rfl (Nat.le_of_ble_eq_true rfl) (fun o τ => ?_)
  unfold f_X10_playerIs
  refine P_l (fun hJ _ _ q => E_aload_n dX10_playerIs_0 rfl (E_iload_n dX10_playerIs_1 rfl q)) ?_
  refine P_callx (t2 := fun _ => none) (st2 := fun _ => []) (kc2 := 1) (ks2 := 6) (fun hJ => (ok_X10_needPlayer (σ := σ) (p1 := p1) )) (fun hJ _ _ _ _ v τ1 hM q => E_callV (as := [.int p1]) (b := 3) (st := []) hM (by decide) yfX10_needPlayer mlX10_273 imX10_needPlayer seX10_needPlayer clX10 (kd3 hJ.1.1) rfl (Nat.le_of_ble_eq_true rfl) rfl dX10_playerIs_2 q) (fun hJ _ _ _ _ E τ1 hM => E_callVx (τ := τ1) (as := [.int p1]) (b := 3) (st := []) hM (by decide) yfX10_needPlayer mlX10_273 imX10_needPlayer seX10_needPlayer clX10 (kd3 hJ.1.1) rfl (Nat.le_of_ble_eq_true rfl) rfl dX10_playerIs_2 rfl) (by decide) (by decide) (fun v1 σ2 => ?_)
  refine P_l (fun hJ _ _ q => E_iload_n dX10_playerIs_5 rfl q) ?_
  refine P_case (fun h3 => ?_) (fun h3 => ?_)
  · skip
    refine P_l (fun hJ _ _ q => E_tableIn (off := 54) 60 dX10_playerIs_6 (by rw [h3]; decide) (by rw [h3]; decide) (by rw [h3]; rfl) (by decide) q) ?_
    refine P_l (fun hJ _ _ q => E_aload_n dX10_playerIs_60 rfl (E_getR (b := 19) clX10 3 (by decide) flX10_29 (Or.inl ⟨_, rfl⟩) dX10_playerIs_61 (kd3 hJ.1.1) (rf3_3 hJ.1.1) (by decide) (E_getRN (b := 20) clX6 1 (by decide) flX10_341 (Or.inr ⟨_, rfl⟩) dX10_playerIs_64 (kd19 hJ.1.1) (rf19_1 hJ.1.1) (by decide) (E_iload_n dX10_playerIs_67 rfl (E_callS (as := [.ref 20, .int p1]) (st := []) (ok_at (σ := σ2) (a := 20) (i := p1) (f := rI σ2 20) (kd20 hJ.1.1) (by decide) rfl) (by decide) yfX10_at mlX10_193 stX10_at rfl (Nat.le_of_ble_eq_true rfl) rfl dX10_playerIs_68 q))))) ?_
    exact P_ret (fun _ _ => E_iret rfl dX10_playerIs_71)
  · skip
    refine P_case (fun h4 => ?_) (fun h4 => ?_)
    · skip
      refine P_l (fun hJ _ _ q => E_tableIn (off := 66) 72 dX10_playerIs_6 (by rw [h4]; decide) (by rw [h4]; decide) (by rw [h4]; rfl) (by decide) q) ?_
      refine P_l (fun hJ _ _ q => E_aload_n dX10_playerIs_72 rfl (E_getR (b := 19) clX10 3 (by decide) flX10_29 (Or.inl ⟨_, rfl⟩) dX10_playerIs_73 (kd3 hJ.1.1) (rf3_3 hJ.1.1) (by decide) (E_getRN (b := 21) clX6 2 (by decide) flX10_206 (Or.inr ⟨_, rfl⟩) dX10_playerIs_76 (kd19 hJ.1.1) (rf19_2 hJ.1.1) (by decide) (E_iload_n dX10_playerIs_79 rfl (E_callS (as := [.ref 21, .int p1]) (st := []) (ok_at (σ := σ2) (a := 21) (i := p1) (f := rI σ2 21) (kd21 hJ.1.1) (by decide) rfl) (by decide) yfX10_at mlX10_193 stX10_at rfl (Nat.le_of_ble_eq_true rfl) rfl dX10_playerIs_80 q))))) ?_
      exact P_ret (fun _ _ => E_iret rfl dX10_playerIs_83)
    · skip
      refine P_case (fun h5 => ?_) (fun h5 => ?_)
      · skip
        refine P_l (fun hJ _ _ q => E_tableIn (off := 78) 84 dX10_playerIs_6 (by rw [h5]; decide) (by rw [h5]; decide) (by rw [h5]; rfl) (by decide) q) ?_
        refine P_l (fun hJ _ _ q => E_aload_n dX10_playerIs_84 rfl (E_getR (b := 19) clX10 3 (by decide) flX10_29 (Or.inl ⟨_, rfl⟩) dX10_playerIs_85 (kd3 hJ.1.1) (rf3_3 hJ.1.1) (by decide) (E_getRN (b := 22) clX6 3 (by decide) flX10_344 (Or.inr ⟨_, rfl⟩) dX10_playerIs_88 (kd19 hJ.1.1) (rf19_3 hJ.1.1) (by decide) (E_iload_n dX10_playerIs_91 rfl (E_callS (as := [.ref 22, .int p1]) (st := []) (ok_at (σ := σ2) (a := 22) (i := p1) (f := rI σ2 22) (kd22 hJ.1.1) (by decide) rfl) (by decide) yfX10_at mlX10_193 stX10_at rfl (Nat.le_of_ble_eq_true rfl) rfl dX10_playerIs_92 q))))) ?_
        exact P_ret (fun _ _ => E_iret rfl dX10_playerIs_95)
      · skip
        refine P_case (fun h6 => ?_) (fun h6 => ?_)
        · skip
          refine P_l (fun hJ _ _ q => E_tableIn (off := 90) 96 dX10_playerIs_6 (by rw [h6]; decide) (by rw [h6]; decide) (by rw [h6]; rfl) (by decide) q) ?_
          refine P_l (fun hJ _ _ q => E_aload_n dX10_playerIs_96 rfl (E_getR (b := 19) clX10 3 (by decide) flX10_29 (Or.inl ⟨_, rfl⟩) dX10_playerIs_97 (kd3 hJ.1.1) (rf3_3 hJ.1.1) (by decide) (E_getRN (b := 23) clX6 4 (by decide) flX10_189 (Or.inr ⟨_, rfl⟩) dX10_playerIs_100 (kd19 hJ.1.1) (rf19_4 hJ.1.1) (by decide) (E_iload_n dX10_playerIs_103 rfl (E_callS (as := [.ref 23, .int p1]) (st := []) (ok_at (σ := σ2) (a := 23) (i := p1) (f := rI σ2 23) (kd23 hJ.1.1) (by decide) rfl) (by decide) yfX10_at mlX10_193 stX10_at rfl (Nat.le_of_ble_eq_true rfl) rfl dX10_playerIs_104 q))))) ?_
          exact P_ret (fun _ _ => E_iret rfl dX10_playerIs_107)
        · skip
          refine P_case (fun h7 => ?_) (fun h7 => ?_)
          · skip
            refine P_l (fun hJ _ _ q => E_tableIn (off := 102) 108 dX10_playerIs_6 (by rw [h7]; decide) (by rw [h7]; decide) (by rw [h7]; rfl) (by decide) q) ?_
            refine P_l (fun hJ _ _ q => E_aload_n dX10_playerIs_108 rfl (E_iload_n dX10_playerIs_109 rfl (E_callV (as := [.int p1]) (b := 3) (st := []) (ok_X10_hasMelded (σ := σ2) (p1 := p1) hJ ) (by decide) yfX10_hasMelded mlX10_209 imX10_hasMelded seX10_hasMelded clX10 (kd3 hJ.1.1) rfl (Nat.le_of_ble_eq_true rfl) rfl dX10_playerIs_110 q))) ?_
            refine P_l (pc2 := 121) (ls2 := [none, none, none]) (st2 := [.int ((if (v_X10_hasMelded σ2 p1) = 0 then 0 else 1 : Int32))]) (fun hJ _ _ hq => ?_) ?_
            · skip
              refine E_if_eq 120 dX10_playerIs_113 (by decide) (fun c_113_0 => ?_) (fun c_113_0 => ?_)
              · skip
                refine E_iconst (v := 0) dX10_playerIs_120 (by decide) ?_
                simp only [if_pos c_113_0] at hq
                exact E_less (ls2 := [none, none, none]) hq (rLe_at [none, none, none] [some (.ref 3), some (.int p1), some (.int p2)] trivial)
              · skip
                refine E_iconst (v := 1) dX10_playerIs_116 (by decide) ?_
                refine E_goto 121 dX10_playerIs_117 (by decide) ?_
                simp only [if_neg c_113_0] at hq
                exact E_less (ls2 := [none, none, none]) hq (rLe_at [none, none, none] [some (.ref 3), some (.int p1), some (.int p2)] trivial)
            · skip
              exact P_ret (fun _ _ => E_iret rfl dX10_playerIs_121)
          · skip
            refine P_case (fun h8 => ?_) (fun h8 => ?_)
            · skip
              refine P_l (fun hJ _ _ q => E_tableIn (off := 116) 122 dX10_playerIs_6 (by rw [h8]; decide) (by rw [h8]; decide) (by rw [h8]; rfl) (by decide) q) ?_
              refine P_l (fun hJ _ _ q => E_aload_n dX10_playerIs_122 rfl (E_getR (b := 5) clX10 1 (by decide) flX10_19 (Or.inl ⟨_, rfl⟩) dX10_playerIs_123 (kd3 hJ.1.1) (rf3_1 hJ.1.1) (by decide) (E_iload_n dX10_playerIs_126 rfl (E_callVN (as := [.int p1]) (b := 5) (st := []) (ok_X1_sizeOf (σ := σ2) (b := 5) (p := p1) hJ (Or.inl rfl)) (by decide) yfX1_sizeOf mlX10_301 imX1_sizeOf seX1_sizeOf clX1 (kd5 hJ.1.1) rfl (Nat.le_of_ble_eq_true rfl) rfl dX10_playerIs_127 q)))) ?_
              exact P_ret (fun _ _ => E_iret rfl dX10_playerIs_130)
            · skip
              refine P_case (fun h9 => ?_) (fun h9 => ?_)
              · skip
                refine P_l (fun hJ _ _ q => E_tableIn (off := 125) 131 dX10_playerIs_6 (by rw [h9]; decide) (by rw [h9]; decide) (by rw [h9]; rfl) (by decide) q) ?_
                refine P_l (fun hJ _ _ q => E_aload_n dX10_playerIs_131 rfl (E_getR (b := 5) clX10 1 (by decide) flX10_19 (Or.inl ⟨_, rfl⟩) dX10_playerIs_132 (kd3 hJ.1.1) (rf3_1 hJ.1.1) (by decide) (E_iload_n dX10_playerIs_135 rfl q))) ?_
                refine P_callr (t := fun v => some (.int v)) (st2 := fun v => .int v :: []) (fun hJ => (ok_X1_worthOf (σ := σ2) (b := 5) (p := p1) (Or.inl rfl))) (fun hJ _ _ v hM q => E_callVN (as := [.int p1]) (b := 5) (st := []) hM (by decide) yfX1_worthOf mlX10_347 imX1_worthOf seX1_worthOf clX1 (kd5 hJ.1.1) rfl (Nat.le_of_ble_eq_true rfl) rfl dX10_playerIs_136 q) (fun v10 => ?_)
                exact P_ret (fun _ _ => E_iret rfl dX10_playerIs_139)
              · skip
                refine P_case (fun h11 => ?_) (fun h11 => ?_)
                · skip
                  refine P_l (fun hJ _ _ q => E_tableIn (off := 134) 140 dX10_playerIs_6 (by rw [h11]; decide) (by rw [h11]; decide) (by rw [h11]; rfl) (by decide) q) ?_
                  refine P_l (fun hJ _ _ q => E_aload_n dX10_playerIs_140 rfl (E_getR (b := 19) clX10 3 (by decide) flX10_29 (Or.inl ⟨_, rfl⟩) dX10_playerIs_141 (kd3 hJ.1.1) (rf3_3 hJ.1.1) (by decide) (E_iload_n dX10_playerIs_144 rfl q))) ?_
                  refine P_callr (t := fun v => some (.int v)) (st2 := fun v => .int v :: []) (fun hJ => (ok_X6_placeOf (σ := σ2) (p1 := p1) )) (fun hJ _ _ v hM q => E_callVN (as := [.int p1]) (b := 19) (st := []) hM (by decide) yfX6_placeOf mlX10_350 imX6_placeOf seX6_placeOf clX6 (kd19 hJ.1.1) rfl (Nat.le_of_ble_eq_true rfl) rfl dX10_playerIs_145 q) (fun v12 => ?_)
                  exact P_ret (fun _ _ => E_iret rfl dX10_playerIs_148)
                · skip
                  refine P_case (fun h13 => ?_) (fun h13 => ?_)
                  · skip
                    refine P_l (fun hJ _ _ q => E_tableIn (off := 143) 149 dX10_playerIs_6 (by rw [h13]; decide) (by rw [h13]; decide) (by rw [h13]; rfl) (by decide) q) ?_
                    refine P_l (fun hJ _ _ q => E_aload_n dX10_playerIs_149 rfl (E_getR (b := 19) clX10 3 (by decide) flX10_29 (Or.inl ⟨_, rfl⟩) dX10_playerIs_150 (kd3 hJ.1.1) (rf3_3 hJ.1.1) (by decide) (E_getRN (b := 25) clX6 6 (by decide) flX10_308 (Or.inr ⟨_, rfl⟩) dX10_playerIs_153 (kd19 hJ.1.1) (rf19_6 hJ.1.1) (by decide) (E_iload_n dX10_playerIs_156 rfl (E_callS (as := [.ref 25, .int p1]) (st := []) (ok_at (σ := σ2) (a := 25) (i := p1) (f := rI σ2 25) (kd25 hJ.1.1) (by decide) rfl) (by decide) yfX10_at mlX10_193 stX10_at rfl (Nat.le_of_ble_eq_true rfl) rfl dX10_playerIs_157 q))))) ?_
                    exact P_ret (fun _ _ => E_iret rfl dX10_playerIs_160)
                  · skip
                    refine P_case (fun h14 => ?_) (fun h14 => ?_)
                    · skip
                      refine P_l (fun hJ _ _ q => E_tableIn (off := 155) 161 dX10_playerIs_6 (by rw [h14]; decide) (by rw [h14]; decide) (by rw [h14]; rfl) (by decide) q) ?_
                      refine P_l (fun hJ _ _ q => E_aload_n dX10_playerIs_161 rfl (E_getR (b := 19) clX10 3 (by decide) flX10_29 (Or.inl ⟨_, rfl⟩) dX10_playerIs_162 (kd3 hJ.1.1) (rf3_3 hJ.1.1) (by decide) (E_getRN (b := 27) clX6 8 (by decide) flX10_353 (Or.inr ⟨_, rfl⟩) dX10_playerIs_165 (kd19 hJ.1.1) (rf19_8 hJ.1.1) (by decide) (E_iload_n dX10_playerIs_168 rfl (E_callS (as := [.ref 27, .int p1]) (st := []) (ok_at (σ := σ2) (a := 27) (i := p1) (f := rI σ2 27) (kd27 hJ.1.1) (by decide) rfl) (by decide) yfX10_at mlX10_193 stX10_at rfl (Nat.le_of_ble_eq_true rfl) rfl dX10_playerIs_169 q))))) ?_
                      exact P_ret (fun _ _ => E_iret rfl dX10_playerIs_172)
                    · skip
                      refine P_l (fun hJ _ _ q => E_tableOut 173 dX10_playerIs_6 (by have e0 := sw_ne h3; have e1 := sw_ne h4; have e2 := sw_ne h5; have e3 := sw_ne h6; have e4 := sw_ne h7; have e5 := sw_ne h8; have e6 := sw_ne h9; have e7 := sw_ne h11; have e8 := sw_ne h13; have e9 := sw_ne h14; simp only [sw_l0, sw_l1, sw_l2, sw_l3, sw_l4, sw_l5, sw_l6, sw_l7, sw_l8, sw_l9] at *; omega) (by decide) q) ?_
                      exact P_thr (fun kc ks => xt_IllegalArgumentException (M := mX10_playerIs) (pc := 173) rfl rfl (by decide) (Nat.le_of_ble_eq_true rfl) dX10_playerIs_173 dX10_playerIs_176 dX10_playerIs_177 dX10_playerIs_180 kc ks) (by decide) (by decide)

def f_X10_team (σ : rS) (p1 : Int32) : Option ((Int32 ⊕ String) × rS) := if (vIn p1 0 1) = 0 then (some ((.inr "java/lang/IllegalArgumentException", σ))) else ((f_X6_pointsOf σ p1).bind fun v1 => some ((.inl v1, σ)))
set_option maxRecDepth 20000 in
set_option maxHeartbeats 2000000 in
theorem ok_X10_team {σ : rS} {p1 : Int32}   : rFn Sy yX10_team mX10_team 6 [.ref 3, .int p1] σ 1 6 (tX (fun v => .inl (some (.int v)))) (f_X10_team σ p1) := by
  refine rF_of (ls := [some (.ref 3), some (.int p1)]) yfX10_team rfl (Nat.le_of_ble_eq_true rfl) (fun o τ => ?_)
  unfold f_X10_team
  refine P_l (fun hJ _ _ q => E_iload_n dX10_team_0 rfl (E_iconst (v := 0) dX10_team_1 (by decide) (E_iconst (v := 1) dX10_team_2 (by decide) (E_callS (as := [.int p1, .int 0, .int 1]) (st := []) (ok_within (σ := σ) (v := p1) (a := 0) (b := 1)) (by decide) yfX10_within mlX10_74 stX10_within rfl (Nat.le_of_ble_eq_true rfl) rfl dX10_team_3 q)))) ?_
  refine P_if (fun hJ _ _ h1 h2 => E_if_ne 17 dX10_team_6 (by decide) h2 h1) ?_ ?_
  · skip
    exact P_thr (fun kc ks => xt_IllegalArgumentException (M := mX10_team) (pc := 9) rfl rfl (by decide) (Nat.le_of_ble_eq_true rfl) dX10_team_9 dX10_team_12 dX10_team_13 dX10_team_16 kc ks) (by decide) (by decide)
  · skip
    refine P_l (fun hJ _ _ q => E_aload_n dX10_team_17 rfl (E_getR (b := 19) clX10 3 (by decide) flX10_29 (Or.inl ⟨_, rfl⟩) dX10_team_18 (kd3 hJ.1.1) (rf3_3 hJ.1.1) (by decide) (E_iload_n dX10_team_21 rfl q))) ?_
    refine P_callr (t := fun v => some (.int v)) (st2 := fun v => .int v :: []) (fun hJ => (ok_X6_pointsOf (σ := σ) (p1 := p1) )) (fun hJ _ _ v hM q => E_callVN (as := [.int p1]) (b := 19) (st := []) hM (by decide) yfX6_pointsOf mlX10_356 imX6_pointsOf seX6_pointsOf clX6 (kd19 hJ.1.1) rfl (Nat.le_of_ble_eq_true rfl) rfl dX10_team_22 q) (fun v1 => ?_)
    exact P_ret (fun _ _ => E_iret rfl dX10_team_25)

def f_X10_entry (σ : rS) (p1 : Int32) (p2 : Int32) : Option ((Int32 ⊕ String) × rS) := if (vIn p1 0 ((rI σ 35 1) - 1)) = 0 then (some ((.inr "java/lang/IndexOutOfBoundsException", σ))) else (if p2 = 0 then (some ((.inl (v_X2_sort σ (((rI σ 35 1) - 1) - p1)), σ))) else (if p2 = 1 then (some ((.inl (v_X2_who σ (((rI σ 35 1) - 1) - p1)), σ))) else (if p2 = 2 then (some ((.inl (v_X2_kind σ (((rI σ 35 1) - 1) - p1)), σ))) else (if p2 = 3 then (some ((.inl (v_X2_drawn σ (((rI σ 35 1) - 1) - p1)), σ))) else (some ((.inr "java/lang/IllegalArgumentException", σ)))))))
set_option maxRecDepth 20000 in
set_option maxHeartbeats 2000000 in
theorem ok_X10_entry {σ : rS} {p1 : Int32} {p2 : Int32}   : rFn Sy yX10_entry mX10_entry 6 [.ref 3, .int p1, .int p2] σ 1 6 (tX (fun v => .inl (some (.int v)))) (f_X10_entry σ p1 p2) := by
  refine rF_of (ls := [some (.ref 3), some (.int p1), some (.int p2), none]) yfX10_entry rfl (Nat.le_of_ble_eq_true rfl) (fun o τ => ?_)
  unfold f_X10_entry
  refine P_l (fun hJ _ _ q => E_iload_n dX10_entry_0 rfl (E_iconst (v := 0) dX10_entry_1 (by decide) (E_aload_n dX10_entry_2 rfl (E_getR (b := 35) clX10 5 (by decide) flX10_43 (Or.inl ⟨_, rfl⟩) dX10_entry_3 (kd3 hJ.1.1) (rf3_5 hJ.1.1) (by decide) (E_getIN clX2 1 (by decide) flX10_359 (Or.inl rfl) dX10_entry_6 (kd35 hJ.1.1) (E_iconst (v := 1) dX10_entry_9 (by decide) (E_isub dX10_entry_10 (E_callS (as := [.int p1, .int 0, .int ((rI σ 35 1) - 1)]) (st := []) (ok_within (σ := σ) (v := p1) (a := 0) (b := (rI σ 35 1) - 1)) (by decide) yfX10_within mlX10_74 stX10_within rfl (Nat.le_of_ble_eq_true rfl) rfl dX10_entry_11 q)))))))) ?_
  refine P_if (fun hJ _ _ h1 h2 => E_if_ne 25 dX10_entry_14 (by decide) h2 h1) ?_ ?_
  · skip
    exact P_thr (fun kc ks => xt_IndexOutOfBoundsException (M := mX10_entry) (pc := 17) rfl rfl (by decide) (Nat.le_of_ble_eq_true rfl) dX10_entry_17 dX10_entry_20 dX10_entry_21 dX10_entry_24 kc ks) (by decide) (by decide)
  · skip
    refine P_l (fun hJ _ _ q => E_aload_n dX10_entry_25 rfl (E_getR (b := 35) clX10 5 (by decide) flX10_43 (Or.inl ⟨_, rfl⟩) dX10_entry_26 (kd3 hJ.1.1) (rf3_5 hJ.1.1) (by decide) (E_getIN clX2 1 (by decide) flX10_359 (Or.inl rfl) dX10_entry_29 (kd35 hJ.1.1) (E_iconst (v := 1) dX10_entry_32 (by decide) (E_isub dX10_entry_33 (E_iload_n dX10_entry_34 rfl (E_isub dX10_entry_35 (E_istore_n (ls2 := [some (.ref 3), some (.int p1), some (.int p2), some (.int (((rI σ 35 1) - 1) - p1))]) dX10_entry_36 (by decide) rfl (E_iload_n dX10_entry_37 rfl q))))))))) ?_
    refine P_case (fun h1 => ?_) (fun h1 => ?_)
    · skip
      refine P_l (fun hJ _ _ q => E_tableIn (off := 30) 68 dX10_entry_38 (by rw [h1]; decide) (by rw [h1]; decide) (by rw [h1]; rfl) (by decide) q) ?_
      refine P_l (fun hJ _ _ q => E_aload_n dX10_entry_68 rfl (E_getR (b := 35) clX10 5 (by decide) flX10_43 (Or.inl ⟨_, rfl⟩) dX10_entry_69 (kd3 hJ.1.1) (rf3_5 hJ.1.1) (by decide) (E_iload_n dX10_entry_72 rfl (E_callVN (as := [.int (((rI σ 35 1) - 1) - p1)]) (b := 35) (st := []) (ok_X2_sort (σ := σ) (p1 := ((rI σ 35 1) - 1) - p1) hJ ) (by decide) yfX2_sort mlX10_363 imX2_sort seX2_sort clX2 (kd35 hJ.1.1) rfl (Nat.le_of_ble_eq_true rfl) rfl dX10_entry_73 q)))) ?_
      exact P_ret (fun _ _ => E_iret rfl dX10_entry_76)
    · skip
      refine P_case (fun h2 => ?_) (fun h2 => ?_)
      · skip
        refine P_l (fun hJ _ _ q => E_tableIn (off := 39) 77 dX10_entry_38 (by rw [h2]; decide) (by rw [h2]; decide) (by rw [h2]; rfl) (by decide) q) ?_
        refine P_l (fun hJ _ _ q => E_aload_n dX10_entry_77 rfl (E_getR (b := 35) clX10 5 (by decide) flX10_43 (Or.inl ⟨_, rfl⟩) dX10_entry_78 (kd3 hJ.1.1) (rf3_5 hJ.1.1) (by decide) (E_iload_n dX10_entry_81 rfl (E_callVN (as := [.int (((rI σ 35 1) - 1) - p1)]) (b := 35) (st := []) (ok_X2_who (σ := σ) (p1 := ((rI σ 35 1) - 1) - p1) hJ ) (by decide) yfX2_who mlX10_366 imX2_who seX2_who clX2 (kd35 hJ.1.1) rfl (Nat.le_of_ble_eq_true rfl) rfl dX10_entry_82 q)))) ?_
        exact P_ret (fun _ _ => E_iret rfl dX10_entry_85)
      · skip
        refine P_case (fun h3 => ?_) (fun h3 => ?_)
        · skip
          refine P_l (fun hJ _ _ q => E_tableIn (off := 48) 86 dX10_entry_38 (by rw [h3]; decide) (by rw [h3]; decide) (by rw [h3]; rfl) (by decide) q) ?_
          refine P_l (fun hJ _ _ q => E_aload_n dX10_entry_86 rfl (E_getR (b := 35) clX10 5 (by decide) flX10_43 (Or.inl ⟨_, rfl⟩) dX10_entry_87 (kd3 hJ.1.1) (rf3_5 hJ.1.1) (by decide) (E_iload_n dX10_entry_90 rfl (E_callVN (as := [.int (((rI σ 35 1) - 1) - p1)]) (b := 35) (st := []) (ok_X2_kind (σ := σ) (p1 := ((rI σ 35 1) - 1) - p1) hJ ) (by decide) yfX2_kind mlX10_369 imX2_kind seX2_kind clX2 (kd35 hJ.1.1) rfl (Nat.le_of_ble_eq_true rfl) rfl dX10_entry_91 q)))) ?_
          exact P_ret (fun _ _ => E_iret rfl dX10_entry_94)
        · skip
          refine P_case (fun h4 => ?_) (fun h4 => ?_)
          · skip
            refine P_l (fun hJ _ _ q => E_tableIn (off := 57) 95 dX10_entry_38 (by rw [h4]; decide) (by rw [h4]; decide) (by rw [h4]; rfl) (by decide) q) ?_
            refine P_l (fun hJ _ _ q => E_aload_n dX10_entry_95 rfl (E_getR (b := 35) clX10 5 (by decide) flX10_43 (Or.inl ⟨_, rfl⟩) dX10_entry_96 (kd3 hJ.1.1) (rf3_5 hJ.1.1) (by decide) (E_iload_n dX10_entry_99 rfl (E_callVN (as := [.int (((rI σ 35 1) - 1) - p1)]) (b := 35) (st := []) (ok_X2_drawn (σ := σ) (p1 := ((rI σ 35 1) - 1) - p1) hJ ) (by decide) yfX2_drawn mlX10_372 imX2_drawn seX2_drawn clX2 (kd35 hJ.1.1) rfl (Nat.le_of_ble_eq_true rfl) rfl dX10_entry_100 q)))) ?_
            exact P_ret (fun _ _ => E_iret rfl dX10_entry_103)
          · skip
            refine P_l (fun hJ _ _ q => E_tableOut 104 dX10_entry_38 (by have e0 := sw_ne h1; have e1 := sw_ne h2; have e2 := sw_ne h3; have e3 := sw_ne h4; simp only [sw_l0, sw_l1, sw_l2, sw_l3] at *; omega) (by decide) q) ?_
            exact P_thr (fun kc ks => xt_IllegalArgumentException (M := mX10_entry) (pc := 104) rfl rfl (by decide) (Nat.le_of_ble_eq_true rfl) dX10_entry_104 dX10_entry_107 dX10_entry_108 dX10_entry_111 kc ks) (by decide) (by decide)

