def f_X10_chance (σ : rS) (p1 : Int32) (p2 : Int32) (p3 : Int32) : Option ((Int32 ⊕ String) × rS) := oBx (f_X10_needPlayer σ p1) fun _ σ2 => oBx (f_X10_needPlayer σ2 p2) fun _ σ4 => if p1 = p2 then (some ((.inr "java/lang/IllegalArgumentException", σ4))) else (oBx (f_X10_needPiece σ4 p3) fun _ σ6 => (f_X6_passedBy σ6 p2).bind fun v7 => oLet ((if (vBit v7 p3) = 0 then (v_X1_sizeOf σ6 5 p2) else (if vAt (rI σ6 25) 4 p2 < v_X1_sizeOf σ6 5 p2 then vAt (rI σ6 25) 4 p2 else v_X1_sizeOf σ6 5 p2) : Int32) : Int32) fun x8 => (f_X1_allHidden σ6 5 p1).bind fun v9 => (f_X1_hidden σ6 5 p1 p3).bind fun v10 => (f_X10_thousandths σ6 v9 v10 x8).bind fun v11 => some ((.inl v11, σ6)))
set_option maxRecDepth 20000 in
set_option maxHeartbeats 2000000 in
theorem ok_X10_chance {σ : rS} {p1 : Int32} {p2 : Int32} {p3 : Int32}   : rFn Sy yX10_chance mX10_chance 7 [.ref 3, .int p1, .int p2, .int p3] σ 4 24 (tX (fun v => .inl (some (.int v)))) (f_X10_chance σ p1 p2 p3) := by
  refine rF_of (ls := [some (.ref 3), some (.int p1), some (.int p2), some (.int p3), none]) yfX10_chance rfl (Nat.le_of_ble_eq_true rfl) (fun o τ => ?_)
  unfold f_X10_chance
  refine P_l (fun hJ _ _ q => E_aload_n dX10_chance_0 rfl (E_iload_n dX10_chance_1 rfl q)) ?_
  refine P_callx (t2 := fun _ => none) (st2 := fun _ => []) (kc2 := 3) (ks2 := 18) (fun hJ => (ok_X10_needPlayer (σ := σ) (p1 := p1) )) (fun hJ _ _ _ _ v τ1 hM q => E_callV (as := [.int p1]) (b := 3) (st := []) hM (by decide) yfX10_needPlayer mlX10_273 imX10_needPlayer seX10_needPlayer clX10 (kd3 hJ.1.1) rfl (Nat.le_of_ble_eq_true rfl) rfl dX10_chance_2 q) (fun hJ _ _ _ _ E τ1 hM => E_callVx (τ := τ1) (as := [.int p1]) (b := 3) (st := []) hM (by decide) yfX10_needPlayer mlX10_273 imX10_needPlayer seX10_needPlayer clX10 (kd3 hJ.1.1) rfl (Nat.le_of_ble_eq_true rfl) rfl dX10_chance_2 rfl) (by decide) (by decide) (fun v1 σ2 => ?_)
  refine P_l (fun hJ _ _ q => E_aload_n dX10_chance_5 rfl (E_iload_n dX10_chance_6 rfl q)) ?_
  refine P_callx (t2 := fun _ => none) (st2 := fun _ => []) (kc2 := 2) (ks2 := 12) (fun hJ => (ok_X10_needPlayer (σ := σ2) (p1 := p2) )) (fun hJ _ _ _ _ v τ1 hM q => E_callV (as := [.int p2]) (b := 3) (st := []) hM (by decide) yfX10_needPlayer mlX10_273 imX10_needPlayer seX10_needPlayer clX10 (kd3 hJ.1.1) rfl (Nat.le_of_ble_eq_true rfl) rfl dX10_chance_7 q) (fun hJ _ _ _ _ E τ1 hM => E_callVx (τ := τ1) (as := [.int p2]) (b := 3) (st := []) hM (by decide) yfX10_needPlayer mlX10_273 imX10_needPlayer seX10_needPlayer clX10 (kd3 hJ.1.1) rfl (Nat.le_of_ble_eq_true rfl) rfl dX10_chance_7 rfl) (by decide) (by decide) (fun v3 σ4 => ?_)
  refine P_l (fun hJ _ _ q => E_iload_n dX10_chance_10 rfl (E_iload_n dX10_chance_11 rfl q)) ?_
  refine P_if (fun hJ _ _ h1 h2 => E_icmp_ne 23 dX10_chance_12 (by decide) h2 h1) ?_ ?_
  · skip
    exact P_thr (fun kc ks => xt_IllegalArgumentException (M := mX10_chance) (pc := 15) rfl rfl (by decide) (Nat.le_of_ble_eq_true rfl) dX10_chance_15 dX10_chance_18 dX10_chance_19 dX10_chance_22 kc ks) (by decide) (by decide)
  · skip
    refine P_l (fun hJ _ _ q => E_aload_n dX10_chance_23 rfl (E_iload_n dX10_chance_24 rfl q)) ?_
    refine P_callx (t2 := fun _ => none) (st2 := fun _ => []) (kc2 := 1) (ks2 := 6) (fun hJ => (ok_X10_needPiece (σ := σ4) (p1 := p3) )) (fun hJ _ _ _ _ v τ1 hM q => E_callV (as := [.int p3]) (b := 3) (st := []) hM (by decide) yfX10_needPiece mlX10_298 imX10_needPiece seX10_needPiece clX10 (kd3 hJ.1.1) rfl (Nat.le_of_ble_eq_true rfl) rfl dX10_chance_25 q) (fun hJ _ _ _ _ E τ1 hM => E_callVx (τ := τ1) (as := [.int p3]) (b := 3) (st := []) hM (by decide) yfX10_needPiece mlX10_298 imX10_needPiece seX10_needPiece clX10 (kd3 hJ.1.1) rfl (Nat.le_of_ble_eq_true rfl) rfl dX10_chance_25 rfl) (by decide) (by decide) (fun v5 σ6 => ?_)
    refine P_l (fun hJ _ _ q => E_aload_n dX10_chance_28 rfl (E_getR (b := 5) clX10 1 (by decide) flX10_19 (Or.inl ⟨_, rfl⟩) dX10_chance_29 (kd3 hJ.1.1) (rf3_1 hJ.1.1) (by decide) (E_iload_n dX10_chance_32 rfl (E_callVN (as := [.int p2]) (b := 5) (st := []) (ok_X1_sizeOf (σ := σ6) (b := 5) (p := p2) hJ (Or.inl rfl)) (by decide) yfX1_sizeOf mlX10_301 imX1_sizeOf seX1_sizeOf clX1 (kd5 hJ.1.1) rfl (Nat.le_of_ble_eq_true rfl) rfl dX10_chance_33 (E_istore (ls2 := [some (.ref 3), some (.int p1), some (.int p2), some (.int p3), some (.int (v_X1_sizeOf σ6 5 p2))]) dX10_chance_36 (by decide) rfl (E_aload_n dX10_chance_38 rfl (E_getR (b := 19) clX10 3 (by decide) flX10_29 (Or.inl ⟨_, rfl⟩) dX10_chance_39 (kd3 hJ.1.1) (rf3_3 hJ.1.1) (by decide) (E_iload_n dX10_chance_42 rfl q)))))))) ?_
    refine P_callr (t := fun v => some (.long v)) (st2 := fun v => .long v :: []) (fun hJ => (ok_X6_passedBy (σ := σ6) (p1 := p2) )) (fun hJ _ _ v hM q => E_callVN (as := [.int p2]) (b := 19) (st := []) hM (by decide) yfX6_passedBy mlX10_304 imX6_passedBy seX6_passedBy clX6 (kd19 hJ.1.1) rfl (Nat.le_of_ble_eq_true rfl) rfl dX10_chance_43 q) (fun v7 => ?_)
    refine P_l (fun hJ _ _ q => E_iload_n dX10_chance_46 rfl (E_callS (as := [.long v7, .int p3]) (st := []) (ok_isIn (σ := σ6) (s := v7) (k := p3)) (by decide) yfX10_isIn mlX10_294 stX10_isIn rfl (Nat.le_of_ble_eq_true rfl) rfl dX10_chance_47 q)) ?_
    refine P_l (pc2 := 71) (ls2 := [some (.ref 3), some (.int p1), none, some (.int p3), some (.int ((if (vBit v7 p3) = 0 then (v_X1_sizeOf σ6 5 p2) else (if vAt (rI σ6 25) 4 p2 < v_X1_sizeOf σ6 5 p2 then vAt (rI σ6 25) 4 p2 else v_X1_sizeOf σ6 5 p2) : Int32)))]) (st2 := []) (fun hJ _ _ hq => ?_) ?_
    · skip
      refine E_if_eq 71 dX10_chance_50 (by decide) (fun c_50_0 => ?_) (fun c_50_0 => ?_)
      · skip
        simp only [if_pos c_50_0] at hq
        exact E_less (ls2 := [some (.ref 3), some (.int p1), none, some (.int p3), some (.int (v_X1_sizeOf σ6 5 p2))]) hq (rLe_at [some (.ref 3), some (.int p1), none, some (.int p3), some (.int (v_X1_sizeOf σ6 5 p2))] [some (.ref 3), some (.int p1), some (.int p2), some (.int p3), some (.int (v_X1_sizeOf σ6 5 p2))] (And.intro rfl (And.intro rfl (And.intro rfl (And.intro rfl trivial)))))
      · skip
        refine E_iload dX10_chance_53 rfl ?_
        refine E_aload_n dX10_chance_55 rfl ?_
        refine E_getR (b := 19) clX10 3 (by decide) flX10_29 (Or.inl ⟨_, rfl⟩) dX10_chance_56 (kd3 hJ.1.1) (rf3_3 hJ.1.1) (by decide) ?_
        refine E_getRN (b := 25) clX6 6 (by decide) flX10_308 (Or.inr ⟨_, rfl⟩) dX10_chance_59 (kd19 hJ.1.1) (rf19_6 hJ.1.1) (by decide) ?_
        refine E_iload_n dX10_chance_62 rfl ?_
        refine E_callS (as := [.ref 25, .int p2]) (st := [.int (v_X1_sizeOf σ6 5 p2)]) (ok_at (σ := σ6) (a := 25) (i := p2) (f := rI σ6 25) (kd25 hJ.1.1) (by decide) rfl) (by decide) yfX10_at mlX10_193 stX10_at rfl (Nat.le_of_ble_eq_true rfl) rfl dX10_chance_63 ?_
        refine E_mmin mlX10_311 (by decide) (Nat.le_of_ble_eq_true rfl) dX10_chance_66 ?_
        refine E_istore (ls2 := [some (.ref 3), some (.int p1), some (.int p2), some (.int p3), some (.int (if vAt (rI σ6 25) 4 p2 < v_X1_sizeOf σ6 5 p2 then vAt (rI σ6 25) 4 p2 else v_X1_sizeOf σ6 5 p2))]) dX10_chance_69 (by decide) rfl ?_
        simp only [if_neg c_50_0] at hq
        exact E_less (ls2 := [some (.ref 3), some (.int p1), none, some (.int p3), some (.int (if vAt (rI σ6 25) 4 p2 < v_X1_sizeOf σ6 5 p2 then vAt (rI σ6 25) 4 p2 else v_X1_sizeOf σ6 5 p2))]) hq (rLe_at [some (.ref 3), some (.int p1), none, some (.int p3), some (.int (if vAt (rI σ6 25) 4 p2 < v_X1_sizeOf σ6 5 p2 then vAt (rI σ6 25) 4 p2 else v_X1_sizeOf σ6 5 p2))] [some (.ref 3), some (.int p1), some (.int p2), some (.int p3), some (.int (if vAt (rI σ6 25) 4 p2 < v_X1_sizeOf σ6 5 p2 then vAt (rI σ6 25) 4 p2 else v_X1_sizeOf σ6 5 p2))] (And.intro rfl (And.intro rfl (And.intro rfl (And.intro rfl trivial)))))
    · skip
      refine P_v ((if (vBit v7 p3) = 0 then (v_X1_sizeOf σ6 5 p2) else (if vAt (rI σ6 25) 4 p2 < v_X1_sizeOf σ6 5 p2 then vAt (rI σ6 25) 4 p2 else v_X1_sizeOf σ6 5 p2) : Int32)) (fun x => [some (.ref 3), some (.int p1), none, some (.int p3), some (.int x)]) (fun x8 => ?_)
      refine P_l (fun hJ _ _ q => E_aload_n dX10_chance_71 rfl (E_getR (b := 5) clX10 1 (by decide) flX10_19 (Or.inl ⟨_, rfl⟩) dX10_chance_72 (kd3 hJ.1.1) (rf3_1 hJ.1.1) (by decide) (E_iload_n dX10_chance_75 rfl q))) ?_
      refine P_callr (t := fun v => some (.int v)) (st2 := fun v => .int v :: []) (fun hJ => (ok_X1_allHidden (σ := σ6) (b := 5) (p := p1) (Or.inl rfl))) (fun hJ _ _ v hM q => E_callVN (as := [.int p1]) (b := 5) (st := []) hM (by decide) yfX1_allHidden mlX10_314 imX1_allHidden seX1_allHidden clX1 (kd5 hJ.1.1) rfl (Nat.le_of_ble_eq_true rfl) rfl dX10_chance_76 q) (fun v9 => ?_)
      refine P_l (fun hJ _ _ q => E_aload_n dX10_chance_79 rfl (E_getR (b := 5) clX10 1 (by decide) flX10_19 (Or.inl ⟨_, rfl⟩) dX10_chance_80 (kd3 hJ.1.1) (rf3_1 hJ.1.1) (by decide) (E_iload_n dX10_chance_83 rfl (E_iload_n dX10_chance_84 rfl q)))) ?_
      refine P_callr (t := fun v => some (.int v)) (st2 := fun v => .int v :: [.int v9]) (fun hJ => (ok_X1_hidden (σ := σ6) (b := 5) (p := p1) (k := p3) (Or.inl rfl))) (fun hJ _ _ v hM q => E_callVN (as := [.int p1, .int p3]) (b := 5) (st := [.int v9]) hM (by decide) yfX1_hidden mlX10_317 imX1_hidden seX1_hidden clX1 (kd5 hJ.1.1) rfl (Nat.le_of_ble_eq_true rfl) rfl dX10_chance_85 q) (fun v10 => ?_)
      refine P_l (fun hJ _ _ q => E_iload dX10_chance_88 rfl q) ?_
      refine P_callr (t := fun v => some (.int v)) (st2 := fun v => .int v :: []) (fun hJ => (ok_X10_thousandths (σ := σ6) (p1 := v9) (p2 := v10) (p3 := x8) )) (fun hJ _ _ v hM q => E_callS (as := [.int v9, .int v10, .int x8]) (st := []) hM (by decide) yfX10_thousandths mlX10_320 stX10_thousandths rfl (Nat.le_of_ble_eq_true rfl) rfl dX10_chance_90 q) (fun v11 => ?_)
      exact P_ret (fun _ _ => E_iret rfl dX10_chance_93)

def f_X10_passed (σ : rS) (p1 : Int32) (p2 : Int32) : Option ((Int32 ⊕ String) × rS) := oBx (f_X10_needPlayer σ p1) fun _ σ2 => oBx (f_X10_needKind σ2 p2) fun _ σ4 => (f_X6_passedBy σ4 p1).bind fun v5 => some ((.inl (vBit v5 p2), σ4))
set_option maxRecDepth 20000 in
set_option maxHeartbeats 2000000 in
theorem ok_X10_passed {σ : rS} {p1 : Int32} {p2 : Int32}   : rFn Sy yX10_passed mX10_passed 7 [.ref 3, .int p1, .int p2] σ 2 12 (tX (fun v => .inl (some (.int v)))) (f_X10_passed σ p1 p2) := by
  refine rF_of (ls := [some (.ref 3), some (.int p1), some (.int p2)]) yfX10_passed rfl (Nat.le_of_ble_eq_true rfl) (fun o τ => ?_)
  unfold f_X10_passed
  refine P_l (fun hJ _ _ q => E_aload_n dX10_passed_0 rfl (E_iload_n dX10_passed_1 rfl q)) ?_
  refine P_callx (t2 := fun _ => none) (st2 := fun _ => []) (kc2 := 1) (ks2 := 6) (fun hJ => (ok_X10_needPlayer (σ := σ) (p1 := p1) )) (fun hJ _ _ _ _ v τ1 hM q => E_callV (as := [.int p1]) (b := 3) (st := []) hM (by decide) yfX10_needPlayer mlX10_273 imX10_needPlayer seX10_needPlayer clX10 (kd3 hJ.1.1) rfl (Nat.le_of_ble_eq_true rfl) rfl dX10_passed_2 q) (fun hJ _ _ _ _ E τ1 hM => E_callVx (τ := τ1) (as := [.int p1]) (b := 3) (st := []) hM (by decide) yfX10_needPlayer mlX10_273 imX10_needPlayer seX10_needPlayer clX10 (kd3 hJ.1.1) rfl (Nat.le_of_ble_eq_true rfl) rfl dX10_passed_2 rfl) (by decide) (by decide) (fun v1 σ2 => ?_)
  refine P_l (fun hJ _ _ q => E_aload_n dX10_passed_5 rfl (E_iload_n dX10_passed_6 rfl q)) ?_
  refine P_callx (t2 := fun _ => none) (st2 := fun _ => []) (kc2 := 0) (ks2 := 0) (fun hJ => (ok_X10_needKind (σ := σ2) (p1 := p2) )) (fun hJ _ _ _ _ v τ1 hM q => E_callV (as := [.int p2]) (b := 3) (st := []) hM (by decide) yfX10_needKind mlX10_136 imX10_needKind seX10_needKind clX10 (kd3 hJ.1.1) rfl (Nat.le_of_ble_eq_true rfl) rfl dX10_passed_7 q) (fun hJ _ _ _ _ E τ1 hM => E_callVx (τ := τ1) (as := [.int p2]) (b := 3) (st := []) hM (by decide) yfX10_needKind mlX10_136 imX10_needKind seX10_needKind clX10 (kd3 hJ.1.1) rfl (Nat.le_of_ble_eq_true rfl) rfl dX10_passed_7 rfl) (by decide) (by decide) (fun v3 σ4 => ?_)
  refine P_l (fun hJ _ _ q => E_aload_n dX10_passed_10 rfl (E_getR (b := 19) clX10 3 (by decide) flX10_29 (Or.inl ⟨_, rfl⟩) dX10_passed_11 (kd3 hJ.1.1) (rf3_3 hJ.1.1) (by decide) (E_iload_n dX10_passed_14 rfl q))) ?_
  refine P_callr (t := fun v => some (.long v)) (st2 := fun v => .long v :: []) (fun hJ => (ok_X6_passedBy (σ := σ4) (p1 := p1) )) (fun hJ _ _ v hM q => E_callVN (as := [.int p1]) (b := 19) (st := []) hM (by decide) yfX6_passedBy mlX10_304 imX6_passedBy seX6_passedBy clX6 (kd19 hJ.1.1) rfl (Nat.le_of_ble_eq_true rfl) rfl dX10_passed_15 q) (fun v5 => ?_)
  refine P_l (fun hJ _ _ q => E_iload_n dX10_passed_18 rfl (E_callS (as := [.long v5, .int p2]) (st := []) (ok_isIn (σ := σ4) (s := v5) (k := p2)) (by decide) yfX10_isIn mlX10_294 stX10_isIn rfl (Nat.le_of_ble_eq_true rfl) rfl dX10_passed_19 q)) ?_
  exact P_ret (fun _ _ => E_zret01 rfl (vBit_01 _ _) dX10_passed_22)

def f_X10_claim (σ : rS) (p1 : Int32) (p2 : Int32) (p3 : Int32) : Option ((Int32 ⊕ String) × rS) := oBx (f_X10_needPlayer σ p1) fun _ σ2 => oBx (f_X10_needKind σ2 p2) fun _ σ4 => if (vIn p3 0 2) = 0 then (some ((.inr "java/lang/IllegalArgumentException", σ4))) else (oLet (vAt (rI σ4 30) 208 ((p1 * 52) + p2) : Int32) fun x5 => oLet (rowI σ4 30 (vSet (rI σ4 30) 208 ((p1 * 52) + p2) p3)) fun σ6 => some ((.inl x5, σ6)))
set_option maxRecDepth 20000 in
set_option maxHeartbeats 2000000 in
theorem ok_X10_claim {σ : rS} {p1 : Int32} {p2 : Int32} {p3 : Int32}   : rFn Sy yX10_claim mX10_claim 7 [.ref 3, .int p1, .int p2, .int p3] σ 3 18 (tX (fun v => .inl (some (.int v)))) (f_X10_claim σ p1 p2 p3) := by
  refine rF_of (ls := [some (.ref 3), some (.int p1), some (.int p2), some (.int p3), none]) yfX10_claim rfl (Nat.le_of_ble_eq_true rfl) (fun o τ => ?_)
  unfold f_X10_claim
  refine P_l (fun hJ _ _ q => E_aload_n dX10_claim_0 rfl (E_iload_n dX10_claim_1 rfl q)) ?_
  refine P_callx (t2 := fun _ => none) (st2 := fun _ => []) (kc2 := 2) (ks2 := 12) (fun hJ => (ok_X10_needPlayer (σ := σ) (p1 := p1) )) (fun hJ _ _ _ _ v τ1 hM q => E_callV (as := [.int p1]) (b := 3) (st := []) hM (by decide) yfX10_needPlayer mlX10_273 imX10_needPlayer seX10_needPlayer clX10 (kd3 hJ.1.1) rfl (Nat.le_of_ble_eq_true rfl) rfl dX10_claim_2 q) (fun hJ _ _ _ _ E τ1 hM => E_callVx (τ := τ1) (as := [.int p1]) (b := 3) (st := []) hM (by decide) yfX10_needPlayer mlX10_273 imX10_needPlayer seX10_needPlayer clX10 (kd3 hJ.1.1) rfl (Nat.le_of_ble_eq_true rfl) rfl dX10_claim_2 rfl) (by decide) (by decide) (fun v1 σ2 => ?_)
  refine P_l (fun hJ _ _ q => E_aload_n dX10_claim_5 rfl (E_iload_n dX10_claim_6 rfl q)) ?_
  refine P_callx (t2 := fun _ => none) (st2 := fun _ => []) (kc2 := 1) (ks2 := 6) (fun hJ => (ok_X10_needKind (σ := σ2) (p1 := p2) )) (fun hJ _ _ _ _ v τ1 hM q => E_callV (as := [.int p2]) (b := 3) (st := []) hM (by decide) yfX10_needKind mlX10_136 imX10_needKind seX10_needKind clX10 (kd3 hJ.1.1) rfl (Nat.le_of_ble_eq_true rfl) rfl dX10_claim_7 q) (fun hJ _ _ _ _ E τ1 hM => E_callVx (τ := τ1) (as := [.int p2]) (b := 3) (st := []) hM (by decide) yfX10_needKind mlX10_136 imX10_needKind seX10_needKind clX10 (kd3 hJ.1.1) rfl (Nat.le_of_ble_eq_true rfl) rfl dX10_claim_7 rfl) (by decide) (by decide) (fun v3 σ4 => ?_)
  refine P_l (fun hJ _ _ q => E_iload_n dX10_claim_10 rfl (E_iconst (v := 0) dX10_claim_11 (by decide) (E_iconst (v := 2) dX10_claim_12 (by decide) (E_callS (as := [.int p3, .int 0, .int 2]) (st := []) (ok_within (σ := σ4) (v := p3) (a := 0) (b := 2)) (by decide) yfX10_within mlX10_74 stX10_within rfl (Nat.le_of_ble_eq_true rfl) rfl dX10_claim_13 q)))) ?_
  refine P_if (fun hJ _ _ h1 h2 => E_if_ne 27 dX10_claim_16 (by decide) h2 h1) ?_ ?_
  · skip
    exact P_thr (fun kc ks => xt_IllegalArgumentException (M := mX10_claim) (pc := 19) rfl rfl (by decide) (Nat.le_of_ble_eq_true rfl) dX10_claim_19 dX10_claim_22 dX10_claim_23 dX10_claim_26 kc ks) (by decide) (by decide)
  · skip
    refine P_l (fun hJ _ _ q => E_aload_n dX10_claim_27 rfl (E_getR (b := 19) clX10 3 (by decide) flX10_29 (Or.inl ⟨_, rfl⟩) dX10_claim_28 (kd3 hJ.1.1) (rf3_3 hJ.1.1) (by decide) (E_getRN (b := 30) clX6 11 (by decide) flX10_324 (Or.inr ⟨_, rfl⟩) dX10_claim_31 (kd19 hJ.1.1) (rf19_11 hJ.1.1) (by decide) (E_iload_n dX10_claim_34 rfl (E_bipush (v := 52) dX10_claim_35 (by decide) (E_imul dX10_claim_37 (E_iload_n dX10_claim_38 rfl (E_iadd dX10_claim_39 (E_callS (as := [.ref 30, .int ((p1 * 52) + p2)]) (st := []) (ok_at (σ := σ4) (a := 30) (i := (p1 * 52) + p2) (f := rI σ4 30) (kd30 hJ.1.1) (by decide) rfl) (by decide) yfX10_at mlX10_193 stX10_at rfl (Nat.le_of_ble_eq_true rfl) rfl dX10_claim_40 (E_istore (ls2 := [some (.ref 3), some (.int p1), some (.int p2), some (.int p3), some (.int (vAt (rI σ4 30) 208 ((p1 * 52) + p2)))]) dX10_claim_43 (by decide) rfl q)))))))))) ?_
    refine P_v (vAt (rI σ4 30) 208 ((p1 * 52) + p2)) (fun x => [some (.ref 3), some (.int p1), some (.int p2), some (.int p3), some (.int x)]) (fun x5 => ?_)
    refine P_l (fun hJ _ _ q => E_aload_n dX10_claim_45 rfl (E_getR (b := 19) clX10 3 (by decide) flX10_29 (Or.inl ⟨_, rfl⟩) dX10_claim_46 (kd3 hJ.1.1) (rf3_3 hJ.1.1) (by decide) (E_getRN (b := 30) clX6 11 (by decide) flX10_324 (Or.inr ⟨_, rfl⟩) dX10_claim_49 (kd19 hJ.1.1) (rf19_11 hJ.1.1) (by decide) (E_iload_n dX10_claim_52 rfl (E_bipush (v := 52) dX10_claim_53 (by decide) (E_imul dX10_claim_55 (E_iload_n dX10_claim_56 rfl (E_iadd dX10_claim_57 (E_iload_n dX10_claim_58 rfl q))))))))) ?_
    refine P_w (fun hJ _ _ q => E_callS (as := [.ref 30, .int ((p1 * 52) + p2), .int p3]) (st := []) (ok_set (σ := σ4) (a := 30) (i := (p1 * 52) + p2) (x := p3) (f := rI σ4 30) (kd30 hJ.1.1) (by decide) (by decide) rfl) (by decide) yfX10_set mlX10_202 stX10_set rfl (Nat.le_of_ble_eq_true rfl) rfl dX10_claim_59 q) (fun hJ => Sy_rowI hJ.1) rfl rfl rfl (fun σ6 hσ6 => ?_)
    refine P_l (fun hJ _ _ q => E_iload dX10_claim_62 rfl q) ?_
    exact P_ret (fun _ _ => E_iret rfl dX10_claim_64)

def b_X10_copies_4 (σ : rS) (s1 : Int64 × Int32) : Option (Int64 ⊕ (Int64 × Int32)) := if 52 ≤ s1.2 then (some (.inl s1.1)) else ((f_X6_claimed σ s1.2).bind fun v2 => oLet ((if (v2 + (vAt (rI σ 9) 52 s1.2)) ≤ 2 then s1.1 else (s1.1 ||| ((1 : Int64) <<< (((s1.2 : Int32)).toInt64 &&& 63))) : Int64) : Int64) fun x3 => some (.inr ((x3, s1.2 + 1))))
def f_X10_copies (σ : rS) : Option Int64 := oLoop (b_X10_copies_4 σ) oFuel (((0 : Int64), 0))
set_option maxRecDepth 20000 in
set_option maxHeartbeats 2000000 in
theorem ok_X10_copies {σ : rS}   : rFr Sy yX10_copies mX10_copies 2 [.ref 3] σ (fun v => some (.long v)) (f_X10_copies σ) := by
  refine rFr_of (ls := [some (.ref 3), none, none, none]) yfX10_copies rfl (Nat.le_of_ble_eq_true rfl) (fun o τ => ?_)
  unfold f_X10_copies
  refine P_l (fun hJ _ _ q => E_lconst (v := 0) dX10_copies_0 (by decide) (E_lstore_n (ls2 := [some (.ref 3), some (.long (0 : Int64)), none, none]) dX10_copies_1 (by decide) rfl (E_iconst (v := 0) dX10_copies_2 (by decide) (E_istore_n (ls2 := [some (.ref 3), some (.long (0 : Int64)), none, some (.int 0)]) dX10_copies_3 (by decide) rfl q)))) ?_
  refine P_loop (fun s1 => [some (.ref 3), some (.long s1.1), none, some (.int s1.2)]) (fun _ => σ) (fun s1 => ?_) _ (((0 : Int64), 0))
  unfold b_X10_copies_4
  refine P_l (fun hJ _ _ q => E_iload_n dX10_copies_4 rfl (E_bipush (v := 52) dX10_copies_5 (by decide) q)) ?_
  refine P_if (fun hJ _ _ h1 h2 => E_icmp_ge 46 dX10_copies_7 (by decide) h1 h2) ?_ ?_
  · skip
    refine P_l (fun hJ _ _ q => E_lload_n dX10_copies_46 rfl q) ?_
    exact P_inl (P_retr (fun _ _ => E_lret rfl dX10_copies_47))
  · skip
    refine P_l (fun hJ _ _ q => E_aload_n dX10_copies_10 rfl (E_getR (b := 19) clX10 3 (by decide) flX10_29 (Or.inl ⟨_, rfl⟩) dX10_copies_11 (kd3 hJ.1.1) (rf3_3 hJ.1.1) (by decide) (E_iload_n dX10_copies_14 rfl q))) ?_
    refine P_callr (t := fun v => some (.int v)) (st2 := fun v => .int v :: []) (fun hJ => (ok_X6_claimed (σ := σ) (p1 := s1.2) )) (fun hJ _ _ v hM q => E_callVN (as := [.int s1.2]) (b := 19) (st := []) hM (by decide) yfX6_claimed mlX10_327 imX6_claimed seX6_claimed clX6 (kd19 hJ.1.1) rfl (Nat.le_of_ble_eq_true rfl) rfl dX10_copies_15 q) (fun v2 => ?_)
    refine P_l (fun hJ _ _ q => E_aload_n dX10_copies_18 rfl (E_getR (b := 5) clX10 1 (by decide) flX10_19 (Or.inl ⟨_, rfl⟩) dX10_copies_19 (kd3 hJ.1.1) (rf3_1 hJ.1.1) (by decide) (E_getRN (b := 9) clX1 3 (by decide) flX10_330 (Or.inr ⟨_, rfl⟩) dX10_copies_22 (kd5 hJ.1.1) (rf5_3 hJ.1.1) (by decide) (E_iload_n dX10_copies_25 rfl (E_callS (as := [.ref 9, .int s1.2]) (st := [.int v2]) (ok_at (σ := σ) (a := 9) (i := s1.2) (f := rI σ 9) (kd9 hJ.1.1) (by decide) rfl) (by decide) yfX10_at mlX10_193 stX10_at rfl (Nat.le_of_ble_eq_true rfl) rfl dX10_copies_26 (E_iadd dX10_copies_29 (E_iconst (v := 2) dX10_copies_30 (by decide) q))))))) ?_
    refine P_l (pc2 := 40) (ls2 := [some (.ref 3), some (.long ((if (v2 + (vAt (rI σ 9) 52 s1.2)) ≤ 2 then s1.1 else (s1.1 ||| ((1 : Int64) <<< (((s1.2 : Int32)).toInt64 &&& 63))) : Int64))), none, some (.int s1.2)]) (st2 := []) (fun hJ _ _ hq => ?_) ?_
    · skip
      refine E_icmp_le 40 dX10_copies_31 (by decide) (fun c_31_0 => ?_) (fun c_31_0 => ?_)
      · skip
        simp only [if_pos c_31_0] at hq
        exact hq
      · skip
        refine E_lload_n dX10_copies_34 rfl ?_
        refine E_lconst (v := 1) dX10_copies_35 (by decide) ?_
        refine E_iload_n dX10_copies_36 rfl ?_
        refine E_lshl dX10_copies_37 ?_
        refine E_lor dX10_copies_38 ?_
        refine E_lstore_n (ls2 := [some (.ref 3), some (.long (s1.1 ||| ((1 : Int64) <<< (((s1.2 : Int32)).toInt64 &&& 63)))), none, some (.int s1.2)]) dX10_copies_39 (by decide) rfl ?_
        simp only [if_neg c_31_0] at hq
        exact hq
    · skip
      refine P_v ((if (v2 + (vAt (rI σ 9) 52 s1.2)) ≤ 2 then s1.1 else (s1.1 ||| ((1 : Int64) <<< (((s1.2 : Int32)).toInt64 &&& 63))) : Int64)) (fun x => [some (.ref 3), some (.long x), none, some (.int s1.2)]) (fun x3 => ?_)
      refine P_l (fun hJ _ _ q => E_iinc (v := 1) (ls2 := [some (.ref 3), some (.long x3), none, some (.int (s1.2 + 1))]) dX10_copies_40 rfl (by decide) (by decide) rfl (E_goto 4 dX10_copies_43 (by decide) q)) ?_
      exact P_back ((x3, s1.2 + 1))

def f_X10_rackIs (σ : rS) (p1 : Int32) (p2 : Int32) : Option ((Int32 ⊕ String) × rS) := oBx (f_X10_needPlayer σ p1) fun _ σ2 => oBx (f_X10_needPiece σ2 p2) fun _ σ4 => some ((.inl (v_X1_rackOf σ4 5 p1 p2), σ4))
set_option maxRecDepth 20000 in
set_option maxHeartbeats 2000000 in
theorem ok_X10_rackIs {σ : rS} {p1 : Int32} {p2 : Int32}   : rFn Sy yX10_rackIs mX10_rackIs 7 [.ref 3, .int p1, .int p2] σ 2 12 (tX (fun v => .inl (some (.int v)))) (f_X10_rackIs σ p1 p2) := by
  refine rF_of (ls := [some (.ref 3), some (.int p1), some (.int p2)]) yfX10_rackIs rfl (Nat.le_of_ble_eq_true rfl) (fun o τ => ?_)
  unfold f_X10_rackIs
  refine P_l (fun hJ _ _ q => E_aload_n dX10_rackIs_0 rfl (E_iload_n dX10_rackIs_1 rfl q)) ?_
  refine P_callx (t2 := fun _ => none) (st2 := fun _ => []) (kc2 := 1) (ks2 := 6) (fun hJ => (ok_X10_needPlayer (σ := σ) (p1 := p1) )) (fun hJ _ _ _ _ v τ1 hM q => E_callV (as := [.int p1]) (b := 3) (st := []) hM (by decide) yfX10_needPlayer mlX10_273 imX10_needPlayer seX10_needPlayer clX10 (kd3 hJ.1.1) rfl (Nat.le_of_ble_eq_true rfl) rfl dX10_rackIs_2 q) (fun hJ _ _ _ _ E τ1 hM => E_callVx (τ := τ1) (as := [.int p1]) (b := 3) (st := []) hM (by decide) yfX10_needPlayer mlX10_273 imX10_needPlayer seX10_needPlayer clX10 (kd3 hJ.1.1) rfl (Nat.le_of_ble_eq_true rfl) rfl dX10_rackIs_2 rfl) (by decide) (by decide) (fun v1 σ2 => ?_)
  refine P_l (fun hJ _ _ q => E_aload_n dX10_rackIs_5 rfl (E_iload_n dX10_rackIs_6 rfl q)) ?_
  refine P_callx (t2 := fun _ => none) (st2 := fun _ => []) (kc2 := 0) (ks2 := 0) (fun hJ => (ok_X10_needPiece (σ := σ2) (p1 := p2) )) (fun hJ _ _ _ _ v τ1 hM q => E_callV (as := [.int p2]) (b := 3) (st := []) hM (by decide) yfX10_needPiece mlX10_298 imX10_needPiece seX10_needPiece clX10 (kd3 hJ.1.1) rfl (Nat.le_of_ble_eq_true rfl) rfl dX10_rackIs_7 q) (fun hJ _ _ _ _ E τ1 hM => E_callVx (τ := τ1) (as := [.int p2]) (b := 3) (st := []) hM (by decide) yfX10_needPiece mlX10_298 imX10_needPiece seX10_needPiece clX10 (kd3 hJ.1.1) rfl (Nat.le_of_ble_eq_true rfl) rfl dX10_rackIs_7 rfl) (by decide) (by decide) (fun v3 σ4 => ?_)
  refine P_l (fun hJ _ _ q => E_aload_n dX10_rackIs_10 rfl (E_getR (b := 5) clX10 1 (by decide) flX10_19 (Or.inl ⟨_, rfl⟩) dX10_rackIs_11 (kd3 hJ.1.1) (rf3_1 hJ.1.1) (by decide) (E_iload_n dX10_rackIs_14 rfl (E_iload_n dX10_rackIs_15 rfl (E_callVN (as := [.int p1, .int p2]) (b := 5) (st := []) (ok_X1_rackOf (σ := σ4) (b := 5) (p := p1) (k := p2) hJ (Or.inl rfl)) (by decide) yfX1_rackOf mlX10_333 imX1_rackOf seX1_rackOf clX1 (kd5 hJ.1.1) rfl (Nat.le_of_ble_eq_true rfl) rfl dX10_rackIs_16 q))))) ?_
  exact P_ret (fun _ _ => E_iret rfl dX10_rackIs_19)

def f_X10_tableIs (σ : rS) (p1 : Int32) (p2 : Int32) : Option ((Int32 ⊕ String) × rS) := oBx (f_X10_needKind σ p1) fun _ σ2 => some ((.inl ((if p2 = 0 then (vAt (rI σ2 9) 52 p1) else (vAt (rI σ2 10) 52 p1) : Int32)), σ2))
set_option maxRecDepth 20000 in
set_option maxHeartbeats 2000000 in
theorem ok_X10_tableIs {σ : rS} {p1 : Int32} {p2 : Int32}   : rFn Sy yX10_tableIs mX10_tableIs 7 [.ref 3, .int p1, .int p2] σ 1 6 (tX (fun v => .inl (some (.int v)))) (f_X10_tableIs σ p1 p2) := by
  refine rF_of (ls := [some (.ref 3), some (.int p1), some (.int p2)]) yfX10_tableIs rfl (Nat.le_of_ble_eq_true rfl) (fun o τ => ?_)
  unfold f_X10_tableIs
  refine P_l (fun hJ _ _ q => E_aload_n dX10_tableIs_0 rfl (E_iload_n dX10_tableIs_1 rfl q)) ?_
  refine P_callx (t2 := fun _ => none) (st2 := fun _ => []) (kc2 := 0) (ks2 := 0) (fun hJ => (ok_X10_needKind (σ := σ) (p1 := p1) )) (fun hJ _ _ _ _ v τ1 hM q => E_callV (as := [.int p1]) (b := 3) (st := []) hM (by decide) yfX10_needKind mlX10_136 imX10_needKind seX10_needKind clX10 (kd3 hJ.1.1) rfl (Nat.le_of_ble_eq_true rfl) rfl dX10_tableIs_2 q) (fun hJ _ _ _ _ E τ1 hM => E_callVx (τ := τ1) (as := [.int p1]) (b := 3) (st := []) hM (by decide) yfX10_needKind mlX10_136 imX10_needKind seX10_needKind clX10 (kd3 hJ.1.1) rfl (Nat.le_of_ble_eq_true rfl) rfl dX10_tableIs_2 rfl) (by decide) (by decide) (fun v1 σ2 => ?_)
  refine P_l (fun hJ _ _ q => E_iload_n dX10_tableIs_5 rfl q) ?_
  refine P_l (pc2 := 34) (ls2 := [none, none, none]) (st2 := [.int ((if p2 = 0 then (vAt (rI σ2 9) 52 p1) else (vAt (rI σ2 10) 52 p1) : Int32))]) (fun hJ _ _ hq => ?_) ?_
  · skip
    refine E_if_eq 23 dX10_tableIs_6 (by decide) (fun c_6_0 => ?_) (fun c_6_0 => ?_)
    · skip
      refine E_aload_n dX10_tableIs_23 rfl ?_
      refine E_getR (b := 5) clX10 1 (by decide) flX10_19 (Or.inl ⟨_, rfl⟩) dX10_tableIs_24 (kd3 hJ.1.1) (rf3_1 hJ.1.1) (by decide) ?_
      refine E_getRN (b := 9) clX1 3 (by decide) flX10_330 (Or.inr ⟨_, rfl⟩) dX10_tableIs_27 (kd5 hJ.1.1) (rf5_3 hJ.1.1) (by decide) ?_
      refine E_iload_n dX10_tableIs_30 rfl ?_
      refine E_callS (as := [.ref 9, .int p1]) (st := []) (ok_at (σ := σ2) (a := 9) (i := p1) (f := rI σ2 9) (kd9 hJ.1.1) (by decide) rfl) (by decide) yfX10_at mlX10_193 stX10_at rfl (Nat.le_of_ble_eq_true rfl) rfl dX10_tableIs_31 ?_
      simp only [if_pos c_6_0] at hq
      exact E_less (ls2 := [none, none, none]) hq (rLe_at [none, none, none] [some (.ref 3), some (.int p1), some (.int p2)] trivial)
    · skip
      refine E_aload_n dX10_tableIs_9 rfl ?_
      refine E_getR (b := 5) clX10 1 (by decide) flX10_19 (Or.inl ⟨_, rfl⟩) dX10_tableIs_10 (kd3 hJ.1.1) (rf3_1 hJ.1.1) (by decide) ?_
      refine E_getRN (b := 10) clX1 4 (by decide) flX10_336 (Or.inr ⟨_, rfl⟩) dX10_tableIs_13 (kd5 hJ.1.1) (rf5_4 hJ.1.1) (by decide) ?_
      refine E_iload_n dX10_tableIs_16 rfl ?_
      refine E_callS (as := [.ref 10, .int p1]) (st := []) (ok_at (σ := σ2) (a := 10) (i := p1) (f := rI σ2 10) (kd10 hJ.1.1) (by decide) rfl) (by decide) yfX10_at mlX10_193 stX10_at rfl (Nat.le_of_ble_eq_true rfl) rfl dX10_tableIs_17 ?_
      refine E_goto 34 dX10_tableIs_20 (by decide) ?_
      simp only [if_neg c_6_0] at hq
      exact E_less (ls2 := [none, none, none]) hq (rLe_at [none, none, none] [some (.ref 3), some (.int p1), some (.int p2)] trivial)
  · skip
    exact P_ret (fun _ _ => E_iret rfl dX10_tableIs_34)

def f_X10_poolIs (σ : rS) (p1 : Int32) : Option ((Int32 ⊕ String) × rS) := oBx (f_X10_needPiece σ p1) fun _ σ2 => some ((.inl (vAt (rI σ2 6) 53 p1), σ2))
set_option maxRecDepth 20000 in
set_option maxHeartbeats 2000000 in
theorem ok_X10_poolIs {σ : rS} {p1 : Int32}   : rFn Sy yX10_poolIs mX10_poolIs 7 [.ref 3, .int p1] σ 1 6 (tX (fun v => .inl (some (.int v)))) (f_X10_poolIs σ p1) := by
  refine rF_of (ls := [some (.ref 3), some (.int p1)]) yfX10_poolIs rfl (Nat.le_of_ble_eq_true rfl) (fun o τ => ?_)
  unfold f_X10_poolIs
  refine P_l (fun hJ _ _ q => E_aload_n dX10_poolIs_0 rfl (E_iload_n dX10_poolIs_1 rfl q)) ?_
  refine P_callx (t2 := fun _ => none) (st2 := fun _ => []) (kc2 := 0) (ks2 := 0) (fun hJ => (ok_X10_needPiece (σ := σ) (p1 := p1) )) (fun hJ _ _ _ _ v τ1 hM q => E_callV (as := [.int p1]) (b := 3) (st := []) hM (by decide) yfX10_needPiece mlX10_298 imX10_needPiece seX10_needPiece clX10 (kd3 hJ.1.1) rfl (Nat.le_of_ble_eq_true rfl) rfl dX10_poolIs_2 q) (fun hJ _ _ _ _ E τ1 hM => E_callVx (τ := τ1) (as := [.int p1]) (b := 3) (st := []) hM (by decide) yfX10_needPiece mlX10_298 imX10_needPiece seX10_needPiece clX10 (kd3 hJ.1.1) rfl (Nat.le_of_ble_eq_true rfl) rfl dX10_poolIs_2 rfl) (by decide) (by decide) (fun v1 σ2 => ?_)
  refine P_l (fun hJ _ _ q => E_aload_n dX10_poolIs_5 rfl (E_getR (b := 5) clX10 1 (by decide) flX10_19 (Or.inl ⟨_, rfl⟩) dX10_poolIs_6 (kd3 hJ.1.1) (rf3_1 hJ.1.1) (by decide) (E_getRN (b := 6) clX1 0 (by decide) flX10_338 (Or.inr ⟨_, rfl⟩) dX10_poolIs_9 (kd5 hJ.1.1) (rf5_0 hJ.1.1) (by decide) (E_iload_n dX10_poolIs_12 rfl (E_callS (as := [.ref 6, .int p1]) (st := []) (ok_at (σ := σ2) (a := 6) (i := p1) (f := rI σ2 6) (kd6 hJ.1.1) (by decide) rfl) (by decide) yfX10_at mlX10_193 stX10_at rfl (Nat.le_of_ble_eq_true rfl) rfl dX10_poolIs_13 q))))) ?_
  exact P_ret (fun _ _ => E_iret rfl dX10_poolIs_16)

def f_X10_playerIs (σ : rS) (p1 : Int32) (p2 : Int32) : Option ((Int32 ⊕ String) × rS) := oBx (f_X10_needPlayer σ p1) fun _ σ2 => if p2 = 0 then (some ((.inl (vAt (rI σ2 20) 4 p1), σ2))) else (if p2 = 1 then (some ((.inl (vAt (rI σ2 21) 4 p1), σ2))) else (if p2 = 2 then (some ((.inl (vAt (rI σ2 22) 4 p1), σ2))) else (if p2 = 3 then (some ((.inl (vAt (rI σ2 23) 4 p1), σ2))) else (if p2 = 4 then (some ((.inl ((if (v_X10_hasMelded σ2 p1) = 0 then 0 else 1 : Int32)), σ2))) else (if p2 = 5 then (some ((.inl (v_X1_sizeOf σ2 5 p1), σ2))) else (if p2 = 6 then ((f_X1_worthOf σ2 5 p1).bind fun v10 => some ((.inl v10, σ2))) else (if p2 = 7 then ((f_X6_placeOf σ2 p1).bind fun v12 => some ((.inl v12, σ2))) else (if p2 = 8 then (some ((.inl (vAt (rI σ2 25) 4 p1), σ2))) else (if p2 = 9 then (some ((.inl (vAt (rI σ2 27) 4 p1), σ2))) else (some ((.inr "java/lang/IllegalArgumentException", σ2))))))))))))
set_option maxRecDepth 20000 in
set_option maxHeartbeats 2000000 in
theorem ok_X10_playerIs {σ : rS} {p1 : Int32} {p2 : Int32}   : rFn Sy yX10_playerIs mX10_playerIs 7 [.ref 3, .int p1, .int p2] σ 2 12 (tX (fun v => .inl (some (.int v)))) (f_X10_playerIs σ p1 p2) := by
  refine rF_of (ls := [some (.ref 3), some (.int p1), some (.int p2)]) yfX10_playerIs rfl (Nat.le_of_ble_eq_true rfl) (fun o τ => ?_)
  unfold f_X10_playerIs
  refine P_l (fun hJ _ _ q => E_aload_n dX10_playerIs_0 rfl (E_iload_n dX10_playerIs_1 rfl q)) ?_
  refine P_callx (t2 := fun _ => none) (st2 := fun _ => []) (kc2 := 1) (ks2 := 6) (fun hJ => (ok_X10_needPlayer (σ := σ) (p1 := p1) )) (fun hJ _ _ _ _ v τ1 hM q => E_callV (as := [.int p1]) (b := 3) (st := []) hM (by decide) yfX10_needPlayer mlX10_273 imX10_needPlayer seX10_needPlayer clX10 (kd3 hJ.1.1) rfl (Nat.le_of_ble_eq_true rfl) rfl dX10_playerIs_2 q) (fun hJ _ _ _ _ E τ1 hM => E_callVx (τ := τ1) (as := [.int p1]) (b := 3) (st := []) hM (by decide) yfX10_needPlayer mlX10_273 imX10_needPlayer seX10_needPlayer clX10 (kd3 hJ.1.1) rfl (Nat.le_of_ble_eq_true rfl) rfl dX10_playerIs_2 rfl) (by decide) (by decide) (fun v1 σ2 => ?_)
  refine P_l (fun hJ _ _ q => E_iload_n dX10_playerIs_5 rfl q) ?_
  refine P_case (fun h3 => ?_) (fun h3 => ?_)
  · skip
    refine P_l (fun hJ _ _ q => E_tableIn (off := 54) 60 dX10_playerIs_6 (by rw [h3]; decide) (by rw [h3]; decide) (by rw [h3]; rfl) (by decide) q) ?_
    refine P_l (fun hJ _ _ q => E_aload_n dX10_playerIs_60 rfl (E_getR (b := 19) clX10 3 (by decide) flX10_29 (Or.inl ⟨_, rfl⟩) dX10_playerIs_61 (kd3 hJ.1.1) (rf3_3 hJ.1.1) (by decide) (E_getRN (b := 20) clX6 1 (by decide) flX10_341 (Or.inr ⟨_, rfl⟩) dX10_playerIs_64 (kd19 hJ.1.1) (rf19_1 hJ.1.1) (by decide) (E_iload_n dX10_playerIs_67 rfl (E_callS (as := [.ref 20, .int p1]) (st := []) (ok_at (σ := σ2) (a := 20) (i := p1) (f := rI σ2 20) (kd20 hJ.1.1) (by decide) rfl) (by decide) yfX10_at mlX10_193 stX10_at rfl (Nat.le_of_ble_eq_true rfl) rfl dX10_playerIs_68 q))))) ?_
    exact P_ret (fun _ _ => E_iret rfl dX10_playerIs_71)
  · skip
    refine P_case (fun h4 => ?_) (fun h4 => ?_)
    · skip
      refine P_l (fun hJ _ _ q => E_tableIn (off := 66) 72 dX10_playerIs_6 (by rw [h4]; decide) (by rw [h4]; decide) (by rw [h4]; rfl) (by decide) q) ?_
      refine P_l (fun hJ _ _ q => E_aload_n dX10_playerIs_72 rfl (E_getR (b := 19) clX10 3 (by decide) flX10_29 (Or.inl ⟨_, rfl⟩) dX10_playerIs_73 (kd3 hJ.1.1) (rf3_3 hJ.1.1) (by decide) (E_getRN (b := 21) clX6 2 (by decide) flX10_206 (Or.inr ⟨_, rfl⟩) dX10_playerIs_76 (kd19 hJ.1.1) (rf19_2 hJ.1.1) (by decide) (E_iload_n dX10_playerIs_79 rfl (E_callS (as := [.ref 21, .int p1]) (st := []) (ok_at (σ := σ2) (a := 21) (i := p1) (f := rI σ2 21) (kd21 hJ.1.1) (by decide) rfl) (by decide) yfX10_at mlX10_193 stX10_at rfl (Nat.le_of_ble_eq_true rfl) rfl dX10_playerIs_80 q))))) ?_
      exact P_ret (fun _ _ => E_iret rfl dX10_playerIs_83)
    · skip
      refine P_case (fun h5 => ?_) (fun h5 => ?_)
      · skip
        refine P_l (fun hJ _ _ q => E_tableIn (off := 78) 84 dX10_playerIs_6 (by rw [h5]; decide) (by rw [h5]; decide) (by rw [h5]; rfl) (by decide) q) ?_
        refine P_l (fun hJ _ _ q => E_aload_n dX10_playerIs_84 rfl (E_getR (b := 19) clX10 3 (by decide) flX10_29 (Or.inl ⟨_, rfl⟩) dX10_playerIs_85 (kd3 hJ.1.1) (rf3_3 hJ.1.1) (by decide) (E_getRN (b := 22) clX6 3 (by decide) flX10_344 (Or.inr ⟨_, rfl⟩) dX10_playerIs_88 (kd19 hJ.1.1) (rf19_3 hJ.1.1) (by decide) (E_iload_n dX10_playerIs_91 rfl (E_callS (as := [.ref 22, .int p1]) (st := []) (ok_at (σ := σ2) (a := 22) (i := p1) (f := rI σ2 22) (kd22 hJ.1.1) (by decide) rfl) (by decide) yfX10_at mlX10_193 stX10_at rfl (Nat.le_of_ble_eq_true rfl) rfl dX10_playerIs_92 q))))) ?_
        exact P_ret (fun _ _ => E_iret rfl dX10_playerIs_95)
      · skip
        refine P_case (fun h6 => ?_) (fun h6 => ?_)
        · skip
          refine P_l (fun hJ _ _ q => E_tableIn (off := 90) 96 dX10_playerIs_6 (by rw [h6]; decide) (by rw [h6]; decide) (by rw [h6]; rfl) (by decide) q) ?_
          refine P_l (fun hJ _ _ q => E_aload_n dX10_playerIs_96 rfl (E_getR (b := 19) clX10 3 (by decide) flX10_29 (Or.inl ⟨_, rfl⟩) dX10_playerIs_97 (kd3 hJ.1.1) (rf3_3 hJ.1.1) (by decide) (E_getRN (b := 23) clX6 4 (by decide) flX10_189 (Or.inr ⟨_, rfl⟩) dX10_playerIs_100 (kd19 hJ.1.1) (rf19_4 hJ.1.1) (by decide) (E_iload_n dX10_playerIs_103 rfl (E_callS (as := [.ref 23, .int p1]) (st := []) (ok_at (σ := σ2) (a := 23) (i := p1) (f := rI σ2 23) (kd23 hJ.1.1) (by decide) rfl) (by decide) yfX10_at mlX10_193 stX10_at rfl (Nat.le_of_ble_eq_true rfl) rfl dX10_playerIs_104 q))))) ?_
          exact P_ret (fun _ _ => E_iret rfl dX10_playerIs_107)
        · skip
          refine P_case (fun h7 => ?_) (fun h7 => ?_)
          · skip
            refine P_l (fun hJ _ _ q => E_tableIn (off := 102) 108 dX10_playerIs_6 (by rw [h7]; decide) (by rw [h7]; decide) (by rw [h7]; rfl) (by decide) q) ?_
            refine P_l (fun hJ _ _ q => E_aload_n dX10_playerIs_108 rfl (E_iload_n dX10_playerIs_109 rfl (E_callV (as := [.int p1]) (b := 3) (st := []) (ok_X10_hasMelded (σ := σ2) (p1 := p1) hJ ) (by decide) yfX10_hasMelded mlX10_209 imX10_hasMelded seX10_hasMelded clX10 (kd3 hJ.1.1) rfl (Nat.le_of_ble_eq_true rfl) rfl dX10_playerIs_110 q))) ?_
            refine P_l (pc2 := 121) (ls2 := [none, none, none]) (st2 := [.int ((if (v_X10_hasMelded σ2 p1) = 0 then 0 else 1 : Int32))]) (fun hJ _ _ hq => ?_) ?_
            · skip
              refine E_if_eq 120 dX10_playerIs_113 (by decide) (fun c_113_0 => ?_) (fun c_113_0 => ?_)
              · skip
                refine E_iconst (v := 0) dX10_playerIs_120 (by decide) ?_
                simp only [if_pos c_113_0] at hq
                exact E_less (ls2 := [none, none, none]) hq (rLe_at [none, none, none] [some (.ref 3), some (.int p1), some (.int p2)] trivial)
              · skip
                refine E_iconst (v := 1) dX10_playerIs_116 (by decide) ?_
                refine E_goto 121 dX10_playerIs_117 (by decide) ?_
                simp only [if_neg c_113_0] at hq
                exact E_less (ls2 := [none, none, none]) hq (rLe_at [none, none, none] [some (.ref 3), some (.int p1), some (.int p2)] trivial)
            · skip
              exact P_ret (fun _ _ => E_iret rfl dX10_playerIs_121)
          · skip
            refine P_case (fun h8 => ?_) (fun h8 => ?_)
            · skip
              refine P_l (fun hJ _ _ q => E_tableIn (off := 116) 122 dX10_playerIs_6 (by rw [h8]; decide) (by rw [h8]; decide) (by rw [h8]; rfl) (by decide) q) ?_
              refine P_l (fun hJ _ _ q => E_aload_n dX10_playerIs_122 rfl (E_getR (b := 5) clX10 1 (by decide) flX10_19 (Or.inl ⟨_, rfl⟩) dX10_playerIs_123 (kd3 hJ.1.1) (rf3_1 hJ.1.1) (by decide) (E_iload_n dX10_playerIs_126 rfl (E_callVN (as := [.int p1]) (b := 5) (st := []) (ok_X1_sizeOf (σ := σ2) (b := 5) (p := p1) hJ (Or.inl rfl)) (by decide) yfX1_sizeOf mlX10_301 imX1_sizeOf seX1_sizeOf clX1 (kd5 hJ.1.1) rfl (Nat.le_of_ble_eq_true rfl) rfl dX10_playerIs_127 q)))) ?_
              exact P_ret (fun _ _ => E_iret rfl dX10_playerIs_130)
            · skip
              refine P_case (fun h9 => ?_) (fun h9 => ?_)
              · skip
                refine P_l (fun hJ _ _ q => E_tableIn (off := 125) 131 dX10_playerIs_6 (by rw [h9]; decide) (by rw [h9]; decide) (by rw [h9]; rfl) (by decide) q) ?_
                refine P_l (fun hJ _ _ q => E_aload_n dX10_playerIs_131 rfl (E_getR (b := 5) clX10 1 (by decide) flX10_19 (Or.inl ⟨_, rfl⟩) dX10_playerIs_132 (kd3 hJ.1.1) (rf3_1 hJ.1.1) (by decide) (E_iload_n dX10_playerIs_135 rfl q))) ?_
                refine P_callr (t := fun v => some (.int v)) (st2 := fun v => .int v :: []) (fun hJ => (ok_X1_worthOf (σ := σ2) (b := 5) (p := p1) (Or.inl rfl))) (fun hJ _ _ v hM q => E_callVN (as := [.int p1]) (b := 5) (st := []) hM (by decide) yfX1_worthOf mlX10_347 imX1_worthOf seX1_worthOf clX1 (kd5 hJ.1.1) rfl (Nat.le_of_ble_eq_true rfl) rfl dX10_playerIs_136 q) (fun v10 => ?_)
                exact P_ret (fun _ _ => E_iret rfl dX10_playerIs_139)
              · skip
                refine P_case (fun h11 => ?_) (fun h11 => ?_)
                · skip
                  refine P_l (fun hJ _ _ q => E_tableIn (off := 134) 140 dX10_playerIs_6 (by rw [h11]; decide) (by rw [h11]; decide) (by rw [h11]; rfl) (by decide) q) ?_
                  refine P_l (fun hJ _ _ q => E_aload_n dX10_playerIs_140 rfl (E_getR (b := 19) clX10 3 (by decide) flX10_29 (Or.inl ⟨_, rfl⟩) dX10_playerIs_141 (kd3 hJ.1.1) (rf3_3 hJ.1.1) (by decide) (E_iload_n dX10_playerIs_144 rfl q))) ?_
                  refine P_callr (t := fun v => some (.int v)) (st2 := fun v => .int v :: []) (fun hJ => (ok_X6_placeOf (σ := σ2) (p1 := p1) )) (fun hJ _ _ v hM q => E_callVN (as := [.int p1]) (b := 19) (st := []) hM (by decide) yfX6_placeOf mlX10_350 imX6_placeOf seX6_placeOf clX6 (kd19 hJ.1.1) rfl (Nat.le_of_ble_eq_true rfl) rfl dX10_playerIs_145 q) (fun v12 => ?_)
                  exact P_ret (fun _ _ => E_iret rfl dX10_playerIs_148)
                · skip
                  refine P_case (fun h13 => ?_) (fun h13 => ?_)
                  · skip
                    refine P_l (fun hJ _ _ q => E_tableIn (off := 143) 149 dX10_playerIs_6 (by rw [h13]; decide) (by rw [h13]; decide) (by rw [h13]; rfl) (by decide) q) ?_
                    refine P_l (fun hJ _ _ q => E_aload_n dX10_playerIs_149 rfl (E_getR (b := 19) clX10 3 (by decide) flX10_29 (Or.inl ⟨_, rfl⟩) dX10_playerIs_150 (kd3 hJ.1.1) (rf3_3 hJ.1.1) (by decide) (E_getRN (b := 25) clX6 6 (by decide) flX10_308 (Or.inr ⟨_, rfl⟩) dX10_playerIs_153 (kd19 hJ.1.1) (rf19_6 hJ.1.1) (by decide) (E_iload_n dX10_playerIs_156 rfl (E_callS (as := [.ref 25, .int p1]) (st := []) (ok_at (σ := σ2) (a := 25) (i := p1) (f := rI σ2 25) (kd25 hJ.1.1) (by decide) rfl) (by decide) yfX10_at mlX10_193 stX10_at rfl (Nat.le_of_ble_eq_true rfl) rfl dX10_playerIs_157 q))))) ?_
                    exact P_ret (fun _ _ => E_iret rfl dX10_playerIs_160)
                  · skip
                    refine P_case (fun h14 => ?_) (fun h14 => ?_)
                    · skip
                      refine P_l (fun hJ _ _ q => E_tableIn (off := 155) 161 dX10_playerIs_6 (by rw [h14]; decide) (by rw [h14]; decide) (by rw [h14]; rfl) (by decide) q) ?_
                      refine P_l (fun hJ _ _ q => E_aload_n dX10_playerIs_161 rfl (E_getR (b := 19) clX10 3 (by decide) flX10_29 (Or.inl ⟨_, rfl⟩) dX10_playerIs_162 (kd3 hJ.1.1) (rf3_3 hJ.1.1) (by decide) (E_getRN (b := 27) clX6 8 (by decide) flX10_353 (Or.inr ⟨_, rfl⟩) dX10_playerIs_165 (kd19 hJ.1.1) (rf19_8 hJ.1.1) (by decide) (E_iload_n dX10_playerIs_168 rfl (E_callS (as := [.ref 27, .int p1]) (st := []) (ok_at (σ := σ2) (a := 27) (i := p1) (f := rI σ2 27) (kd27 hJ.1.1) (by decide) rfl) (by decide) yfX10_at mlX10_193 stX10_at rfl (Nat.le_of_ble_eq_true rfl) rfl dX10_playerIs_169 q))))) ?_
                      exact P_ret (fun _ _ => E_iret rfl dX10_playerIs_172)
                    · skip
                      refine P_l (fun hJ _ _ q => E_tableOut 173 dX10_playerIs_6 (by have e0 := sw_ne h3; have e1 := sw_ne h4; have e2 := sw_ne h5; have e3 := sw_ne h6; have e4 := sw_ne h7; have e5 := sw_ne h8; have e6 := sw_ne h9; have e7 := sw_ne h11; have e8 := sw_ne h13; have e9 := sw_ne h14; simp only [sw_l0, sw_l1, sw_l2, sw_l3, sw_l4, sw_l5, sw_l6, sw_l7, sw_l8, sw_l9] at *; omega) (by decide) q) ?_
                      exact P_thr (fun kc ks => xt_IllegalArgumentException (M := mX10_playerIs) (pc := 173) rfl rfl (by decide) (Nat.le_of_ble_eq_true rfl) dX10_playerIs_173 dX10_playerIs_176 dX10_playerIs_177 dX10_playerIs_180 kc ks) (by decide) (by decide)

