def f_X10_draw (σ : rS) : Option ((Int32 ⊕ String) × rS) := oBx (f_X10_needRound σ) fun _ σ2 => oB (f_X10_endByDrawing σ2 6) fun v3 σ4 => some ((.inl v3, σ4))
set_option maxRecDepth 20000 in
set_option maxHeartbeats 2000000 in
theorem ok_X10_draw {σ : rS}   : rFn Sy yX10_draw mX10_draw 7 [.ref 3] σ 1 6 (tX (fun v => .inl (some (.int v)))) (f_X10_draw σ) := by
  refine rF_of (ls := [some (.ref 3)]) yfX10_draw rfl (Nat.le_of_ble_eq_true rfl) (fun o τ => ?_)
  unfold f_X10_draw
  refine P_l (fun hJ _ _ q => E_aload_n dX10_draw_0 rfl q) ?_
  refine P_callx (t2 := fun _ => none) (st2 := fun _ => []) (kc2 := 0) (ks2 := 0) (fun hJ => (ok_X10_needRound (σ := σ)  )) (fun hJ _ _ _ _ v τ1 hM q => E_callV (as := []) (b := 3) (st := []) hM (by decide) yfX10_needRound mlX10_183 imX10_needRound seX10_needRound clX10 (kd3 hJ.1.1) rfl (Nat.le_of_ble_eq_true rfl) rfl dX10_draw_1 q) (fun hJ _ _ _ _ E τ1 hM => E_callVx (τ := τ1) (as := []) (b := 3) (st := []) hM (by decide) yfX10_needRound mlX10_183 imX10_needRound seX10_needRound clX10 (kd3 hJ.1.1) rfl (Nat.le_of_ble_eq_true rfl) rfl dX10_draw_1 rfl) (by decide) (by decide) (fun v1 σ2 => ?_)
  refine P_l (fun hJ _ _ q => E_aload_n dX10_draw_4 rfl (E_bipush (v := 6) dX10_draw_5 (by decide) q)) ?_
  refine P_call (t := fun v => some (.int v)) (st2 := fun v => .int v :: []) (kc2 := 0) (ks2 := 0) (fun hJ => (ok_X10_endByDrawing (σ := σ2) (p1 := 6) )) (fun hJ _ _ _ _ v τ1 hM q => E_callV (as := [.int 6]) (b := 3) (st := []) hM (by decide) yfX10_endByDrawing mlX10_186 imX10_endByDrawing seX10_endByDrawing clX10 (kd3 hJ.1.1) rfl (Nat.le_of_ble_eq_true rfl) rfl dX10_draw_7 q) (by decide) (by decide) (fun v3 σ4 => ?_)
  exact P_ret (fun _ _ => E_iret rfl dX10_draw_10)

def f_X10_tick (σ : rS) (p1 : Int32) : Option ((Int32 ⊕ String) × rS) := if (vIn p1 1 999) = 0 then (some ((.inr "java/lang/IllegalArgumentException", σ))) else (oBx (f_X10_needRound σ) fun _ σ2 => oLet (if 0 < (vAt (rI σ2 23) 4 (rI σ2 3 8)) - p1 then (vAt (rI σ2 23) 4 (rI σ2 3 8)) - p1 else 0 : Int32) fun x3 => oLet (rowI σ2 23 (vSet (rI σ2 23) 4 (rI σ2 3 8) x3)) fun σ4 => if x3 = 0 then (oB (f_X10_endByDrawing σ4 7) fun v5 σ6 => some ((.inl x3, σ6))) else (some ((.inl x3, σ4))))
set_option maxRecDepth 20000 in
set_option maxHeartbeats 2000000 in
theorem ok_X10_tick {σ : rS} {p1 : Int32}   : rFn Sy yX10_tick mX10_tick 7 [.ref 3, .int p1] σ 2 12 (tX (fun v => .inl (some (.int v)))) (f_X10_tick σ p1) := by
  refine rF_of (ls := [some (.ref 3), some (.int p1), none]) yfX10_tick rfl (Nat.le_of_ble_eq_true rfl) (fun o τ => ?_)
  unfold f_X10_tick
  refine P_l (fun hJ _ _ q => E_iload_n dX10_tick_0 rfl (E_iconst (v := 1) dX10_tick_1 (by decide) (E_sipush (v := 999) dX10_tick_2 (by decide) (E_callS (as := [.int p1, .int 1, .int 999]) (st := []) (ok_within (σ := σ) (v := p1) (a := 1) (b := 999)) (by decide) yfX10_within mlX10_74 stX10_within rfl (Nat.le_of_ble_eq_true rfl) rfl dX10_tick_5 q)))) ?_
  refine P_if (fun hJ _ _ h1 h2 => E_if_ne 19 dX10_tick_8 (by decide) h2 h1) ?_ ?_
  · skip
    exact P_thr (fun kc ks => xt_IllegalArgumentException (M := mX10_tick) (pc := 11) rfl rfl (by decide) (Nat.le_of_ble_eq_true rfl) dX10_tick_11 dX10_tick_14 dX10_tick_15 dX10_tick_18 kc ks) (by decide) (by decide)
  · skip
    refine P_l (fun hJ _ _ q => E_aload_n dX10_tick_19 rfl q) ?_
    refine P_callx (t2 := fun _ => none) (st2 := fun _ => []) (kc2 := 1) (ks2 := 6) (fun hJ => (ok_X10_needRound (σ := σ)  )) (fun hJ _ _ _ _ v τ1 hM q => E_callV (as := []) (b := 3) (st := []) hM (by decide) yfX10_needRound mlX10_183 imX10_needRound seX10_needRound clX10 (kd3 hJ.1.1) rfl (Nat.le_of_ble_eq_true rfl) rfl dX10_tick_20 q) (fun hJ _ _ _ _ E τ1 hM => E_callVx (τ := τ1) (as := []) (b := 3) (st := []) hM (by decide) yfX10_needRound mlX10_183 imX10_needRound seX10_needRound clX10 (kd3 hJ.1.1) rfl (Nat.le_of_ble_eq_true rfl) rfl dX10_tick_20 rfl) (by decide) (by decide) (fun v1 σ2 => ?_)
    refine P_l (fun hJ _ _ q => E_iconst (v := 0) dX10_tick_23 (by decide) (E_aload_n dX10_tick_24 rfl (E_getR (b := 19) clX10 3 (by decide) flX10_29 (Or.inl ⟨_, rfl⟩) dX10_tick_25 (kd3 hJ.1.1) (rf3_3 hJ.1.1) (by decide) (E_getRN (b := 23) clX6 4 (by decide) flX10_189 (Or.inr ⟨_, rfl⟩) dX10_tick_28 (kd19 hJ.1.1) (rf19_4 hJ.1.1) (by decide) (E_aload_n dX10_tick_31 rfl (E_getI clX10 8 (by decide) flX10_61 (Or.inl rfl) dX10_tick_32 (kd3 hJ.1.1) (E_callS (as := [.ref 23, .int (rI σ2 3 8)]) (st := [.int 0]) (ok_at (σ := σ2) (a := 23) (i := rI σ2 3 8) (f := rI σ2 23) (kd23 hJ.1.1) (by decide) rfl) (by decide) yfX10_at mlX10_193 stX10_at rfl (Nat.le_of_ble_eq_true rfl) rfl dX10_tick_35 (E_iload_n dX10_tick_38 rfl (E_isub dX10_tick_39 (E_mmax mlX10_197 (by decide) (Nat.le_of_ble_eq_true rfl) dX10_tick_40 (E_istore_n (ls2 := [some (.ref 3), some (.int p1), some (.int (if 0 < (vAt (rI σ2 23) 4 (rI σ2 3 8)) - p1 then (vAt (rI σ2 23) 4 (rI σ2 3 8)) - p1 else 0))]) dX10_tick_43 (by decide) rfl q))))))))))) ?_
    refine P_v (if 0 < (vAt (rI σ2 23) 4 (rI σ2 3 8)) - p1 then (vAt (rI σ2 23) 4 (rI σ2 3 8)) - p1 else 0) (fun x => [some (.ref 3), some (.int p1), some (.int x)]) (fun x3 => ?_)
    refine P_l (fun hJ _ _ q => E_aload_n dX10_tick_44 rfl (E_getR (b := 19) clX10 3 (by decide) flX10_29 (Or.inl ⟨_, rfl⟩) dX10_tick_45 (kd3 hJ.1.1) (rf3_3 hJ.1.1) (by decide) (E_getRN (b := 23) clX6 4 (by decide) flX10_189 (Or.inr ⟨_, rfl⟩) dX10_tick_48 (kd19 hJ.1.1) (rf19_4 hJ.1.1) (by decide) (E_aload_n dX10_tick_51 rfl (E_getI clX10 8 (by decide) flX10_61 (Or.inl rfl) dX10_tick_52 (kd3 hJ.1.1) (E_iload_n dX10_tick_55 rfl q)))))) ?_
    refine P_w (fun hJ _ _ q => E_callS (as := [.ref 23, .int (rI σ2 3 8), .int x3]) (st := []) (ok_set (σ := σ2) (a := 23) (i := rI σ2 3 8) (x := x3) (f := rI σ2 23) (kd23 hJ.1.1) (by decide) (by decide) rfl) (by decide) yfX10_set mlX10_202 stX10_set rfl (Nat.le_of_ble_eq_true rfl) rfl dX10_tick_56 q) (fun hJ => Sy_rowI hJ.1) rfl rfl rfl (fun σ4 hσ4 => ?_)
    refine P_l (fun hJ _ _ q => E_iload_n dX10_tick_59 rfl q) ?_
    refine P_if (fun hJ _ _ h1 h2 => E_if_ne 70 dX10_tick_60 (by decide) h2 h1) ?_ ?_
    · skip
      refine P_l (fun hJ _ _ q => E_aload_n dX10_tick_63 rfl (E_bipush (v := 7) dX10_tick_64 (by decide) q)) ?_
      refine P_call (t := fun v => some (.int v)) (st2 := fun v => .int v :: []) (kc2 := 1) (ks2 := 6) (fun hJ => (ok_X10_endByDrawing (σ := σ4) (p1 := 7) )) (fun hJ _ _ _ _ v τ1 hM q => E_callV (as := [.int 7]) (b := 3) (st := []) hM (by decide) yfX10_endByDrawing mlX10_186 imX10_endByDrawing seX10_endByDrawing clX10 (kd3 hJ.1.1) rfl (Nat.le_of_ble_eq_true rfl) rfl dX10_tick_66 q) (by decide) (by decide) (fun v5 σ6 => ?_)
      refine P_l (fun hJ _ _ q => E_pop dX10_tick_69 rfl (E_iload_n dX10_tick_70 rfl q)) ?_
      exact P_ret (fun _ _ => E_iret rfl dX10_tick_71)
    · skip
      refine P_l (fun hJ _ _ q => E_iload_n dX10_tick_70 rfl q) ?_
      exact P_ret (fun _ _ => E_iret rfl dX10_tick_71)

def b_X10_autoBlocking_7 (v1 : Int64) (σ2 : rS) (s3 : Int32) : Option ((Int32 × rS) ⊕ (Int32)) := if 52 ≤ s3 then (oB (f_X10_endByDrawing σ2 6) fun v4 σ5 => some (.inl ((0, σ5)))) else (if (if (vBit v1 s3) = 0 then true else (if (v_X10_mayLay σ2 s3) = 0 then true else false)) = true then (some (.inr (s3 + 1))) else (oB (f_X10_layTile σ2 s3) fun _ σ7 => oB (f_X10_endByLaying σ7) fun _ σ9 => some (.inl ((1, σ9)))))
def f_X10_autoBlocking (σ : rS) : Option (Int32 × rS) := oB (f_X10_findAlone σ) fun v1 σ2 => oLoop (b_X10_autoBlocking_7 v1 σ2) oFuel 0
set_option maxRecDepth 20000 in
set_option maxHeartbeats 2000000 in
theorem ok_X10_autoBlocking {σ : rS}   : rFn Sy yX10_autoBlocking mX10_autoBlocking 7 [.ref 3] σ 0 0 (fun v => .inl (some (.int v))) (f_X10_autoBlocking σ) := by
  refine rF_of (ls := [some (.ref 3), none, none, none]) yfX10_autoBlocking rfl (Nat.le_of_ble_eq_true rfl) (fun o τ => ?_)
  unfold f_X10_autoBlocking
  refine P_l (fun hJ _ _ q => E_aload_n dX10_autoBlocking_0 rfl q) ?_
  refine P_call (t := fun v => some (.long v)) (st2 := fun v => .long v :: []) (kc2 := 0) (ks2 := 0) (fun hJ => (ok_X10_findAlone (σ := σ)  )) (fun hJ _ _ _ _ v τ1 hM q => E_callV (as := []) (b := 3) (st := []) hM (by decide) yfX10_findAlone mlX10_290 imX10_findAlone seX10_findAlone clX10 (kd3 hJ.1.1) rfl (Nat.le_of_ble_eq_true rfl) rfl dX10_autoBlocking_1 q) (by decide) (by decide) (fun v1 σ2 => ?_)
  refine P_l (fun hJ _ _ q => E_lstore_n (ls2 := [some (.ref 3), some (.long v1), none, none]) dX10_autoBlocking_4 (by decide) rfl (E_iconst (v := 0) dX10_autoBlocking_5 (by decide) (E_istore_n (ls2 := [some (.ref 3), some (.long v1), none, some (.int 0)]) dX10_autoBlocking_6 (by decide) rfl q))) ?_
  refine P_loop (fun s3 => [some (.ref 3), some (.long v1), none, some (.int s3)]) (fun _ => σ2) (fun s3 => ?_) _ 0
  unfold b_X10_autoBlocking_7
  refine P_l (fun hJ _ _ q => E_iload_n dX10_autoBlocking_7 rfl (E_bipush (v := 52) dX10_autoBlocking_8 (by decide) q)) ?_
  refine P_if (fun hJ _ _ h1 h2 => E_icmp_ge 46 dX10_autoBlocking_10 (by decide) h1 h2) ?_ ?_
  · skip
    refine P_l (fun hJ _ _ q => E_aload_n dX10_autoBlocking_46 rfl (E_bipush (v := 6) dX10_autoBlocking_47 (by decide) q)) ?_
    refine P_call (t := fun v => some (.int v)) (st2 := fun v => .int v :: []) (kc2 := 0) (ks2 := 0) (fun hJ => (ok_X10_endByDrawing (σ := σ2) (p1 := 6) )) (fun hJ _ _ _ _ v τ1 hM q => E_callV (as := [.int 6]) (b := 3) (st := []) hM (by decide) yfX10_endByDrawing mlX10_186 imX10_endByDrawing seX10_endByDrawing clX10 (kd3 hJ.1.1) rfl (Nat.le_of_ble_eq_true rfl) rfl dX10_autoBlocking_49 q) (by decide) (by decide) (fun v4 σ5 => ?_)
    refine P_l (fun hJ _ _ q => E_pop dX10_autoBlocking_52 rfl (E_iconst (v := 0) dX10_autoBlocking_53 (by decide) q)) ?_
    exact P_inl (P_ret (fun _ _ => E_iret rfl dX10_autoBlocking_54))
  · skip
    refine P_l (fun hJ _ _ q => E_lload_n dX10_autoBlocking_13 rfl (E_iload_n dX10_autoBlocking_14 rfl (E_callS (as := [.long v1, .int s3]) (st := []) (ok_isIn (σ := σ2) (s := v1) (k := s3)) (by decide) yfX10_isIn mlX10_294 stX10_isIn rfl (Nat.le_of_ble_eq_true rfl) rfl dX10_autoBlocking_15 q))) ?_
    refine P_if (c := (if (vBit v1 s3) = 0 then true else (if (v_X10_mayLay σ2 s3) = 0 then true else false)) = true) (pc1 := 40) (ls1 := [some (.ref 3), some (.long v1), none, some (.int s3)]) (st1 := []) (pc2 := 29) (ls2 := [some (.ref 3), some (.long v1), none, some (.int s3)]) (st2 := []) (fun hJ _ _ hX hY => ?_) ?_ ?_
    · skip
      refine E_if_eq 40 dX10_autoBlocking_18 (by decide) (fun c_18_0 => ?_) (fun c_18_0 => ?_)
      · skip
        exact hX (by simp only [if_pos c_18_0])
      · skip
        refine E_aload_n dX10_autoBlocking_21 rfl ?_
        refine E_iload_n dX10_autoBlocking_22 rfl ?_
        refine E_callV (as := [.int s3]) (b := 3) (st := []) (ok_X10_mayLay (σ := σ2) (p1 := s3) hJ ) (by decide) yfX10_mayLay mlX10_139 imX10_mayLay seX10_mayLay clX10 (kd3 hJ.1.1) rfl (Nat.le_of_ble_eq_true rfl) rfl dX10_autoBlocking_23 ?_
        refine E_if_eq 40 dX10_autoBlocking_26 (by decide) (fun c_26_1 => ?_) (fun c_26_1 => ?_)
        · skip
          exact hX (by simp only [if_neg c_18_0, if_pos c_26_1])
        · skip
          exact hY (by simp only [if_neg c_18_0, if_neg c_26_1]; exact Bool.false_ne_true)
    · skip
      refine P_l (fun hJ _ _ q => E_iinc (v := 1) (ls2 := [some (.ref 3), some (.long v1), none, some (.int (s3 + 1))]) dX10_autoBlocking_40 rfl (by decide) (by decide) rfl (E_goto 7 dX10_autoBlocking_43 (by decide) q)) ?_
      exact P_back (s3 + 1)
    · skip
      refine P_l (fun hJ _ _ q => E_aload_n dX10_autoBlocking_29 rfl (E_iload_n dX10_autoBlocking_30 rfl q)) ?_
      refine P_call (t := fun _ => none) (st2 := fun _ => []) (kc2 := 0) (ks2 := 0) (fun hJ => (ok_X10_layTile (σ := σ2) (p1 := s3) )) (fun hJ _ _ _ _ v τ1 hM q => E_callV (as := [.int s3]) (b := 3) (st := []) hM (by decide) yfX10_layTile mlX10_143 imX10_layTile seX10_layTile clX10 (kd3 hJ.1.1) rfl (Nat.le_of_ble_eq_true rfl) rfl dX10_autoBlocking_31 q) (by decide) (by decide) (fun v6 σ7 => ?_)
      refine P_l (fun hJ _ _ q => E_aload_n dX10_autoBlocking_34 rfl q) ?_
      refine P_call (t := fun _ => none) (st2 := fun _ => []) (kc2 := 0) (ks2 := 0) (fun hJ => (ok_X10_endByLaying (σ := σ7)  )) (fun hJ _ _ _ _ v τ1 hM q => E_callV (as := []) (b := 3) (st := []) hM (by decide) yfX10_endByLaying mlX10_180 imX10_endByLaying seX10_endByLaying clX10 (kd3 hJ.1.1) rfl (Nat.le_of_ble_eq_true rfl) rfl dX10_autoBlocking_35 q) (by decide) (by decide) (fun v8 σ9 => ?_)
      refine P_l (fun hJ _ _ q => E_iconst (v := 1) dX10_autoBlocking_38 (by decide) q) ?_
      exact P_inl (P_ret (fun _ _ => E_iret rfl dX10_autoBlocking_39))

def b_X10_findPlan_44 (σ : rS) (p1 : Int32) (s5 : Int32 × rS) : Option (((Unit × rS) ⊕ (rS)) ⊕ (Int32 × rS)) := if 52 ≤ s5.1 then (some (.inl (.inr s5.2))) else (oB (f_X9_add s5.2 s5.1 ((if (v_X10_hasMelded σ p1) = 0 then 0 else (v_X1_lies s5.2 5 s5.1) : Int32))) fun _ σ7 => oB (f_X9_allow σ7 s5.1 (if 2 - (v_X1_lies s5.2 5 s5.1) < v_X1_rackOf σ7 5 p1 s5.1 then 2 - (v_X1_lies s5.2 5 s5.1) else v_X1_rackOf σ7 5 p1 s5.1)) fun _ σ9 => some (.inr ((s5.1 + 1, σ9))))
def f_X10_findPlan (σ : rS) (p1 : Int32) : Option (Unit × rS) := if (if (rI σ 65 1) = p1 then (if (rI σ 65 2) = (rI σ 5 12) then false else true) else true) = true then (oB (f_X9_clear σ) fun _ σ2 => oJoin (oLoop (b_X10_findPlan_44 σ p1) oFuel ((0, σ2))) fun j4 => oLet (wI j4 37 18 ((if (v_X10_hasMelded σ p1) = 0 then 1 else 0 : Int32))) fun σ10 => oB (f_X9_go σ10 4 ((rI σ10 4 0) + 1)) fun v11 σ12 => oLet (wI σ12 65 3 ((if v11 ≤ 0 then 0 else 1 : Int32))) fun σ13 => oLet (wI σ13 65 1 p1) fun σ14 => oLet (wI σ14 65 2 (rI σ14 5 12)) fun σ15 => if inB 0 ((rK σ15 (rR σ15 (rR σ15 37 5) 0)).2) then (oB (f_X4_unpack σ15 (rL σ15 (rR σ15 (rR σ15 37 5) 1) (0 : Int32).toNatClampNeg) (rL σ15 (rR σ15 (rR σ15 37 5) 2) (0 : Int32).toNatClampNeg)) fun _ σ18 => some (((), σ18))) else none) else (some (((), σ)))
set_option maxRecDepth 20000 in
set_option maxHeartbeats 2000000 in
theorem ok_X10_findPlan {σ : rS} {p1 : Int32}   : rFn Sy yX10_findPlan mX10_findPlan 5 [.ref 3, .int p1] σ 0 0 (fun _ => .inl none) (f_X10_findPlan σ p1) := by
  refine rF_of (ls := [some (.ref 3), some (.int p1), none, none, none]) yfX10_findPlan rfl (Nat.le_of_ble_eq_true rfl) (fun o τ => ?_)
  unfold f_X10_findPlan
  refine P_l (fun hJ _ _ q => E_aload_n dX10_findPlan_0 rfl (E_getR (b := 65) clX10 7 (by decide) flX10_57 (Or.inl ⟨_, rfl⟩) dX10_findPlan_1 (kd3 hJ.1.1) (rf3_7 hJ.1.1) (by decide) (E_getIN clX4 1 (by decide) flX10_480 (Or.inl rfl) dX10_findPlan_4 (kd65 hJ.1.1) (E_iload_n dX10_findPlan_7 rfl q)))) ?_
  refine P_if (c := (if (rI σ 65 1) = p1 then (if (rI σ 65 2) = (rI σ 5 12) then false else true) else true) = true) (pc1 := 29) (ls1 := [some (.ref 3), some (.int p1), none, none, none]) (st1 := []) (pc2 := 28) (ls2 := [some (.ref 3), some (.int p1), none, none, none]) (st2 := []) (fun hJ _ _ hX hY => ?_) ?_ ?_
  · skip
    refine E_icmp_ne 29 dX10_findPlan_8 (by decide) (fun c_8_0 => ?_) (fun c_8_0 => ?_)
    · skip
      exact hX (by simp only [if_neg c_8_0])
    · skip
      refine E_aload_n dX10_findPlan_11 rfl ?_
      refine E_getR (b := 65) clX10 7 (by decide) flX10_57 (Or.inl ⟨_, rfl⟩) dX10_findPlan_12 (kd3 hJ.1.1) (rf3_7 hJ.1.1) (by decide) ?_
      refine E_getIN clX4 2 (by decide) flX10_483 (Or.inl rfl) dX10_findPlan_15 (kd65 hJ.1.1) ?_
      refine E_aload_n dX10_findPlan_18 rfl ?_
      refine E_getR (b := 5) clX10 1 (by decide) flX10_19 (Or.inl ⟨_, rfl⟩) dX10_findPlan_19 (kd3 hJ.1.1) (rf3_1 hJ.1.1) (by decide) ?_
      refine E_getIN clX1 12 (by decide) flX10_460 (Or.inl rfl) dX10_findPlan_22 (kd5 hJ.1.1) ?_
      refine E_icmp_ne 29 dX10_findPlan_25 (by decide) (fun c_25_1 => ?_) (fun c_25_1 => ?_)
      · skip
        exact hX (by simp only [if_pos c_8_0, if_neg c_25_1])
      · skip
        exact hY (by simp only [if_pos c_8_0, if_pos c_25_1]; exact Bool.false_ne_true)
  · skip
    refine P_l (fun hJ _ _ q => E_aload_n dX10_findPlan_29 rfl (E_iload_n dX10_findPlan_30 rfl (E_callV (as := [.int p1]) (b := 3) (st := []) (ok_X10_hasMelded (σ := σ) (p1 := p1) hJ ) (by decide) yfX10_hasMelded mlX10_209 imX10_hasMelded seX10_hasMelded clX10 (kd3 hJ.1.1) rfl (Nat.le_of_ble_eq_true rfl) rfl dX10_findPlan_31 (E_istore_n (ls2 := [some (.ref 3), some (.int p1), some (.int (v_X10_hasMelded σ p1)), none, none]) dX10_findPlan_34 (by decide) rfl (E_aload_n dX10_findPlan_35 rfl (E_getR (b := 37) clX10 6 (by decide) flX10_50 (Or.inl ⟨_, rfl⟩) dX10_findPlan_36 (kd3 hJ.1.1) (rf3_6 hJ.1.1) (by decide) q)))))) ?_
    refine P_call (t := fun _ => none) (st2 := fun _ => []) (kc2 := 0) (ks2 := 0) (fun hJ => (ok_X9_clear (σ := σ)  )) (fun hJ _ _ _ _ v τ1 hM q => E_callVN (as := []) (b := 37) (st := []) hM (by decide) yfX9_clear mlX10_454 imX9_clear seX9_clear clX9 (kd37 hJ.1.1) rfl (Nat.le_of_ble_eq_true rfl) rfl dX10_findPlan_39 q) (by decide) (by decide) (fun v1 σ2 => ?_)
    refine P_l (fun hJ _ _ q => E_iconst (v := 0) dX10_findPlan_42 (by decide) (E_istore_n (ls2 := [some (.ref 3), some (.int p1), some (.int (v_X10_hasMelded σ p1)), some (.int 0), none]) dX10_findPlan_43 (by decide) rfl q)) ?_
    refine P_join (pc2 := 108) (fun j4 => [some (.ref 3), some (.int p1), some (.int (v_X10_hasMelded σ p1)), none, none]) (fun j4 => []) (fun j4 => j4) ?_ (fun j4 => ?_)
    · skip
      refine P_loop (fun s5 => [some (.ref 3), some (.int p1), some (.int (v_X10_hasMelded σ p1)), some (.int s5.1), none]) (fun s5 => s5.2) (fun s5 => ?_) _ ((0, σ2))
      unfold b_X10_findPlan_44
      refine P_l (fun hJ _ _ q => E_iload_n dX10_findPlan_44 rfl (E_bipush (v := 52) dX10_findPlan_45 (by decide) q)) ?_
      refine P_if (fun hJ _ _ h1 h2 => E_icmp_ge 108 dX10_findPlan_47 (by decide) h1 h2) ?_ ?_
      · skip
        refine P_less [some (.ref 3), some (.int p1), some (.int (v_X10_hasMelded σ p1)), none, none] (And.intro rfl (And.intro rfl (And.intro rfl trivial))) ?_
        exact P_inl (P_back s5.2)
      · skip
        refine P_l (fun hJ _ _ q => E_aload_n dX10_findPlan_50 rfl (E_getR (b := 5) clX10 1 (by decide) flX10_19 (Or.inl ⟨_, rfl⟩) dX10_findPlan_51 (kd3 hJ.1.1) (rf3_1 hJ.1.1) (by decide) (E_iload_n dX10_findPlan_54 rfl (E_callVN (as := [.int s5.1]) (b := 5) (st := []) (ok_X1_lies (σ := s5.2) (b := 5) (k := s5.1) hJ (Or.inl rfl)) (by decide) yfX1_lies mlX10_146 imX1_lies seX1_lies clX1 (kd5 hJ.1.1) rfl (Nat.le_of_ble_eq_true rfl) rfl dX10_findPlan_55 (E_istore (ls2 := [some (.ref 3), some (.int p1), some (.int (v_X10_hasMelded σ p1)), some (.int s5.1), some (.int (v_X1_lies s5.2 5 s5.1))]) dX10_findPlan_58 (by decide) rfl (E_aload_n dX10_findPlan_60 rfl (E_getR (b := 37) clX10 6 (by decide) flX10_50 (Or.inl ⟨_, rfl⟩) dX10_findPlan_61 (kd3 hJ.1.1) (rf3_6 hJ.1.1) (by decide) (E_iload_n dX10_findPlan_64 rfl (E_iload_n dX10_findPlan_65 rfl q))))))))) ?_
        refine P_l (pc2 := 75) (ls2 := [some (.ref 3), some (.int p1), some (.int (v_X10_hasMelded σ p1)), some (.int s5.1), some (.int (v_X1_lies s5.2 5 s5.1))]) (st2 := [.int ((if (v_X10_hasMelded σ p1) = 0 then 0 else (v_X1_lies s5.2 5 s5.1) : Int32)), .int s5.1, .ref 37]) (fun hJ _ _ hq => ?_) ?_
        · skip
          refine E_if_eq 74 dX10_findPlan_66 (by decide) (fun c_66_0 => ?_) (fun c_66_0 => ?_)
          · skip
            refine E_iconst (v := 0) dX10_findPlan_74 (by decide) ?_
            simp only [if_pos c_66_0] at hq
            exact hq
          · skip
            refine E_iload dX10_findPlan_69 rfl ?_
            refine E_goto 75 dX10_findPlan_71 (by decide) ?_
            simp only [if_neg c_66_0] at hq
            exact hq
        · skip
          refine P_call (t := fun _ => none) (st2 := fun _ => []) (kc2 := 0) (ks2 := 0) (fun hJ => (ok_X9_add (σ := s5.2) (p1 := s5.1) (p2 := (if (v_X10_hasMelded σ p1) = 0 then 0 else (v_X1_lies s5.2 5 s5.1) : Int32)) )) (fun hJ _ _ _ _ v τ1 hM q => E_callVN (as := [.int s5.1, .int ((if (v_X10_hasMelded σ p1) = 0 then 0 else (v_X1_lies s5.2 5 s5.1) : Int32))]) (b := 37) (st := []) hM (by decide) yfX9_add mlX10_455 imX9_add seX9_add clX9 (kd37 hJ.1.1) rfl (Nat.le_of_ble_eq_true rfl) rfl dX10_findPlan_75 q) (by decide) (by decide) (fun v6 σ7 => ?_)
          refine P_l (fun hJ _ _ q => E_aload_n dX10_findPlan_78 rfl (E_getR (b := 37) clX10 6 (by decide) flX10_50 (Or.inl ⟨_, rfl⟩) dX10_findPlan_79 (kd3 hJ.1.1) (rf3_6 hJ.1.1) (by decide) (E_iload_n dX10_findPlan_82 rfl (E_aload_n dX10_findPlan_83 rfl (E_getR (b := 5) clX10 1 (by decide) flX10_19 (Or.inl ⟨_, rfl⟩) dX10_findPlan_84 (kd3 hJ.1.1) (rf3_1 hJ.1.1) (by decide) (E_iload_n dX10_findPlan_87 rfl (E_iload_n dX10_findPlan_88 rfl (E_callVN (as := [.int p1, .int s5.1]) (b := 5) (st := [.int s5.1, .ref 37]) (ok_X1_rackOf (σ := σ7) (b := 5) (p := p1) (k := s5.1) hJ (Or.inl rfl)) (by decide) yfX1_rackOf mlX10_333 imX1_rackOf seX1_rackOf clX1 (kd5 hJ.1.1) rfl (Nat.le_of_ble_eq_true rfl) rfl dX10_findPlan_89 (E_iconst (v := 2) dX10_findPlan_92 (by decide) (E_iload dX10_findPlan_93 rfl (E_isub dX10_findPlan_95 (E_mmin mlX10_311 (by decide) (Nat.le_of_ble_eq_true rfl) dX10_findPlan_96 q)))))))))))) ?_
          refine P_call (t := fun _ => none) (st2 := fun _ => []) (kc2 := 0) (ks2 := 0) (fun hJ => (ok_X9_allow (σ := σ7) (p1 := s5.1) (p2 := if 2 - (v_X1_lies s5.2 5 s5.1) < v_X1_rackOf σ7 5 p1 s5.1 then 2 - (v_X1_lies s5.2 5 s5.1) else v_X1_rackOf σ7 5 p1 s5.1) )) (fun hJ _ _ _ _ v τ1 hM q => E_callVN (as := [.int s5.1, .int (if 2 - (v_X1_lies s5.2 5 s5.1) < v_X1_rackOf σ7 5 p1 s5.1 then 2 - (v_X1_lies s5.2 5 s5.1) else v_X1_rackOf σ7 5 p1 s5.1)]) (b := 37) (st := []) hM (by decide) yfX9_allow mlX10_486 imX9_allow seX9_allow clX9 (kd37 hJ.1.1) rfl (Nat.le_of_ble_eq_true rfl) rfl dX10_findPlan_99 q) (by decide) (by decide) (fun v8 σ9 => ?_)
          refine P_l (fun hJ _ _ q => E_iinc (v := 1) (ls2 := [some (.ref 3), some (.int p1), some (.int (v_X10_hasMelded σ p1)), some (.int (s5.1 + 1)), some (.int (v_X1_lies s5.2 5 s5.1))]) dX10_findPlan_102 rfl (by decide) (by decide) rfl (E_goto 44 dX10_findPlan_105 (by decide) q)) ?_
          refine P_less [some (.ref 3), some (.int p1), some (.int (v_X10_hasMelded σ p1)), some (.int (s5.1 + 1)), none] (And.intro rfl (And.intro rfl (And.intro rfl (And.intro rfl trivial)))) ?_
          exact P_back ((s5.1 + 1, σ9))
    · skip
      refine P_l (fun hJ _ _ q => E_aload_n dX10_findPlan_108 rfl (E_getR (b := 37) clX10 6 (by decide) flX10_50 (Or.inl ⟨_, rfl⟩) dX10_findPlan_109 (kd3 hJ.1.1) (rf3_6 hJ.1.1) (by decide) (E_iload_n dX10_findPlan_112 rfl q))) ?_
      refine P_l (pc2 := 121) (ls2 := [some (.ref 3), some (.int p1), none, none, none]) (st2 := [.int ((if (v_X10_hasMelded σ p1) = 0 then 1 else 0 : Int32)), .ref 37]) (fun hJ _ _ hq => ?_) ?_
      · skip
        refine E_if_ne 120 dX10_findPlan_113 (by decide) (fun c_113_0 => ?_) (fun c_113_0 => ?_)
        · skip
          refine E_iconst (v := 0) dX10_findPlan_120 (by decide) ?_
          simp only [if_neg c_113_0] at hq
          exact E_less (ls2 := [some (.ref 3), some (.int p1), none, none, none]) hq (rLe_at [some (.ref 3), some (.int p1), none, none, none] [some (.ref 3), some (.int p1), some (.int (v_X10_hasMelded σ p1)), none, none] (And.intro rfl (And.intro rfl trivial)))
        · skip
          refine E_iconst (v := 1) dX10_findPlan_116 (by decide) ?_
          refine E_goto 121 dX10_findPlan_117 (by decide) ?_
          simp only [if_pos c_113_0] at hq
          exact E_less (ls2 := [some (.ref 3), some (.int p1), none, none, none]) hq (rLe_at [some (.ref 3), some (.int p1), none, none, none] [some (.ref 3), some (.int p1), some (.int (v_X10_hasMelded σ p1)), none, none] (And.intro rfl (And.intro rfl trivial)))
      · skip
        refine P_w (fun hJ _ _ q => E_putIN clX9 18 (by decide) flX10_489 (Or.inr ⟨rfl, (by split <;> decide)⟩) rfl dX10_findPlan_121 (kd37 hJ.1.1) q) (fun hJ => Sy_wI hJ.1) rfl rfl rfl (fun σ10 hσ10 => ?_)
        refine P_l (fun hJ _ _ q => E_aload_n dX10_findPlan_124 rfl (E_getR (b := 65) clX10 7 (by decide) flX10_57 (Or.inl ⟨_, rfl⟩) dX10_findPlan_125 (kd3 hJ.1.1) (rf3_7 hJ.1.1) (by decide) (E_aload_n dX10_findPlan_128 rfl (E_getR (b := 37) clX10 6 (by decide) flX10_50 (Or.inl ⟨_, rfl⟩) dX10_findPlan_129 (kd3 hJ.1.1) (rf3_6 hJ.1.1) (by decide) (E_aload_n dX10_findPlan_132 rfl (E_getR (b := 4) clX10 0 (by decide) flX10_12 (Or.inl ⟨_, rfl⟩) dX10_findPlan_133 (kd3 hJ.1.1) (rf3_0 hJ.1.1) (by decide) (E_iconst (v := 4) dX10_findPlan_136 (by decide) (E_aload_n dX10_findPlan_137 rfl (E_getR (b := 4) clX10 0 (by decide) flX10_12 (Or.inl ⟨_, rfl⟩) dX10_findPlan_138 (kd3 hJ.1.1) (rf3_0 hJ.1.1) (by decide) (E_getIN clX5 0 (by decide) flX10_88 (Or.inl rfl) dX10_findPlan_141 (kd4 hJ.1.1) (E_iconst (v := 1) dX10_findPlan_144 (by decide) (E_iadd dX10_findPlan_145 q)))))))))))) ?_
        refine P_call (t := fun v => some (.int v)) (st2 := fun v => .int v :: [.ref 65]) (kc2 := 0) (ks2 := 0) (fun hJ => (ok_X9_go (σ := σ10) (p2 := 4) (p3 := (rI σ10 4 0) + 1) )) (fun hJ _ _ _ _ v τ1 hM q => E_callVN (as := [.ref 4, .int 4, .int ((rI σ10 4 0) + 1)]) (b := 37) (st := [.ref 65]) hM (by decide) yfX9_go mlX10_245 imX9_go seX9_go clX9 (kd37 hJ.1.1) rfl (Nat.le_of_ble_eq_true rfl) rfl dX10_findPlan_146 q) (by decide) (by decide) (fun v11 σ12 => ?_)
        refine P_l (pc2 := 157) (ls2 := [some (.ref 3), some (.int p1), none, none, none]) (st2 := [.int ((if v11 ≤ 0 then 0 else 1 : Int32)), .ref 65]) (fun hJ _ _ hq => ?_) ?_
        · skip
          refine E_if_le 156 dX10_findPlan_149 (by decide) (fun c_149_0 => ?_) (fun c_149_0 => ?_)
          · skip
            refine E_iconst (v := 0) dX10_findPlan_156 (by decide) ?_
            simp only [if_pos c_149_0] at hq
            exact hq
          · skip
            refine E_iconst (v := 1) dX10_findPlan_152 (by decide) ?_
            refine E_goto 157 dX10_findPlan_153 (by decide) ?_
            simp only [if_neg c_149_0] at hq
            exact hq
        · skip
          refine P_w (fun hJ _ _ q => E_putIN clX4 3 (by decide) flX10_279 (Or.inr ⟨rfl, (by split <;> decide)⟩) rfl dX10_findPlan_157 (kd65 hJ.1.1) q) (fun hJ => Sy_wI hJ.1) rfl rfl rfl (fun σ13 hσ13 => ?_)
          refine P_l (fun hJ _ _ q => E_aload_n dX10_findPlan_160 rfl (E_getR (b := 65) clX10 7 (by decide) flX10_57 (Or.inl ⟨_, rfl⟩) dX10_findPlan_161 (kd3 hJ.1.1) (rf3_7 hJ.1.1) (by decide) (E_iload_n dX10_findPlan_164 rfl q))) ?_
          refine P_w (fun hJ _ _ q => E_putIN clX4 1 (by decide) flX10_480 (Or.inl rfl) rfl dX10_findPlan_165 (kd65 hJ.1.1) q) (fun hJ => Sy_wI hJ.1) rfl rfl rfl (fun σ14 hσ14 => ?_)
          refine P_l (fun hJ _ _ q => E_aload_n dX10_findPlan_168 rfl (E_getR (b := 65) clX10 7 (by decide) flX10_57 (Or.inl ⟨_, rfl⟩) dX10_findPlan_169 (kd3 hJ.1.1) (rf3_7 hJ.1.1) (by decide) (E_aload_n dX10_findPlan_172 rfl (E_getR (b := 5) clX10 1 (by decide) flX10_19 (Or.inl ⟨_, rfl⟩) dX10_findPlan_173 (kd3 hJ.1.1) (rf3_1 hJ.1.1) (by decide) (E_getIN clX1 12 (by decide) flX10_460 (Or.inl rfl) dX10_findPlan_176 (kd5 hJ.1.1) q))))) ?_
          refine P_w (fun hJ _ _ q => E_putIN clX4 2 (by decide) flX10_483 (Or.inl rfl) rfl dX10_findPlan_179 (kd65 hJ.1.1) q) (fun hJ => Sy_wI hJ.1) rfl rfl rfl (fun σ15 hσ15 => ?_)
          refine P_l (fun hJ _ _ q => E_aload_n dX10_findPlan_182 rfl (E_getR (b := 65) clX10 7 (by decide) flX10_57 (Or.inl ⟨_, rfl⟩) dX10_findPlan_183 (kd3 hJ.1.1) (rf3_7 hJ.1.1) (by decide) (E_aload_n dX10_findPlan_186 rfl (E_getR (b := 37) clX10 6 (by decide) flX10_50 (Or.inl ⟨_, rfl⟩) dX10_findPlan_187 (kd3 hJ.1.1) (rf3_6 hJ.1.1) (by decide) (E_getRN (b := rR σ15 37 5) clX9 5 (by decide) flX10_463 (Or.inl ⟨_, rfl⟩) dX10_findPlan_190 (kd37 hJ.1.1) rfl (Nat.pos_iff_ne_zero.mp (Nat.lt_of_lt_of_le (by decide : 0 < 3) (Sy_here hJ.1).2)) (E_getRN (b := rR σ15 (rR σ15 37 5) 1) clX3 1 (by decide) flX10_467 (Or.inr ⟨_, rfl⟩) dX10_findPlan_193 (Sy_here hJ.1).1 rfl (Nat.pos_iff_ne_zero.mp (Nat.lt_of_lt_of_le (by decide : 0 < 3) (Sy_here1 hJ.1).2)) (E_iconst (v := 0) dX10_findPlan_196 (by decide) q))))))) ?_
          refine P_g (fun g16 => ?_)
          refine P_l (fun hJ _ _ q => E_lald dX10_findPlan_197 (Sy_here1 hJ.1).1 (inB_vp g16) (E_aload_n dX10_findPlan_198 rfl (E_getR (b := 37) clX10 6 (by decide) flX10_50 (Or.inl ⟨_, rfl⟩) dX10_findPlan_199 (kd3 hJ.1.1) (rf3_6 hJ.1.1) (by decide) (E_getRN (b := rR σ15 37 5) clX9 5 (by decide) flX10_463 (Or.inl ⟨_, rfl⟩) dX10_findPlan_202 (kd37 hJ.1.1) rfl (Nat.pos_iff_ne_zero.mp (Nat.lt_of_lt_of_le (by decide : 0 < 3) (Sy_here hJ.1).2)) (E_getRN (b := rR σ15 (rR σ15 37 5) 2) clX3 2 (by decide) flX10_473 (Or.inr ⟨_, rfl⟩) dX10_findPlan_205 (Sy_here hJ.1).1 rfl (Nat.pos_iff_ne_zero.mp (Nat.lt_of_lt_of_le (by decide : 0 < 3) (Sy_here2 hJ.1).2)) (E_iconst (v := 0) dX10_findPlan_208 (by decide) (E_lald dX10_findPlan_209 (Sy_here2 hJ.1).1 (inB_vp g16) q))))))) ?_
          refine P_call (t := fun _ => none) (st2 := fun _ => []) (kc2 := 0) (ks2 := 0) (fun hJ => (ok_X4_unpack (σ := σ15) (p1 := rL σ15 (rR σ15 (rR σ15 37 5) 1) (0 : Int32).toNatClampNeg) (p2 := rL σ15 (rR σ15 (rR σ15 37 5) 2) (0 : Int32).toNatClampNeg) )) (fun hJ _ _ _ _ v τ1 hM q => E_callVN (as := [.long (rL σ15 (rR σ15 (rR σ15 37 5) 1) (0 : Int32).toNatClampNeg), .long (rL σ15 (rR σ15 (rR σ15 37 5) 2) (0 : Int32).toNatClampNeg)]) (b := 65) (st := []) hM (by decide) yfX4_unpack mlX10_492 imX4_unpack seX4_unpack clX4 (kd65 hJ.1.1) rfl (Nat.le_of_ble_eq_true rfl) rfl dX10_findPlan_210 q) (by decide) (by decide) (fun v17 σ18 => ?_)
          exact P_ret (fun _ _ => E_vret rfl dX10_findPlan_213)
  · skip
    exact P_ret (fun _ _ => E_vret rfl dX10_findPlan_28)

def v_X10_isPlanGood (σ : rS) (p1 : Int32) : Int32 := if (rI σ 65 3) = 0 then 0 else (if (rI σ 65 4) = 0 then 0 else (if (v_X10_hasMelded σ (rI σ 3 8)) = 0 then (if (rI σ 4 3) ≤ (rI σ 65 5) then (if p1 = 2 then (if 3 ≤ (rI σ 65 4) then 1 else (if (rI σ 65 4) = (v_X1_sizeOf σ 5 (rI σ 3 8)) then 1 else 0)) else 1) else 0) else (if p1 = 2 then (if 3 ≤ (rI σ 65 4) then 1 else (if (rI σ 65 4) = (v_X1_sizeOf σ 5 (rI σ 3 8)) then 1 else 0)) else 1)))
set_option maxRecDepth 20000 in
theorem ok_X10_isPlanGood {σ : rS} {p1 : Int32}  (hJ : J Sy σ)  : rMet yX10_isPlanGood mX10_isPlanGood 2 [.ref 3, .int p1] σ 0 0 (some (.int (v_X10_isPlanGood σ p1))) σ := by
  refine rMet_of (ls := [some (.ref 3), some (.int p1)]) yfX10_isPlanGood rfl (Nat.le_of_ble_eq_true rfl) ?_
  refine E_aload_n dX10_isPlanGood_0 rfl ?_
  refine E_getR (b := 65) clX10 7 (by decide) flX10_57 (Or.inl ⟨_, rfl⟩) dX10_isPlanGood_1 (kd3 hJ.1.1) (rf3_7 hJ.1.1) (by decide) ?_
  refine E_getIN clX4 3 (by decide) flX10_279 (Or.inr rfl) dX10_isPlanGood_4 (kd65 hJ.1.1) ?_
  refine E_if_eq 20 dX10_isPlanGood_7 (by decide) (fun c_7_0 => ?_) (fun c_7_0 => ?_)
  · skip
    refine E_iconst (v := 0) dX10_isPlanGood_20 (by decide) ?_
    exact E_zretE rfl dX10_isPlanGood_21 (by decide) (by unfold v_X10_isPlanGood; simp only [if_pos c_7_0]) rfl
  · skip
    refine E_aload_n dX10_isPlanGood_10 rfl ?_
    refine E_getR (b := 65) clX10 7 (by decide) flX10_57 (Or.inl ⟨_, rfl⟩) dX10_isPlanGood_11 (kd3 hJ.1.1) (rf3_7 hJ.1.1) (by decide) ?_
    refine E_getIN clX4 4 (by decide) flX10_283 (Or.inl rfl) dX10_isPlanGood_14 (kd65 hJ.1.1) ?_
    refine E_if_ne 22 dX10_isPlanGood_17 (by decide) (fun c_17_1 => ?_) (fun c_17_1 => ?_)
    · skip
      refine E_aload_n dX10_isPlanGood_22 rfl ?_
      refine E_aload_n dX10_isPlanGood_23 rfl ?_
      refine E_getI clX10 8 (by decide) flX10_61 (Or.inl rfl) dX10_isPlanGood_24 (kd3 hJ.1.1) ?_
      refine E_callV (as := [.int (rI σ 3 8)]) (b := 3) (st := []) (ok_X10_hasMelded (σ := σ) (p1 := rI σ 3 8) hJ ) (by decide) yfX10_hasMelded mlX10_209 imX10_hasMelded seX10_hasMelded clX10 (kd3 hJ.1.1) rfl (Nat.le_of_ble_eq_true rfl) rfl dX10_isPlanGood_27 ?_
      refine E_if_ne 52 dX10_isPlanGood_30 (by decide) (fun c_30_2 => ?_) (fun c_30_2 => ?_)
      · skip
        refine E_iload_n dX10_isPlanGood_52 rfl ?_
        refine E_iconst (v := 2) dX10_isPlanGood_53 (by decide) ?_
        refine E_icmp_ne 89 dX10_isPlanGood_54 (by decide) (fun c_54_3 => ?_) (fun c_54_3 => ?_)
        · skip
          refine E_iconst (v := 1) dX10_isPlanGood_89 (by decide) ?_
          refine E_goto 94 dX10_isPlanGood_90 (by decide) ?_
          exact E_zretE rfl dX10_isPlanGood_94 (by decide) (by unfold v_X10_isPlanGood; simp only [if_neg c_7_0, if_neg c_17_1, if_neg c_30_2, if_neg c_54_3]) rfl
        · skip
          refine E_aload_n dX10_isPlanGood_57 rfl ?_
          refine E_getR (b := 65) clX10 7 (by decide) flX10_57 (Or.inl ⟨_, rfl⟩) dX10_isPlanGood_58 (kd3 hJ.1.1) (rf3_7 hJ.1.1) (by decide) ?_
          refine E_getIN clX4 4 (by decide) flX10_283 (Or.inl rfl) dX10_isPlanGood_61 (kd65 hJ.1.1) ?_
          refine E_iconst (v := 3) dX10_isPlanGood_64 (by decide) ?_
          refine E_icmp_ge 89 dX10_isPlanGood_65 (by decide) (fun c_65_4 => ?_) (fun c_65_4 => ?_)
          · skip
            refine E_iconst (v := 1) dX10_isPlanGood_89 (by decide) ?_
            refine E_goto 94 dX10_isPlanGood_90 (by decide) ?_
            exact E_zretE rfl dX10_isPlanGood_94 (by decide) (by unfold v_X10_isPlanGood; simp only [if_neg c_7_0, if_neg c_17_1, if_neg c_30_2, if_pos c_54_3, if_pos c_65_4]) rfl
          · skip
            refine E_aload_n dX10_isPlanGood_68 rfl ?_
            refine E_getR (b := 65) clX10 7 (by decide) flX10_57 (Or.inl ⟨_, rfl⟩) dX10_isPlanGood_69 (kd3 hJ.1.1) (rf3_7 hJ.1.1) (by decide) ?_
            refine E_getIN clX4 4 (by decide) flX10_283 (Or.inl rfl) dX10_isPlanGood_72 (kd65 hJ.1.1) ?_
            refine E_aload_n dX10_isPlanGood_75 rfl ?_
            refine E_getR (b := 5) clX10 1 (by decide) flX10_19 (Or.inl ⟨_, rfl⟩) dX10_isPlanGood_76 (kd3 hJ.1.1) (rf3_1 hJ.1.1) (by decide) ?_
            refine E_aload_n dX10_isPlanGood_79 rfl ?_
            refine E_getI clX10 8 (by decide) flX10_61 (Or.inl rfl) dX10_isPlanGood_80 (kd3 hJ.1.1) ?_
            refine E_callVN (as := [.int (rI σ 3 8)]) (b := 5) (st := [.int (rI σ 65 4)]) (ok_X1_sizeOf (σ := σ) (b := 5) (p := rI σ 3 8) hJ (Or.inl rfl)) (by decide) yfX1_sizeOf mlX10_301 imX1_sizeOf seX1_sizeOf clX1 (kd5 hJ.1.1) rfl (Nat.le_of_ble_eq_true rfl) rfl dX10_isPlanGood_83 ?_
            refine E_icmp_ne 93 dX10_isPlanGood_86 (by decide) (fun c_86_5 => ?_) (fun c_86_5 => ?_)
            · skip
              refine E_iconst (v := 0) dX10_isPlanGood_93 (by decide) ?_
              exact E_zretE rfl dX10_isPlanGood_94 (by decide) (by unfold v_X10_isPlanGood; simp only [if_neg c_7_0, if_neg c_17_1, if_neg c_30_2, if_pos c_54_3, if_neg c_65_4, if_neg c_86_5]) rfl
            · skip
              refine E_iconst (v := 1) dX10_isPlanGood_89 (by decide) ?_
              refine E_goto 94 dX10_isPlanGood_90 (by decide) ?_
              exact E_zretE rfl dX10_isPlanGood_94 (by decide) (by unfold v_X10_isPlanGood; simp only [if_neg c_7_0, if_neg c_17_1, if_neg c_30_2, if_pos c_54_3, if_neg c_65_4, if_pos c_86_5]) rfl
      · skip
        refine E_aload_n dX10_isPlanGood_33 rfl ?_
        refine E_getR (b := 65) clX10 7 (by decide) flX10_57 (Or.inl ⟨_, rfl⟩) dX10_isPlanGood_34 (kd3 hJ.1.1) (rf3_7 hJ.1.1) (by decide) ?_
        refine E_getIN clX4 5 (by decide) flX10_284 (Or.inl rfl) dX10_isPlanGood_37 (kd65 hJ.1.1) ?_
        refine E_aload_n dX10_isPlanGood_40 rfl ?_
        refine E_getR (b := 4) clX10 0 (by decide) flX10_12 (Or.inl ⟨_, rfl⟩) dX10_isPlanGood_41 (kd3 hJ.1.1) (rf3_0 hJ.1.1) (by decide) ?_
        refine E_getIN clX5 3 (by decide) flX10_97 (Or.inl rfl) dX10_isPlanGood_44 (kd4 hJ.1.1) ?_
        refine E_icmp_ge 52 dX10_isPlanGood_47 (by decide) (fun c_47_3 => ?_) (fun c_47_3 => ?_)
        · skip
          refine E_iload_n dX10_isPlanGood_52 rfl ?_
          refine E_iconst (v := 2) dX10_isPlanGood_53 (by decide) ?_
          refine E_icmp_ne 89 dX10_isPlanGood_54 (by decide) (fun c_54_4 => ?_) (fun c_54_4 => ?_)
          · skip
            refine E_iconst (v := 1) dX10_isPlanGood_89 (by decide) ?_
            refine E_goto 94 dX10_isPlanGood_90 (by decide) ?_
            exact E_zretE rfl dX10_isPlanGood_94 (by decide) (by unfold v_X10_isPlanGood; simp only [if_neg c_7_0, if_neg c_17_1, if_pos c_30_2, if_pos c_47_3, if_neg c_54_4]) rfl
          · skip
            refine E_aload_n dX10_isPlanGood_57 rfl ?_
            refine E_getR (b := 65) clX10 7 (by decide) flX10_57 (Or.inl ⟨_, rfl⟩) dX10_isPlanGood_58 (kd3 hJ.1.1) (rf3_7 hJ.1.1) (by decide) ?_
            refine E_getIN clX4 4 (by decide) flX10_283 (Or.inl rfl) dX10_isPlanGood_61 (kd65 hJ.1.1) ?_
            refine E_iconst (v := 3) dX10_isPlanGood_64 (by decide) ?_
            refine E_icmp_ge 89 dX10_isPlanGood_65 (by decide) (fun c_65_5 => ?_) (fun c_65_5 => ?_)
            · skip
              refine E_iconst (v := 1) dX10_isPlanGood_89 (by decide) ?_
              refine E_goto 94 dX10_isPlanGood_90 (by decide) ?_
              exact E_zretE rfl dX10_isPlanGood_94 (by decide) (by unfold v_X10_isPlanGood; simp only [if_neg c_7_0, if_neg c_17_1, if_pos c_30_2, if_pos c_47_3, if_pos c_54_4, if_pos c_65_5]) rfl
            · skip
              refine E_aload_n dX10_isPlanGood_68 rfl ?_
              refine E_getR (b := 65) clX10 7 (by decide) flX10_57 (Or.inl ⟨_, rfl⟩) dX10_isPlanGood_69 (kd3 hJ.1.1) (rf3_7 hJ.1.1) (by decide) ?_
              refine E_getIN clX4 4 (by decide) flX10_283 (Or.inl rfl) dX10_isPlanGood_72 (kd65 hJ.1.1) ?_
              refine E_aload_n dX10_isPlanGood_75 rfl ?_
              refine E_getR (b := 5) clX10 1 (by decide) flX10_19 (Or.inl ⟨_, rfl⟩) dX10_isPlanGood_76 (kd3 hJ.1.1) (rf3_1 hJ.1.1) (by decide) ?_
              refine E_aload_n dX10_isPlanGood_79 rfl ?_
              refine E_getI clX10 8 (by decide) flX10_61 (Or.inl rfl) dX10_isPlanGood_80 (kd3 hJ.1.1) ?_
              refine E_callVN (as := [.int (rI σ 3 8)]) (b := 5) (st := [.int (rI σ 65 4)]) (ok_X1_sizeOf (σ := σ) (b := 5) (p := rI σ 3 8) hJ (Or.inl rfl)) (by decide) yfX1_sizeOf mlX10_301 imX1_sizeOf seX1_sizeOf clX1 (kd5 hJ.1.1) rfl (Nat.le_of_ble_eq_true rfl) rfl dX10_isPlanGood_83 ?_
              refine E_icmp_ne 93 dX10_isPlanGood_86 (by decide) (fun c_86_6 => ?_) (fun c_86_6 => ?_)
              · skip
                refine E_iconst (v := 0) dX10_isPlanGood_93 (by decide) ?_
                exact E_zretE rfl dX10_isPlanGood_94 (by decide) (by unfold v_X10_isPlanGood; simp only [if_neg c_7_0, if_neg c_17_1, if_pos c_30_2, if_pos c_47_3, if_pos c_54_4, if_neg c_65_5, if_neg c_86_6]) rfl
              · skip
                refine E_iconst (v := 1) dX10_isPlanGood_89 (by decide) ?_
                refine E_goto 94 dX10_isPlanGood_90 (by decide) ?_
                exact E_zretE rfl dX10_isPlanGood_94 (by decide) (by unfold v_X10_isPlanGood; simp only [if_neg c_7_0, if_neg c_17_1, if_pos c_30_2, if_pos c_47_3, if_pos c_54_4, if_neg c_65_5, if_pos c_86_6]) rfl
        · skip
          refine E_iconst (v := 0) dX10_isPlanGood_50 (by decide) ?_
          exact E_zretE rfl dX10_isPlanGood_51 (by decide) (by unfold v_X10_isPlanGood; simp only [if_neg c_7_0, if_neg c_17_1, if_pos c_30_2, if_neg c_47_3]) rfl
    · skip
      refine E_iconst (v := 0) dX10_isPlanGood_20 (by decide) ?_
      exact E_zretE rfl dX10_isPlanGood_21 (by decide) (by unfold v_X10_isPlanGood; simp only [if_neg c_7_0, if_pos c_17_1]) rfl
theorem z_X10_isPlanGood (σ : rS) (p1 : Int32) : v_X10_isPlanGood σ p1 = 0 ∨ v_X10_isPlanGood σ p1 = 1 := by
  unfold v_X10_isPlanGood
  (repeat' split) <;> first | decide | exact vIn_01 _ _ _ | exact vBit_01 _ _ | exact z_X10_hasMelded _ _

