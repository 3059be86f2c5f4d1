def b_X10_autoByPlan_27 (s7 : Int32 × rS) : Option (((Int32 × rS) ⊕ (rS)) ⊕ (Int32 × rS)) := if (rI s7.2 65 4) ≤ s7.1 then (some (.inl (.inr s7.2))) else (oB (f_X10_layTile s7.2 (v_X4_kindAt s7.2 s7.1)) fun _ σ9 => some (.inr ((s7.1 + 1, σ9))))
def f_X10_autoByPlan (σ : rS) (p1 : Int32) : Option (Int32 × rS) := oB (f_X10_findPlan σ (rI σ 3 8)) fun _ σ2 => if (v_X10_isPlanGood σ2 p1) = 0 then (oB (f_X10_endByDrawing σ2 6) fun v3 σ4 => some ((0, σ4))) else (oJoin (oLoop (b_X10_autoByPlan_27) oFuel ((0, σ2))) fun j6 => oB (f_X10_endByLaying j6) fun _ σ11 => some ((rI j6 65 4, σ11)))
set_option maxRecDepth 20000 in
set_option maxHeartbeats 2000000 in
theorem ok_X10_autoByPlan {σ : rS} {p1 : Int32}   : rFn Sy yX10_autoByPlan mX10_autoByPlan 7 [.ref 3, .int p1] σ 0 0 (fun v => .inl (some (.int v))) (f_X10_autoByPlan σ p1) := by
  refine rF_of (ls := [some (.ref 3), some (.int p1), none]) yfX10_autoByPlan rfl (Nat.le_of_ble_eq_true rfl) (fun o τ => ?_)
  unfold f_X10_autoByPlan
  refine P_l (fun hJ _ _ q => E_aload_n dX10_autoByPlan_0 rfl (E_aload_n dX10_autoByPlan_1 rfl (E_getI clX10 8 (by decide) flX10_61 (Or.inl rfl) dX10_autoByPlan_2 (kd3 hJ.1.1) q))) ?_
  refine P_call (t := fun _ => none) (st2 := fun _ => []) (kc2 := 0) (ks2 := 0) (fun hJ => (ok_X10_findPlan (σ := σ) (p1 := rI σ 3 8) )) (fun hJ _ _ _ _ v τ1 hM q => E_callV (as := [.int (rI σ 3 8)]) (b := 3) (st := []) hM (by decide) yfX10_findPlan mlX10_276 imX10_findPlan seX10_findPlan clX10 (kd3 hJ.1.1) rfl (Nat.le_of_ble_eq_true rfl) rfl dX10_autoByPlan_5 q) (by decide) (by decide) (fun v1 σ2 => ?_)
  refine P_l (fun hJ _ _ q => E_aload_n dX10_autoByPlan_8 rfl (E_iload_n dX10_autoByPlan_9 rfl (E_callV (as := [.int p1]) (b := 3) (st := []) (ok_X10_isPlanGood (σ := σ2) (p1 := p1) hJ ) (by decide) yfX10_isPlanGood mlX10_451 imX10_isPlanGood seX10_isPlanGood clX10 (kd3 hJ.1.1) rfl (Nat.le_of_ble_eq_true rfl) rfl dX10_autoByPlan_10 q))) ?_
  refine P_if (fun hJ _ _ h1 h2 => E_if_ne 25 dX10_autoByPlan_13 (by decide) h2 h1) ?_ ?_
  · skip
    refine P_l (fun hJ _ _ q => E_aload_n dX10_autoByPlan_16 rfl (E_bipush (v := 6) dX10_autoByPlan_17 (by decide) q)) ?_
    refine P_call (t := fun v => some (.int v)) (st2 := fun v => .int v :: []) (kc2 := 0) (ks2 := 0) (fun hJ => (ok_X10_endByDrawing (σ := σ2) (p1 := 6) )) (fun hJ _ _ _ _ v τ1 hM q => E_callV (as := [.int 6]) (b := 3) (st := []) hM (by decide) yfX10_endByDrawing mlX10_186 imX10_endByDrawing seX10_endByDrawing clX10 (kd3 hJ.1.1) rfl (Nat.le_of_ble_eq_true rfl) rfl dX10_autoByPlan_19 q) (by decide) (by decide) (fun v3 σ4 => ?_)
    refine P_l (fun hJ _ _ q => E_pop dX10_autoByPlan_22 rfl (E_iconst (v := 0) dX10_autoByPlan_23 (by decide) q)) ?_
    exact P_ret (fun _ _ => E_iret rfl dX10_autoByPlan_24)
  · skip
    refine P_l (fun hJ _ _ q => E_iconst (v := 0) dX10_autoByPlan_25 (by decide) (E_istore_n (ls2 := [some (.ref 3), some (.int p1), some (.int 0)]) dX10_autoByPlan_26 (by decide) rfl q)) ?_
    refine P_join (pc2 := 56) (fun j6 => [some (.ref 3), none, none]) (fun j6 => []) (fun j6 => j6) ?_ (fun j6 => ?_)
    · skip
      refine P_less [some (.ref 3), none, some (.int 0)] (And.intro rfl (And.intro rfl trivial)) ?_
      refine P_loop (fun s7 => [some (.ref 3), none, some (.int s7.1)]) (fun s7 => s7.2) (fun s7 => ?_) _ ((0, σ2))
      unfold b_X10_autoByPlan_27
      refine P_l (fun hJ _ _ q => E_iload_n dX10_autoByPlan_27 rfl (E_aload_n dX10_autoByPlan_28 rfl (E_getR (b := 65) clX10 7 (by decide) flX10_57 (Or.inl ⟨_, rfl⟩) dX10_autoByPlan_29 (kd3 hJ.1.1) (rf3_7 hJ.1.1) (by decide) (E_getIN clX4 4 (by decide) flX10_283 (Or.inl rfl) dX10_autoByPlan_32 (kd65 hJ.1.1) q)))) ?_
      refine P_if (fun hJ _ _ h1 h2 => E_icmp_ge 56 dX10_autoByPlan_35 (by decide) h1 h2) ?_ ?_
      · skip
        refine P_less [some (.ref 3), none, none] (And.intro rfl trivial) ?_
        exact P_inl (P_back s7.2)
      · skip
        refine P_l (fun hJ _ _ q => E_aload_n dX10_autoByPlan_38 rfl (E_aload_n dX10_autoByPlan_39 rfl (E_getR (b := 65) clX10 7 (by decide) flX10_57 (Or.inl ⟨_, rfl⟩) dX10_autoByPlan_40 (kd3 hJ.1.1) (rf3_7 hJ.1.1) (by decide) (E_iload_n dX10_autoByPlan_43 rfl (E_callVN (as := [.int s7.1]) (b := 65) (st := [.ref 3]) (ok_X4_kindAt (σ := s7.2) (p1 := s7.1) hJ ) (by decide) yfX4_kindAt mlX10_287 imX4_kindAt seX4_kindAt clX4 (kd65 hJ.1.1) rfl (Nat.le_of_ble_eq_true rfl) rfl dX10_autoByPlan_44 q))))) ?_
        refine P_call (t := fun _ => none) (st2 := fun _ => []) (kc2 := 0) (ks2 := 0) (fun hJ => (ok_X10_layTile (σ := s7.2) (p1 := v_X4_kindAt s7.2 s7.1) )) (fun hJ _ _ _ _ v τ1 hM q => E_callV (as := [.int (v_X4_kindAt s7.2 s7.1)]) (b := 3) (st := []) hM (by decide) yfX10_layTile mlX10_143 imX10_layTile seX10_layTile clX10 (kd3 hJ.1.1) rfl (Nat.le_of_ble_eq_true rfl) rfl dX10_autoByPlan_47 q) (by decide) (by decide) (fun v8 σ9 => ?_)
        refine P_l (fun hJ _ _ q => E_iinc (v := 1) (ls2 := [some (.ref 3), none, some (.int (s7.1 + 1))]) dX10_autoByPlan_50 rfl (by decide) (by decide) rfl (E_goto 27 dX10_autoByPlan_53 (by decide) q)) ?_
        exact P_back ((s7.1 + 1, σ9))
    · skip
      refine P_l (fun hJ _ _ q => E_aload_n dX10_autoByPlan_56 rfl (E_getR (b := 65) clX10 7 (by decide) flX10_57 (Or.inl ⟨_, rfl⟩) dX10_autoByPlan_57 (kd3 hJ.1.1) (rf3_7 hJ.1.1) (by decide) (E_getIN clX4 4 (by decide) flX10_283 (Or.inl rfl) dX10_autoByPlan_60 (kd65 hJ.1.1) (E_istore_n (ls2 := [some (.ref 3), none, some (.int (rI j6 65 4))]) dX10_autoByPlan_63 (by decide) rfl (E_aload_n dX10_autoByPlan_64 rfl q))))) ?_
      refine P_call (t := fun _ => none) (st2 := fun _ => []) (kc2 := 0) (ks2 := 0) (fun hJ => (ok_X10_endByLaying (σ := j6)  )) (fun hJ _ _ _ _ v τ1 hM q => E_callV (as := []) (b := 3) (st := []) hM (by decide) yfX10_endByLaying mlX10_180 imX10_endByLaying seX10_endByLaying clX10 (kd3 hJ.1.1) rfl (Nat.le_of_ble_eq_true rfl) rfl dX10_autoByPlan_65 q) (by decide) (by decide) (fun v10 σ11 => ?_)
      refine P_l (fun hJ _ _ q => E_iload_n dX10_autoByPlan_68 rfl q) ?_
      exact P_ret (fun _ _ => E_iret rfl dX10_autoByPlan_69)

def f_X10_auto (σ : rS) : Option ((Int32 ⊕ String) × rS) := oBx (f_X10_needRound σ) fun _ σ2 => if (if (vAt (rI σ2 21) 4 (rI σ2 3 8)) = 0 then true else (if (rI σ2 5 6) ≤ 0 then false else true)) = true then (some ((.inr "java/lang/IllegalStateException", σ2))) else (if (if (vAt (rI σ2 21) 4 (rI σ2 3 8)) = 3 then (if (v_X10_hasMelded σ2 (rI σ2 3 8)) = 0 then true else false) else true) = true then (oB (f_X10_autoByPlan σ2 (vAt (rI σ2 21) 4 (rI σ2 3 8))) fun v3 σ4 => some ((.inl v3, σ4))) else (oB (f_X10_autoBlocking σ2) fun v5 σ6 => some ((.inl v5, σ6))))
set_option maxRecDepth 20000 in
set_option maxHeartbeats 2000000 in
theorem ok_X10_auto {σ : rS}   : rFn Sy yX10_auto mX10_auto 8 [.ref 3] σ 2 12 (tX (fun v => .inl (some (.int v)))) (f_X10_auto σ) := by
  refine rF_of (ls := [some (.ref 3), none]) yfX10_auto rfl (Nat.le_of_ble_eq_true rfl) (fun o τ => ?_)
  unfold f_X10_auto
  refine P_l (fun hJ _ _ q => E_aload_n dX10_auto_0 rfl q) ?_
  refine P_callx (t2 := fun _ => none) (st2 := fun _ => []) (kc2 := 1) (ks2 := 6) (fun hJ => (ok_X10_needRound (σ := σ)  )) (fun hJ _ _ _ _ v τ1 hM q => E_callV (as := []) (b := 3) (st := []) hM (by decide) yfX10_needRound mlX10_183 imX10_needRound seX10_needRound clX10 (kd3 hJ.1.1) rfl (Nat.le_of_ble_eq_true rfl) rfl dX10_auto_1 q) (fun hJ _ _ _ _ E τ1 hM => E_callVx (τ := τ1) (as := []) (b := 3) (st := []) hM (by decide) yfX10_needRound mlX10_183 imX10_needRound seX10_needRound clX10 (kd3 hJ.1.1) rfl (Nat.le_of_ble_eq_true rfl) rfl dX10_auto_1 rfl) (by decide) (by decide) (fun v1 σ2 => ?_)
  refine P_l (fun hJ _ _ q => E_aload_n dX10_auto_4 rfl (E_getR (b := 19) clX10 3 (by decide) flX10_29 (Or.inl ⟨_, rfl⟩) dX10_auto_5 (kd3 hJ.1.1) (rf3_3 hJ.1.1) (by decide) (E_getRN (b := 21) clX6 2 (by decide) flX10_206 (Or.inr ⟨_, rfl⟩) dX10_auto_8 (kd19 hJ.1.1) (rf19_2 hJ.1.1) (by decide) (E_aload_n dX10_auto_11 rfl (E_getI clX10 8 (by decide) flX10_61 (Or.inl rfl) dX10_auto_12 (kd3 hJ.1.1) (E_callS (as := [.ref 21, .int (rI σ2 3 8)]) (st := []) (ok_at (σ := σ2) (a := 21) (i := rI σ2 3 8) (f := rI σ2 21) (kd21 hJ.1.1) (by decide) rfl) (by decide) yfX10_at mlX10_193 stX10_at rfl (Nat.le_of_ble_eq_true rfl) rfl dX10_auto_15 (E_istore_n (ls2 := [some (.ref 3), some (.int (vAt (rI σ2 21) 4 (rI σ2 3 8)))]) dX10_auto_18 (by decide) rfl (E_iload_n dX10_auto_19 rfl q)))))))) ?_
  refine P_if (c := (if (vAt (rI σ2 21) 4 (rI σ2 3 8)) = 0 then true else (if (rI σ2 5 6) ≤ 0 then false else true)) = true) (pc1 := 33) (ls1 := [some (.ref 3), some (.int (vAt (rI σ2 21) 4 (rI σ2 3 8)))]) (st1 := []) (pc2 := 41) (ls2 := [some (.ref 3), some (.int (vAt (rI σ2 21) 4 (rI σ2 3 8)))]) (st2 := []) (fun hJ _ _ hX hY => ?_) ?_ ?_
  · skip
    refine E_if_eq 33 dX10_auto_20 (by decide) (fun c_20_0 => ?_) (fun c_20_0 => ?_)
    · skip
      exact hX (by simp only [if_pos c_20_0])
    · skip
      refine E_aload_n dX10_auto_23 rfl ?_
      refine E_getR (b := 5) clX10 1 (by decide) flX10_19 (Or.inl ⟨_, rfl⟩) dX10_auto_24 (kd3 hJ.1.1) (rf3_1 hJ.1.1) (by decide) ?_
      refine E_getIN clX1 6 (by decide) flX10_174 (Or.inl rfl) dX10_auto_27 (kd5 hJ.1.1) ?_
      refine E_if_le 41 dX10_auto_30 (by decide) (fun c_30_1 => ?_) (fun c_30_1 => ?_)
      · skip
        exact hY (by simp only [if_neg c_20_0, if_pos c_30_1]; exact Bool.false_ne_true)
      · skip
        exact hX (by simp only [if_neg c_20_0, if_neg c_30_1])
  · skip
    exact P_thr (fun kc ks => xt_IllegalStateException (M := mX10_auto) (pc := 33) rfl rfl (by decide) (Nat.le_of_ble_eq_true rfl) dX10_auto_33 dX10_auto_36 dX10_auto_37 dX10_auto_40 kc ks) (by decide) (by decide)
  · skip
    refine P_l (fun hJ _ _ q => E_iload_n dX10_auto_41 rfl (E_iconst (v := 3) dX10_auto_42 (by decide) q)) ?_
    refine P_if (c := (if (vAt (rI σ2 21) 4 (rI σ2 3 8)) = 3 then (if (v_X10_hasMelded σ2 (rI σ2 3 8)) = 0 then true else false) else true) = true) (pc1 := 62) (ls1 := [some (.ref 3), some (.int (vAt (rI σ2 21) 4 (rI σ2 3 8)))]) (st1 := []) (pc2 := 57) (ls2 := [some (.ref 3), some (.int (vAt (rI σ2 21) 4 (rI σ2 3 8)))]) (st2 := []) (fun hJ _ _ hX hY => ?_) ?_ ?_
    · skip
      refine E_icmp_ne 62 dX10_auto_43 (by decide) (fun c_43_0 => ?_) (fun c_43_0 => ?_)
      · skip
        exact hX (by simp only [if_neg c_43_0])
      · skip
        refine E_aload_n dX10_auto_46 rfl ?_
        refine E_aload_n dX10_auto_47 rfl ?_
        refine E_getI clX10 8 (by decide) flX10_61 (Or.inl rfl) dX10_auto_48 (kd3 hJ.1.1) ?_
        refine E_callV (as := [.int (rI σ2 3 8)]) (b := 3) (st := []) (ok_X10_hasMelded (σ := σ2) (p1 := rI σ2 3 8) hJ ) (by decide) yfX10_hasMelded mlX10_209 imX10_hasMelded seX10_hasMelded clX10 (kd3 hJ.1.1) rfl (Nat.le_of_ble_eq_true rfl) rfl dX10_auto_51 ?_
        refine E_if_eq 62 dX10_auto_54 (by decide) (fun c_54_1 => ?_) (fun c_54_1 => ?_)
        · skip
          exact hX (by simp only [if_pos c_43_0, if_pos c_54_1])
        · skip
          exact hY (by simp only [if_pos c_43_0, if_neg c_54_1]; exact Bool.false_ne_true)
    · skip
      refine P_l (fun hJ _ _ q => E_aload_n dX10_auto_62 rfl (E_iload_n dX10_auto_63 rfl q)) ?_
      refine P_call (t := fun v => some (.int v)) (st2 := fun v => .int v :: []) (kc2 := 1) (ks2 := 6) (fun hJ => (ok_X10_autoByPlan (σ := σ2) (p1 := vAt (rI σ2 21) 4 (rI σ2 3 8)) )) (fun hJ _ _ _ _ v τ1 hM q => E_callV (as := [.int (vAt (rI σ2 21) 4 (rI σ2 3 8))]) (b := 3) (st := []) hM (by decide) yfX10_autoByPlan mlX10_215 imX10_autoByPlan seX10_autoByPlan clX10 (kd3 hJ.1.1) rfl (Nat.le_of_ble_eq_true rfl) rfl dX10_auto_64 q) (by decide) (by decide) (fun v3 σ4 => ?_)
      exact P_ret (fun _ _ => E_iret rfl dX10_auto_67)
    · skip
      refine P_l (fun hJ _ _ q => E_aload_n dX10_auto_57 rfl q) ?_
      refine P_call (t := fun v => some (.int v)) (st2 := fun v => .int v :: []) (kc2 := 1) (ks2 := 6) (fun hJ => (ok_X10_autoBlocking (σ := σ2)  )) (fun hJ _ _ _ _ v τ1 hM q => E_callV (as := []) (b := 3) (st := []) hM (by decide) yfX10_autoBlocking mlX10_212 imX10_autoBlocking seX10_autoBlocking clX10 (kd3 hJ.1.1) rfl (Nat.le_of_ble_eq_true rfl) rfl dX10_auto_58 q) (by decide) (by decide) (fun v5 σ6 => ?_)
      exact P_ret (fun _ _ => E_iret rfl dX10_auto_61)

def f_X10_type (σ : rS) (p1 : Int32) : Option ((Int32 ⊕ String) × rS) := if (if (vIn p1 97 122) = 0 then (if (vIn p1 48 57) = 0 then false else true) else true) = true then (oB (f_X7_write σ p1) fun v1 σ2 => if v1 = 0 then (some ((.inr "java/lang/IllegalStateException", σ2))) else (some ((.inl (rI σ2 31 1), σ2)))) else (some ((.inr "java/lang/IllegalArgumentException", σ)))
set_option maxRecDepth 20000 in
set_option maxHeartbeats 2000000 in
theorem ok_X10_type {σ : rS} {p1 : Int32}   : rFn Sy yX10_type mX10_type 6 [.ref 3, .int p1] σ 1 6 (tX (fun v => .inl (some (.int v)))) (f_X10_type σ p1) := by
  refine rF_of (ls := [some (.ref 3), some (.int p1)]) yfX10_type rfl (Nat.le_of_ble_eq_true rfl) (fun o τ => ?_)
  unfold f_X10_type
  refine P_l (fun hJ _ _ q => E_iload_n dX10_type_0 rfl (E_bipush (v := 97) dX10_type_1 (by decide) (E_bipush (v := 122) dX10_type_3 (by decide) (E_callS (as := [.int p1, .int 97, .int 122]) (st := []) (ok_within (σ := σ) (v := p1) (a := 97) (b := 122)) (by decide) yfX10_within mlX10_74 stX10_within rfl (Nat.le_of_ble_eq_true rfl) rfl dX10_type_5 q)))) ?_
  refine P_if (c := (if (vIn p1 97 122) = 0 then (if (vIn p1 48 57) = 0 then false else true) else true) = true) (pc1 := 30) (ls1 := [some (.ref 3), some (.int p1)]) (st1 := []) (pc2 := 22) (ls2 := [some (.ref 3), some (.int p1)]) (st2 := []) (fun hJ _ _ hX hY => ?_) ?_ ?_
  · skip
    refine E_if_ne 30 dX10_type_8 (by decide) (fun c_8_0 => ?_) (fun c_8_0 => ?_)
    · skip
      exact hX (by simp only [if_neg c_8_0])
    · skip
      refine E_iload_n dX10_type_11 rfl ?_
      refine E_bipush (v := 48) dX10_type_12 (by decide) ?_
      refine E_bipush (v := 57) dX10_type_14 (by decide) ?_
      refine E_callS (as := [.int p1, .int 48, .int 57]) (st := []) (ok_within (σ := σ) (v := p1) (a := 48) (b := 57)) (by decide) yfX10_within mlX10_74 stX10_within rfl (Nat.le_of_ble_eq_true rfl) rfl dX10_type_16 ?_
      refine E_if_ne 30 dX10_type_19 (by decide) (fun c_19_1 => ?_) (fun c_19_1 => ?_)
      · skip
        exact hX (by simp only [if_pos c_8_0, if_neg c_19_1])
      · skip
        exact hY (by simp only [if_pos c_8_0, if_pos c_19_1]; exact Bool.false_ne_true)
  · skip
    refine P_l (fun hJ _ _ q => E_aload_n dX10_type_30 rfl (E_getR (b := 31) clX10 4 (by decide) flX10_36 (Or.inl ⟨_, rfl⟩) dX10_type_31 (kd3 hJ.1.1) (rf3_4 hJ.1.1) (by decide) (E_iload_n dX10_type_34 rfl q))) ?_
    refine P_call (t := fun v => some (.int v)) (st2 := fun v => .int v :: []) (kc2 := 1) (ks2 := 6) (fun hJ => (ok_X7_write (σ := σ) (p1 := p1) )) (fun hJ _ _ _ _ v τ1 hM q => E_callVN (as := [.int p1]) (b := 31) (st := []) hM (by decide) yfX7_write mlX10_218 imX7_write seX7_write clX7 (kd31 hJ.1.1) rfl (Nat.le_of_ble_eq_true rfl) rfl dX10_type_35 q) (by decide) (by decide) (fun v1 σ2 => ?_)
    refine P_if (fun hJ _ _ h1 h2 => E_if_ne 49 dX10_type_38 (by decide) h2 h1) ?_ ?_
    · skip
      exact P_thr (fun kc ks => xt_IllegalStateException (M := mX10_type) (pc := 41) rfl rfl (by decide) (Nat.le_of_ble_eq_true rfl) dX10_type_41 dX10_type_44 dX10_type_45 dX10_type_48 kc ks) (by decide) (by decide)
    · skip
      refine P_l (fun hJ _ _ q => E_aload_n dX10_type_49 rfl (E_getR (b := 31) clX10 4 (by decide) flX10_36 (Or.inl ⟨_, rfl⟩) dX10_type_50 (kd3 hJ.1.1) (rf3_4 hJ.1.1) (by decide) (E_getIN clX7 1 (by decide) flX10_222 (Or.inl rfl) dX10_type_53 (kd31 hJ.1.1) q))) ?_
      exact P_ret (fun _ _ => E_iret rfl dX10_type_56)
  · skip
    exact P_thr (fun kc ks => xt_IllegalArgumentException (M := mX10_type) (pc := 22) rfl rfl (by decide) (Nat.le_of_ble_eq_true rfl) dX10_type_22 dX10_type_25 dX10_type_26 dX10_type_29 kc ks) (by decide) (by decide)

def f_X10_wipe (σ : rS) : Option (Int32 × rS) := oLet (wI σ 31 1 0) fun σ1 => some ((rI σ 31 1, σ1))
set_option maxRecDepth 20000 in
set_option maxHeartbeats 2000000 in
theorem ok_X10_wipe {σ : rS}   : rFn Sy yX10_wipe mX10_wipe 0 [.ref 3] σ 0 0 (fun v => .inl (some (.int v))) (f_X10_wipe σ) := by
  refine rF_of (ls := [some (.ref 3), none]) yfX10_wipe rfl (Nat.le_of_ble_eq_true rfl) (fun o τ => ?_)
  unfold f_X10_wipe
  refine P_l (fun hJ _ _ q => E_aload_n dX10_wipe_0 rfl (E_getR (b := 31) clX10 4 (by decide) flX10_36 (Or.inl ⟨_, rfl⟩) dX10_wipe_1 (kd3 hJ.1.1) (rf3_4 hJ.1.1) (by decide) (E_getIN clX7 1 (by decide) flX10_222 (Or.inl rfl) dX10_wipe_4 (kd31 hJ.1.1) (E_istore_n (ls2 := [some (.ref 3), some (.int (rI σ 31 1))]) dX10_wipe_7 (by decide) rfl (E_aload_n dX10_wipe_8 rfl (E_getR (b := 31) clX10 4 (by decide) flX10_36 (Or.inl ⟨_, rfl⟩) dX10_wipe_9 (kd3 hJ.1.1) (rf3_4 hJ.1.1) (by decide) (E_iconst (v := 0) dX10_wipe_12 (by decide) q))))))) ?_
  refine P_w (fun hJ _ _ q => E_putIN clX7 1 (by decide) flX10_222 (Or.inl rfl) rfl dX10_wipe_13 (kd31 hJ.1.1) q) (fun hJ => Sy_wI hJ.1) rfl rfl rfl (fun σ1 hσ1 => ?_)
  refine P_l (fun hJ _ _ q => E_iload_n dX10_wipe_16 rfl q) ?_
  exact P_ret (fun _ _ => E_iret rfl dX10_wipe_17)

def f_X10_move (σ : rS) (p1 : Int32) (p2 : Int32) : Option (Int32 × rS) := if p1 = 1 then (if (v_X10_mayLay σ p2) = 0 then (some ((0, σ))) else (oB (f_X10_layTile σ p2) fun _ σ3 => some ((1, σ3)))) else (if p1 = 2 then (if (v_X10_mayLayJoker σ p2) = 0 then (some ((0, σ))) else (oB (f_X10_layJoker σ p2) fun _ σ6 => some ((1, σ6)))) else (if p1 = 3 then (if (v_X10_maySwap σ p2) = 0 then (some ((0, σ))) else (oB (f_X10_swapJoker σ p2) fun _ σ9 => some ((1, σ9)))) else (if p1 = 4 then (if (v_X10_mayTakeBack σ) = 0 then (some ((0, σ))) else (oB (f_X10_takeBack σ) fun _ σ12 => some ((1, σ12)))) else (if p1 = 5 then (oB (f_X10_mayEnd σ) fun v14 σ15 => if v14 = 0 then (some ((0, σ15))) else (oB (f_X10_endByLaying σ15) fun _ σ17 => some ((1, σ17)))) else (if (v_X10_isOn σ) = 0 then (some ((0, σ))) else (oB (f_X10_endByDrawing σ 6) fun v18 σ19 => some ((1, σ19))))))))
set_option maxRecDepth 20000 in
set_option maxHeartbeats 2000000 in
theorem ok_X10_move {σ : rS} {p1 : Int32} {p2 : Int32}   : rFn Sy yX10_move mX10_move 7 [.ref 3, .int p1, .int p2] σ 0 0 (fun v => .inl (some (.int v))) (f_X10_move σ p1 p2) := by
  refine rF_of (ls := [some (.ref 3), some (.int p1), some (.int p2)]) yfX10_move rfl (Nat.le_of_ble_eq_true rfl) (fun o τ => ?_)
  unfold f_X10_move
  refine P_l (fun hJ _ _ q => E_iload_n dX10_move_0 rfl q) ?_
  refine P_case (fun h1 => ?_) (fun h1 => ?_)
  · skip
    refine P_l (fun hJ _ _ q => E_tableIn (off := 35) 36 dX10_move_1 (by rw [h1]; decide) (by rw [h1]; decide) (by rw [h1]; rfl) (by decide) q) ?_
    refine P_l (fun hJ _ _ q => E_aload_n dX10_move_36 rfl (E_iload_n dX10_move_37 rfl (E_callV (as := [.int p2]) (b := 3) (st := []) (ok_X10_mayLay (σ := σ) (p1 := p2) hJ ) (by decide) yfX10_mayLay mlX10_139 imX10_mayLay seX10_mayLay clX10 (kd3 hJ.1.1) rfl (Nat.le_of_ble_eq_true rfl) rfl dX10_move_38 q))) ?_
    refine P_if (fun hJ _ _ h1 h2 => E_if_ne 46 dX10_move_41 (by decide) h2 h1) ?_ ?_
    · skip
      refine P_l (fun hJ _ _ q => E_iconst (v := 0) dX10_move_44 (by decide) q) ?_
      exact P_ret (fun _ _ => E_zret01 rfl (by decide) dX10_move_45)
    · skip
      refine P_l (fun hJ _ _ q => E_aload_n dX10_move_46 rfl (E_iload_n dX10_move_47 rfl q)) ?_
      refine P_call (t := fun _ => none) (st2 := fun _ => []) (kc2 := 0) (ks2 := 0) (fun hJ => (ok_X10_layTile (σ := σ) (p1 := p2) )) (fun hJ _ _ _ _ v τ1 hM q => E_callV (as := [.int p2]) (b := 3) (st := []) hM (by decide) yfX10_layTile mlX10_143 imX10_layTile seX10_layTile clX10 (kd3 hJ.1.1) rfl (Nat.le_of_ble_eq_true rfl) rfl dX10_move_48 q) (by decide) (by decide) (fun v2 σ3 => ?_)
      refine P_l (fun hJ _ _ q => E_iconst (v := 1) dX10_move_51 (by decide) q) ?_
      exact P_ret (fun _ _ => E_zret01 rfl (by decide) dX10_move_52)
  · skip
    refine P_case (fun h4 => ?_) (fun h4 => ?_)
    · skip
      refine P_l (fun hJ _ _ q => E_tableIn (off := 52) 53 dX10_move_1 (by rw [h4]; decide) (by rw [h4]; decide) (by rw [h4]; rfl) (by decide) q) ?_
      refine P_l (fun hJ _ _ q => E_aload_n dX10_move_53 rfl (E_iload_n dX10_move_54 rfl (E_callV (as := [.int p2]) (b := 3) (st := []) (ok_X10_mayLayJoker (σ := σ) (p1 := p2) hJ ) (by decide) yfX10_mayLayJoker mlX10_150 imX10_mayLayJoker seX10_mayLayJoker clX10 (kd3 hJ.1.1) rfl (Nat.le_of_ble_eq_true rfl) rfl dX10_move_55 q))) ?_
      refine P_if (fun hJ _ _ h1 h2 => E_if_ne 63 dX10_move_58 (by decide) h2 h1) ?_ ?_
      · skip
        refine P_l (fun hJ _ _ q => E_iconst (v := 0) dX10_move_61 (by decide) q) ?_
        exact P_ret (fun _ _ => E_zret01 rfl (by decide) dX10_move_62)
      · skip
        refine P_l (fun hJ _ _ q => E_aload_n dX10_move_63 rfl (E_iload_n dX10_move_64 rfl q)) ?_
        refine P_call (t := fun _ => none) (st2 := fun _ => []) (kc2 := 0) (ks2 := 0) (fun hJ => (ok_X10_layJoker (σ := σ) (p1 := p2) )) (fun hJ _ _ _ _ v τ1 hM q => E_callV (as := [.int p2]) (b := 3) (st := []) hM (by decide) yfX10_layJoker mlX10_153 imX10_layJoker seX10_layJoker clX10 (kd3 hJ.1.1) rfl (Nat.le_of_ble_eq_true rfl) rfl dX10_move_65 q) (by decide) (by decide) (fun v5 σ6 => ?_)
        refine P_l (fun hJ _ _ q => E_iconst (v := 1) dX10_move_68 (by decide) q) ?_
        exact P_ret (fun _ _ => E_zret01 rfl (by decide) dX10_move_69)
    · skip
      refine P_case (fun h7 => ?_) (fun h7 => ?_)
      · skip
        refine P_l (fun hJ _ _ q => E_tableIn (off := 69) 70 dX10_move_1 (by rw [h7]; decide) (by rw [h7]; decide) (by rw [h7]; rfl) (by decide) q) ?_
        refine P_l (fun hJ _ _ q => E_aload_n dX10_move_70 rfl (E_iload_n dX10_move_71 rfl (E_callV (as := [.int p2]) (b := 3) (st := []) (ok_X10_maySwap (σ := σ) (p1 := p2) hJ ) (by decide) yfX10_maySwap mlX10_159 imX10_maySwap seX10_maySwap clX10 (kd3 hJ.1.1) rfl (Nat.le_of_ble_eq_true rfl) rfl dX10_move_72 q))) ?_
        refine P_if (fun hJ _ _ h1 h2 => E_if_ne 80 dX10_move_75 (by decide) h2 h1) ?_ ?_
        · skip
          refine P_l (fun hJ _ _ q => E_iconst (v := 0) dX10_move_78 (by decide) q) ?_
          exact P_ret (fun _ _ => E_zret01 rfl (by decide) dX10_move_79)
        · skip
          refine P_l (fun hJ _ _ q => E_aload_n dX10_move_80 rfl (E_iload_n dX10_move_81 rfl q)) ?_
          refine P_call (t := fun _ => none) (st2 := fun _ => []) (kc2 := 0) (ks2 := 0) (fun hJ => (ok_X10_swapJoker (σ := σ) (p1 := p2) )) (fun hJ _ _ _ _ v τ1 hM q => E_callV (as := [.int p2]) (b := 3) (st := []) hM (by decide) yfX10_swapJoker mlX10_162 imX10_swapJoker seX10_swapJoker clX10 (kd3 hJ.1.1) rfl (Nat.le_of_ble_eq_true rfl) rfl dX10_move_82 q) (by decide) (by decide) (fun v8 σ9 => ?_)
          refine P_l (fun hJ _ _ q => E_iconst (v := 1) dX10_move_85 (by decide) q) ?_
          exact P_ret (fun _ _ => E_zret01 rfl (by decide) dX10_move_86)
      · skip
        refine P_case (fun h10 => ?_) (fun h10 => ?_)
        · skip
          refine P_l (fun hJ _ _ q => E_tableIn (off := 86) 87 dX10_move_1 (by rw [h10]; decide) (by rw [h10]; decide) (by rw [h10]; rfl) (by decide) q) ?_
          refine P_l (fun hJ _ _ q => E_aload_n dX10_move_87 rfl (E_callV (as := []) (b := 3) (st := []) (ok_X10_mayTakeBack (σ := σ)  hJ ) (by decide) yfX10_mayTakeBack mlX10_168 imX10_mayTakeBack seX10_mayTakeBack clX10 (kd3 hJ.1.1) rfl (Nat.le_of_ble_eq_true rfl) rfl dX10_move_88 q)) ?_
          refine P_if (fun hJ _ _ h1 h2 => E_if_ne 96 dX10_move_91 (by decide) h2 h1) ?_ ?_
          · skip
            refine P_l (fun hJ _ _ q => E_iconst (v := 0) dX10_move_94 (by decide) q) ?_
            exact P_ret (fun _ _ => E_zret01 rfl (by decide) dX10_move_95)
          · skip
            refine P_l (fun hJ _ _ q => E_aload_n dX10_move_96 rfl q) ?_
            refine P_call (t := fun _ => none) (st2 := fun _ => []) (kc2 := 0) (ks2 := 0) (fun hJ => (ok_X10_takeBack (σ := σ)  )) (fun hJ _ _ _ _ v τ1 hM q => E_callV (as := []) (b := 3) (st := []) hM (by decide) yfX10_takeBack mlX10_171 imX10_takeBack seX10_takeBack clX10 (kd3 hJ.1.1) rfl (Nat.le_of_ble_eq_true rfl) rfl dX10_move_97 q) (by decide) (by decide) (fun v11 σ12 => ?_)
            refine P_l (fun hJ _ _ q => E_iconst (v := 1) dX10_move_100 (by decide) q) ?_
            exact P_ret (fun _ _ => E_zret01 rfl (by decide) dX10_move_101)
        · skip
          refine P_case (fun h13 => ?_) (fun h13 => ?_)
          · skip
            refine P_l (fun hJ _ _ q => E_tableIn (off := 101) 102 dX10_move_1 (by rw [h13]; decide) (by rw [h13]; decide) (by rw [h13]; rfl) (by decide) q) ?_
            refine P_l (fun hJ _ _ q => E_aload_n dX10_move_102 rfl q) ?_
            refine P_call (t := fun v => some (.int v)) (st2 := fun v => .int v :: []) (kc2 := 0) (ks2 := 0) (fun hJ => (ok_X10_mayEnd (σ := σ)  )) (fun hJ _ _ _ _ v τ1 hM q => E_callV (as := []) (b := 3) (st := []) hM (by decide) yfX10_mayEnd mlX10_177 imX10_mayEnd seX10_mayEnd clX10 (kd3 hJ.1.1) rfl (Nat.le_of_ble_eq_true rfl) rfl dX10_move_103 q) (by decide) (by decide) (fun v14 σ15 => ?_)
            refine P_if (fun hJ _ _ h1 h2 => E_if_ne 111 dX10_move_106 (by decide) h2 h1) ?_ ?_
            · skip
              refine P_l (fun hJ _ _ q => E_iconst (v := 0) dX10_move_109 (by decide) q) ?_
              exact P_ret (fun _ _ => E_zret01 rfl (by decide) dX10_move_110)
            · skip
              refine P_l (fun hJ _ _ q => E_aload_n dX10_move_111 rfl q) ?_
              refine P_call (t := fun _ => none) (st2 := fun _ => []) (kc2 := 0) (ks2 := 0) (fun hJ => (ok_X10_endByLaying (σ := σ15)  )) (fun hJ _ _ _ _ v τ1 hM q => E_callV (as := []) (b := 3) (st := []) hM (by decide) yfX10_endByLaying mlX10_180 imX10_endByLaying seX10_endByLaying clX10 (kd3 hJ.1.1) rfl (Nat.le_of_ble_eq_true rfl) rfl dX10_move_112 q) (by decide) (by decide) (fun v16 σ17 => ?_)
              refine P_l (fun hJ _ _ q => E_iconst (v := 1) dX10_move_115 (by decide) q) ?_
              exact P_ret (fun _ _ => E_zret01 rfl (by decide) dX10_move_116)
          · skip
            refine P_l (fun hJ _ _ q => E_tableOut 117 dX10_move_1 (by have e0 := sw_ne h1; have e1 := sw_ne h4; have e2 := sw_ne h7; have e3 := sw_ne h10; have e4 := sw_ne h13; simp only [sw_l1, sw_l2, sw_l3, sw_l4, sw_l5] at *; omega) (by decide) q) ?_
            refine P_l (fun hJ _ _ q => E_aload_n dX10_move_117 rfl (E_callV (as := []) (b := 3) (st := []) (ok_X10_isOn (σ := σ)  hJ ) (by decide) yfX10_isOn mlX10_81 imX10_isOn seX10_isOn clX10 (kd3 hJ.1.1) rfl (Nat.le_of_ble_eq_true rfl) rfl dX10_move_118 q)) ?_
            refine P_if (fun hJ _ _ h1 h2 => E_if_ne 126 dX10_move_121 (by decide) h2 h1) ?_ ?_
            · skip
              refine P_l (fun hJ _ _ q => E_iconst (v := 0) dX10_move_124 (by decide) q) ?_
              exact P_ret (fun _ _ => E_zret01 rfl (by decide) dX10_move_125)
            · skip
              refine P_l (fun hJ _ _ q => E_aload_n dX10_move_126 rfl (E_bipush (v := 6) dX10_move_127 (by decide) q)) ?_
              refine P_call (t := fun v => some (.int v)) (st2 := fun v => .int v :: []) (kc2 := 0) (ks2 := 0) (fun hJ => (ok_X10_endByDrawing (σ := σ) (p1 := 6) )) (fun hJ _ _ _ _ v τ1 hM q => E_callV (as := [.int 6]) (b := 3) (st := []) hM (by decide) yfX10_endByDrawing mlX10_186 imX10_endByDrawing seX10_endByDrawing clX10 (kd3 hJ.1.1) rfl (Nat.le_of_ble_eq_true rfl) rfl dX10_move_129 q) (by decide) (by decide) (fun v18 σ19 => ?_)
              refine P_l (fun hJ _ _ q => E_pop dX10_move_132 rfl (E_iconst (v := 1) dX10_move_133 (by decide) q)) ?_
              exact P_ret (fun _ _ => E_zret01 rfl (by decide) dX10_move_134)

def b_X10_play_28 (s5 : Int32 × rS) : Option (((Int32 ⊕ String) × rS) ⊕ (Int32 × rS)) := if (rI s5.2 31 4) ≤ s5.1 then (oLet (wI s5.2 31 1 0) fun σ6 => some (.inl ((.inl s5.1, σ6)))) else (oB (f_X10_move s5.2 (vAt (rI s5.2 33) 40 s5.1) (vAt (rI s5.2 34) 40 s5.1)) fun v7 σ8 => if v7 = 0 then (oLet (wI σ8 31 1 0) fun σ9 => some (.inl ((.inl s5.1, σ9)))) else (some (.inr ((s5.1 + 1, σ8)))))
def f_X10_play (σ : rS) : Option ((Int32 ⊕ String) × rS) := oB (f_X7_read σ) fun v1 σ2 => if v1 = 0 then (some ((.inr "java/lang/IllegalArgumentException", σ2))) else (oBx (f_X10_needRound σ2) fun _ σ4 => oLoop (b_X10_play_28) oFuel ((0, σ4)))
set_option maxRecDepth 20000 in
set_option maxHeartbeats 2000000 in
theorem ok_X10_play {σ : rS}   : rFn Sy yX10_play mX10_play 8 [.ref 3] σ 2 12 (tX (fun v => .inl (some (.int v)))) (f_X10_play σ) := by
  refine rF_of (ls := [some (.ref 3), none]) yfX10_play rfl (Nat.le_of_ble_eq_true rfl) (fun o τ => ?_)
  unfold f_X10_play
  refine P_l (fun hJ _ _ q => E_aload_n dX10_play_0 rfl (E_getR (b := 31) clX10 4 (by decide) flX10_36 (Or.inl ⟨_, rfl⟩) dX10_play_1 (kd3 hJ.1.1) (rf3_4 hJ.1.1) (by decide) (E_aload_n dX10_play_4 rfl (E_getR (b := 4) clX10 0 (by decide) flX10_12 (Or.inl ⟨_, rfl⟩) dX10_play_5 (kd3 hJ.1.1) (rf3_0 hJ.1.1) (by decide) q)))) ?_
  refine P_call (t := fun v => some (.int v)) (st2 := fun v => .int v :: []) (kc2 := 2) (ks2 := 12) (fun hJ => (ok_X7_read (σ := σ)  )) (fun hJ _ _ _ _ v τ1 hM q => E_callVN (as := [.ref 4]) (b := 31) (st := []) hM (by decide) yfX7_read mlX10_225 imX7_read seX7_read clX7 (kd31 hJ.1.1) rfl (Nat.le_of_ble_eq_true rfl) rfl dX10_play_8 q) (by decide) (by decide) (fun v1 σ2 => ?_)
  refine P_if (fun hJ _ _ h1 h2 => E_if_ne 22 dX10_play_11 (by decide) h2 h1) ?_ ?_
  · skip
    exact P_thr (fun kc ks => xt_IllegalArgumentException (M := mX10_play) (pc := 14) rfl rfl (by decide) (Nat.le_of_ble_eq_true rfl) dX10_play_14 dX10_play_17 dX10_play_18 dX10_play_21 kc ks) (by decide) (by decide)
  · skip
    refine P_l (fun hJ _ _ q => E_aload_n dX10_play_22 rfl q) ?_
    refine P_callx (t2 := fun _ => none) (st2 := fun _ => []) (kc2 := 1) (ks2 := 6) (fun hJ => (ok_X10_needRound (σ := σ2)  )) (fun hJ _ _ _ _ v τ1 hM q => E_callV (as := []) (b := 3) (st := []) hM (by decide) yfX10_needRound mlX10_183 imX10_needRound seX10_needRound clX10 (kd3 hJ.1.1) rfl (Nat.le_of_ble_eq_true rfl) rfl dX10_play_23 q) (fun hJ _ _ _ _ E τ1 hM => E_callVx (τ := τ1) (as := []) (b := 3) (st := []) hM (by decide) yfX10_needRound mlX10_183 imX10_needRound seX10_needRound clX10 (kd3 hJ.1.1) rfl (Nat.le_of_ble_eq_true rfl) rfl dX10_play_23 rfl) (by decide) (by decide) (fun v3 σ4 => ?_)
    refine P_l (fun hJ _ _ q => E_iconst (v := 0) dX10_play_26 (by decide) (E_istore_n (ls2 := [some (.ref 3), some (.int 0)]) dX10_play_27 (by decide) rfl q)) ?_
    refine P_loop (fun s5 => [some (.ref 3), some (.int s5.1)]) (fun s5 => s5.2) (fun s5 => ?_) _ ((0, σ4))
    unfold b_X10_play_28
    refine P_l (fun hJ _ _ q => E_iload_n dX10_play_28 rfl (E_aload_n dX10_play_29 rfl (E_getR (b := 31) clX10 4 (by decide) flX10_36 (Or.inl ⟨_, rfl⟩) dX10_play_30 (kd3 hJ.1.1) (rf3_4 hJ.1.1) (by decide) (E_getIN clX7 4 (by decide) flX10_229 (Or.inl rfl) dX10_play_33 (kd31 hJ.1.1) q)))) ?_
    refine P_if (fun hJ _ _ h1 h2 => E_icmp_ge 74 dX10_play_36 (by decide) h1 h2) ?_ ?_
    · skip
      refine P_l (fun hJ _ _ q => E_aload_n dX10_play_74 rfl (E_getR (b := 31) clX10 4 (by decide) flX10_36 (Or.inl ⟨_, rfl⟩) dX10_play_75 (kd3 hJ.1.1) (rf3_4 hJ.1.1) (by decide) (E_iconst (v := 0) dX10_play_78 (by decide) q))) ?_
      refine P_w (fun hJ _ _ q => E_putIN clX7 1 (by decide) flX10_222 (Or.inl rfl) rfl dX10_play_79 (kd31 hJ.1.1) q) (fun hJ => Sy_wI hJ.1) rfl rfl rfl (fun σ6 hσ6 => ?_)
      refine P_l (fun hJ _ _ q => E_iload_n dX10_play_82 rfl q) ?_
      exact P_inl (P_ret (fun _ _ => E_iret rfl dX10_play_83))
    · skip
      refine P_l (fun hJ _ _ q => E_aload_n dX10_play_39 rfl (E_aload_n dX10_play_40 rfl (E_getR (b := 31) clX10 4 (by decide) flX10_36 (Or.inl ⟨_, rfl⟩) dX10_play_41 (kd3 hJ.1.1) (rf3_4 hJ.1.1) (by decide) (E_getRN (b := 33) clX7 2 (by decide) flX10_232 (Or.inr ⟨_, rfl⟩) dX10_play_44 (kd31 hJ.1.1) (rf31_2 hJ.1.1) (by decide) (E_iload_n dX10_play_47 rfl (E_callS (as := [.ref 33, .int s5.1]) (st := [.ref 3]) (ok_at (σ := s5.2) (a := 33) (i := s5.1) (f := rI s5.2 33) (kd33 hJ.1.1) (by decide) rfl) (by decide) yfX10_at mlX10_193 stX10_at rfl (Nat.le_of_ble_eq_true rfl) rfl dX10_play_48 (E_aload_n dX10_play_51 rfl (E_getR (b := 31) clX10 4 (by decide) flX10_36 (Or.inl ⟨_, rfl⟩) dX10_play_52 (kd3 hJ.1.1) (rf3_4 hJ.1.1) (by decide) (E_getRN (b := 34) clX7 3 (by decide) flX10_235 (Or.inr ⟨_, rfl⟩) dX10_play_55 (kd31 hJ.1.1) (rf31_3 hJ.1.1) (by decide) (E_iload_n dX10_play_58 rfl (E_callS (as := [.ref 34, .int s5.1]) (st := [.int (vAt (rI s5.2 33) 40 s5.1), .ref 3]) (ok_at (σ := s5.2) (a := 34) (i := s5.1) (f := rI s5.2 34) (kd34 hJ.1.1) (by decide) rfl) (by decide) yfX10_at mlX10_193 stX10_at rfl (Nat.le_of_ble_eq_true rfl) rfl dX10_play_59 q))))))))))) ?_
      refine P_call (t := fun v => some (.int v)) (st2 := fun v => .int v :: []) (kc2 := 1) (ks2 := 6) (fun hJ => (ok_X10_move (σ := s5.2) (p1 := vAt (rI s5.2 33) 40 s5.1) (p2 := vAt (rI s5.2 34) 40 s5.1) )) (fun hJ _ _ _ _ v τ1 hM q => E_callV (as := [.int (vAt (rI s5.2 33) 40 s5.1), .int (vAt (rI s5.2 34) 40 s5.1)]) (b := 3) (st := []) hM (by decide) yfX10_move mlX10_238 imX10_move seX10_move clX10 (kd3 hJ.1.1) rfl (Nat.le_of_ble_eq_true rfl) rfl dX10_play_62 q) (by decide) (by decide) (fun v7 σ8 => ?_)
      refine P_if (fun hJ _ _ h1 h2 => E_if_eq 74 dX10_play_65 (by decide) h1 h2) ?_ ?_
      · skip
        refine P_l (fun hJ _ _ q => E_aload_n dX10_play_74 rfl (E_getR (b := 31) clX10 4 (by decide) flX10_36 (Or.inl ⟨_, rfl⟩) dX10_play_75 (kd3 hJ.1.1) (rf3_4 hJ.1.1) (by decide) (E_iconst (v := 0) dX10_play_78 (by decide) q))) ?_
        refine P_w (fun hJ _ _ q => E_putIN clX7 1 (by decide) flX10_222 (Or.inl rfl) rfl dX10_play_79 (kd31 hJ.1.1) q) (fun hJ => Sy_wI hJ.1) rfl rfl rfl (fun σ9 hσ9 => ?_)
        refine P_l (fun hJ _ _ q => E_iload_n dX10_play_82 rfl q) ?_
        exact P_inl (P_ret (fun _ _ => E_iret rfl dX10_play_83))
      · skip
        refine P_l (fun hJ _ _ q => E_iinc (v := 1) (ls2 := [some (.ref 3), some (.int (s5.1 + 1))]) dX10_play_68 rfl (by decide) (by decide) rfl (E_goto 28 dX10_play_71 (by decide) q)) ?_
        exact P_back ((s5.1 + 1, σ8))

def f_X10_isWhole (σ : rS) : Option (Int32 × rS) := oB (f_X10_takeTable σ) fun _ σ2 => oB (f_X9_go σ2 1 ((rI σ2 4 0) + 1)) fun v3 σ4 => some (((if v3 ≤ 0 then 0 else 1 : Int32), σ4))
set_option maxRecDepth 20000 in
set_option maxHeartbeats 2000000 in
theorem ok_X10_isWhole {σ : rS}   : rFn Sy yX10_isWhole mX10_isWhole 5 [.ref 3] σ 0 0 (fun v => .inl (some (.int v))) (f_X10_isWhole σ) := by
  refine rF_of (ls := [some (.ref 3)]) yfX10_isWhole rfl (Nat.le_of_ble_eq_true rfl) (fun o τ => ?_)
  unfold f_X10_isWhole
  refine P_l (fun hJ _ _ q => E_aload_n dX10_isWhole_0 rfl q) ?_
  refine P_call (t := fun _ => none) (st2 := fun _ => []) (kc2 := 0) (ks2 := 0) (fun hJ => (ok_X10_takeTable (σ := σ)  )) (fun hJ _ _ _ _ v τ1 hM q => E_callV (as := []) (b := 3) (st := []) hM (by decide) yfX10_takeTable mlX10_242 imX10_takeTable seX10_takeTable clX10 (kd3 hJ.1.1) rfl (Nat.le_of_ble_eq_true rfl) rfl dX10_isWhole_1 q) (by decide) (by decide) (fun v1 σ2 => ?_)
  refine P_l (fun hJ _ _ q => E_aload_n dX10_isWhole_4 rfl (E_getR (b := 37) clX10 6 (by decide) flX10_50 (Or.inl ⟨_, rfl⟩) dX10_isWhole_5 (kd3 hJ.1.1) (rf3_6 hJ.1.1) (by decide) (E_aload_n dX10_isWhole_8 rfl (E_getR (b := 4) clX10 0 (by decide) flX10_12 (Or.inl ⟨_, rfl⟩) dX10_isWhole_9 (kd3 hJ.1.1) (rf3_0 hJ.1.1) (by decide) (E_iconst (v := 1) dX10_isWhole_12 (by decide) (E_aload_n dX10_isWhole_13 rfl (E_getR (b := 4) clX10 0 (by decide) flX10_12 (Or.inl ⟨_, rfl⟩) dX10_isWhole_14 (kd3 hJ.1.1) (rf3_0 hJ.1.1) (by decide) (E_getIN clX5 0 (by decide) flX10_88 (Or.inl rfl) dX10_isWhole_17 (kd4 hJ.1.1) (E_iconst (v := 1) dX10_isWhole_20 (by decide) (E_iadd dX10_isWhole_21 q)))))))))) ?_
  refine P_call (t := fun v => some (.int v)) (st2 := fun v => .int v :: []) (kc2 := 0) (ks2 := 0) (fun hJ => (ok_X9_go (σ := σ2) (p2 := 1) (p3 := (rI σ2 4 0) + 1) )) (fun hJ _ _ _ _ v τ1 hM q => E_callVN (as := [.ref 4, .int 1, .int ((rI σ2 4 0) + 1)]) (b := 37) (st := []) hM (by decide) yfX9_go mlX10_245 imX9_go seX9_go clX9 (kd37 hJ.1.1) rfl (Nat.le_of_ble_eq_true rfl) rfl dX10_isWhole_22 q) (by decide) (by decide) (fun v3 σ4 => ?_)
  refine P_l (pc2 := 33) (ls2 := [none]) (st2 := [.int ((if v3 ≤ 0 then 0 else 1 : Int32))]) (fun hJ _ _ hq => ?_) ?_
  · skip
    refine E_if_le 32 dX10_isWhole_25 (by decide) (fun c_25_0 => ?_) (fun c_25_0 => ?_)
    · skip
      refine E_iconst (v := 0) dX10_isWhole_32 (by decide) ?_
      simp only [if_pos c_25_0] at hq
      exact E_less (ls2 := [none]) hq (rLe_at [none] [some (.ref 3)] trivial)
    · skip
      refine E_iconst (v := 1) dX10_isWhole_28 (by decide) ?_
      refine E_goto 33 dX10_isWhole_29 (by decide) ?_
      simp only [if_neg c_25_0] at hq
      exact E_less (ls2 := [none]) hq (rLe_at [none] [some (.ref 3)] trivial)
  · skip
    exact P_ret (fun _ _ => E_zret01 rfl (by split <;> decide) dX10_isWhole_33)

