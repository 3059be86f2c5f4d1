def b_X4_unpack_39 (p1 : Int64) (p2 : Int64) (s3 : Int32 × rS) (s4 : Int32 × rS) : Option (((Unit × rS) ⊕ (Int32 × rS)) ⊕ (Int32 × rS)) := if (v_X9_tilesOf s3.2 p1 p2 s3.1) ≤ s4.1 then (some (.inl (.inr ((s3.1 + 1, s4.2))))) else (oLet (rowI s4.2 66 (vSet (rI s4.2 66) 24 (rI s4.2 65 4) s3.1)) fun σ5 => oLet (wI σ5 65 4 ((rI σ5 65 4) + 1)) fun σ6 => oLet (wI σ6 65 5 ((rI σ6 65 5) + ((iRem s3.1 13) + 1))) fun σ7 => some (.inr ((s4.1 + 1, σ7))))
def b_X4_unpack_13 (p1 : Int64) (p2 : Int64) (s3 : Int32 × rS) : Option ((Unit × rS) ⊕ (Int32 × rS)) := if (if (rI s3.2 65 3) = 0 then true else (if 52 ≤ s3.1 then true else false)) = true then (some (.inl (((), s3.2)))) else (oLoop (b_X4_unpack_39 p1 p2 s3) oFuel ((0, s3.2)))
def f_X4_unpack (σ : rS) (p1 : Int64) (p2 : Int64) : Option (Unit × rS) := oLet (wI σ 65 4 0) fun σ1 => oLet (wI σ1 65 5 0) fun σ2 => oLoop (b_X4_unpack_13 p1 p2) oFuel ((0, σ2))
set_option maxRecDepth 20000 in
set_option maxHeartbeats 2000000 in
theorem ok_X4_unpack {σ : rS} {p1 : Int64} {p2 : Int64}   : rFn Sy yX4_unpack mX4_unpack 1 [.ref 65, .long p1, .long p2] σ 0 0 (fun _ => .inl none) (f_X4_unpack σ p1 p2) := by
  refine rF_of (ls := [some (.ref 65), some (.long p1), none, some (.long p2), none, none, none, none]) yfX4_unpack rfl (Nat.le_of_ble_eq_true rfl) (fun o τ => ?_)
  unfold f_X4_unpack
  refine P_l (fun hJ _ _ q => E_aload_n dX4_unpack_0 rfl (E_iconst (v := 0) dX4_unpack_1 (by decide) q)) ?_
  refine P_w (fun hJ _ _ q => E_putI clX4 4 (by decide) flX4_22 (Or.inl rfl) rfl dX4_unpack_2 (kd65 hJ.1.1) q) (fun hJ => Sy_wI hJ.1) rfl rfl rfl (fun σ1 hσ1 => ?_)
  refine P_l (fun hJ _ _ q => E_aload_n dX4_unpack_5 rfl (E_iconst (v := 0) dX4_unpack_6 (by decide) q)) ?_
  refine P_w (fun hJ _ _ q => E_putI clX4 5 (by decide) flX4_25 (Or.inl rfl) rfl dX4_unpack_7 (kd65 hJ.1.1) q) (fun hJ => Sy_wI hJ.1) rfl rfl rfl (fun σ2 hσ2 => ?_)
  refine P_l (fun hJ _ _ q => E_iconst (v := 0) dX4_unpack_10 (by decide) (E_istore (ls2 := [some (.ref 65), some (.long p1), none, some (.long p2), none, some (.int 0), none, none]) dX4_unpack_11 (by decide) rfl q)) ?_
  refine P_loop (fun s3 => [some (.ref 65), some (.long p1), none, some (.long p2), none, some (.int s3.1), none, none]) (fun s3 => s3.2) (fun s3 => ?_) _ ((0, σ2))
  unfold b_X4_unpack_13
  refine P_l (fun hJ _ _ q => E_aload_n dX4_unpack_13 rfl (E_getI clX4 3 (by decide) flX4_28 (Or.inr rfl) dX4_unpack_14 (kd65 hJ.1.1) q)) ?_
  refine P_if (c := (if (rI s3.2 65 3) = 0 then true else (if 52 ≤ s3.1 then true else false)) = true) (pc1 := 97) (ls1 := [some (.ref 65), some (.long p1), none, some (.long p2), none, some (.int s3.1), none, none]) (st1 := []) (pc2 := 27) (ls2 := [some (.ref 65), some (.long p1), none, some (.long p2), none, some (.int s3.1), none, none]) (st2 := []) (fun hJ _ _ hX hY => ?_) ?_ ?_
  · skip
    refine E_if_eq 97 dX4_unpack_17 (by decide) (fun c_17_0 => ?_) (fun c_17_0 => ?_)
    · skip
      exact hX (by simp only [if_pos c_17_0])
    · skip
      refine E_iload dX4_unpack_20 rfl ?_
      refine E_bipush (v := 52) dX4_unpack_22 (by decide) ?_
      refine E_icmp_ge 97 dX4_unpack_24 (by decide) (fun c_24_1 => ?_) (fun c_24_1 => ?_)
      · skip
        exact hX (by simp only [if_neg c_17_0, if_pos c_24_1])
      · skip
        exact hY (by simp only [if_neg c_17_0, if_neg c_24_1]; exact Bool.false_ne_true)
  · skip
    exact P_inl (P_ret (fun _ _ => E_vret rfl dX4_unpack_97))
  · skip
    refine P_l (fun hJ _ _ q => E_lload_n dX4_unpack_27 rfl (E_lload_n dX4_unpack_28 rfl (E_iload dX4_unpack_29 rfl (E_callSN (as := [.long p1, .long p2, .int s3.1]) (st := []) (ok_X9_tilesOf (σ := s3.2) (p1 := p1) (p2 := p2) (p3 := s3.1) hJ ) (by decide) yfX9_tilesOf mlX4_32 stX9_tilesOf rfl (Nat.le_of_ble_eq_true rfl) rfl dX4_unpack_31 (E_istore (ls2 := [some (.ref 65), some (.long p1), none, some (.long p2), none, some (.int s3.1), some (.int (v_X9_tilesOf s3.2 p1 p2 s3.1)), none]) dX4_unpack_34 (by decide) rfl (E_iconst (v := 0) dX4_unpack_36 (by decide) (E_istore (ls2 := [some (.ref 65), some (.long p1), none, some (.long p2), none, some (.int s3.1), some (.int (v_X9_tilesOf s3.2 p1 p2 s3.1)), some (.int 0)]) dX4_unpack_37 (by decide) rfl q))))))) ?_
    refine P_loop (fun s4 => [some (.ref 65), some (.long p1), none, some (.long p2), none, some (.int s3.1), some (.int (v_X9_tilesOf s3.2 p1 p2 s3.1)), some (.int s4.1)]) (fun s4 => s4.2) (fun s4 => ?_) _ ((0, s3.2))
    unfold b_X4_unpack_39
    refine P_l (fun hJ _ _ q => E_iload dX4_unpack_39 rfl (E_iload dX4_unpack_41 rfl q)) ?_
    refine P_if (fun hJ _ _ h1 h2 => E_icmp_ge 91 dX4_unpack_43 (by decide) h1 h2) ?_ ?_
    · skip
      refine P_l (fun hJ _ _ q => E_iinc (v := 1) (ls2 := [some (.ref 65), some (.long p1), none, some (.long p2), none, some (.int (s3.1 + 1)), some (.int (v_X9_tilesOf s3.2 p1 p2 s3.1)), some (.int s4.1)]) dX4_unpack_91 rfl (by decide) (by decide) rfl (E_goto 13 dX4_unpack_94 (by decide) q)) ?_
      refine P_less [some (.ref 65), some (.long p1), none, some (.long p2), none, some (.int (s3.1 + 1)), none, none] (And.intro rfl (And.intro rfl (And.intro rfl (And.intro rfl trivial)))) ?_
      exact P_inl (P_back ((s3.1 + 1, s4.2)))
    · skip
      refine P_l (fun hJ _ _ q => E_aload_n dX4_unpack_46 rfl (E_getR (b := 66) clX4 0 (by decide) flX4_9 (Or.inr ⟨_, rfl⟩) dX4_unpack_47 (kd65 hJ.1.1) (rf65_0 hJ.1.1) (by decide) (E_aload_n dX4_unpack_50 rfl (E_getI clX4 4 (by decide) flX4_22 (Or.inl rfl) dX4_unpack_51 (kd65 hJ.1.1) (E_iload dX4_unpack_54 rfl q))))) ?_
      refine P_w (fun hJ _ _ q => E_callSN (as := [.ref 66, .int (rI s4.2 65 4), .int s3.1]) (st := []) (ok_set (σ := s4.2) (a := 66) (i := rI s4.2 65 4) (x := s3.1) (f := rI s4.2 66) (kd66 hJ.1.1) (by decide) (by decide) rfl) (by decide) yfX10_set mlX4_38 stX10_set rfl (Nat.le_of_ble_eq_true rfl) rfl dX4_unpack_56 q) (fun hJ => Sy_rowI hJ.1) rfl rfl rfl (fun σ5 hσ5 => ?_)
      refine P_l (fun hJ _ _ q => E_aload_n dX4_unpack_59 rfl (E_dup dX4_unpack_60 rfl (E_getI clX4 4 (by decide) flX4_22 (Or.inl rfl) dX4_unpack_61 (kd65 hJ.1.1) (E_iconst (v := 1) dX4_unpack_64 (by decide) (E_iadd dX4_unpack_65 q))))) ?_
      refine P_w (fun hJ _ _ q => E_putI clX4 4 (by decide) flX4_22 (Or.inl rfl) rfl dX4_unpack_66 (kd65 hJ.1.1) q) (fun hJ => Sy_wI hJ.1) rfl rfl rfl (fun σ6 hσ6 => ?_)
      refine P_l (fun hJ _ _ q => E_aload_n dX4_unpack_69 rfl (E_dup dX4_unpack_70 rfl (E_getI clX4 5 (by decide) flX4_25 (Or.inl rfl) dX4_unpack_71 (kd65 hJ.1.1) (E_iload dX4_unpack_74 rfl (E_bipush (v := 13) dX4_unpack_76 (by decide) (E_irem dX4_unpack_78 (by decide) (E_iconst (v := 1) dX4_unpack_79 (by decide) (E_iadd dX4_unpack_80 (E_iadd dX4_unpack_81 q))))))))) ?_
      refine P_w (fun hJ _ _ q => E_putI clX4 5 (by decide) flX4_25 (Or.inl rfl) rfl dX4_unpack_82 (kd65 hJ.1.1) q) (fun hJ => Sy_wI hJ.1) rfl rfl rfl (fun σ7 hσ7 => ?_)
      refine P_l (fun hJ _ _ q => E_iinc (v := 1) (ls2 := [some (.ref 65), some (.long p1), none, some (.long p2), none, some (.int s3.1), some (.int (v_X9_tilesOf s3.2 p1 p2 s3.1)), some (.int (s4.1 + 1))]) dX4_unpack_85 rfl (by decide) (by decide) rfl (E_goto 39 dX4_unpack_88 (by decide) q)) ?_
      exact P_back ((s4.1 + 1, σ7))

def v_X4_kindAt (σ : rS) (p1 : Int32) : Int32 := if (rI σ 65 3) = 0 then ((-1)) else (if (rI σ 65 4) ≤ p1 then ((-1)) else (vAt (rI σ 66) 24 p1))
set_option maxRecDepth 20000 in
theorem ok_X4_kindAt {σ : rS} {p1 : Int32}  (hJ : J Sy σ)  : rMet yX4_kindAt mX4_kindAt 1 [.ref 65, .int p1] σ 0 0 (some (.int (v_X4_kindAt σ p1))) σ := by
  refine rMet_of (ls := [some (.ref 65), some (.int p1)]) yfX4_kindAt rfl (Nat.le_of_ble_eq_true rfl) ?_
  refine E_aload_n dX4_kindAt_0 rfl ?_
  refine E_getI clX4 3 (by decide) flX4_28 (Or.inr rfl) dX4_kindAt_1 (kd65 hJ.1.1) ?_
  refine E_if_eq 26 dX4_kindAt_4 (by decide) (fun c_4_0 => ?_) (fun c_4_0 => ?_)
  · skip
    refine E_iconst (v := (-1)) dX4_kindAt_26 (by decide) ?_
    exact E_iretE rfl dX4_kindAt_27 (by unfold v_X4_kindAt; simp only [if_pos c_4_0]) rfl
  · skip
    refine E_iload_n dX4_kindAt_7 rfl ?_
    refine E_aload_n dX4_kindAt_8 rfl ?_
    refine E_getI clX4 4 (by decide) flX4_22 (Or.inl rfl) dX4_kindAt_9 (kd65 hJ.1.1) ?_
    refine E_icmp_ge 26 dX4_kindAt_12 (by decide) (fun c_12_1 => ?_) (fun c_12_1 => ?_)
    · skip
      refine E_iconst (v := (-1)) dX4_kindAt_26 (by decide) ?_
      exact E_iretE rfl dX4_kindAt_27 (by unfold v_X4_kindAt; simp only [if_neg c_4_0, if_pos c_12_1]) rfl
    · skip
      refine E_aload_n dX4_kindAt_15 rfl ?_
      refine E_getR (b := 66) clX4 0 (by decide) flX4_9 (Or.inr ⟨_, rfl⟩) dX4_kindAt_16 (kd65 hJ.1.1) (rf65_0 hJ.1.1) (by decide) ?_
      refine E_iload_n dX4_kindAt_19 rfl ?_
      refine E_callSN (as := [.ref 66, .int p1]) (st := []) (ok_at (σ := σ) (a := 66) (i := p1) (f := rI σ 66) (kd66 hJ.1.1) (by decide) rfl) (by decide) yfX10_at mlX4_42 stX10_at rfl (Nat.le_of_ble_eq_true rfl) rfl dX4_kindAt_20 ?_
      refine E_goto 27 dX4_kindAt_23 (by decide) ?_
      exact E_iretE rfl dX4_kindAt_27 (by unfold v_X4_kindAt; simp only [if_neg c_4_0, if_neg c_12_1]) rfl

def f_X10_wipe (σ : rS) : Option (Int32 × rS) := oLet (wI σ 31 1 0) fun σ1 => some ((rI σ 31 1, σ1))
set_option maxRecDepth 20000 in
set_option maxHeartbeats 2000000 in
theorem ok_X10_wipe {σ : rS}   : rFn Sy yX10_wipe mX10_wipe 0 [.ref 3] σ 0 0 (fun v => .inl (some (.int v))) (f_X10_wipe σ) := by
  refine rF_of (ls := [some (.ref 3), none]) yfX10_wipe rfl (Nat.le_of_ble_eq_true rfl) (fun o τ => ?_)
  unfold f_X10_wipe
  refine P_l (fun hJ _ _ q => E_aload_n dX10_wipe_0 rfl (E_getR (b := 31) clX10 4 (by decide) flX10_36 (Or.inl ⟨_, rfl⟩) dX10_wipe_1 (kd3 hJ.1.1) (rf3_4 hJ.1.1) (by decide) (E_getIN clX7 1 (by decide) flX10_222 (Or.inl rfl) dX10_wipe_4 (kd31 hJ.1.1) (E_istore_n (ls2 := [some (.ref 3), some (.int (rI σ 31 1))]) dX10_wipe_7 (by decide) rfl (E_aload_n dX10_wipe_8 rfl (E_getR (b := 31) clX10 4 (by decide) flX10_36 (Or.inl ⟨_, rfl⟩) dX10_wipe_9 (kd3 hJ.1.1) (rf3_4 hJ.1.1) (by decide) (E_iconst (v := 0) dX10_wipe_12 (by decide) q))))))) ?_
  refine P_w (fun hJ _ _ q => E_putIN clX7 1 (by decide) flX10_222 (Or.inl rfl) rfl dX10_wipe_13 (kd31 hJ.1.1) q) (fun hJ => Sy_wI hJ.1) rfl rfl rfl (fun σ1 hσ1 => ?_)
  refine P_l (fun hJ _ _ q => E_iload_n dX10_wipe_16 rfl q) ?_
  exact P_ret (fun _ _ => E_iret rfl dX10_wipe_17)

def b_X10_takeTable_9 (s3 : Int32 × rS) : Option ((Unit × rS) ⊕ (Int32 × rS)) := if 52 ≤ s3.1 then (some (.inl (((), s3.2)))) else (oB (f_X9_add s3.2 s3.1 (v_X1_lies s3.2 5 s3.1)) fun _ σ5 => some (.inr ((s3.1 + 1, σ5))))
def f_X10_takeTable (σ : rS) : Option (Unit × rS) := oB (f_X9_clear σ) fun _ σ2 => oLoop (b_X10_takeTable_9) oFuel ((0, σ2))
set_option maxRecDepth 20000 in
set_option maxHeartbeats 2000000 in
theorem ok_X10_takeTable {σ : rS}   : rFn Sy yX10_takeTable mX10_takeTable 2 [.ref 3] σ 0 0 (fun _ => .inl none) (f_X10_takeTable σ) := by
  refine rF_of (ls := [some (.ref 3), none]) yfX10_takeTable rfl (Nat.le_of_ble_eq_true rfl) (fun o τ => ?_)
  unfold f_X10_takeTable
  refine P_l (fun hJ _ _ q => E_aload_n dX10_takeTable_0 rfl (E_getR (b := 37) clX10 6 (by decide) flX10_50 (Or.inl ⟨_, rfl⟩) dX10_takeTable_1 (kd3 hJ.1.1) (rf3_6 hJ.1.1) (by decide) q)) ?_
  refine P_call (t := fun _ => none) (st2 := fun _ => []) (kc2 := 0) (ks2 := 0) (fun hJ => (ok_X9_clear (σ := σ)  )) (fun hJ _ _ _ _ v τ1 hM q => E_callVN (as := []) (b := 37) (st := []) hM (by decide) yfX9_clear mlX10_454 imX9_clear seX9_clear clX9 (kd37 hJ.1.1) rfl (Nat.le_of_ble_eq_true rfl) rfl dX10_takeTable_4 q) (by decide) (by decide) (fun v1 σ2 => ?_)
  refine P_l (fun hJ _ _ q => E_iconst (v := 0) dX10_takeTable_7 (by decide) (E_istore_n (ls2 := [some (.ref 3), some (.int 0)]) dX10_takeTable_8 (by decide) rfl q)) ?_
  refine P_loop (fun s3 => [some (.ref 3), some (.int s3.1)]) (fun s3 => s3.2) (fun s3 => ?_) _ ((0, σ2))
  unfold b_X10_takeTable_9
  refine P_l (fun hJ _ _ q => E_iload_n dX10_takeTable_9 rfl (E_bipush (v := 52) dX10_takeTable_10 (by decide) q)) ?_
  refine P_if (fun hJ _ _ h1 h2 => E_icmp_ge 37 dX10_takeTable_12 (by decide) h1 h2) ?_ ?_
  · skip
    exact P_inl (P_ret (fun _ _ => E_vret rfl dX10_takeTable_37))
  · skip
    refine P_l (fun hJ _ _ q => E_aload_n dX10_takeTable_15 rfl (E_getR (b := 37) clX10 6 (by decide) flX10_50 (Or.inl ⟨_, rfl⟩) dX10_takeTable_16 (kd3 hJ.1.1) (rf3_6 hJ.1.1) (by decide) (E_iload_n dX10_takeTable_19 rfl (E_aload_n dX10_takeTable_20 rfl (E_getR (b := 5) clX10 1 (by decide) flX10_19 (Or.inl ⟨_, rfl⟩) dX10_takeTable_21 (kd3 hJ.1.1) (rf3_1 hJ.1.1) (by decide) (E_iload_n dX10_takeTable_24 rfl (E_callVN (as := [.int s3.1]) (b := 5) (st := [.int s3.1, .ref 37]) (ok_X1_lies (σ := s3.2) (b := 5) (k := s3.1) hJ (Or.inl rfl)) (by decide) yfX1_lies mlX10_146 imX1_lies seX1_lies clX1 (kd5 hJ.1.1) rfl (Nat.le_of_ble_eq_true rfl) rfl dX10_takeTable_25 q))))))) ?_
    refine P_call (t := fun _ => none) (st2 := fun _ => []) (kc2 := 0) (ks2 := 0) (fun hJ => (ok_X9_add (σ := s3.2) (p1 := s3.1) (p2 := v_X1_lies s3.2 5 s3.1) )) (fun hJ _ _ _ _ v τ1 hM q => E_callVN (as := [.int s3.1, .int (v_X1_lies s3.2 5 s3.1)]) (b := 37) (st := []) hM (by decide) yfX9_add mlX10_455 imX9_add seX9_add clX9 (kd37 hJ.1.1) rfl (Nat.le_of_ble_eq_true rfl) rfl dX10_takeTable_28 q) (by decide) (by decide) (fun v4 σ5 => ?_)
    refine P_l (fun hJ _ _ q => E_iinc (v := 1) (ls2 := [some (.ref 3), some (.int (s3.1 + 1))]) dX10_takeTable_31 rfl (by decide) (by decide) rfl (E_goto 9 dX10_takeTable_34 (by decide) q)) ?_
    exact P_back ((s3.1 + 1, σ5))

def f_X10_isWhole (σ : rS) : Option (Int32 × rS) := oB (f_X10_takeTable σ) fun _ σ2 => oB (f_X9_go σ2 1 ((rI σ2 4 0) + 1)) fun v3 σ4 => some (((if v3 ≤ 0 then 0 else 1 : Int32), σ4))
set_option maxRecDepth 20000 in
set_option maxHeartbeats 2000000 in
theorem ok_X10_isWhole {σ : rS}   : rFn Sy yX10_isWhole mX10_isWhole 5 [.ref 3] σ 0 0 (fun v => .inl (some (.int v))) (f_X10_isWhole σ) := by
  refine rF_of (ls := [some (.ref 3)]) yfX10_isWhole rfl (Nat.le_of_ble_eq_true rfl) (fun o τ => ?_)
  unfold f_X10_isWhole
  refine P_l (fun hJ _ _ q => E_aload_n dX10_isWhole_0 rfl q) ?_
  refine P_call (t := fun _ => none) (st2 := fun _ => []) (kc2 := 0) (ks2 := 0) (fun hJ => (ok_X10_takeTable (σ := σ)  )) (fun hJ _ _ _ _ v τ1 hM q => E_callV (as := []) (b := 3) (st := []) hM (by decide) yfX10_takeTable mlX10_242 imX10_takeTable seX10_takeTable clX10 (kd3 hJ.1.1) rfl (Nat.le_of_ble_eq_true rfl) rfl dX10_isWhole_1 q) (by decide) (by decide) (fun v1 σ2 => ?_)
  refine P_l (fun hJ _ _ q => E_aload_n dX10_isWhole_4 rfl (E_getR (b := 37) clX10 6 (by decide) flX10_50 (Or.inl ⟨_, rfl⟩) dX10_isWhole_5 (kd3 hJ.1.1) (rf3_6 hJ.1.1) (by decide) (E_aload_n dX10_isWhole_8 rfl (E_getR (b := 4) clX10 0 (by decide) flX10_12 (Or.inl ⟨_, rfl⟩) dX10_isWhole_9 (kd3 hJ.1.1) (rf3_0 hJ.1.1) (by decide) (E_iconst (v := 1) dX10_isWhole_12 (by decide) (E_aload_n dX10_isWhole_13 rfl (E_getR (b := 4) clX10 0 (by decide) flX10_12 (Or.inl ⟨_, rfl⟩) dX10_isWhole_14 (kd3 hJ.1.1) (rf3_0 hJ.1.1) (by decide) (E_getIN clX5 0 (by decide) flX10_88 (Or.inl rfl) dX10_isWhole_17 (kd4 hJ.1.1) (E_iconst (v := 1) dX10_isWhole_20 (by decide) (E_iadd dX10_isWhole_21 q)))))))))) ?_
  refine P_call (t := fun v => some (.int v)) (st2 := fun v => .int v :: []) (kc2 := 0) (ks2 := 0) (fun hJ => (ok_X9_go (σ := σ2) (p2 := 1) (p3 := (rI σ2 4 0) + 1) )) (fun hJ _ _ _ _ v τ1 hM q => E_callVN (as := [.ref 4, .int 1, .int ((rI σ2 4 0) + 1)]) (b := 37) (st := []) hM (by decide) yfX9_go mlX10_245 imX9_go seX9_go clX9 (kd37 hJ.1.1) rfl (Nat.le_of_ble_eq_true rfl) rfl dX10_isWhole_22 q) (by decide) (by decide) (fun v3 σ4 => ?_)
  refine P_l (pc2 := 33) (ls2 := [none]) (st2 := [.int ((if v3 ≤ 0 then 0 else 1 : Int32))]) (fun hJ _ _ hq => ?_) ?_
  · skip
    refine E_if_le 32 dX10_isWhole_25 (by decide) (fun c_25_0 => ?_) (fun c_25_0 => ?_)
    · skip
      refine E_iconst (v := 0) dX10_isWhole_32 (by decide) ?_
      simp only [if_pos c_25_0] at hq
      exact E_less (ls2 := [none]) hq (rLe_at [none] [some (.ref 3)] trivial)
    · skip
      refine E_iconst (v := 1) dX10_isWhole_28 (by decide) ?_
      refine E_goto 33 dX10_isWhole_29 (by decide) ?_
      simp only [if_neg c_25_0] at hq
      exact E_less (ls2 := [none]) hq (rLe_at [none] [some (.ref 3)] trivial)
  · skip
    exact P_ret (fun _ _ => E_zret01 rfl (by split <;> decide) dX10_isWhole_33)

def b_X10_copies_4 (σ : rS) (s1 : Int64 × Int32) : Option (Int64 ⊕ (Int64 × Int32)) := if 52 ≤ s1.2 then (some (.inl s1.1)) else ((f_X6_claimed σ s1.2).bind fun v2 => oLet ((if (v2 + (vAt (rI σ 9) 52 s1.2)) ≤ 2 then s1.1 else (s1.1 ||| ((1 : Int64) <<< (((s1.2 : Int32)).toInt64 &&& 63))) : Int64) : Int64) fun x3 => some (.inr ((x3, s1.2 + 1))))
def f_X10_copies (σ : rS) : Option Int64 := oLoop (b_X10_copies_4 σ) oFuel (((0 : Int64), 0))
set_option maxRecDepth 20000 in
set_option maxHeartbeats 2000000 in
theorem ok_X10_copies {σ : rS}   : rFr Sy yX10_copies mX10_copies 2 [.ref 3] σ (fun v => some (.long v)) (f_X10_copies σ) := by
  refine rFr_of (ls := [some (.ref 3), none, none, none]) yfX10_copies rfl (Nat.le_of_ble_eq_true rfl) (fun o τ => ?_)
  unfold f_X10_copies
  refine P_l (fun hJ _ _ q => E_lconst (v := 0) dX10_copies_0 (by decide) (E_lstore_n (ls2 := [some (.ref 3), some (.long (0 : Int64)), none, none]) dX10_copies_1 (by decide) rfl (E_iconst (v := 0) dX10_copies_2 (by decide) (E_istore_n (ls2 := [some (.ref 3), some (.long (0 : Int64)), none, some (.int 0)]) dX10_copies_3 (by decide) rfl q)))) ?_
  refine P_loop (fun s1 => [some (.ref 3), some (.long s1.1), none, some (.int s1.2)]) (fun _ => σ) (fun s1 => ?_) _ (((0 : Int64), 0))
  unfold b_X10_copies_4
  refine P_l (fun hJ _ _ q => E_iload_n dX10_copies_4 rfl (E_bipush (v := 52) dX10_copies_5 (by decide) q)) ?_
  refine P_if (fun hJ _ _ h1 h2 => E_icmp_ge 46 dX10_copies_7 (by decide) h1 h2) ?_ ?_
  · skip
    refine P_l (fun hJ _ _ q => E_lload_n dX10_copies_46 rfl q) ?_
    exact P_inl (P_retr (fun _ _ => E_lret rfl dX10_copies_47))
  · skip
    refine P_l (fun hJ _ _ q => E_aload_n dX10_copies_10 rfl (E_getR (b := 19) clX10 3 (by decide) flX10_29 (Or.inl ⟨_, rfl⟩) dX10_copies_11 (kd3 hJ.1.1) (rf3_3 hJ.1.1) (by decide) (E_iload_n dX10_copies_14 rfl q))) ?_
    refine P_callr (t := fun v => some (.int v)) (st2 := fun v => .int v :: []) (fun hJ => (ok_X6_claimed (σ := σ) (p1 := s1.2) )) (fun hJ _ _ v hM q => E_callVN (as := [.int s1.2]) (b := 19) (st := []) hM (by decide) yfX6_claimed mlX10_327 imX6_claimed seX6_claimed clX6 (kd19 hJ.1.1) rfl (Nat.le_of_ble_eq_true rfl) rfl dX10_copies_15 q) (fun v2 => ?_)
    refine P_l (fun hJ _ _ q => E_aload_n dX10_copies_18 rfl (E_getR (b := 5) clX10 1 (by decide) flX10_19 (Or.inl ⟨_, rfl⟩) dX10_copies_19 (kd3 hJ.1.1) (rf3_1 hJ.1.1) (by decide) (E_getRN (b := 9) clX1 3 (by decide) flX10_330 (Or.inr ⟨_, rfl⟩) dX10_copies_22 (kd5 hJ.1.1) (rf5_3 hJ.1.1) (by decide) (E_iload_n dX10_copies_25 rfl (E_callS (as := [.ref 9, .int s1.2]) (st := [.int v2]) (ok_at (σ := σ) (a := 9) (i := s1.2) (f := rI σ 9) (kd9 hJ.1.1) (by decide) rfl) (by decide) yfX10_at mlX10_193 stX10_at rfl (Nat.le_of_ble_eq_true rfl) rfl dX10_copies_26 (E_iadd dX10_copies_29 (E_iconst (v := 2) dX10_copies_30 (by decide) q))))))) ?_
    refine P_l (pc2 := 40) (ls2 := [some (.ref 3), some (.long ((if (v2 + (vAt (rI σ 9) 52 s1.2)) ≤ 2 then s1.1 else (s1.1 ||| ((1 : Int64) <<< (((s1.2 : Int32)).toInt64 &&& 63))) : Int64))), none, some (.int s1.2)]) (st2 := []) (fun hJ _ _ hq => ?_) ?_
    · skip
      refine E_icmp_le 40 dX10_copies_31 (by decide) (fun c_31_0 => ?_) (fun c_31_0 => ?_)
      · skip
        simp only [if_pos c_31_0] at hq
        exact hq
      · skip
        refine E_lload_n dX10_copies_34 rfl ?_
        refine E_lconst (v := 1) dX10_copies_35 (by decide) ?_
        refine E_iload_n dX10_copies_36 rfl ?_
        refine E_lshl dX10_copies_37 ?_
        refine E_lor dX10_copies_38 ?_
        refine E_lstore_n (ls2 := [some (.ref 3), some (.long (s1.1 ||| ((1 : Int64) <<< (((s1.2 : Int32)).toInt64 &&& 63)))), none, some (.int s1.2)]) dX10_copies_39 (by decide) rfl ?_
        simp only [if_neg c_31_0] at hq
        exact hq
    · skip
      refine P_v ((if (v2 + (vAt (rI σ 9) 52 s1.2)) ≤ 2 then s1.1 else (s1.1 ||| ((1 : Int64) <<< (((s1.2 : Int32)).toInt64 &&& 63))) : Int64)) (fun x => [some (.ref 3), some (.long x), none, some (.int s1.2)]) (fun x3 => ?_)
      refine P_l (fun hJ _ _ q => E_iinc (v := 1) (ls2 := [some (.ref 3), some (.long x3), none, some (.int (s1.2 + 1))]) dX10_copies_40 rfl (by decide) (by decide) rfl (E_goto 4 dX10_copies_43 (by decide) q)) ?_
      exact P_back ((x3, s1.2 + 1))

def f_X10_replay (σ : rS) (p1 : Int32) (p2 : Int32) (p3 : Int32) : Option (Unit × rS) := if p1 = 1 then (oB (f_X1_layTile σ 12 p2 p3) fun _ σ3 => some (((), σ3))) else (if p1 = 2 then (oB (f_X1_layJoker σ 12 p2 p3) fun _ σ6 => some (((), σ6))) else (if p1 = 3 then (oB (f_X1_swapJoker σ 12 p2 p3) fun _ σ9 => some (((), σ9))) else (if p1 = 4 then (oB (f_X1_undo σ 12 p2) fun v11 σ12 => some (((), σ12))) else (if p1 = 5 then (oB (f_X1_settle σ 12) fun _ σ15 => some (((), σ15))) else (oLet ((if (rI σ 12 6) ≤ 0 then 1 else (rI σ 4 4) : Int32) : Int32) fun x16 => oB (f_X1_undoAll σ 12 p2) fun _ σ18 => oB (f_X1_drawUpTo σ18 12 p2 x16) fun v19 σ20 => some (((), σ20)))))))
set_option maxRecDepth 20000 in
set_option maxHeartbeats 2000000 in
theorem ok_X10_replay {σ : rS} {p1 : Int32} {p2 : Int32} {p3 : Int32}   : rFn Sy yX10_replay mX10_replay 5 [.ref 3, .int p1, .int p2, .int p3] σ 0 0 (fun _ => .inl none) (f_X10_replay σ p1 p2 p3) := by
  refine rF_of (ls := [some (.ref 3), some (.int p1), some (.int p2), some (.int p3), none]) yfX10_replay rfl (Nat.le_of_ble_eq_true rfl) (fun o τ => ?_)
  unfold f_X10_replay
  refine P_l (fun hJ _ _ q => E_iload_n dX10_replay_0 rfl q) ?_
  refine P_case (fun h1 => ?_) (fun h1 => ?_)
  · skip
    refine P_l (fun hJ _ _ q => E_tableIn (off := 35) 36 dX10_replay_1 (by rw [h1]; decide) (by rw [h1]; decide) (by rw [h1]; rfl) (by decide) q) ?_
    refine P_l (fun hJ _ _ q => E_aload_n dX10_replay_36 rfl (E_getR (b := 12) clX10 2 (by decide) flX10_23 (Or.inl ⟨_, rfl⟩) dX10_replay_37 (kd3 hJ.1.1) (rf3_2 hJ.1.1) (by decide) (E_iload_n dX10_replay_40 rfl (E_iload_n dX10_replay_41 rfl q)))) ?_
    refine P_call (t := fun _ => none) (st2 := fun _ => []) (kc2 := 0) (ks2 := 0) (fun hJ => (ok_X1_layTile (σ := σ) (b := 12) (p := p2) (k := p3) (Or.inr rfl))) (fun hJ _ _ _ _ v τ1 hM q => E_callVN (as := [.int p2, .int p3]) (b := 12) (st := []) hM (by decide) yfX1_layTile mlX10_410 imX1_layTile seX1_layTile clX1 (kd12 hJ.1.1) rfl (Nat.le_of_ble_eq_true rfl) rfl dX10_replay_42 q) (by decide) (by decide) (fun v2 σ3 => ?_)
    refine P_l (fun hJ _ _ q => E_goto 136 dX10_replay_45 (by decide) q) ?_
    exact P_ret (fun _ _ => E_vret rfl dX10_replay_136)
  · skip
    refine P_case (fun h4 => ?_) (fun h4 => ?_)
    · skip
      refine P_l (fun hJ _ _ q => E_tableIn (off := 47) 48 dX10_replay_1 (by rw [h4]; decide) (by rw [h4]; decide) (by rw [h4]; rfl) (by decide) q) ?_
      refine P_l (fun hJ _ _ q => E_aload_n dX10_replay_48 rfl (E_getR (b := 12) clX10 2 (by decide) flX10_23 (Or.inl ⟨_, rfl⟩) dX10_replay_49 (kd3 hJ.1.1) (rf3_2 hJ.1.1) (by decide) (E_iload_n dX10_replay_52 rfl (E_iload_n dX10_replay_53 rfl q)))) ?_
      refine P_call (t := fun _ => none) (st2 := fun _ => []) (kc2 := 0) (ks2 := 0) (fun hJ => (ok_X1_layJoker (σ := σ) (b := 12) (p := p2) (k := p3) (Or.inr rfl))) (fun hJ _ _ _ _ v τ1 hM q => E_callVN (as := [.int p2, .int p3]) (b := 12) (st := []) hM (by decide) yfX1_layJoker mlX10_416 imX1_layJoker seX1_layJoker clX1 (kd12 hJ.1.1) rfl (Nat.le_of_ble_eq_true rfl) rfl dX10_replay_54 q) (by decide) (by decide) (fun v5 σ6 => ?_)
      refine P_l (fun hJ _ _ q => E_goto 136 dX10_replay_57 (by decide) q) ?_
      exact P_ret (fun _ _ => E_vret rfl dX10_replay_136)
    · skip
      refine P_case (fun h7 => ?_) (fun h7 => ?_)
      · skip
        refine P_l (fun hJ _ _ q => E_tableIn (off := 59) 60 dX10_replay_1 (by rw [h7]; decide) (by rw [h7]; decide) (by rw [h7]; rfl) (by decide) q) ?_
        refine P_l (fun hJ _ _ q => E_aload_n dX10_replay_60 rfl (E_getR (b := 12) clX10 2 (by decide) flX10_23 (Or.inl ⟨_, rfl⟩) dX10_replay_61 (kd3 hJ.1.1) (rf3_2 hJ.1.1) (by decide) (E_iload_n dX10_replay_64 rfl (E_iload_n dX10_replay_65 rfl q)))) ?_
        refine P_call (t := fun _ => none) (st2 := fun _ => []) (kc2 := 0) (ks2 := 0) (fun hJ => (ok_X1_swapJoker (σ := σ) (b := 12) (p := p2) (k := p3) (Or.inr rfl))) (fun hJ _ _ _ _ v τ1 hM q => E_callVN (as := [.int p2, .int p3]) (b := 12) (st := []) hM (by decide) yfX1_swapJoker mlX10_418 imX1_swapJoker seX1_swapJoker clX1 (kd12 hJ.1.1) rfl (Nat.le_of_ble_eq_true rfl) rfl dX10_replay_66 q) (by decide) (by decide) (fun v8 σ9 => ?_)
        refine P_l (fun hJ _ _ q => E_goto 136 dX10_replay_69 (by decide) q) ?_
        exact P_ret (fun _ _ => E_vret rfl dX10_replay_136)
      · skip
        refine P_case (fun h10 => ?_) (fun h10 => ?_)
        · skip
          refine P_l (fun hJ _ _ q => E_tableIn (off := 71) 72 dX10_replay_1 (by rw [h10]; decide) (by rw [h10]; decide) (by rw [h10]; rfl) (by decide) q) ?_
          refine P_l (fun hJ _ _ q => E_aload_n dX10_replay_72 rfl (E_getR (b := 12) clX10 2 (by decide) flX10_23 (Or.inl ⟨_, rfl⟩) dX10_replay_73 (kd3 hJ.1.1) (rf3_2 hJ.1.1) (by decide) (E_iload_n dX10_replay_76 rfl q))) ?_
          refine P_call (t := fun v => some (.int v)) (st2 := fun v => .int v :: []) (kc2 := 0) (ks2 := 0) (fun hJ => (ok_X1_undo (σ := σ) (b := 12) (p := p2) (Or.inr rfl))) (fun hJ _ _ _ _ v τ1 hM q => E_callVN (as := [.int p2]) (b := 12) (st := []) hM (by decide) yfX1_undo mlX10_420 imX1_undo seX1_undo clX1 (kd12 hJ.1.1) rfl (Nat.le_of_ble_eq_true rfl) rfl dX10_replay_77 q) (by decide) (by decide) (fun v11 σ12 => ?_)
          refine P_l (fun hJ _ _ q => E_pop dX10_replay_80 rfl (E_goto 136 dX10_replay_81 (by decide) q)) ?_
          exact P_ret (fun _ _ => E_vret rfl dX10_replay_136)
        · skip
          refine P_case (fun h13 => ?_) (fun h13 => ?_)
          · skip
            refine P_l (fun hJ _ _ q => E_tableIn (off := 83) 84 dX10_replay_1 (by rw [h13]; decide) (by rw [h13]; decide) (by rw [h13]; rfl) (by decide) q) ?_
            refine P_l (fun hJ _ _ q => E_aload_n dX10_replay_84 rfl (E_getR (b := 12) clX10 2 (by decide) flX10_23 (Or.inl ⟨_, rfl⟩) dX10_replay_85 (kd3 hJ.1.1) (rf3_2 hJ.1.1) (by decide) q)) ?_
            refine P_call (t := fun _ => none) (st2 := fun _ => []) (kc2 := 0) (ks2 := 0) (fun hJ => (ok_X1_settle (σ := σ) (b := 12) (Or.inr rfl))) (fun hJ _ _ _ _ v τ1 hM q => E_callVN (as := []) (b := 12) (st := []) hM (by decide) yfX1_settle mlX10_423 imX1_settle seX1_settle clX1 (kd12 hJ.1.1) rfl (Nat.le_of_ble_eq_true rfl) rfl dX10_replay_88 q) (by decide) (by decide) (fun v14 σ15 => ?_)
            refine P_l (fun hJ _ _ q => E_goto 136 dX10_replay_91 (by decide) q) ?_
            exact P_ret (fun _ _ => E_vret rfl dX10_replay_136)
          · skip
            refine P_l (fun hJ _ _ q => E_tableOut 94 dX10_replay_1 (by have e0 := sw_ne h1; have e1 := sw_ne h4; have e2 := sw_ne h7; have e3 := sw_ne h10; have e4 := sw_ne h13; simp only [sw_l1, sw_l2, sw_l3, sw_l4, sw_l5] at *; omega) (by decide) q) ?_
            refine P_l (fun hJ _ _ q => E_aload_n dX10_replay_94 rfl (E_getR (b := 12) clX10 2 (by decide) flX10_23 (Or.inl ⟨_, rfl⟩) dX10_replay_95 (kd3 hJ.1.1) (rf3_2 hJ.1.1) (by decide) (E_getIN clX1 6 (by decide) flX10_174 (Or.inl rfl) dX10_replay_98 (kd12 hJ.1.1) q))) ?_
            refine P_l (pc2 := 115) (ls2 := [some (.ref 3), none, some (.int p2), none, none]) (st2 := [.int ((if (rI σ 12 6) ≤ 0 then 1 else (rI σ 4 4) : Int32))]) (fun hJ _ _ hq => ?_) ?_
            · skip
              refine E_if_le 114 dX10_replay_101 (by decide) (fun c_101_0 => ?_) (fun c_101_0 => ?_)
              · skip
                refine E_iconst (v := 1) dX10_replay_114 (by decide) ?_
                simp only [if_pos c_101_0] at hq
                exact E_less (ls2 := [some (.ref 3), none, some (.int p2), none, none]) hq (rLe_at [some (.ref 3), none, some (.int p2), none, none] [some (.ref 3), some (.int p1), some (.int p2), some (.int p3), none] (And.intro rfl (And.intro rfl trivial)))
              · skip
                refine E_aload_n dX10_replay_104 rfl ?_
                refine E_getR (b := 4) clX10 0 (by decide) flX10_12 (Or.inl ⟨_, rfl⟩) dX10_replay_105 (kd3 hJ.1.1) (rf3_0 hJ.1.1) (by decide) ?_
                refine E_getIN clX5 4 (by decide) flX10_100 (Or.inl rfl) dX10_replay_108 (kd4 hJ.1.1) ?_
                refine E_goto 115 dX10_replay_111 (by decide) ?_
                simp only [if_neg c_101_0] at hq
                exact E_less (ls2 := [some (.ref 3), none, some (.int p2), none, none]) hq (rLe_at [some (.ref 3), none, some (.int p2), none, none] [some (.ref 3), some (.int p1), some (.int p2), some (.int p3), none] (And.intro rfl (And.intro rfl trivial)))
            · skip
              refine P_l (fun hJ _ _ q => E_istore (ls2 := [some (.ref 3), none, some (.int p2), none, some (.int ((if (rI σ 12 6) ≤ 0 then 1 else (rI σ 4 4) : Int32)))]) dX10_replay_115 (by decide) rfl q) ?_
              refine P_v ((if (rI σ 12 6) ≤ 0 then 1 else (rI σ 4 4) : Int32)) (fun x => [some (.ref 3), none, some (.int p2), none, some (.int x)]) (fun x16 => ?_)
              refine P_l (fun hJ _ _ q => E_aload_n dX10_replay_117 rfl (E_getR (b := 12) clX10 2 (by decide) flX10_23 (Or.inl ⟨_, rfl⟩) dX10_replay_118 (kd3 hJ.1.1) (rf3_2 hJ.1.1) (by decide) (E_iload_n dX10_replay_121 rfl q))) ?_
              refine P_call (t := fun _ => none) (st2 := fun _ => []) (kc2 := 0) (ks2 := 0) (fun hJ => (ok_X1_undoAll (σ := σ) (b := 12) (p := p2) (Or.inr rfl))) (fun hJ _ _ _ _ v τ1 hM q => E_callVN (as := [.int p2]) (b := 12) (st := []) hM (by decide) yfX1_undoAll mlX10_432 imX1_undoAll seX1_undoAll clX1 (kd12 hJ.1.1) rfl (Nat.le_of_ble_eq_true rfl) rfl dX10_replay_122 q) (by decide) (by decide) (fun v17 σ18 => ?_)
              refine P_l (fun hJ _ _ q => E_aload_n dX10_replay_125 rfl (E_getR (b := 12) clX10 2 (by decide) flX10_23 (Or.inl ⟨_, rfl⟩) dX10_replay_126 (kd3 hJ.1.1) (rf3_2 hJ.1.1) (by decide) (E_iload_n dX10_replay_129 rfl (E_iload dX10_replay_130 rfl q)))) ?_
              refine P_call (t := fun v => some (.int v)) (st2 := fun v => .int v :: []) (kc2 := 0) (ks2 := 0) (fun hJ => (ok_X1_drawUpTo (σ := σ18) (b := 12) (p := p2) (m := x16) (Or.inr rfl))) (fun hJ _ _ _ _ v τ1 hM q => E_callVN (as := [.int p2, .int x16]) (b := 12) (st := []) hM (by decide) yfX1_drawUpTo mlX10_439 imX1_drawUpTo seX1_drawUpTo clX1 (kd12 hJ.1.1) rfl (Nat.le_of_ble_eq_true rfl) rfl dX10_replay_132 q) (by decide) (by decide) (fun v19 σ20 => ?_)
              refine P_l (fun hJ _ _ q => E_pop dX10_replay_135 rfl q) ?_
              exact P_ret (fun _ _ => E_vret rfl dX10_replay_136)

def b_X10_isReplayed_51 (s7 : Int32 × rS) : Option ((Int32 × rS) ⊕ (Int32 × rS)) := if (rI s7.2 35 1) ≤ s7.1 then ((f_X1_isLike s7.2).bind fun v8 => if v8 = 0 ∨ v8 = 1 then (some (.inl ((v8, s7.2)))) else none) else (oB (f_X10_replay s7.2 (v_X2_sort s7.2 s7.1) (v_X2_who s7.2 s7.1) (v_X2_kind s7.2 s7.1)) fun _ σ11 => some (.inr ((s7.1 + 1, σ11))))
def f_X10_isReplayed (σ : rS) : Option (Int32 × rS) := oB (f_X1_clear σ 12) fun _ σ2 => if (rI σ2 35 2) = 0 then ((f_X1_isLike σ2).bind fun v3 => if v3 = 0 ∨ v3 = 1 then (some ((v3, σ2))) else none) else (oB (f_X1_dealOut σ2 12 (rI σ2 35 3) (rI σ2 35 4) (rI σ2 35 5)) fun _ σ6 => oLoop (b_X10_isReplayed_51) oFuel ((0, σ6)))
set_option maxRecDepth 20000 in
set_option maxHeartbeats 2000000 in
theorem ok_X10_isReplayed {σ : rS}   : rFn Sy yX10_isReplayed mX10_isReplayed 6 [.ref 3] σ 0 0 (fun v => .inl (some (.int v))) (f_X10_isReplayed σ) := by
  refine rF_of (ls := [some (.ref 3), none]) yfX10_isReplayed rfl (Nat.le_of_ble_eq_true rfl) (fun o τ => ?_)
  unfold f_X10_isReplayed
  refine P_l (fun hJ _ _ q => E_aload_n dX10_isReplayed_0 rfl (E_getR (b := 12) clX10 2 (by decide) flX10_23 (Or.inl ⟨_, rfl⟩) dX10_isReplayed_1 (kd3 hJ.1.1) (rf3_2 hJ.1.1) (by decide) q)) ?_
  refine P_call (t := fun _ => none) (st2 := fun _ => []) (kc2 := 0) (ks2 := 0) (fun hJ => (ok_X1_clear (σ := σ) (b := 12) (Or.inr rfl))) (fun hJ _ _ _ _ v τ1 hM q => E_callVN (as := []) (b := 12) (st := []) hM (by decide) yfX1_clear mlX10_103 imX1_clear seX1_clear clX1 (kd12 hJ.1.1) rfl (Nat.le_of_ble_eq_true rfl) rfl dX10_isReplayed_4 q) (by decide) (by decide) (fun v1 σ2 => ?_)
  refine P_l (fun hJ _ _ q => E_aload_n dX10_isReplayed_7 rfl (E_getR (b := 35) clX10 5 (by decide) flX10_43 (Or.inl ⟨_, rfl⟩) dX10_isReplayed_8 (kd3 hJ.1.1) (rf3_5 hJ.1.1) (by decide) (E_getIN clX2 2 (by decide) flX10_375 (Or.inr rfl) dX10_isReplayed_11 (kd35 hJ.1.1) q))) ?_
  refine P_if (fun hJ _ _ h1 h2 => E_if_eq 96 dX10_isReplayed_14 (by decide) h1 h2) ?_ ?_
  · skip
    refine P_l (fun hJ _ _ q => E_aload_n dX10_isReplayed_96 rfl (E_getR (b := 5) clX10 1 (by decide) flX10_19 (Or.inl ⟨_, rfl⟩) dX10_isReplayed_97 (kd3 hJ.1.1) (rf3_1 hJ.1.1) (by decide) (E_aload_n dX10_isReplayed_100 rfl (E_getR (b := 12) clX10 2 (by decide) flX10_23 (Or.inl ⟨_, rfl⟩) dX10_isReplayed_101 (kd3 hJ.1.1) (rf3_2 hJ.1.1) (by decide) q)))) ?_
    refine P_callr (t := fun v => some (.int v)) (st2 := fun v => .int v :: []) (fun hJ => (ok_X1_isLike (σ := σ2)  )) (fun hJ _ _ v hM q => E_callVN (as := [.ref 12]) (b := 5) (st := []) hM (by decide) yfX1_isLike mlX10_390 imX1_isLike seX1_isLike clX1 (kd5 hJ.1.1) rfl (Nat.le_of_ble_eq_true rfl) rfl dX10_isReplayed_104 q) (fun v3 => ?_)
    refine P_g (fun g4 => ?_)
    exact P_ret (fun _ _ => E_zret01 rfl g4 dX10_isReplayed_107)
  · skip
    refine P_l (fun hJ _ _ q => E_aload_n dX10_isReplayed_17 rfl (E_getR (b := 12) clX10 2 (by decide) flX10_23 (Or.inl ⟨_, rfl⟩) dX10_isReplayed_18 (kd3 hJ.1.1) (rf3_2 hJ.1.1) (by decide) (E_aload_n dX10_isReplayed_21 rfl (E_getR (b := 4) clX10 0 (by decide) flX10_12 (Or.inl ⟨_, rfl⟩) dX10_isReplayed_22 (kd3 hJ.1.1) (rf3_0 hJ.1.1) (by decide) (E_aload_n dX10_isReplayed_25 rfl (E_getR (b := 35) clX10 5 (by decide) flX10_43 (Or.inl ⟨_, rfl⟩) dX10_isReplayed_26 (kd3 hJ.1.1) (rf3_5 hJ.1.1) (by decide) (E_getIN clX2 3 (by decide) flX10_378 (Or.inl rfl) dX10_isReplayed_29 (kd35 hJ.1.1) (E_aload_n dX10_isReplayed_32 rfl (E_getR (b := 35) clX10 5 (by decide) flX10_43 (Or.inl ⟨_, rfl⟩) dX10_isReplayed_33 (kd3 hJ.1.1) (rf3_5 hJ.1.1) (by decide) (E_getIN clX2 4 (by decide) flX10_381 (Or.inl rfl) dX10_isReplayed_36 (kd35 hJ.1.1) (E_aload_n dX10_isReplayed_39 rfl (E_getR (b := 35) clX10 5 (by decide) flX10_43 (Or.inl ⟨_, rfl⟩) dX10_isReplayed_40 (kd3 hJ.1.1) (rf3_5 hJ.1.1) (by decide) (E_getIN clX2 5 (by decide) flX10_384 (Or.inl rfl) dX10_isReplayed_43 (kd35 hJ.1.1) q))))))))))))) ?_
    refine P_call (t := fun _ => none) (st2 := fun _ => []) (kc2 := 0) (ks2 := 0) (fun hJ => (ok_X1_dealOut (σ := σ2) (b := 12) (from_ := rI σ2 35 3) (each_ := rI σ2 35 4) (players := rI σ2 35 5) (Or.inr rfl))) (fun hJ _ _ _ _ v τ1 hM q => E_callVN (as := [.ref 4, .int (rI σ2 35 3), .int (rI σ2 35 4), .int (rI σ2 35 5)]) (b := 12) (st := []) hM (by decide) yfX1_dealOut mlX10_126 imX1_dealOut seX1_dealOut clX1 (kd12 hJ.1.1) rfl (Nat.le_of_ble_eq_true rfl) rfl dX10_isReplayed_46 q) (by decide) (by decide) (fun v5 σ6 => ?_)
    refine P_l (fun hJ _ _ q => E_iconst (v := 0) dX10_isReplayed_49 (by decide) (E_istore_n (ls2 := [some (.ref 3), some (.int 0)]) dX10_isReplayed_50 (by decide) rfl q)) ?_
    refine P_loop (fun s7 => [some (.ref 3), some (.int s7.1)]) (fun s7 => s7.2) (fun s7 => ?_) _ ((0, σ6))
    unfold b_X10_isReplayed_51
    refine P_l (fun hJ _ _ q => E_iload_n dX10_isReplayed_51 rfl (E_aload_n dX10_isReplayed_52 rfl (E_getR (b := 35) clX10 5 (by decide) flX10_43 (Or.inl ⟨_, rfl⟩) dX10_isReplayed_53 (kd3 hJ.1.1) (rf3_5 hJ.1.1) (by decide) (E_getIN clX2 1 (by decide) flX10_359 (Or.inl rfl) dX10_isReplayed_56 (kd35 hJ.1.1) q)))) ?_
    refine P_if (fun hJ _ _ h1 h2 => E_icmp_ge 96 dX10_isReplayed_59 (by decide) h1 h2) ?_ ?_
    · skip
      refine P_l (fun hJ _ _ q => E_aload_n dX10_isReplayed_96 rfl (E_getR (b := 5) clX10 1 (by decide) flX10_19 (Or.inl ⟨_, rfl⟩) dX10_isReplayed_97 (kd3 hJ.1.1) (rf3_1 hJ.1.1) (by decide) (E_aload_n dX10_isReplayed_100 rfl (E_getR (b := 12) clX10 2 (by decide) flX10_23 (Or.inl ⟨_, rfl⟩) dX10_isReplayed_101 (kd3 hJ.1.1) (rf3_2 hJ.1.1) (by decide) q)))) ?_
      refine P_callr (t := fun v => some (.int v)) (st2 := fun v => .int v :: []) (fun hJ => (ok_X1_isLike (σ := s7.2)  )) (fun hJ _ _ v hM q => E_callVN (as := [.ref 12]) (b := 5) (st := []) hM (by decide) yfX1_isLike mlX10_390 imX1_isLike seX1_isLike clX1 (kd5 hJ.1.1) rfl (Nat.le_of_ble_eq_true rfl) rfl dX10_isReplayed_104 q) (fun v8 => ?_)
      refine P_g (fun g9 => ?_)
      exact P_inl (P_ret (fun _ _ => E_zret01 rfl g9 dX10_isReplayed_107))
    · skip
      refine P_l (fun hJ _ _ q => E_aload_n dX10_isReplayed_62 rfl (E_aload_n dX10_isReplayed_63 rfl (E_getR (b := 35) clX10 5 (by decide) flX10_43 (Or.inl ⟨_, rfl⟩) dX10_isReplayed_64 (kd3 hJ.1.1) (rf3_5 hJ.1.1) (by decide) (E_iload_n dX10_isReplayed_67 rfl (E_callVN (as := [.int s7.1]) (b := 35) (st := [.ref 3]) (ok_X2_sort (σ := s7.2) (p1 := s7.1) hJ ) (by decide) yfX2_sort mlX10_363 imX2_sort seX2_sort clX2 (kd35 hJ.1.1) rfl (Nat.le_of_ble_eq_true rfl) rfl dX10_isReplayed_68 (E_aload_n dX10_isReplayed_71 rfl (E_getR (b := 35) clX10 5 (by decide) flX10_43 (Or.inl ⟨_, rfl⟩) dX10_isReplayed_72 (kd3 hJ.1.1) (rf3_5 hJ.1.1) (by decide) (E_iload_n dX10_isReplayed_75 rfl (E_callVN (as := [.int s7.1]) (b := 35) (st := [.int (v_X2_sort s7.2 s7.1), .ref 3]) (ok_X2_who (σ := s7.2) (p1 := s7.1) hJ ) (by decide) yfX2_who mlX10_366 imX2_who seX2_who clX2 (kd35 hJ.1.1) rfl (Nat.le_of_ble_eq_true rfl) rfl dX10_isReplayed_76 (E_aload_n dX10_isReplayed_79 rfl (E_getR (b := 35) clX10 5 (by decide) flX10_43 (Or.inl ⟨_, rfl⟩) dX10_isReplayed_80 (kd3 hJ.1.1) (rf3_5 hJ.1.1) (by decide) (E_iload_n dX10_isReplayed_83 rfl (E_callVN (as := [.int s7.1]) (b := 35) (st := [.int (v_X2_who s7.2 s7.1), .int (v_X2_sort s7.2 s7.1), .ref 3]) (ok_X2_kind (σ := s7.2) (p1 := s7.1) hJ ) (by decide) yfX2_kind mlX10_369 imX2_kind seX2_kind clX2 (kd35 hJ.1.1) rfl (Nat.le_of_ble_eq_true rfl) rfl dX10_isReplayed_84 q))))))))))))) ?_
      refine P_call (t := fun _ => none) (st2 := fun _ => []) (kc2 := 0) (ks2 := 0) (fun hJ => (ok_X10_replay (σ := s7.2) (p1 := v_X2_sort s7.2 s7.1) (p2 := v_X2_who s7.2 s7.1) (p3 := v_X2_kind s7.2 s7.1) )) (fun hJ _ _ _ _ v τ1 hM q => E_callV (as := [.int (v_X2_sort s7.2 s7.1), .int (v_X2_who s7.2 s7.1), .int (v_X2_kind s7.2 s7.1)]) (b := 3) (st := []) hM (by decide) yfX10_replay mlX10_387 imX10_replay seX10_replay clX10 (kd3 hJ.1.1) rfl (Nat.le_of_ble_eq_true rfl) rfl dX10_isReplayed_87 q) (by decide) (by decide) (fun v10 σ11 => ?_)
      refine P_l (fun hJ _ _ q => E_iinc (v := 1) (ls2 := [some (.ref 3), some (.int (s7.1 + 1))]) dX10_isReplayed_90 rfl (by decide) (by decide) rfl (E_goto 51 dX10_isReplayed_93 (by decide) q)) ?_
      exact P_back ((s7.1 + 1, σ11))

def f_X10_rules (σ : rS) (p1 : Int32) (p2 : Int32) (p3 : Int32) (p4 : Int32) (p5 : Int32) : Option ((Int32 ⊕ String) × rS) := oLet ((if (vIn p1 5 13) = 0 then 0 else (if (vIn p2 3 4) = 0 then 0 else (if (vIn p3 0 3) = 0 then 0 else (if (vIn p4 0 99) = 0 then 0 else (if (vIn p5 1 9) = 0 then 0 else 1)))) : Int32) : Int32) fun x1 => if x1 = 0 then (some ((.inr "java/lang/IllegalArgumentException", σ))) else (if (v_X10_isOn σ) = 0 then (oLet (wI σ 4 0 p1) fun σ2 => oLet (wI σ2 4 1 p2) fun σ3 => oLet (wI σ3 4 2 p3) fun σ4 => oLet (wI σ4 4 3 p4) fun σ5 => oLet (wI σ5 4 4 p5) fun σ6 => oB (f_X1_clear σ6 5) fun _ σ8 => oB (f_X2_clear σ8) fun _ σ10 => some ((.inl (v_X5_pieces σ10), σ10))) else (some ((.inr "java/lang/IllegalStateException", σ))))
set_option maxRecDepth 20000 in
set_option maxHeartbeats 2000000 in
theorem ok_X10_rules {σ : rS} {p1 : Int32} {p2 : Int32} {p3 : Int32} {p4 : Int32} {p5 : Int32}   : rFn Sy yX10_rules mX10_rules 6 [.ref 3, .int p1, .int p2, .int p3, .int p4, .int p5] σ 1 6 (tX (fun v => .inl (some (.int v)))) (f_X10_rules σ p1 p2 p3 p4 p5) := by
  refine rF_of (ls := [some (.ref 3), some (.int p1), some (.int p2), some (.int p3), some (.int p4), some (.int p5), none]) yfX10_rules rfl (Nat.le_of_ble_eq_true rfl) (fun o τ => ?_)
  unfold f_X10_rules
  refine P_l (fun hJ _ _ q => E_iload_n dX10_rules_0 rfl (E_iconst (v := 5) dX10_rules_1 (by decide) (E_bipush (v := 13) dX10_rules_2 (by decide) (E_callS (as := [.int p1, .int 5, .int 13]) (st := []) (ok_within (σ := σ) (v := p1) (a := 5) (b := 13)) (by decide) yfX10_within mlX10_74 stX10_within rfl (Nat.le_of_ble_eq_true rfl) rfl dX10_rules_4 q)))) ?_
  refine P_l (pc2 := 55) (ls2 := [some (.ref 3), some (.int p1), some (.int p2), some (.int p3), some (.int p4), some (.int p5), none]) (st2 := [.int ((if (vIn p1 5 13) = 0 then 0 else (if (vIn p2 3 4) = 0 then 0 else (if (vIn p3 0 3) = 0 then 0 else (if (vIn p4 0 99) = 0 then 0 else (if (vIn p5 1 9) = 0 then 0 else 1)))) : Int32))]) (fun hJ _ _ hq => ?_) ?_
  · skip
    refine E_if_eq 54 dX10_rules_7 (by decide) (fun c_7_0 => ?_) (fun c_7_0 => ?_)
    · skip
      refine E_iconst (v := 0) dX10_rules_54 (by decide) ?_
      simp only [if_pos c_7_0] at hq
      exact hq
    · skip
      refine E_iload_n dX10_rules_10 rfl ?_
      refine E_iconst (v := 3) dX10_rules_11 (by decide) ?_
      refine E_iconst (v := 4) dX10_rules_12 (by decide) ?_
      refine E_callS (as := [.int p2, .int 3, .int 4]) (st := []) (ok_within (σ := σ) (v := p2) (a := 3) (b := 4)) (by decide) yfX10_within mlX10_74 stX10_within rfl (Nat.le_of_ble_eq_true rfl) rfl dX10_rules_13 ?_
      refine E_if_eq 54 dX10_rules_16 (by decide) (fun c_16_1 => ?_) (fun c_16_1 => ?_)
      · skip
        refine E_iconst (v := 0) dX10_rules_54 (by decide) ?_
        simp only [if_neg c_7_0, if_pos c_16_1] at hq
        exact hq
      · skip
        refine E_iload_n dX10_rules_19 rfl ?_
        refine E_iconst (v := 0) dX10_rules_20 (by decide) ?_
        refine E_iconst (v := 3) dX10_rules_21 (by decide) ?_
        refine E_callS (as := [.int p3, .int 0, .int 3]) (st := []) (ok_within (σ := σ) (v := p3) (a := 0) (b := 3)) (by decide) yfX10_within mlX10_74 stX10_within rfl (Nat.le_of_ble_eq_true rfl) rfl dX10_rules_22 ?_
        refine E_if_eq 54 dX10_rules_25 (by decide) (fun c_25_2 => ?_) (fun c_25_2 => ?_)
        · skip
          refine E_iconst (v := 0) dX10_rules_54 (by decide) ?_
          simp only [if_neg c_7_0, if_neg c_16_1, if_pos c_25_2] at hq
          exact hq
        · skip
          refine E_iload dX10_rules_28 rfl ?_
          refine E_iconst (v := 0) dX10_rules_30 (by decide) ?_
          refine E_bipush (v := 99) dX10_rules_31 (by decide) ?_
          refine E_callS (as := [.int p4, .int 0, .int 99]) (st := []) (ok_within (σ := σ) (v := p4) (a := 0) (b := 99)) (by decide) yfX10_within mlX10_74 stX10_within rfl (Nat.le_of_ble_eq_true rfl) rfl dX10_rules_33 ?_
          refine E_if_eq 54 dX10_rules_36 (by decide) (fun c_36_3 => ?_) (fun c_36_3 => ?_)
          · skip
            refine E_iconst (v := 0) dX10_rules_54 (by decide) ?_
            simp only [if_neg c_7_0, if_neg c_16_1, if_neg c_25_2, if_pos c_36_3] at hq
            exact hq
          · skip
            refine E_iload dX10_rules_39 rfl ?_
            refine E_iconst (v := 1) dX10_rules_41 (by decide) ?_
            refine E_bipush (v := 9) dX10_rules_42 (by decide) ?_
            refine E_callS (as := [.int p5, .int 1, .int 9]) (st := []) (ok_within (σ := σ) (v := p5) (a := 1) (b := 9)) (by decide) yfX10_within mlX10_74 stX10_within rfl (Nat.le_of_ble_eq_true rfl) rfl dX10_rules_44 ?_
            refine E_if_eq 54 dX10_rules_47 (by decide) (fun c_47_4 => ?_) (fun c_47_4 => ?_)
            · skip
              refine E_iconst (v := 0) dX10_rules_54 (by decide) ?_
              simp only [if_neg c_7_0, if_neg c_16_1, if_neg c_25_2, if_neg c_36_3, if_pos c_47_4] at hq
              exact hq
            · skip
              refine E_iconst (v := 1) dX10_rules_50 (by decide) ?_
              refine E_goto 55 dX10_rules_51 (by decide) ?_
              simp only [if_neg c_7_0, if_neg c_16_1, if_neg c_25_2, if_neg c_36_3, if_neg c_47_4] at hq
              exact hq
  · skip
    refine P_l (fun hJ _ _ q => E_istore (ls2 := [some (.ref 3), some (.int p1), some (.int p2), some (.int p3), some (.int p4), some (.int p5), some (.int ((if (vIn p1 5 13) = 0 then 0 else (if (vIn p2 3 4) = 0 then 0 else (if (vIn p3 0 3) = 0 then 0 else (if (vIn p4 0 99) = 0 then 0 else (if (vIn p5 1 9) = 0 then 0 else 1)))) : Int32)))]) dX10_rules_55 (by decide) rfl q) ?_
    refine P_v ((if (vIn p1 5 13) = 0 then 0 else (if (vIn p2 3 4) = 0 then 0 else (if (vIn p3 0 3) = 0 then 0 else (if (vIn p4 0 99) = 0 then 0 else (if (vIn p5 1 9) = 0 then 0 else 1)))) : Int32)) (fun x => [some (.ref 3), some (.int p1), some (.int p2), some (.int p3), some (.int p4), some (.int p5), some (.int x)]) (fun x1 => ?_)
    refine P_l (fun hJ _ _ q => E_iload dX10_rules_57 rfl q) ?_
    refine P_if (fun hJ _ _ h1 h2 => E_if_ne 70 dX10_rules_59 (by decide) h2 h1) ?_ ?_
    · skip
      exact P_thr (fun kc ks => xt_IllegalArgumentException (M := mX10_rules) (pc := 62) rfl rfl (by decide) (Nat.le_of_ble_eq_true rfl) dX10_rules_62 dX10_rules_65 dX10_rules_66 dX10_rules_69 kc ks) (by decide) (by decide)
    · skip
      refine P_l (fun hJ _ _ q => E_aload_n dX10_rules_70 rfl (E_callV (as := []) (b := 3) (st := []) (ok_X10_isOn (σ := σ)  hJ ) (by decide) yfX10_isOn mlX10_81 imX10_isOn seX10_isOn clX10 (kd3 hJ.1.1) rfl (Nat.le_of_ble_eq_true rfl) rfl dX10_rules_71 q)) ?_
      refine P_if (fun hJ _ _ h1 h2 => E_if_eq 85 dX10_rules_74 (by decide) h1 h2) ?_ ?_
      · skip
        refine P_l (fun hJ _ _ q => E_aload_n dX10_rules_85 rfl (E_getR (b := 4) clX10 0 (by decide) flX10_12 (Or.inl ⟨_, rfl⟩) dX10_rules_86 (kd3 hJ.1.1) (rf3_0 hJ.1.1) (by decide) (E_iload_n dX10_rules_89 rfl q))) ?_
        refine P_w (fun hJ _ _ q => E_putIN clX5 0 (by decide) flX10_88 (Or.inl rfl) rfl dX10_rules_90 (kd4 hJ.1.1) q) (fun hJ => Sy_wI hJ.1) rfl rfl rfl (fun σ2 hσ2 => ?_)
        refine P_l (fun hJ _ _ q => E_aload_n dX10_rules_93 rfl (E_getR (b := 4) clX10 0 (by decide) flX10_12 (Or.inl ⟨_, rfl⟩) dX10_rules_94 (kd3 hJ.1.1) (rf3_0 hJ.1.1) (by decide) (E_iload_n dX10_rules_97 rfl q))) ?_
        refine P_w (fun hJ _ _ q => E_putIN clX5 1 (by decide) flX10_91 (Or.inl rfl) rfl dX10_rules_98 (kd4 hJ.1.1) q) (fun hJ => Sy_wI hJ.1) rfl rfl rfl (fun σ3 hσ3 => ?_)
        refine P_l (fun hJ _ _ q => E_aload_n dX10_rules_101 rfl (E_getR (b := 4) clX10 0 (by decide) flX10_12 (Or.inl ⟨_, rfl⟩) dX10_rules_102 (kd3 hJ.1.1) (rf3_0 hJ.1.1) (by decide) (E_iload_n dX10_rules_105 rfl q))) ?_
        refine P_w (fun hJ _ _ q => E_putIN clX5 2 (by decide) flX10_94 (Or.inl rfl) rfl dX10_rules_106 (kd4 hJ.1.1) q) (fun hJ => Sy_wI hJ.1) rfl rfl rfl (fun σ4 hσ4 => ?_)
        refine P_l (fun hJ _ _ q => E_aload_n dX10_rules_109 rfl (E_getR (b := 4) clX10 0 (by decide) flX10_12 (Or.inl ⟨_, rfl⟩) dX10_rules_110 (kd3 hJ.1.1) (rf3_0 hJ.1.1) (by decide) (E_iload dX10_rules_113 rfl q))) ?_
        refine P_w (fun hJ _ _ q => E_putIN clX5 3 (by decide) flX10_97 (Or.inl rfl) rfl dX10_rules_115 (kd4 hJ.1.1) q) (fun hJ => Sy_wI hJ.1) rfl rfl rfl (fun σ5 hσ5 => ?_)
        refine P_l (fun hJ _ _ q => E_aload_n dX10_rules_118 rfl (E_getR (b := 4) clX10 0 (by decide) flX10_12 (Or.inl ⟨_, rfl⟩) dX10_rules_119 (kd3 hJ.1.1) (rf3_0 hJ.1.1) (by decide) (E_iload dX10_rules_122 rfl q))) ?_
        refine P_w (fun hJ _ _ q => E_putIN clX5 4 (by decide) flX10_100 (Or.inl rfl) rfl dX10_rules_124 (kd4 hJ.1.1) q) (fun hJ => Sy_wI hJ.1) rfl rfl rfl (fun σ6 hσ6 => ?_)
        refine P_l (fun hJ _ _ q => E_aload_n dX10_rules_127 rfl (E_getR (b := 5) clX10 1 (by decide) flX10_19 (Or.inl ⟨_, rfl⟩) dX10_rules_128 (kd3 hJ.1.1) (rf3_1 hJ.1.1) (by decide) q)) ?_
        refine P_call (t := fun _ => none) (st2 := fun _ => []) (kc2 := 1) (ks2 := 6) (fun hJ => (ok_X1_clear (σ := σ6) (b := 5) (Or.inl rfl))) (fun hJ _ _ _ _ v τ1 hM q => E_callVN (as := []) (b := 5) (st := []) hM (by decide) yfX1_clear mlX10_103 imX1_clear seX1_clear clX1 (kd5 hJ.1.1) rfl (Nat.le_of_ble_eq_true rfl) rfl dX10_rules_131 q) (by decide) (by decide) (fun v7 σ8 => ?_)
        refine P_l (fun hJ _ _ q => E_aload_n dX10_rules_134 rfl (E_getR (b := 35) clX10 5 (by decide) flX10_43 (Or.inl ⟨_, rfl⟩) dX10_rules_135 (kd3 hJ.1.1) (rf3_5 hJ.1.1) (by decide) q)) ?_
        refine P_call (t := fun _ => none) (st2 := fun _ => []) (kc2 := 1) (ks2 := 6) (fun hJ => (ok_X2_clear (σ := σ8)  )) (fun hJ _ _ _ _ v τ1 hM q => E_callVN (as := []) (b := 35) (st := []) hM (by decide) yfX2_clear mlX10_106 imX2_clear seX2_clear clX2 (kd35 hJ.1.1) rfl (Nat.le_of_ble_eq_true rfl) rfl dX10_rules_138 q) (by decide) (by decide) (fun v9 σ10 => ?_)
        refine P_l (fun hJ _ _ q => E_aload_n dX10_rules_141 rfl (E_getR (b := 4) clX10 0 (by decide) flX10_12 (Or.inl ⟨_, rfl⟩) dX10_rules_142 (kd3 hJ.1.1) (rf3_0 hJ.1.1) (by decide) (E_callVN (as := []) (b := 4) (st := []) (ok_X5_pieces (σ := σ10)  hJ ) (by decide) yfX5_pieces mlX10_107 imX5_pieces seX5_pieces clX5 (kd4 hJ.1.1) rfl (Nat.le_of_ble_eq_true rfl) rfl dX10_rules_145 q))) ?_
        exact P_ret (fun _ _ => E_iret rfl dX10_rules_148)
      · skip
        exact P_thr (fun kc ks => xt_IllegalStateException (M := mX10_rules) (pc := 77) rfl rfl (by decide) (Nat.le_of_ble_eq_true rfl) dX10_rules_77 dX10_rules_80 dX10_rules_81 dX10_rules_84 kc ks) (by decide) (by decide)

