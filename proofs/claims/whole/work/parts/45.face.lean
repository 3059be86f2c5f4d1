def b_X4_unpack_39 (p1 : Int64) (p2 : Int64) (s3 : Int32 × rS) (s4 : Int32 × rS) : Option (((Unit × rS) ⊕ (Int32 × rS)) ⊕ (Int32 × rS)) := if (v_X9_tilesOf s3.2 p1 p2 s3.1) ≤ s4.1 then (some (.inl (.inr ((s3.1 + 1, s4.2))))) else (oLet (rowI s4.2 66 (vSet (rI s4.2 66) 24 (rI s4.2 65 4) s3.1)) fun σ5 => oLet (wI σ5 65 4 ((rI σ5 65 4) + 1)) fun σ6 => oLet (wI σ6 65 5 ((rI σ6 65 5) + ((iRem s3.1 13) + 1))) fun σ7 => some (.inr ((s4.1 + 1, σ7))))
def b_X4_unpack_13 (p1 : Int64) (p2 : Int64) (s3 : Int32 × rS) : Option ((Unit × rS) ⊕ (Int32 × rS)) := if (if (rI s3.2 65 3) = 0 then true else (if 52 ≤ s3.1 then true else false)) = true then (some (.inl (((), s3.2)))) else (oLoop (b_X4_unpack_39 p1 p2 s3) oFuel ((0, s3.2)))
def f_X4_unpack (σ : rS) (p1 : Int64) (p2 : Int64) : Option (Unit × rS) := oLet (wI σ 65 4 0) fun σ1 => oLet (wI σ1 65 5 0) fun σ2 => oLoop (b_X4_unpack_13 p1 p2) oFuel ((0, σ2))
set_option maxRecDepth 20000 in
set_option maxHeartbeats 2000000 in
theorem ok_X4_unpack {σ : rS} {p1 : Int64} {p2 : Int64}   : rFn Sy yX4_unpack mX4_unpack 1 [.ref 65, .long p1, .long p2] σ 0 0 (fun _ => .inl none) (f_X4_unpack σ p1 p2) := by
  refine rF_of (ls := [some (.ref 65), some (.long p1), none, some (.long p2), none, none, none, none]) yfX4_unpack rfl (Nat.le_of_ble_eq_true rfl) (fun o τ => ?_)
  unfold f_X4_unpack
  refine P_l (fun hJ _ _ q => E_aload_n dX4_unpack_0 rfl (E_iconst (v := 0) dX4_unpack_1 (by decide) q)) ?_
  refine P_w (fun hJ _ _ q => E_putI clX4 4 (by decide) flX4_22 (Or.inl rfl) rfl dX4_unpack_2 (kd65 hJ.1.1) q) (fun hJ => Sy_wI hJ.1) rfl rfl rfl (fun σ1 hσ1 => ?_)
  refine P_l (fun hJ _ _ q => E_aload_n dX4_unpack_5 rfl (E_iconst (v := 0) dX4_unpack_6 (by decide) q)) ?_
  refine P_w (fun hJ _ _ q => E_putI clX4 5 (by decide) flX4_25 (Or.inl rfl) rfl dX4_unpack_7 (kd65 hJ.1.1) q) (fun hJ => Sy_wI hJ.1) rfl rfl rfl (fun σ2 hσ2 => ?_)
  refine P_l (fun hJ _ _ q => E_iconst (v := 0) dX4_unpack_10 (by decide) (E_istore (ls2 := [some (.ref 65), some (.long p1), none, some (.long p2), none, some (.int 0), none, none]) dX4_unpack_11 (by decide) rfl q)) ?_
  refine P_loop (fun s3 => [some (.ref 65), some (.long p1), none, some (.long p2), none, some (.int s3.1), none, none]) (fun s3 => s3.2) (fun s3 => ?_) _ ((0, σ2))
  unfold b_X4_unpack_13
  refine P_l (fun hJ _ _ q => E_aload_n dX4_unpack_13 rfl (E_getI clX4 3 (by decide) flX4_28 (Or.inr rfl) dX4_unpack_14 (kd65 hJ.1.1) q)) ?_
  refine P_if (c := (if (rI s3.2 65 3) = 0 then true else (if 52 ≤ s3.1 then true else false)) = true) (pc1 := 97) (ls1 := [some (.ref 65), some (.long p1), none, some (.long p2), none, some (.int s3.1), none, none]) (st1 := []) (pc2 := 27) (ls2 := [some (.ref 65), some (.long p1), none, some (.long p2), none, some (.int s3.1), none, none]) (st2 := []) (fun hJ _ _ hX hY => ?_) ?_ ?_
  · skip
    refine E_if_eq 97 dX4_unpack_17 (by decide) (fun c_17_0 => ?_) (fun c_17_0 => ?_)
    · skip
      exact hX (by simp only [if_pos c_17_0])
    · skip
      refine E_iload dX4_unpack_20 rfl ?_
      refine E_bipush (v := 52) dX4_unpack_22 (by decide) ?_
      refine E_icmp_ge 97 dX4_unpack_24 (by decide) (fun c_24_1 => ?_) (fun c_24_1 => ?_)
      · skip
        exact hX (by simp only [if_neg c_17_0, if_pos c_24_1])
      · skip
        exact hY (by simp only [if_neg c_17_0, if_neg c_24_1]; exact Bool.false_ne_true)
  · skip
    exact P_inl (P_ret (fun _ _ => E_vret rfl dX4_unpack_97))
  · skip
    refine P_l (fun hJ _ _ q => E_lload_n dX4_unpack_27 rfl (E_lload_n dX4_unpack_28 rfl (E_iload dX4_unpack_29 rfl (E_callSN (as := [.long p1, .long p2, .int s3.1]) (st := []) (ok_X9_tilesOf (σ := s3.2) (p1 := p1) (p2 := p2) (p3 := s3.1) hJ ) (by decide) yfX9_tilesOf mlX4_32 stX9_tilesOf rfl (Nat.le_of_ble_eq_true rfl) rfl dX4_unpack_31 (E_istore (ls2 := [some (.ref 65), some (.long p1), none, some (.long p2), none, some (.int s3.1), some (.int (v_X9_tilesOf s3.2 p1 p2 s3.1)), none]) dX4_unpack_34 (by decide) rfl (E_iconst (v := 0) dX4_unpack_36 (by decide) (E_istore (ls2 := [some (.ref 65), some (.long p1), none, some (.long p2), none, some (.int s3.1), some (.int (v_X9_tilesOf s3.2 p1 p2 s3.1)), some (.int 0)]) dX4_unpack_37 (by decide) rfl q))))))) ?_
    refine P_loop (fun s4 => [some (.ref 65), some (.long p1), none, some (.long p2), none, some (.int s3.1), some (.int (v_X9_tilesOf s3.2 p1 p2 s3.1)), some (.int s4.1)]) (fun s4 => s4.2) (fun s4 => ?_) _ ((0, s3.2))
    unfold b_X4_unpack_39
    refine P_l (fun hJ _ _ q => E_iload dX4_unpack_39 rfl (E_iload dX4_unpack_41 rfl q)) ?_
    refine P_if (fun hJ _ _ h1 h2 => E_icmp_ge 91 dX4_unpack_43 (by decide) h1 h2) ?_ ?_
    · skip
      refine P_l (fun hJ _ _ q => E_iinc (v := 1) (ls2 := [some (.ref 65), some (.long p1), none, some (.long p2), none, some (.int (s3.1 + 1)), some (.int (v_X9_tilesOf s3.2 p1 p2 s3.1)), some (.int s4.1)]) dX4_unpack_91 rfl (by decide) (by decide) rfl (E_goto 13 dX4_unpack_94 (by decide) q)) ?_
      refine P_less [some (.ref 65), some (.long p1), none, some (.long p2), none, some (.int (s3.1 + 1)), none, none] (And.intro rfl (And.intro rfl (And.intro rfl (And.intro rfl trivial)))) ?_
      exact P_inl (P_back ((s3.1 + 1, s4.2)))
    · skip
      refine P_l (fun hJ _ _ q => E_aload_n dX4_unpack_46 rfl (E_getR (b := 66) clX4 0 (by decide) flX4_9 (Or.inr ⟨_, rfl⟩) dX4_unpack_47 (kd65 hJ.1.1) (rf65_0 hJ.1.1) (by decide) (E_aload_n dX4_unpack_50 rfl (E_getI clX4 4 (by decide) flX4_22 (Or.inl rfl) dX4_unpack_51 (kd65 hJ.1.1) (E_iload dX4_unpack_54 rfl q))))) ?_
      refine P_w (fun hJ _ _ q => E_callSN (as := [.ref 66, .int (rI s4.2 65 4), .int s3.1]) (st := []) (ok_set (σ := s4.2) (a := 66) (i := rI s4.2 65 4) (x := s3.1) (f := rI s4.2 66) (kd66 hJ.1.1) (by decide) (by decide) rfl) (by decide) yfX10_set mlX4_38 stX10_set rfl (Nat.le_of_ble_eq_true rfl) rfl dX4_unpack_56 q) (fun hJ => Sy_rowI hJ.1) rfl rfl rfl (fun σ5 hσ5 => ?_)
      refine P_l (fun hJ _ _ q => E_aload_n dX4_unpack_59 rfl (E_dup dX4_unpack_60 rfl (E_getI clX4 4 (by decide) flX4_22 (Or.inl rfl) dX4_unpack_61 (kd65 hJ.1.1) (E_iconst (v := 1) dX4_unpack_64 (by decide) (E_iadd dX4_unpack_65 q))))) ?_
      refine P_w (fun hJ _ _ q => E_putI clX4 4 (by decide) flX4_22 (Or.inl rfl) rfl dX4_unpack_66 (kd65 hJ.1.1) q) (fun hJ => Sy_wI hJ.1) rfl rfl rfl (fun σ6 hσ6 => ?_)
      refine P_l (fun hJ _ _ q => E_aload_n dX4_unpack_69 rfl (E_dup dX4_unpack_70 rfl (E_getI clX4 5 (by decide) flX4_25 (Or.inl rfl) dX4_unpack_71 (kd65 hJ.1.1) (E_iload dX4_unpack_74 rfl (E_bipush (v := 13) dX4_unpack_76 (by decide) (E_irem dX4_unpack_78 (by decide) (E_iconst (v := 1) dX4_unpack_79 (by decide) (E_iadd dX4_unpack_80 (E_iadd dX4_unpack_81 q))))))))) ?_
      refine P_w (fun hJ _ _ q => E_putI clX4 5 (by decide) flX4_25 (Or.inl rfl) rfl dX4_unpack_82 (kd65 hJ.1.1) q) (fun hJ => Sy_wI hJ.1) rfl rfl rfl (fun σ7 hσ7 => ?_)
      refine P_l (fun hJ _ _ q => E_iinc (v := 1) (ls2 := [some (.ref 65), some (.long p1), none, some (.long p2), none, some (.int s3.1), some (.int (v_X9_tilesOf s3.2 p1 p2 s3.1)), some (.int (s4.1 + 1))]) dX4_unpack_85 rfl (by decide) (by decide) rfl (E_goto 39 dX4_unpack_88 (by decide) q)) ?_
      exact P_back ((s4.1 + 1, σ7))

def v_X4_kindAt (σ : rS) (p1 : Int32) : Int32 := if (rI σ 65 3) = 0 then ((-1)) else (if (rI σ 65 4) ≤ p1 then ((-1)) else (vAt (rI σ 66) 24 p1))
set_option maxRecDepth 20000 in
theorem ok_X4_kindAt {σ : rS} {p1 : Int32}  (hJ : J Sy σ)  : rMet yX4_kindAt mX4_kindAt 1 [.ref 65, .int p1] σ 0 0 (some (.int (v_X4_kindAt σ p1))) σ := by
  refine rMet_of (ls := [some (.ref 65), some (.int p1)]) yfX4_kindAt rfl (Nat.le_of_ble_eq_true rfl) ?_
  refine E_aload_n dX4_kindAt_0 rfl ?_
  refine E_getI clX4 3 (by decide) flX4_28 (Or.inr rfl) dX4_kindAt_1 (kd65 hJ.1.1) ?_
  refine E_if_eq 26 dX4_kindAt_4 (by decide) (fun c_4_0 => ?_) (fun c_4_0 => ?_)
  · skip
    refine E_iconst (v := (-1)) dX4_kindAt_26 (by decide) ?_
    exact E_iretE rfl dX4_kindAt_27 (by unfold v_X4_kindAt; simp only [if_pos c_4_0]) rfl
  · skip
    refine E_iload_n dX4_kindAt_7 rfl ?_
    refine E_aload_n dX4_kindAt_8 rfl ?_
    refine E_getI clX4 4 (by decide) flX4_22 (Or.inl rfl) dX4_kindAt_9 (kd65 hJ.1.1) ?_
    refine E_icmp_ge 26 dX4_kindAt_12 (by decide) (fun c_12_1 => ?_) (fun c_12_1 => ?_)
    · skip
      refine E_iconst (v := (-1)) dX4_kindAt_26 (by decide) ?_
      exact E_iretE rfl dX4_kindAt_27 (by unfold v_X4_kindAt; simp only [if_neg c_4_0, if_pos c_12_1]) rfl
    · skip
      refine E_aload_n dX4_kindAt_15 rfl ?_
      refine E_getR (b := 66) clX4 0 (by decide) flX4_9 (Or.inr ⟨_, rfl⟩) dX4_kindAt_16 (kd65 hJ.1.1) (rf65_0 hJ.1.1) (by decide) ?_
      refine E_iload_n dX4_kindAt_19 rfl ?_
      refine E_callSN (as := [.ref 66, .int p1]) (st := []) (ok_at (σ := σ) (a := 66) (i := p1) (f := rI σ 66) (kd66 hJ.1.1) (by decide) rfl) (by decide) yfX10_at mlX4_42 stX10_at rfl (Nat.le_of_ble_eq_true rfl) rfl dX4_kindAt_20 ?_
      refine E_goto 27 dX4_kindAt_23 (by decide) ?_
      exact E_iretE rfl dX4_kindAt_27 (by unfold v_X4_kindAt; simp only [if_neg c_4_0, if_neg c_12_1]) rfl

def f_X10_wipe (σ : rS) : Option (Int32 × rS) := oLet (wI σ 31 1 0) fun σ1 => some ((rI σ 31 1, σ1))
set_option maxRecDepth 20000 in
set_option maxHeartbeats 2000000 in
theorem ok_X10_wipe {σ : rS}   : rFn Sy yX10_wipe mX10_wipe 0 [.ref 3] σ 0 0 (fun v => .inl (some (.int v))) (f_X10_wipe σ) := by
  refine rF_of (ls := [some (.ref 3), none]) yfX10_wipe rfl (Nat.le_of_ble_eq_true rfl) (fun o τ => ?_)
  unfold f_X10_wipe
  refine P_l (fun hJ _ _ q => E_aload_n dX10_wipe_0 rfl (E_getR (b := 31) clX10 4 (by decide) flX10_36 (Or.inl ⟨_, rfl⟩) dX10_wipe_1 (kd3 hJ.1.1) (rf3_4 hJ.1.1) (by decide) (E_getIN clX7 1 (by decide) flX10_222 (Or.inl rfl) dX10_wipe_4 (kd31 hJ.1.1) (E_istore_n (ls2 := [some (.ref 3), some (.int (rI σ 31 1))]) dX10_wipe_7 (by decide) rfl (E_aload_n dX10_wipe_8 rfl (E_getR (b := 31) clX10 4 (by decide) flX10_36 (Or.inl ⟨_, rfl⟩) dX10_wipe_9 (kd3 hJ.1.1) (rf3_4 hJ.1.1) (by decide) (E_iconst (v := 0) dX10_wipe_12 (by decide) q))))))) ?_
  refine P_w (fun hJ _ _ q => E_putIN clX7 1 (by decide) flX10_222 (Or.inl rfl) rfl dX10_wipe_13 (kd31 hJ.1.1) q) (fun hJ => Sy_wI hJ.1) rfl rfl rfl (fun σ1 hσ1 => ?_)
  refine P_l (fun hJ _ _ q => E_iload_n dX10_wipe_16 rfl q) ?_
  exact P_ret (fun _ _ => E_iret rfl dX10_wipe_17)

def b_X10_takeTable_9 (s3 : Int32 × rS) : Option ((Unit × rS) ⊕ (Int32 × rS)) := if 52 ≤ s3.1 then (some (.inl (((), s3.2)))) else (oB (f_X9_add s3.2 s3.1 (v_X1_lies s3.2 5 s3.1)) fun _ σ5 => some (.inr ((s3.1 + 1, σ5))))
def f_X10_takeTable (σ : rS) : Option (Unit × rS) := oB (f_X9_clear σ) fun _ σ2 => oLoop (b_X10_takeTable_9) oFuel ((0, σ2))
set_option maxRecDepth 20000 in
set_option maxHeartbeats 2000000 in
theorem ok_X10_takeTable {σ : rS}   : rFn Sy yX10_takeTable mX10_takeTable 2 [.ref 3] σ 0 0 (fun _ => .inl none) (f_X10_takeTable σ) := by
  refine rF_of (ls := [some (.ref 3), none]) yfX10_takeTable rfl (Nat.le_of_ble_eq_true rfl) (fun o τ => ?_)
  unfold f_X10_takeTable
  refine P_l (fun hJ _ _ q => E_aload_n dX10_takeTable_0 rfl (E_getR (b := 37) clX10 6 (by decide) flX10_50 (Or.inl ⟨_, rfl⟩) dX10_takeTable_1 (kd3 hJ.1.1) (rf3_6 hJ.1.1) (by decide) q)) ?_
  refine P_call (t := fun _ => none) (st2 := fun _ => []) (kc2 := 0) (ks2 := 0) (fun hJ => (ok_X9_clear (σ := σ)  )) (fun hJ _ _ _ _ v τ1 hM q => E_callVN (as := []) (b := 37) (st := []) hM (by decide) yfX9_clear mlX10_454 imX9_clear seX9_clear clX9 (kd37 hJ.1.1) rfl (Nat.le_of_ble_eq_true rfl) rfl dX10_takeTable_4 q) (by decide) (by decide) (fun v1 σ2 => ?_)
  refine P_l (fun hJ _ _ q => E_iconst (v := 0) dX10_takeTable_7 (by decide) (E_istore_n (ls2 := [some (.ref 3), some (.int 0)]) dX10_takeTable_8 (by decide) rfl q)) ?_
  refine P_loop (fun s3 => [some (.ref 3), some (.int s3.1)]) (fun s3 => s3.2) (fun s3 => ?_) _ ((0, σ2))
  unfold b_X10_takeTable_9
  refine P_l (fun hJ _ _ q => E_iload_n dX10_takeTable_9 rfl (E_bipush (v := 52) dX10_takeTable_10 (by decide) q)) ?_
  refine P_if (fun hJ _ _ h1 h2 => E_icmp_ge 37 dX10_takeTable_12 (by decide) h1 h2) ?_ ?_
  · skip
    exact P_inl (P_ret (fun _ _ => E_vret rfl dX10_takeTable_37))
  · skip
    refine P_l (fun hJ _ _ q => E_aload_n dX10_takeTable_15 rfl (E_getR (b := 37) clX10 6 (by decide) flX10_50 (Or.inl ⟨_, rfl⟩) dX10_takeTable_16 (kd3 hJ.1.1) (rf3_6 hJ.1.1) (by decide) (E_iload_n dX10_takeTable_19 rfl (E_aload_n dX10_takeTable_20 rfl (E_getR (b := 5) clX10 1 (by decide) flX10_19 (Or.inl ⟨_, rfl⟩) dX10_takeTable_21 (kd3 hJ.1.1) (rf3_1 hJ.1.1) (by decide) (E_iload_n dX10_takeTable_24 rfl (E_callVN (as := [.int s3.1]) (b := 5) (st := [.int s3.1, .ref 37]) (ok_X1_lies (σ := s3.2) (b := 5) (k := s3.1) hJ (Or.inl rfl)) (by decide) yfX1_lies mlX10_146 imX1_lies seX1_lies clX1 (kd5 hJ.1.1) rfl (Nat.le_of_ble_eq_true rfl) rfl dX10_takeTable_25 q))))))) ?_
    refine P_call (t := fun _ => none) (st2 := fun _ => []) (kc2 := 0) (ks2 := 0) (fun hJ => (ok_X9_add (σ := s3.2) (p1 := s3.1) (p2 := v_X1_lies s3.2 5 s3.1) )) (fun hJ _ _ _ _ v τ1 hM q => E_callVN (as := [.int s3.1, .int (v_X1_lies s3.2 5 s3.1)]) (b := 37) (st := []) hM (by decide) yfX9_add mlX10_455 imX9_add seX9_add clX9 (kd37 hJ.1.1) rfl (Nat.le_of_ble_eq_true rfl) rfl dX10_takeTable_28 q) (by decide) (by decide) (fun v4 σ5 => ?_)
    refine P_l (fun hJ _ _ q => E_iinc (v := 1) (ls2 := [some (.ref 3), some (.int (s3.1 + 1))]) dX10_takeTable_31 rfl (by decide) (by decide) rfl (E_goto 9 dX10_takeTable_34 (by decide) q)) ?_
    exact P_back ((s3.1 + 1, σ5))

def f_X10_isWhole (σ : rS) : Option (Int32 × rS) := oB (f_X10_takeTable σ) fun _ σ2 => oB (f_X9_go σ2 1 ((rI σ2 4 0) + 1)) fun v3 σ4 => some ((if v3 ≤ 0 then 0 else 1, σ4))
set_option maxRecDepth 20000 in
set_option maxHeartbeats 2000000 in
theorem ok_X10_isWhole {σ : rS}   : rFn Sy yX10_isWhole mX10_isWhole 5 [.ref 3] σ 0 0 (fun v => .inl (some (.int v))) (f_X10_isWhole σ) := by
  refine rF_of (ls := [some (.ref 3)]) yfX10_isWhole rfl (Nat.le_of_ble_eq_true rfl) (fun o τ => ?_)
  unfold f_X10_isWhole
  refine P_l (fun hJ _ _ q => E_aload_n dX10_isWhole_0 rfl q) ?_
  refine P_call (t := fun _ => none) (st2 := fun _ => []) (kc2 := 0) (ks2 := 0) (fun hJ => (ok_X10_takeTable (σ := σ)  )) (fun hJ _ _ _ _ v τ1 hM q => E_callV (as := []) (b := 3) (st := []) hM (by decide) yfX10_takeTable mlX10_242 imX10_takeTable seX10_takeTable clX10 (kd3 hJ.1.1) rfl (Nat.le_of_ble_eq_true rfl) rfl dX10_isWhole_1 q) (by decide) (by decide) (fun v1 σ2 => ?_)
  refine P_l (fun hJ _ _ q => E_aload_n dX10_isWhole_4 rfl (E_getR (b := 37) clX10 6 (by decide) flX10_50 (Or.inl ⟨_, rfl⟩) dX10_isWhole_5 (kd3 hJ.1.1) (rf3_6 hJ.1.1) (by decide) (E_aload_n dX10_isWhole_8 rfl (E_getR (b := 4) clX10 0 (by decide) flX10_12 (Or.inl ⟨_, rfl⟩) dX10_isWhole_9 (kd3 hJ.1.1) (rf3_0 hJ.1.1) (by decide) (E_iconst (v := 1) dX10_isWhole_12 (by decide) (E_aload_n dX10_isWhole_13 rfl (E_getR (b := 4) clX10 0 (by decide) flX10_12 (Or.inl ⟨_, rfl⟩) dX10_isWhole_14 (kd3 hJ.1.1) (rf3_0 hJ.1.1) (by decide) (E_getIN clX5 0 (by decide) flX10_88 (Or.inl rfl) dX10_isWhole_17 (kd4 hJ.1.1) (E_iconst (v := 1) dX10_isWhole_20 (by decide) (E_iadd dX10_isWhole_21 q)))))))))) ?_
  refine P_call (t := fun v => some (.int v)) (st2 := fun v => .int v :: []) (kc2 := 0) (ks2 := 0) (fun hJ => (ok_X9_go (σ := σ2) (p2 := 1) (p3 := (rI σ2 4 0) + 1) )) (fun hJ _ _ _ _ v τ1 hM q => E_callVN (as := [.ref 4, .int 1, .int ((rI σ2 4 0) + 1)]) (b := 37) (st := []) hM (by decide) yfX9_go mlX10_245 imX9_go seX9_go clX9 (kd37 hJ.1.1) rfl (Nat.le_of_ble_eq_true rfl) rfl dX10_isWhole_22 q) (by decide) (by decide) (fun v3 σ4 => ?_)
  refine P_l (pc2 := 33) (ls2 := [none]) (st2 := [.int (if v3 ≤ 0 then 0 else 1)]) (fun hJ _ _ hq => ?_) ?_
  · skip
    refine E_if_le 32 dX10_isWhole_25 (by decide) (fun c_25_0 => ?_) (fun c_25_0 => ?_)
    · skip
      refine E_iconst (v := 0) dX10_isWhole_32 (by decide) ?_
      simp only [if_pos c_25_0] at hq
      exact E_less hq (rLe_at [none] [some (.ref 3)] trivial)
    · skip
      refine E_iconst (v := 1) dX10_isWhole_28 (by decide) ?_
      refine E_goto 33 dX10_isWhole_29 (by decide) ?_
      simp only [if_neg c_25_0] at hq
      exact E_less hq (rLe_at [none] [some (.ref 3)] trivial)
  · skip
    exact P_ret (fun _ _ => E_zret01 rfl (by split <;> decide) dX10_isWhole_33)

def b_X10_copies_4 (σ : rS) (s1 : Int64 × Int32) : Option (Int64 ⊕ (Int64 × Int32)) := if 52 ≤ s1.2 then (some (.inl s1.1)) else ((f_X6_claimed σ s1.2).bind fun v2 => oLet (if (v2 + (vAt (rI σ 9) 52 s1.2)) ≤ 2 then s1.1 else (s1.1 ||| ((1 : Int64) <<< (((s1.2 : Int32)).toInt64 &&& 63))) : Int64) fun x3 => some (.inr ((x3, s1.2 + 1))))
def f_X10_copies (σ : rS) : Option Int64 := oLoop (b_X10_copies_4 σ) oFuel (((0 : Int64), 0))
set_option maxRecDepth 20000 in
set_option maxHeartbeats 2000000 in
theorem ok_X10_copies {σ : rS}   : rFr Sy yX10_copies mX10_copies 2 [.ref 3] σ (fun v => some (.long v)) (f_X10_copies σ) := by
  refine rFr_of (ls := [some (.ref 3), none, none, none]) yfX10_copies rfl (Nat.le_of_ble_eq_true rfl) (fun o τ => ?_)
  unfold f_X10_copies
  refine P_l (fun hJ _ _ q => E_lconst (v := 0) dX10_copies_0 (by decide) (E_lstore_n (ls2 := [some (.ref 3), some (.long (0 : Int64)), none, none]) dX10_copies_1 (by decide) rfl (E_iconst (v := 0) dX10_copies_2 (by decide) (E_istore_n (ls2 := [some (.ref 3), some (.long (0 : Int64)), none, some (.int 0)]) dX10_copies_3 (by decide) rfl q)))) ?_
  refine P_loop (fun s1 => [some (.ref 3), some (.long s1.1), none, some (.int s1.2)]) (fun _ => σ) (fun s1 => ?_) _ (((0 : Int64), 0))
  unfold b_X10_copies_4
  refine P_l (fun hJ _ _ q => E_iload_n dX10_copies_4 rfl (E_bipush (v := 52) dX10_copies_5 (by decide) q)) ?_
  refine P_if (fun hJ _ _ h1 h2 => E_icmp_ge 46 dX10_copies_7 (by decide) h1 h2) ?_ ?_
  · skip
    refine P_l (fun hJ _ _ q => E_lload_n dX10_copies_46 rfl q) ?_
    exact P_inl (P_retr (fun _ _ => E_lret rfl dX10_copies_47))
  · skip
    refine P_l (fun hJ _ _ q => E_aload_n dX10_copies_10 rfl (E_getR (b := 19) clX10 3 (by decide) flX10_29 (Or.inl ⟨_, rfl⟩) dX10_copies_11 (kd3 hJ.1.1) (rf3_3 hJ.1.1) (by decide) (E_iload_n dX10_copies_14 rfl q))) ?_
    refine P_callr (t := fun v => some (.int v)) (st2 := fun v => .int v :: []) (fun hJ => (ok_X6_claimed (σ := σ) (p1 := s1.2) )) (fun hJ _ _ v hM q => E_callVN (as := [.int s1.2]) (b := 19) (st := []) hM (by decide) yfX6_claimed mlX10_327 imX6_claimed seX6_claimed clX6 (kd19 hJ.1.1) rfl (Nat.le_of_ble_eq_true rfl) rfl dX10_copies_15 q) (fun v2 => ?_)
    refine P_l (fun hJ _ _ q => E_aload_n dX10_copies_18 rfl (E_getR (b := 5) clX10 1 (by decide) flX10_19 (Or.inl ⟨_, rfl⟩) dX10_copies_19 (kd3 hJ.1.1) (rf3_1 hJ.1.1) (by decide) (E_getRN (b := 9) clX1 3 (by decide) flX10_330 (Or.inr ⟨_, rfl⟩) dX10_copies_22 (kd5 hJ.1.1) (rf5_3 hJ.1.1) (by decide) (E_iload_n dX10_copies_25 rfl (E_callS (as := [.ref 9, .int s1.2]) (st := [.int v2]) (ok_at (σ := σ) (a := 9) (i := s1.2) (f := rI σ 9) (kd9 hJ.1.1) (by decide) rfl) (by decide) yfX10_at mlX10_193 stX10_at rfl (Nat.le_of_ble_eq_true rfl) rfl dX10_copies_26 (E_iadd dX10_copies_29 (E_iconst (v := 2) dX10_copies_30 (by decide) q))))))) ?_
    refine P_l (pc2 := 40) (ls2 := [some (.ref 3), some (.long (if (v2 + (vAt (rI σ 9) 52 s1.2)) ≤ 2 then s1.1 else (s1.1 ||| ((1 : Int64) <<< (((s1.2 : Int32)).toInt64 &&& 63))))), none, some (.int s1.2)]) (st2 := []) (fun hJ _ _ hq => ?_) ?_
    · skip
      refine E_icmp_le 40 dX10_copies_31 (by decide) (fun c_31_0 => ?_) (fun c_31_0 => ?_)
      · skip
        simp only [if_pos c_31_0] at hq
        exact hq
      · skip
        refine E_lload_n dX10_copies_34 rfl ?_
        refine E_lconst (v := 1) dX10_copies_35 (by decide) ?_
        refine E_iload_n dX10_copies_36 rfl ?_
        refine E_lshl dX10_copies_37 ?_
        refine E_lor dX10_copies_38 ?_
        refine E_lstore_n (ls2 := [some (.ref 3), some (.long (s1.1 ||| ((1 : Int64) <<< (((s1.2 : Int32)).toInt64 &&& 63)))), none, some (.int s1.2)]) dX10_copies_39 (by decide) rfl ?_
        simp only [if_neg c_31_0] at hq
        exact hq
    · skip
      refine P_v (if (v2 + (vAt (rI σ 9) 52 s1.2)) ≤ 2 then s1.1 else (s1.1 ||| ((1 : Int64) <<< (((s1.2 : Int32)).toInt64 &&& 63)))) (fun x => [some (.ref 3), some (.long x), none, some (.int s1.2)]) (fun x3 => ?_)
      refine P_l (fun hJ _ _ q => E_iinc (v := 1) (ls2 := [some (.ref 3), some (.long x3), none, some (.int (s1.2 + 1))]) dX10_copies_40 rfl (by decide) (by decide) rfl (E_goto 4 dX10_copies_43 (by decide) q)) ?_
      exact P_back ((x3, s1.2 + 1))

def f_X10_replay (σ : rS) (p1 : Int32) (p2 : Int32) (p3 : Int32) : Option (Unit × rS) := if p1 = 1 then (oB (f_X1_layTile σ 12 p2 p3) fun _ σ3 => some (((), σ3))) else (if p1 = 2 then (oB (f_X1_layJoker σ 12 p2 p3) fun _ σ6 => some (((), σ6))) else (if p1 = 3 then (oB (f_X1_swapJoker σ 12 p2 p3) fun _ σ9 => some (((), σ9))) else (if p1 = 4 then (oB (f_X1_undo σ 12 p2) fun v11 σ12 => some (((), σ12))) else (if p1 = 5 then (oB (f_X1_settle σ 12) fun _ σ15 => some (((), σ15))) else (oLet (if (rI σ 12 6) ≤ 0 then 1 else (rI σ 4 4) : Int32) fun x16 => oB (f_X1_undoAll σ 12 p2) fun _ σ18 => oB (f_X1_drawUpTo σ18 12 p2 x16) fun v19 σ20 => some (((), σ20)))))))
set_option maxRecDepth 20000 in
set_option maxHeartbeats 2000000 in
theorem ok_X10_replay {σ : rS} {p1 : Int32} {p2 : Int32} {p3 : Int32}   : rFn Sy yX10_replay mX10_replay 5 [.ref 3, .int p1, .int p2, .int p3] σ 0 0 (fun _ => .inl none) (f_X10_replay σ p1 p2 p3) := by
  refine rF_of (ls := [some (.ref 3), some (.int p1), some (.int p2), some (.int p3), none]) yfX10_replay rfl (Nat.le_of_ble_eq_true rfl) (fun o τ => ?_)
  unfold f_X10_replay
  refine P_l (fun hJ _ _ q => E_iload_n dX10_replay_0 rfl q) ?_
  refine P_case (fun h1 => ?_) (fun h1 => ?_)
  · skip
    refine P_l (fun hJ _ _ q => E_tableIn (off := 35) 36 dX10_replay_1 (by rw [h1]; decide) (by rw [h1]; decide) (by rw [h1]; rfl) (by decide) q) ?_
    refine P_l (fun hJ _ _ q => E_aload_n dX10_replay_36 rfl (E_getR (b := 12) clX10 2 (by decide) flX10_23 (Or.inl ⟨_, rfl⟩) dX10_replay_37 (kd3 hJ.1.1) (rf3_2 hJ.1.1) (by decide) (E_iload_n dX10_replay_40 rfl (E_iload_n dX10_replay_41 rfl q)))) ?_
    refine P_call (t := fun _ => none) (st2 := fun _ => []) (kc2 := 0) (ks2 := 0) (fun hJ => (ok_X1_layTile (σ := σ) (b := 12) (p := p2) (k := p3) (Or.inr rfl))) (fun hJ _ _ _ _ v τ1 hM q => E_callVN (as := [.int p2, .int p3]) (b := 12) (st := []) hM (by decide) yfX1_layTile mlX10_410 imX1_layTile seX1_layTile clX1 (kd12 hJ.1.1) rfl (Nat.le_of_ble_eq_true rfl) rfl dX10_replay_42 q) (by decide) (by decide) (fun v2 σ3 => ?_)
    refine P_l (fun hJ _ _ q => E_goto 136 dX10_replay_45 (by decide) q) ?_
    exact P_ret (fun _ _ => E_vret rfl dX10_replay_136)
  · skip
    refine P_case (fun h4 => ?_) (fun h4 => ?_)
    · skip
      refine P_l (fun hJ _ _ q => E_tableIn (off := 47) 48 dX10_replay_1 (by rw [h4]; decide) (by rw [h4]; decide) (by rw [h4]; rfl) (by decide) q) ?_
      refine P_l (fun hJ _ _ q => E_aload_n dX10_replay_48 rfl (E_getR (b := 12) clX10 2 (by decide) flX10_23 (Or.inl ⟨_, rfl⟩) dX10_replay_49 (kd3 hJ.1.1) (rf3_2 hJ.1.1) (by decide) (E_iload_n dX10_replay_52 rfl (E_iload_n dX10_replay_53 rfl q)))) ?_
      refine P_call (t := fun _ => none) (st2 := fun _ => []) (kc2 := 0) (ks2 := 0) (fun hJ => (ok_X1_layJoker (σ := σ) (b := 12) (p := p2) (k := p3) (Or.inr rfl))) (fun hJ _ _ _ _ v τ1 hM q => E_callVN (as := [.int p2, .int p3]) (b := 12) (st := []) hM (by decide) yfX1_layJoker mlX10_416 imX1_layJoker seX1_layJoker clX1 (kd12 hJ.1.1) rfl (Nat.le_of_ble_eq_true rfl) rfl dX10_replay_54 q) (by decide) (by decide) (fun v5 σ6 => ?_)
      refine P_l (fun hJ _ _ q => E_goto 136 dX10_replay_57 (by decide) q) ?_
      exact P_ret (fun _ _ => E_vret rfl dX10_replay_136)
    · skip
      refine P_case (fun h7 => ?_) (fun h7 => ?_)
      · skip
        refine P_l (fun hJ _ _ q => E_tableIn (off := 59) 60 dX10_replay_1 (by rw [h7]; decide) (by rw [h7]; decide) (by rw [h7]; rfl) (by decide) q) ?_
        refine P_l (fun hJ _ _ q => E_aload_n dX10_replay_60 rfl (E_getR (b := 12) clX10 2 (by decide) flX10_23 (Or.inl ⟨_, rfl⟩) dX10_replay_61 (kd3 hJ.1.1) (rf3_2 hJ.1.1) (by decide) (E_iload_n dX10_replay_64 rfl (E_iload_n dX10_replay_65 rfl q)))) ?_
        refine P_call (t := fun _ => none) (st2 := fun _ => []) (kc2 := 0) (ks2 := 0) (fun hJ => (ok_X1_swapJoker (σ := σ) (b := 12) (p := p2) (k := p3) (Or.inr rfl))) (fun hJ _ _ _ _ v τ1 hM q => E_callVN (as := [.int p2, .int p3]) (b := 12) (st := []) hM (by decide) yfX1_swapJoker mlX10_418 imX1_swapJoker seX1_swapJoker clX1 (kd12 hJ.1.1) rfl (Nat.le_of_ble_eq_true rfl) rfl dX10_replay_66 q) (by decide) (by decide) (fun v8 σ9 => ?_)
        refine P_l (fun hJ _ _ q => E_goto 136 dX10_replay_69 (by decide) q) ?_
        exact P_ret (fun _ _ => E_vret rfl dX10_replay_136)
      · skip
        refine P_case (fun h10 => ?_) (fun h10 => ?_)
        · skip
          refine P_l (fun hJ _ _ q => E_tableIn (off := 71) 72 dX10_replay_1 (by rw [h10]; decide) (by rw [h10]; decide) (by rw [h10]; rfl) (by decide) q) ?_
          refine P_l (fun hJ _ _ q => E_aload_n dX10_replay_72 rfl (E_getR (b := 12) clX10 2 (by decide) flX10_23 (Or.inl ⟨_, rfl⟩) dX10_replay_73 (kd3 hJ.1.1) (rf3_2 hJ.1.1) (by decide) (E_iload_n dX10_replay_76 rfl q))) ?_
          refine P_call (t := fun v => some (.int v)) (st2 := fun v => .int v :: []) (kc2 := 0) (ks2 := 0) (fun hJ => (ok_X1_undo (σ := σ) (b := 12) (p := p2) (Or.inr rfl))) (fun hJ _ _ _ _ v τ1 hM q => E_callVN (as := [.int p2]) (b := 12) (st := []) hM (by decide) yfX1_undo mlX10_420 imX1_undo seX1_undo clX1 (kd12 hJ.1.1) rfl (Nat.le_of_ble_eq_true rfl) rfl dX10_replay_77 q) (by decide) (by decide) (fun v11 σ12 => ?_)
          refine P_l (fun hJ _ _ q => E_pop dX10_replay_80 rfl (E_goto 136 dX10_replay_81 (by decide) q)) ?_
          exact P_ret (fun _ _ => E_vret rfl dX10_replay_136)
        · skip
          refine P_case (fun h13 => ?_) (fun h13 => ?_)
          · skip
            refine P_l (fun hJ _ _ q => E_tableIn (off := 83) 84 dX10_replay_1 (by rw [h13]; decide) (by rw [h13]; decide) (by rw [h13]; rfl) (by decide) q) ?_
            refine P_l (fun hJ _ _ q => E_aload_n dX10_replay_84 rfl (E_getR (b := 12) clX10 2 (by decide) flX10_23 (Or.inl ⟨_, rfl⟩) dX10_replay_85 (kd3 hJ.1.1) (rf3_2 hJ.1.1) (by decide) q)) ?_
            refine P_call (t := fun _ => none) (st2 := fun _ => []) (kc2 := 0) (ks2 := 0) (fun hJ => (ok_X1_settle (σ := σ) (b := 12) (Or.inr rfl))) (fun hJ _ _ _ _ v τ1 hM q => E_callVN (as := []) (b := 12) (st := []) hM (by decide) yfX1_settle mlX10_423 imX1_settle seX1_settle clX1 (kd12 hJ.1.1) rfl (Nat.le_of_ble_eq_true rfl) rfl dX10_replay_88 q) (by decide) (by decide) (fun v14 σ15 => ?_)
            refine P_l (fun hJ _ _ q => E_goto 136 dX10_replay_91 (by decide) q) ?_
            exact P_ret (fun _ _ => E_vret rfl dX10_replay_136)
          · skip
            refine P_l (fun hJ _ _ q => E_tableOut 94 dX10_replay_1 (by have e0 := sw_ne h1; have e1 := sw_ne h4; have e2 := sw_ne h7; have e3 := sw_ne h10; have e4 := sw_ne h13; simp only [sw_l1, sw_l2, sw_l3, sw_l4, sw_l5] at *; omega) (by decide) q) ?_
            refine P_l (fun hJ _ _ q => E_aload_n dX10_replay_94 rfl (E_getR (b := 12) clX10 2 (by decide) flX10_23 (Or.inl ⟨_, rfl⟩) dX10_replay_95 (kd3 hJ.1.1) (rf3_2 hJ.1.1) (by decide) (E_getIN clX1 6 (by decide) flX10_174 (Or.inl rfl) dX10_replay_98 (kd12 hJ.1.1) q))) ?_
            refine P_l (pc2 := 115) (ls2 := [some (.ref 3), none, some (.int p2), none, none]) (st2 := [.int (if (rI σ 12 6) ≤ 0 then 1 else (rI σ 4 4))]) (fun hJ _ _ hq => ?_) ?_
            · skip
              refine E_if_le 114 dX10_replay_101 (by decide) (fun c_101_0 => ?_) (fun c_101_0 => ?_)
              · skip
                refine E_iconst (v := 1) dX10_replay_114 (by decide) ?_
                simp only [if_pos c_101_0] at hq
                exact E_less hq (rLe_at [some (.ref 3), none, some (.int p2), none, none] [some (.ref 3), some (.int p1), some (.int p2), some (.int p3), none] (And.intro rfl (And.intro rfl trivial)))
              · skip
                refine E_aload_n dX10_replay_104 rfl ?_
                refine E_getR (b := 4) clX10 0 (by decide) flX10_12 (Or.inl ⟨_, rfl⟩) dX10_replay_105 (kd3 hJ.1.1) (rf3_0 hJ.1.1) (by decide) ?_
                refine E_getIN clX5 4 (by decide) flX10_100 (Or.inl rfl) dX10_replay_108 (kd4 hJ.1.1) ?_
                refine E_goto 115 dX10_replay_111 (by decide) ?_
                simp only [if_neg c_101_0] at hq
                exact E_less hq (rLe_at [some (.ref 3), none, some (.int p2), none, none] [some (.ref 3), some (.int p1), some (.int p2), some (.int p3), none] (And.intro rfl (And.intro rfl trivial)))
            · skip
              refine P_l (fun hJ _ _ q => E_istore (ls2 := [some (.ref 3), none, some (.int p2), none, some (.int (if (rI σ 12 6) ≤ 0 then 1 else (rI σ 4 4)))]) dX10_replay_115 (by decide) rfl q) ?_
              refine P_v (if (rI σ 12 6) ≤ 0 then 1 else (rI σ 4 4)) (fun x => [some (.ref 3), none, some (.int p2), none, some (.int x)]) (fun x16 => ?_)
              refine P_l (fun hJ _ _ q => E_aload_n dX10_replay_117 rfl (E_getR (b := 12) clX10 2 (by decide) flX10_23 (Or.inl ⟨_, rfl⟩) dX10_replay_118 (kd3 hJ.1.1) (rf3_2 hJ.1.1) (by decide) (E_iload_n dX10_replay_121 rfl q))) ?_
              refine P_call (t := fun _ => none) (st2 := fun _ => []) (kc2 := 0) (ks2 := 0) (fun hJ => (ok_X1_undoAll (σ := σ) (b := 12) (p := p2) (Or.inr rfl))) (fun hJ _ _ _ _ v τ1 hM q => E_callVN (as := [.int p2]) (b := 12) (st := []) hM (by decide) yfX1_undoAll mlX10_432 imX1_undoAll seX1_undoAll clX1 (kd12 hJ.1.1) rfl (Nat.le_of_ble_eq_true rfl) rfl dX10_replay_122 q) (by decide) (by decide) (fun v17 σ18 => ?_)
              refine P_l (fun hJ _ _ q => E_aload_n dX10_replay_125 rfl (E_getR (b := 12) clX10 2 (by decide) flX10_23 (Or.inl ⟨_, rfl⟩) dX10_replay_126 (kd3 hJ.1.1) (rf3_2 hJ.1.1) (by decide) (E_iload_n dX10_replay_129 rfl (E_iload dX10_replay_130 rfl q)))) ?_
              refine P_call (t := fun v => some (.int v)) (st2 := fun v => .int v :: []) (kc2 := 0) (ks2 := 0) (fun hJ => (ok_X1_drawUpTo (σ := σ18) (b := 12) (p := p2) (m := x16) (Or.inr rfl))) (fun hJ _ _ _ _ v τ1 hM q => E_callVN (as := [.int p2, .int x16]) (b := 12) (st := []) hM (by decide) yfX1_drawUpTo mlX10_439 imX1_drawUpTo seX1_drawUpTo clX1 (kd12 hJ.1.1) rfl (Nat.le_of_ble_eq_true rfl) rfl dX10_replay_132 q) (by decide) (by decide) (fun v19 σ20 => ?_)
              refine P_l (fun hJ _ _ q => E_pop dX10_replay_135 rfl q) ?_
              exact P_ret (fun _ _ => E_vret rfl dX10_replay_136)

def b_X10_isReplayed_51 (s7 : Int32 × rS) : Option ((Int32 × rS) ⊕ (Int32 × rS)) := if (rI s7.2 35 1) ≤ s7.1 then ((f_X1_isLike s7.2).bind fun v8 => if v8 = 0 ∨ v8 = 1 then (some (.inl ((v8, s7.2)))) else none) else (oB (f_X10_replay s7.2 (v_X2_sort s7.2 s7.1) (v_X2_who s7.2 s7.1) (v_X2_kind s7.2 s7.1)) fun _ σ11 => some (.inr ((s7.1 + 1, σ11))))
def f_X10_isReplayed (σ : rS) : Option (Int32 × rS) := oB (f_X1_clear σ 12) fun _ σ2 => if (rI σ2 35 2) = 0 then ((f_X1_isLike σ2).bind fun v3 => if v3 = 0 ∨ v3 = 1 then (some ((v3, σ2))) else none) else (oB (f_X1_dealOut σ2 12 (rI σ2 35 3) (rI σ2 35 4) (rI σ2 35 5)) fun _ σ6 => oLoop (b_X10_isReplayed_51) oFuel ((0, σ6)))
set_option maxRecDepth 20000 in
set_option maxHeartbeats 2000000 in
theorem ok_X10_isReplayed {σ : rS}   : rFn Sy yX10_isReplayed mX10_isReplayed 6 [.ref 3] σ 0 0 (fun v => .inl (some (.int v))) (f_X10_isReplayed σ) := by
  refine rF_of (ls := [some (.ref 3), none]) yfX10_isReplayed rfl (Nat.le_of_ble_eq_true rfl) (fun o τ => ?_)
  unfold f_X10_isReplayed
  refine P_l (fun hJ _ _ q => E_aload_n dX10_isReplayed_0 rfl (E_getR (b := 12) clX10 2 (by decide) flX10_23 (Or.inl ⟨_, rfl⟩) dX10_isReplayed_1 (kd3 hJ.1.1) (rf3_2 hJ.1.1) (by decide) q)) ?_
  refine P_call (t := fun _ => none) (st2 := fun _ => []) (kc2 := 0) (ks2 := 0) (fun hJ => (ok_X1_clear (σ := σ) (b := 12) (Or.inr rfl))) (fun hJ _ _ _ _ v τ1 hM q => E_callVN (as := []) (b := 12) (st := []) hM (by decide) yfX1_clear mlX10_103 imX1_clear seX1_clear clX1 (kd12 hJ.1.1) rfl (Nat.le_of_ble_eq_true rfl) rfl dX10_isReplayed_4 q) (by decide) (by decide) (fun v1 σ2 => ?_)
  refine P_l (fun hJ _ _ q => E_aload_n dX10_isReplayed_7 rfl (E_getR (b := 35) clX10 5 (by decide) flX10_43 (Or.inl ⟨_, rfl⟩) dX10_isReplayed_8 (kd3 hJ.1.1) (rf3_5 hJ.1.1) (by decide) (E_getIN clX2 2 (by decide) flX10_375 (Or.inr rfl) dX10_isReplayed_11 (kd35 hJ.1.1) q))) ?_
  refine P_if (fun hJ _ _ h1 h2 => E_if_eq 96 dX10_isReplayed_14 (by decide) h1 h2) ?_ ?_
  · skip
    refine P_l (fun hJ _ _ q => E_aload_n dX10_isReplayed_96 rfl (E_getR (b := 5) clX10 1 (by decide) flX10_19 (Or.inl ⟨_, rfl⟩) dX10_isReplayed_97 (kd3 hJ.1.1) (rf3_1 hJ.1.1) (by decide) (E_aload_n dX10_isReplayed_100 rfl (E_getR (b := 12) clX10 2 (by decide) flX10_23 (Or.inl ⟨_, rfl⟩) dX10_isReplayed_101 (kd3 hJ.1.1) (rf3_2 hJ.1.1) (by decide) q)))) ?_
    refine P_callr (t := fun v => some (.int v)) (st2 := fun v => .int v :: []) (fun hJ => (ok_X1_isLike (σ := σ2)  )) (fun hJ _ _ v hM q => E_callVN (as := [.ref 12]) (b := 5) (st := []) hM (by decide) yfX1_isLike mlX10_390 imX1_isLike seX1_isLike clX1 (kd5 hJ.1.1) rfl (Nat.le_of_ble_eq_true rfl) rfl dX10_isReplayed_104 q) (fun v3 => ?_)
    refine P_g (fun g4 => ?_)
    exact P_ret (fun _ _ => E_zret01 rfl g4 dX10_isReplayed_107)
  · skip
    refine P_l (fun hJ _ _ q => E_aload_n dX10_isReplayed_17 rfl (E_getR (b := 12) clX10 2 (by decide) flX10_23 (Or.inl ⟨_, rfl⟩) dX10_isReplayed_18 (kd3 hJ.1.1) (rf3_2 hJ.1.1) (by decide) (E_aload_n dX10_isReplayed_21 rfl (E_getR (b := 4) clX10 0 (by decide) flX10_12 (Or.inl ⟨_, rfl⟩) dX10_isReplayed_22 (kd3 hJ.1.1) (rf3_0 hJ.1.1) (by decide) (E_aload_n dX10_isReplayed_25 rfl (E_getR (b := 35) clX10 5 (by decide) flX10_43 (Or.inl ⟨_, rfl⟩) dX10_isReplayed_26 (kd3 hJ.1.1) (rf3_5 hJ.1.1) (by decide) (E_getIN clX2 3 (by decide) flX10_378 (Or.inl rfl) dX10_isReplayed_29 (kd35 hJ.1.1) (E_aload_n dX10_isReplayed_32 rfl (E_getR (b := 35) clX10 5 (by decide) flX10_43 (Or.inl ⟨_, rfl⟩) dX10_isReplayed_33 (kd3 hJ.1.1) (rf3_5 hJ.1.1) (by decide) (E_getIN clX2 4 (by decide) flX10_381 (Or.inl rfl) dX10_isReplayed_36 (kd35 hJ.1.1) (E_aload_n dX10_isReplayed_39 rfl (E_getR (b := 35) clX10 5 (by decide) flX10_43 (Or.inl ⟨_, rfl⟩) dX10_isReplayed_40 (kd3 hJ.1.1) (rf3_5 hJ.1.1) (by decide) (E_getIN clX2 5 (by decide) flX10_384 (Or.inl rfl) dX10_isReplayed_43 (kd35 hJ.1.1) q))))))))))))) ?_
    refine P_call (t := fun _ => none) (st2 := fun _ => []) (kc2 := 0) (ks2 := 0) (fun hJ => (ok_X1_dealOut (σ := σ2) (b := 12) (from_ := rI σ2 35 3) (each_ := rI σ2 35 4) (players := rI σ2 35 5) (Or.inr rfl))) (fun hJ _ _ _ _ v τ1 hM q => E_callVN (as := [.ref 4, .int (rI σ2 35 3), .int (rI σ2 35 4), .int (rI σ2 35 5)]) (b := 12) (st := []) hM (by decide) yfX1_dealOut mlX10_126 imX1_dealOut seX1_dealOut clX1 (kd12 hJ.1.1) rfl (Nat.le_of_ble_eq_true rfl) rfl dX10_isReplayed_46 q) (by decide) (by decide) (fun v5 σ6 => ?_)
    refine P_l (fun hJ _ _ q => E_iconst (v := 0) dX10_isReplayed_49 (by decide) (E_istore_n (ls2 := [some (.ref 3), some (.int 0)]) dX10_isReplayed_50 (by decide) rfl q)) ?_
    refine P_loop (fun s7 => [some (.ref 3), some (.int s7.1)]) (fun s7 => s7.2) (fun s7 => ?_) _ ((0, σ6))
    unfold b_X10_isReplayed_51
    refine P_l (fun hJ _ _ q => E_iload_n dX10_isReplayed_51 rfl (E_aload_n dX10_isReplayed_52 rfl (E_getR (b := 35) clX10 5 (by decide) flX10_43 (Or.inl ⟨_, rfl⟩) dX10_isReplayed_53 (kd3 hJ.1.1) (rf3_5 hJ.1.1) (by decide) (E_getIN clX2 1 (by decide) flX10_359 (Or.inl rfl) dX10_isReplayed_56 (kd35 hJ.1.1) q)))) ?_
    refine P_if (fun hJ _ _ h1 h2 => E_icmp_ge 96 dX10_isReplayed_59 (by decide) h1 h2) ?_ ?_
    · skip
      refine P_l (fun hJ _ _ q => E_aload_n dX10_isReplayed_96 rfl (E_getR (b := 5) clX10 1 (by decide) flX10_19 (Or.inl ⟨_, rfl⟩) dX10_isReplayed_97 (kd3 hJ.1.1) (rf3_1 hJ.1.1) (by decide) (E_aload_n dX10_isReplayed_100 rfl (E_getR (b := 12) clX10 2 (by decide) flX10_23 (Or.inl ⟨_, rfl⟩) dX10_isReplayed_101 (kd3 hJ.1.1) (rf3_2 hJ.1.1) (by decide) q)))) ?_
      refine P_callr (t := fun v => some (.int v)) (st2 := fun v => .int v :: []) (fun hJ => (ok_X1_isLike (σ := s7.2)  )) (fun hJ _ _ v hM q => E_callVN (as := [.ref 12]) (b := 5) (st := []) hM (by decide) yfX1_isLike mlX10_390 imX1_isLike seX1_isLike clX1 (kd5 hJ.1.1) rfl (Nat.le_of_ble_eq_true rfl) rfl dX10_isReplayed_104 q) (fun v8 => ?_)
      refine P_g (fun g9 => ?_)
      exact P_inl (P_ret (fun _ _ => E_zret01 rfl g9 dX10_isReplayed_107))
    · skip
      refine P_l (fun hJ _ _ q => E_aload_n dX10_isReplayed_62 rfl (E_aload_n dX10_isReplayed_63 rfl (E_getR (b := 35) clX10 5 (by decide) flX10_43 (Or.inl ⟨_, rfl⟩) dX10_isReplayed_64 (kd3 hJ.1.1) (rf3_5 hJ.1.1) (by decide) (E_iload_n dX10_isReplayed_67 rfl (E_callVN (as := [.int s7.1]) (b := 35) (st := [.ref 3]) (ok_X2_sort (σ := s7.2) (p1 := s7.1) hJ ) (by decide) yfX2_sort mlX10_363 imX2_sort seX2_sort clX2 (kd35 hJ.1.1) rfl (Nat.le_of_ble_eq_true rfl) rfl dX10_isReplayed_68 (E_aload_n dX10_isReplayed_71 rfl (E_getR (b := 35) clX10 5 (by decide) flX10_43 (Or.inl ⟨_, rfl⟩) dX10_isReplayed_72 (kd3 hJ.1.1) (rf3_5 hJ.1.1) (by decide) (E_iload_n dX10_isReplayed_75 rfl (E_callVN (as := [.int s7.1]) (b := 35) (st := [.int (v_X2_sort s7.2 s7.1), .ref 3]) (ok_X2_who (σ := s7.2) (p1 := s7.1) hJ ) (by decide) yfX2_who mlX10_366 imX2_who seX2_who clX2 (kd35 hJ.1.1) rfl (Nat.le_of_ble_eq_true rfl) rfl dX10_isReplayed_76 (E_aload_n dX10_isReplayed_79 rfl (E_getR (b := 35) clX10 5 (by decide) flX10_43 (Or.inl ⟨_, rfl⟩) dX10_isReplayed_80 (kd3 hJ.1.1) (rf3_5 hJ.1.1) (by decide) (E_iload_n dX10_isReplayed_83 rfl (E_callVN (as := [.int s7.1]) (b := 35) (st := [.int (v_X2_who s7.2 s7.1), .int (v_X2_sort s7.2 s7.1), .ref 3]) (ok_X2_kind (σ := s7.2) (p1 := s7.1) hJ ) (by decide) yfX2_kind mlX10_369 imX2_kind seX2_kind clX2 (kd35 hJ.1.1) rfl (Nat.le_of_ble_eq_true rfl) rfl dX10_isReplayed_84 q))))))))))))) ?_
      refine P_call (t := fun _ => none) (st2 := fun _ => []) (kc2 := 0) (ks2 := 0) (fun hJ => (ok_X10_replay (σ := s7.2) (p1 := v_X2_sort s7.2 s7.1) (p2 := v_X2_who s7.2 s7.1) (p3 := v_X2_kind s7.2 s7.1) )) (fun hJ _ _ _ _ v τ1 hM q => E_callV (as := [.int (v_X2_sort s7.2 s7.1), .int (v_X2_who s7.2 s7.1), .int (v_X2_kind s7.2 s7.1)]) (b := 3) (st := []) hM (by decide) yfX10_replay mlX10_387 imX10_replay seX10_replay clX10 (kd3 hJ.1.1) rfl (Nat.le_of_ble_eq_true rfl) rfl dX10_isReplayed_87 q) (by decide) (by decide) (fun v10 σ11 => ?_)
      refine P_l (fun hJ _ _ q => E_iinc (v := 1) (ls2 := [some (.ref 3), some (.int (s7.1 + 1))]) dX10_isReplayed_90 rfl (by decide) (by decide) rfl (E_goto 51 dX10_isReplayed_93 (by decide) q)) ?_
      exact P_back ((s7.1 + 1, σ11))

def f_X10_rules (σ : rS) (p1 : Int32) (p2 : Int32) (p3 : Int32) (p4 : Int32) (p5 : Int32) : Option ((Int32 ⊕ String) × rS) := oLet (if (vIn p1 5 13) = 0 then 0 else (if (vIn p2 3 4) = 0 then 0 else (if (vIn p3 0 3) = 0 then 0 else (if (vIn p4 0 99) = 0 then 0 else (if (vIn p5 1 9) = 0 then 0 else 1)))) : Int32) fun x1 => if x1 = 0 then (some ((.inr "java/lang/IllegalArgumentException", σ))) else (if (v_X10_isOn σ) = 0 then (oLet (wI σ 4 0 p1) fun σ2 => oLet (wI σ2 4 1 p2) fun σ3 => oLet (wI σ3 4 2 p3) fun σ4 => oLet (wI σ4 4 3 p4) fun σ5 => oLet (wI σ5 4 4 p5) fun σ6 => oB (f_X1_clear σ6 5) fun _ σ8 => oB (f_X2_clear σ8) fun _ σ10 => some ((.inl (v_X5_pieces σ10), σ10))) else (some ((.inr "java/lang/IllegalStateException", σ))))
set_option maxRecDepth 20000 in
set_option maxHeartbeats 2000000 in
theorem ok_X10_rules {σ : rS} {p1 : Int32} {p2 : Int32} {p3 : Int32} {p4 : Int32} {p5 : Int32}   : rFn Sy yX10_rules mX10_rules 6 [.ref 3, .int p1, .int p2, .int p3, .int p4, .int p5] σ 1 6 (tX (fun v => .inl (some (.int v)))) (f_X10_rules σ p1 p2 p3 p4 p5) := by
  refine rF_of (ls := [some (.ref 3), some (.int p1), some (.int p2), some (.int p3), some (.int p4), some (.int p5), none]) yfX10_rules rfl (Nat.le_of_ble_eq_true rfl) (fun o τ => ?_)
  unfold f_X10_rules
  refine P_l (fun hJ _ _ q => E_iload_n dX10_rules_0 rfl (E_iconst (v := 5) dX10_rules_1 (by decide) (E_bipush (v := 13) dX10_rules_2 (by decide) (E_callS (as := [.int p1, .int 5, .int 13]) (st := []) (ok_within (σ := σ) (v := p1) (a := 5) (b := 13)) (by decide) yfX10_within mlX10_74 stX10_within rfl (Nat.le_of_ble_eq_true rfl) rfl dX10_rules_4 q)))) ?_
  refine P_l (pc2 := 55) (ls2 := [some (.ref 3), some (.int p1), some (.int p2), some (.int p3), some (.int p4), some (.int p5), none]) (st2 := [.int (if (vIn p1 5 13) = 0 then 0 else (if (vIn p2 3 4) = 0 then 0 else (if (vIn p3 0 3) = 0 then 0 else (if (vIn p4 0 99) = 0 then 0 else (if (vIn p5 1 9) = 0 then 0 else 1)))))]) (fun hJ _ _ hq => ?_) ?_
  · skip
    refine E_if_eq 54 dX10_rules_7 (by decide) (fun c_7_0 => ?_) (fun c_7_0 => ?_)
    · skip
      refine E_iconst (v := 0) dX10_rules_54 (by decide) ?_
      simp only [if_pos c_7_0] at hq
      exact hq
    · skip
      refine E_iload_n dX10_rules_10 rfl ?_
      refine E_iconst (v := 3) dX10_rules_11 (by decide) ?_
      refine E_iconst (v := 4) dX10_rules_12 (by decide) ?_
      refine E_callS (as := [.int p2, .int 3, .int 4]) (st := []) (ok_within (σ := σ) (v := p2) (a := 3) (b := 4)) (by decide) yfX10_within mlX10_74 stX10_within rfl (Nat.le_of_ble_eq_true rfl) rfl dX10_rules_13 ?_
      refine E_if_eq 54 dX10_rules_16 (by decide) (fun c_16_1 => ?_) (fun c_16_1 => ?_)
      · skip
        refine E_iconst (v := 0) dX10_rules_54 (by decide) ?_
        simp only [if_neg c_7_0, if_pos c_16_1] at hq
        exact hq
      · skip
        refine E_iload_n dX10_rules_19 rfl ?_
        refine E_iconst (v := 0) dX10_rules_20 (by decide) ?_
        refine E_iconst (v := 3) dX10_rules_21 (by decide) ?_
        refine E_callS (as := [.int p3, .int 0, .int 3]) (st := []) (ok_within (σ := σ) (v := p3) (a := 0) (b := 3)) (by decide) yfX10_within mlX10_74 stX10_within rfl (Nat.le_of_ble_eq_true rfl) rfl dX10_rules_22 ?_
        refine E_if_eq 54 dX10_rules_25 (by decide) (fun c_25_2 => ?_) (fun c_25_2 => ?_)
        · skip
          refine E_iconst (v := 0) dX10_rules_54 (by decide) ?_
          simp only [if_neg c_7_0, if_neg c_16_1, if_pos c_25_2] at hq
          exact hq
        · skip
          refine E_iload dX10_rules_28 rfl ?_
          refine E_iconst (v := 0) dX10_rules_30 (by decide) ?_
          refine E_bipush (v := 99) dX10_rules_31 (by decide) ?_
          refine E_callS (as := [.int p4, .int 0, .int 99]) (st := []) (ok_within (σ := σ) (v := p4) (a := 0) (b := 99)) (by decide) yfX10_within mlX10_74 stX10_within rfl (Nat.le_of_ble_eq_true rfl) rfl dX10_rules_33 ?_
          refine E_if_eq 54 dX10_rules_36 (by decide) (fun c_36_3 => ?_) (fun c_36_3 => ?_)
          · skip
            refine E_iconst (v := 0) dX10_rules_54 (by decide) ?_
            simp only [if_neg c_7_0, if_neg c_16_1, if_neg c_25_2, if_pos c_36_3] at hq
            exact hq
          · skip
            refine E_iload dX10_rules_39 rfl ?_
            refine E_iconst (v := 1) dX10_rules_41 (by decide) ?_
            refine E_bipush (v := 9) dX10_rules_42 (by decide) ?_
            refine E_callS (as := [.int p5, .int 1, .int 9]) (st := []) (ok_within (σ := σ) (v := p5) (a := 1) (b := 9)) (by decide) yfX10_within mlX10_74 stX10_within rfl (Nat.le_of_ble_eq_true rfl) rfl dX10_rules_44 ?_
            refine E_if_eq 54 dX10_rules_47 (by decide) (fun c_47_4 => ?_) (fun c_47_4 => ?_)
            · skip
              refine E_iconst (v := 0) dX10_rules_54 (by decide) ?_
              simp only [if_neg c_7_0, if_neg c_16_1, if_neg c_25_2, if_neg c_36_3, if_pos c_47_4] at hq
              exact hq
            · skip
              refine E_iconst (v := 1) dX10_rules_50 (by decide) ?_
              refine E_goto 55 dX10_rules_51 (by decide) ?_
              simp only [if_neg c_7_0, if_neg c_16_1, if_neg c_25_2, if_neg c_36_3, if_neg c_47_4] at hq
              exact hq
  · skip
    refine P_l (fun hJ _ _ q => E_istore (ls2 := [some (.ref 3), some (.int p1), some (.int p2), some (.int p3), some (.int p4), some (.int p5), some (.int (if (vIn p1 5 13) = 0 then 0 else (if (vIn p2 3 4) = 0 then 0 else (if (vIn p3 0 3) = 0 then 0 else (if (vIn p4 0 99) = 0 then 0 else (if (vIn p5 1 9) = 0 then 0 else 1))))))]) dX10_rules_55 (by decide) rfl q) ?_
    refine P_v (if (vIn p1 5 13) = 0 then 0 else (if (vIn p2 3 4) = 0 then 0 else (if (vIn p3 0 3) = 0 then 0 else (if (vIn p4 0 99) = 0 then 0 else (if (vIn p5 1 9) = 0 then 0 else 1))))) (fun x => [some (.ref 3), some (.int p1), some (.int p2), some (.int p3), some (.int p4), some (.int p5), some (.int x)]) (fun x1 => ?_)
    refine P_l (fun hJ _ _ q => E_iload dX10_rules_57 rfl q) ?_
    refine P_if (fun hJ _ _ h1 h2 => E_if_ne 70 dX10_rules_59 (by decide) h2 h1) ?_ ?_
    · skip
      exact P_thr (fun kc ks => xt_IllegalArgumentException rfl rfl (by decide) (Nat.le_of_ble_eq_true rfl) dX10_rules_62 dX10_rules_65 dX10_rules_66 dX10_rules_69 kc ks) (by decide) (by decide)
    · skip
      refine P_l (fun hJ _ _ q => E_aload_n dX10_rules_70 rfl (E_callV (as := []) (b := 3) (st := []) (ok_X10_isOn (σ := σ)  hJ ) (by decide) yfX10_isOn mlX10_81 imX10_isOn seX10_isOn clX10 (kd3 hJ.1.1) rfl (Nat.le_of_ble_eq_true rfl) rfl dX10_rules_71 q)) ?_
      refine P_if (fun hJ _ _ h1 h2 => E_if_eq 85 dX10_rules_74 (by decide) h1 h2) ?_ ?_
      · skip
        refine P_l (fun hJ _ _ q => E_aload_n dX10_rules_85 rfl (E_getR (b := 4) clX10 0 (by decide) flX10_12 (Or.inl ⟨_, rfl⟩) dX10_rules_86 (kd3 hJ.1.1) (rf3_0 hJ.1.1) (by decide) (E_iload_n dX10_rules_89 rfl q))) ?_
        refine P_w (fun hJ _ _ q => E_putIN clX5 0 (by decide) flX10_88 (Or.inl rfl) rfl dX10_rules_90 (kd4 hJ.1.1) q) (fun hJ => Sy_wI hJ.1) rfl rfl rfl (fun σ2 hσ2 => ?_)
        refine P_l (fun hJ _ _ q => E_aload_n dX10_rules_93 rfl (E_getR (b := 4) clX10 0 (by decide) flX10_12 (Or.inl ⟨_, rfl⟩) dX10_rules_94 (kd3 hJ.1.1) (rf3_0 hJ.1.1) (by decide) (E_iload_n dX10_rules_97 rfl q))) ?_
        refine P_w (fun hJ _ _ q => E_putIN clX5 1 (by decide) flX10_91 (Or.inl rfl) rfl dX10_rules_98 (kd4 hJ.1.1) q) (fun hJ => Sy_wI hJ.1) rfl rfl rfl (fun σ3 hσ3 => ?_)
        refine P_l (fun hJ _ _ q => E_aload_n dX10_rules_101 rfl (E_getR (b := 4) clX10 0 (by decide) flX10_12 (Or.inl ⟨_, rfl⟩) dX10_rules_102 (kd3 hJ.1.1) (rf3_0 hJ.1.1) (by decide) (E_iload_n dX10_rules_105 rfl q))) ?_
        refine P_w (fun hJ _ _ q => E_putIN clX5 2 (by decide) flX10_94 (Or.inl rfl) rfl dX10_rules_106 (kd4 hJ.1.1) q) (fun hJ => Sy_wI hJ.1) rfl rfl rfl (fun σ4 hσ4 => ?_)
        refine P_l (fun hJ _ _ q => E_aload_n dX10_rules_109 rfl (E_getR (b := 4) clX10 0 (by decide) flX10_12 (Or.inl ⟨_, rfl⟩) dX10_rules_110 (kd3 hJ.1.1) (rf3_0 hJ.1.1) (by decide) (E_iload dX10_rules_113 rfl q))) ?_
        refine P_w (fun hJ _ _ q => E_putIN clX5 3 (by decide) flX10_97 (Or.inl rfl) rfl dX10_rules_115 (kd4 hJ.1.1) q) (fun hJ => Sy_wI hJ.1) rfl rfl rfl (fun σ5 hσ5 => ?_)
        refine P_l (fun hJ _ _ q => E_aload_n dX10_rules_118 rfl (E_getR (b := 4) clX10 0 (by decide) flX10_12 (Or.inl ⟨_, rfl⟩) dX10_rules_119 (kd3 hJ.1.1) (rf3_0 hJ.1.1) (by decide) (E_iload dX10_rules_122 rfl q))) ?_
        refine P_w (fun hJ _ _ q => E_putIN clX5 4 (by decide) flX10_100 (Or.inl rfl) rfl dX10_rules_124 (kd4 hJ.1.1) q) (fun hJ => Sy_wI hJ.1) rfl rfl rfl (fun σ6 hσ6 => ?_)
        refine P_l (fun hJ _ _ q => E_aload_n dX10_rules_127 rfl (E_getR (b := 5) clX10 1 (by decide) flX10_19 (Or.inl ⟨_, rfl⟩) dX10_rules_128 (kd3 hJ.1.1) (rf3_1 hJ.1.1) (by decide) q)) ?_
        refine P_call (t := fun _ => none) (st2 := fun _ => []) (kc2 := 1) (ks2 := 6) (fun hJ => (ok_X1_clear (σ := σ6) (b := 5) (Or.inl rfl))) (fun hJ _ _ _ _ v τ1 hM q => E_callVN (as := []) (b := 5) (st := []) hM (by decide) yfX1_clear mlX10_103 imX1_clear seX1_clear clX1 (kd5 hJ.1.1) rfl (Nat.le_of_ble_eq_true rfl) rfl dX10_rules_131 q) (by decide) (by decide) (fun v7 σ8 => ?_)
        refine P_l (fun hJ _ _ q => E_aload_n dX10_rules_134 rfl (E_getR (b := 35) clX10 5 (by decide) flX10_43 (Or.inl ⟨_, rfl⟩) dX10_rules_135 (kd3 hJ.1.1) (rf3_5 hJ.1.1) (by decide) q)) ?_
        refine P_call (t := fun _ => none) (st2 := fun _ => []) (kc2 := 1) (ks2 := 6) (fun hJ => (ok_X2_clear (σ := σ8)  )) (fun hJ _ _ _ _ v τ1 hM q => E_callVN (as := []) (b := 35) (st := []) hM (by decide) yfX2_clear mlX10_106 imX2_clear seX2_clear clX2 (kd35 hJ.1.1) rfl (Nat.le_of_ble_eq_true rfl) rfl dX10_rules_138 q) (by decide) (by decide) (fun v9 σ10 => ?_)
        refine P_l (fun hJ _ _ q => E_aload_n dX10_rules_141 rfl (E_getR (b := 4) clX10 0 (by decide) flX10_12 (Or.inl ⟨_, rfl⟩) dX10_rules_142 (kd3 hJ.1.1) (rf3_0 hJ.1.1) (by decide) (E_callVN (as := []) (b := 4) (st := []) (ok_X5_pieces (σ := σ10)  hJ ) (by decide) yfX5_pieces mlX10_107 imX5_pieces seX5_pieces clX5 (kd4 hJ.1.1) rfl (Nat.le_of_ble_eq_true rfl) rfl dX10_rules_145 q))) ?_
        exact P_ret (fun _ _ => E_iret rfl dX10_rules_148)
      · skip
        exact P_thr (fun kc ks => xt_IllegalStateException rfl rfl (by decide) (Nat.le_of_ble_eq_true rfl) dX10_rules_77 dX10_rules_80 dX10_rules_81 dX10_rules_84 kc ks) (by decide) (by decide)

def f_X10_player (σ : rS) (p1 : Int32) (p2 : Int32) : Option ((Int32 ⊕ String) × rS) := if (if (vIn p1 0 1) = 0 then true else (if (vIn p2 0 3) = 0 then true else false)) = true then (some ((.inr "java/lang/IllegalArgumentException", σ))) else (if (if (v_X10_isOn σ) = 0 then (if (rI σ 19 0) < 4 then false else true) else true) = true then (some ((.inr "java/lang/IllegalStateException", σ))) else (oB (f_X6_add σ p1 p2) fun v1 σ2 => some ((.inl v1, σ2))))
set_option maxRecDepth 20000 in
set_option maxHeartbeats 2000000 in
theorem ok_X10_player {σ : rS} {p1 : Int32} {p2 : Int32}   : rFn Sy yX10_player mX10_player 6 [.ref 3, .int p1, .int p2] σ 1 6 (tX (fun v => .inl (some (.int v)))) (f_X10_player σ p1 p2) := by
  refine rF_of (ls := [some (.ref 3), some (.int p1), some (.int p2)]) yfX10_player rfl (Nat.le_of_ble_eq_true rfl) (fun o τ => ?_)
  unfold f_X10_player
  refine P_l (fun hJ _ _ q => E_iload_n dX10_player_0 rfl (E_iconst (v := 0) dX10_player_1 (by decide) (E_iconst (v := 1) dX10_player_2 (by decide) (E_callS (as := [.int p1, .int 0, .int 1]) (st := []) (ok_within (σ := σ) (v := p1) (a := 0) (b := 1)) (by decide) yfX10_within mlX10_74 stX10_within rfl (Nat.le_of_ble_eq_true rfl) rfl dX10_player_3 q)))) ?_
  refine P_if (c := (if (vIn p1 0 1) = 0 then true else (if (vIn p2 0 3) = 0 then true else false)) = true) (pc1 := 18) (ls1 := [some (.ref 3), some (.int p1), some (.int p2)]) (st1 := []) (pc2 := 26) (ls2 := [some (.ref 3), some (.int p1), some (.int p2)]) (st2 := []) (fun hJ _ _ hX hY => ?_) ?_ ?_
  · skip
    refine E_if_eq 18 dX10_player_6 (by decide) (fun c_6_0 => ?_) (fun c_6_0 => ?_)
    · skip
      exact hX (by simp only [if_pos c_6_0])
    · skip
      refine E_iload_n dX10_player_9 rfl ?_
      refine E_iconst (v := 0) dX10_player_10 (by decide) ?_
      refine E_iconst (v := 3) dX10_player_11 (by decide) ?_
      refine E_callS (as := [.int p2, .int 0, .int 3]) (st := []) (ok_within (σ := σ) (v := p2) (a := 0) (b := 3)) (by decide) yfX10_within mlX10_74 stX10_within rfl (Nat.le_of_ble_eq_true rfl) rfl dX10_player_12 ?_
      refine E_if_ne 26 dX10_player_15 (by decide) (fun c_15_1 => ?_) (fun c_15_1 => ?_)
      · skip
        exact hY (by simp only [if_neg c_6_0, if_neg c_15_1]; exact Bool.false_ne_true)
      · skip
        exact hX (by simp only [if_neg c_6_0, if_pos c_15_1])
  · skip
    exact P_thr (fun kc ks => xt_IllegalArgumentException rfl rfl (by decide) (Nat.le_of_ble_eq_true rfl) dX10_player_18 dX10_player_21 dX10_player_22 dX10_player_25 kc ks) (by decide) (by decide)
  · skip
    refine P_l (fun hJ _ _ q => E_aload_n dX10_player_26 rfl (E_callV (as := []) (b := 3) (st := []) (ok_X10_isOn (σ := σ)  hJ ) (by decide) yfX10_isOn mlX10_81 imX10_isOn seX10_isOn clX10 (kd3 hJ.1.1) rfl (Nat.le_of_ble_eq_true rfl) rfl dX10_player_27 q)) ?_
    refine P_if (c := (if (v_X10_isOn σ) = 0 then (if (rI σ 19 0) < 4 then false else true) else true) = true) (pc1 := 44) (ls1 := [some (.ref 3), some (.int p1), some (.int p2)]) (st1 := []) (pc2 := 52) (ls2 := [some (.ref 3), some (.int p1), some (.int p2)]) (st2 := []) (fun hJ _ _ hX hY => ?_) ?_ ?_
    · skip
      refine E_if_ne 44 dX10_player_30 (by decide) (fun c_30_0 => ?_) (fun c_30_0 => ?_)
      · skip
        exact hX (by simp only [if_neg c_30_0])
      · skip
        refine E_aload_n dX10_player_33 rfl ?_
        refine E_getR (b := 19) clX10 3 (by decide) flX10_29 (Or.inl ⟨_, rfl⟩) dX10_player_34 (kd3 hJ.1.1) (rf3_3 hJ.1.1) (by decide) ?_
        refine E_getIN clX6 0 (by decide) flX10_111 (Or.inl rfl) dX10_player_37 (kd19 hJ.1.1) ?_
        refine E_iconst (v := 4) dX10_player_40 (by decide) ?_
        refine E_icmp_lt 52 dX10_player_41 (by decide) (fun c_41_1 => ?_) (fun c_41_1 => ?_)
        · skip
          exact hY (by simp only [if_pos c_30_0, if_pos c_41_1]; exact Bool.false_ne_true)
        · skip
          exact hX (by simp only [if_pos c_30_0, if_neg c_41_1])
    · skip
      exact P_thr (fun kc ks => xt_IllegalStateException rfl rfl (by decide) (Nat.le_of_ble_eq_true rfl) dX10_player_44 dX10_player_47 dX10_player_48 dX10_player_51 kc ks) (by decide) (by decide)
    · skip
      refine P_l (fun hJ _ _ q => E_aload_n dX10_player_52 rfl (E_getR (b := 19) clX10 3 (by decide) flX10_29 (Or.inl ⟨_, rfl⟩) dX10_player_53 (kd3 hJ.1.1) (rf3_3 hJ.1.1) (by decide) (E_iload_n dX10_player_56 rfl (E_iload_n dX10_player_57 rfl q)))) ?_
      refine P_call (t := fun v => some (.int v)) (st2 := fun v => .int v :: []) (kc2 := 1) (ks2 := 6) (fun hJ => (ok_X6_add (σ := σ) (p1 := p1) (p2 := p2) )) (fun hJ _ _ _ _ v τ1 hM q => E_callVN (as := [.int p1, .int p2]) (b := 19) (st := []) hM (by decide) yfX6_add mlX10_114 imX6_add seX6_add clX6 (kd19 hJ.1.1) rfl (Nat.le_of_ble_eq_true rfl) rfl dX10_player_58 q) (by decide) (by decide) (fun v1 σ2 => ?_)
      exact P_ret (fun _ _ => E_iret rfl dX10_player_61)

def f_X10_deal (σ : rS) (p1 : Int32) (p2 : Int32) (p3 : Int32) : Option ((Int32 ⊕ String) × rS) := if (if (vIn p1 0 65535) = 0 then true else (if (vIn p2 1 14) = 0 then true else (if (vIn p3 1 9999) = 0 then true else false))) = true then (some ((.inr "java/lang/IllegalArgumentException", σ))) else (if (if (v_X10_isOn σ) = 0 then (if (rI σ 19 0) < 2 then true else (if ((rI σ 19 0) * p2) ≤ (v_X5_pieces σ) then false else true)) else true) = true then (some ((.inr "java/lang/IllegalStateException", σ))) else (oB (f_X6_startRound σ p3) fun _ σ2 => oB (f_X2_startRound σ2 p1 p2 (rI σ2 19 0)) fun _ σ4 => oB (f_X1_dealOut σ4 5 p1 p2 (rI σ4 19 0)) fun _ σ6 => oLet (wI σ6 3 9 0) fun σ7 => oLet (wI σ7 3 8 0) fun σ8 => some ((.inl (rI σ8 5 7), σ8))))
set_option maxRecDepth 20000 in
set_option maxHeartbeats 2000000 in
theorem ok_X10_deal {σ : rS} {p1 : Int32} {p2 : Int32} {p3 : Int32}   : rFn Sy yX10_deal mX10_deal 6 [.ref 3, .int p1, .int p2, .int p3] σ 1 6 (tX (fun v => .inl (some (.int v)))) (f_X10_deal σ p1 p2 p3) := by
  refine rF_of (ls := [some (.ref 3), some (.int p1), some (.int p2), some (.int p3)]) yfX10_deal rfl (Nat.le_of_ble_eq_true rfl) (fun o τ => ?_)
  unfold f_X10_deal
  refine P_l (fun hJ _ _ q => E_iload_n dX10_deal_0 rfl (E_iconst (v := 0) dX10_deal_1 (by decide) (E_ldc dX10_deal_2 kcX10_118 (E_callS (as := [.int p1, .int 0, .int 65535]) (st := []) (ok_within (σ := σ) (v := p1) (a := 0) (b := 65535)) (by decide) yfX10_within mlX10_74 stX10_within rfl (Nat.le_of_ble_eq_true rfl) rfl dX10_deal_4 q)))) ?_
  refine P_if (c := (if (vIn p1 0 65535) = 0 then true else (if (vIn p2 1 14) = 0 then true else (if (vIn p3 1 9999) = 0 then true else false))) = true) (pc1 := 31) (ls1 := [some (.ref 3), some (.int p1), some (.int p2), some (.int p3)]) (st1 := []) (pc2 := 39) (ls2 := [some (.ref 3), some (.int p1), some (.int p2), some (.int p3)]) (st2 := []) (fun hJ _ _ hX hY => ?_) ?_ ?_
  · skip
    refine E_if_eq 31 dX10_deal_7 (by decide) (fun c_7_0 => ?_) (fun c_7_0 => ?_)
    · skip
      exact hX (by simp only [if_pos c_7_0])
    · skip
      refine E_iload_n dX10_deal_10 rfl ?_
      refine E_iconst (v := 1) dX10_deal_11 (by decide) ?_
      refine E_bipush (v := 14) dX10_deal_12 (by decide) ?_
      refine E_callS (as := [.int p2, .int 1, .int 14]) (st := []) (ok_within (σ := σ) (v := p2) (a := 1) (b := 14)) (by decide) yfX10_within mlX10_74 stX10_within rfl (Nat.le_of_ble_eq_true rfl) rfl dX10_deal_14 ?_
      refine E_if_eq 31 dX10_deal_17 (by decide) (fun c_17_1 => ?_) (fun c_17_1 => ?_)
      · skip
        exact hX (by simp only [if_neg c_7_0, if_pos c_17_1])
      · skip
        refine E_iload_n dX10_deal_20 rfl ?_
        refine E_iconst (v := 1) dX10_deal_21 (by decide) ?_
        refine E_sipush (v := 9999) dX10_deal_22 (by decide) ?_
        refine E_callS (as := [.int p3, .int 1, .int 9999]) (st := []) (ok_within (σ := σ) (v := p3) (a := 1) (b := 9999)) (by decide) yfX10_within mlX10_74 stX10_within rfl (Nat.le_of_ble_eq_true rfl) rfl dX10_deal_25 ?_
        refine E_if_ne 39 dX10_deal_28 (by decide) (fun c_28_2 => ?_) (fun c_28_2 => ?_)
        · skip
          exact hY (by simp only [if_neg c_7_0, if_neg c_17_1, if_neg c_28_2]; exact Bool.false_ne_true)
        · skip
          exact hX (by simp only [if_neg c_7_0, if_neg c_17_1, if_pos c_28_2])
  · skip
    exact P_thr (fun kc ks => xt_IllegalArgumentException rfl rfl (by decide) (Nat.le_of_ble_eq_true rfl) dX10_deal_31 dX10_deal_34 dX10_deal_35 dX10_deal_38 kc ks) (by decide) (by decide)
  · skip
    refine P_l (fun hJ _ _ q => E_aload_n dX10_deal_39 rfl (E_callV (as := []) (b := 3) (st := []) (ok_X10_isOn (σ := σ)  hJ ) (by decide) yfX10_isOn mlX10_81 imX10_isOn seX10_isOn clX10 (kd3 hJ.1.1) rfl (Nat.le_of_ble_eq_true rfl) rfl dX10_deal_40 q)) ?_
    refine P_if (c := (if (v_X10_isOn σ) = 0 then (if (rI σ 19 0) < 2 then true else (if ((rI σ 19 0) * p2) ≤ (v_X5_pieces σ) then false else true)) else true) = true) (pc1 := 76) (ls1 := [some (.ref 3), some (.int p1), some (.int p2), some (.int p3)]) (st1 := []) (pc2 := 84) (ls2 := [some (.ref 3), some (.int p1), some (.int p2), some (.int p3)]) (st2 := []) (fun hJ _ _ hX hY => ?_) ?_ ?_
    · skip
      refine E_if_ne 76 dX10_deal_43 (by decide) (fun c_43_0 => ?_) (fun c_43_0 => ?_)
      · skip
        exact hX (by simp only [if_neg c_43_0])
      · skip
        refine E_aload_n dX10_deal_46 rfl ?_
        refine E_getR (b := 19) clX10 3 (by decide) flX10_29 (Or.inl ⟨_, rfl⟩) dX10_deal_47 (kd3 hJ.1.1) (rf3_3 hJ.1.1) (by decide) ?_
        refine E_getIN clX6 0 (by decide) flX10_111 (Or.inl rfl) dX10_deal_50 (kd19 hJ.1.1) ?_
        refine E_iconst (v := 2) dX10_deal_53 (by decide) ?_
        refine E_icmp_lt 76 dX10_deal_54 (by decide) (fun c_54_1 => ?_) (fun c_54_1 => ?_)
        · skip
          exact hX (by simp only [if_pos c_43_0, if_pos c_54_1])
        · skip
          refine E_aload_n dX10_deal_57 rfl ?_
          refine E_getR (b := 4) clX10 0 (by decide) flX10_12 (Or.inl ⟨_, rfl⟩) dX10_deal_58 (kd3 hJ.1.1) (rf3_0 hJ.1.1) (by decide) ?_
          refine E_callVN (as := []) (b := 4) (st := []) (ok_X5_pieces (σ := σ)  hJ ) (by decide) yfX5_pieces mlX10_107 imX5_pieces seX5_pieces clX5 (kd4 hJ.1.1) rfl (Nat.le_of_ble_eq_true rfl) rfl dX10_deal_61 ?_
          refine E_aload_n dX10_deal_64 rfl ?_
          refine E_getR (b := 19) clX10 3 (by decide) flX10_29 (Or.inl ⟨_, rfl⟩) dX10_deal_65 (kd3 hJ.1.1) (rf3_3 hJ.1.1) (by decide) ?_
          refine E_getIN clX6 0 (by decide) flX10_111 (Or.inl rfl) dX10_deal_68 (kd19 hJ.1.1) ?_
          refine E_iload_n dX10_deal_71 rfl ?_
          refine E_imul dX10_deal_72 ?_
          refine E_icmp_ge 84 dX10_deal_73 (by decide) (fun c_73_2 => ?_) (fun c_73_2 => ?_)
          · skip
            exact hY (by simp only [if_pos c_43_0, if_neg c_54_1, if_pos c_73_2]; exact Bool.false_ne_true)
          · skip
            exact hX (by simp only [if_pos c_43_0, if_neg c_54_1, if_neg c_73_2])
    · skip
      exact P_thr (fun kc ks => xt_IllegalStateException rfl rfl (by decide) (Nat.le_of_ble_eq_true rfl) dX10_deal_76 dX10_deal_79 dX10_deal_80 dX10_deal_83 kc ks) (by decide) (by decide)
    · skip
      refine P_l (fun hJ _ _ q => E_aload_n dX10_deal_84 rfl (E_getR (b := 19) clX10 3 (by decide) flX10_29 (Or.inl ⟨_, rfl⟩) dX10_deal_85 (kd3 hJ.1.1) (rf3_3 hJ.1.1) (by decide) (E_iload_n dX10_deal_88 rfl q))) ?_
      refine P_call (t := fun _ => none) (st2 := fun _ => []) (kc2 := 1) (ks2 := 6) (fun hJ => (ok_X6_startRound (σ := σ) (p1 := p3) )) (fun hJ _ _ _ _ v τ1 hM q => E_callVN (as := [.int p3]) (b := 19) (st := []) hM (by decide) yfX6_startRound mlX10_119 imX6_startRound seX6_startRound clX6 (kd19 hJ.1.1) rfl (Nat.le_of_ble_eq_true rfl) rfl dX10_deal_89 q) (by decide) (by decide) (fun v1 σ2 => ?_)
      refine P_l (fun hJ _ _ q => E_aload_n dX10_deal_92 rfl (E_getR (b := 35) clX10 5 (by decide) flX10_43 (Or.inl ⟨_, rfl⟩) dX10_deal_93 (kd3 hJ.1.1) (rf3_5 hJ.1.1) (by decide) (E_iload_n dX10_deal_96 rfl (E_iload_n dX10_deal_97 rfl (E_aload_n dX10_deal_98 rfl (E_getR (b := 19) clX10 3 (by decide) flX10_29 (Or.inl ⟨_, rfl⟩) dX10_deal_99 (kd3 hJ.1.1) (rf3_3 hJ.1.1) (by decide) (E_getIN clX6 0 (by decide) flX10_111 (Or.inl rfl) dX10_deal_102 (kd19 hJ.1.1) q))))))) ?_
      refine P_call (t := fun _ => none) (st2 := fun _ => []) (kc2 := 1) (ks2 := 6) (fun hJ => (ok_X2_startRound (σ := σ2) (p1 := p1) (p2 := p2) (p3 := rI σ2 19 0) )) (fun hJ _ _ _ _ v τ1 hM q => E_callVN (as := [.int p1, .int p2, .int (rI σ2 19 0)]) (b := 35) (st := []) hM (by decide) yfX2_startRound mlX10_123 imX2_startRound seX2_startRound clX2 (kd35 hJ.1.1) rfl (Nat.le_of_ble_eq_true rfl) rfl dX10_deal_105 q) (by decide) (by decide) (fun v3 σ4 => ?_)
      refine P_l (fun hJ _ _ q => E_aload_n dX10_deal_108 rfl (E_getR (b := 5) clX10 1 (by decide) flX10_19 (Or.inl ⟨_, rfl⟩) dX10_deal_109 (kd3 hJ.1.1) (rf3_1 hJ.1.1) (by decide) (E_aload_n dX10_deal_112 rfl (E_getR (b := 4) clX10 0 (by decide) flX10_12 (Or.inl ⟨_, rfl⟩) dX10_deal_113 (kd3 hJ.1.1) (rf3_0 hJ.1.1) (by decide) (E_iload_n dX10_deal_116 rfl (E_iload_n dX10_deal_117 rfl (E_aload_n dX10_deal_118 rfl (E_getR (b := 19) clX10 3 (by decide) flX10_29 (Or.inl ⟨_, rfl⟩) dX10_deal_119 (kd3 hJ.1.1) (rf3_3 hJ.1.1) (by decide) (E_getIN clX6 0 (by decide) flX10_111 (Or.inl rfl) dX10_deal_122 (kd19 hJ.1.1) q))))))))) ?_
      refine P_call (t := fun _ => none) (st2 := fun _ => []) (kc2 := 1) (ks2 := 6) (fun hJ => (ok_X1_dealOut (σ := σ4) (b := 5) (from_ := p1) (each_ := p2) (players := rI σ4 19 0) (Or.inl rfl))) (fun hJ _ _ _ _ v τ1 hM q => E_callVN (as := [.ref 4, .int p1, .int p2, .int (rI σ4 19 0)]) (b := 5) (st := []) hM (by decide) yfX1_dealOut mlX10_126 imX1_dealOut seX1_dealOut clX1 (kd5 hJ.1.1) rfl (Nat.le_of_ble_eq_true rfl) rfl dX10_deal_125 q) (by decide) (by decide) (fun v5 σ6 => ?_)
      refine P_l (fun hJ _ _ q => E_aload_n dX10_deal_128 rfl (E_iconst (v := 0) dX10_deal_129 (by decide) q)) ?_
      refine P_w (fun hJ _ _ q => E_putI clX10 9 (by decide) flX10_130 (Or.inl rfl) rfl dX10_deal_130 (kd3 hJ.1.1) q) (fun hJ => Sy_wI hJ.1) rfl rfl rfl (fun σ7 hσ7 => ?_)
      refine P_l (fun hJ _ _ q => E_aload_n dX10_deal_133 rfl (E_iconst (v := 0) dX10_deal_134 (by decide) q)) ?_
      refine P_w (fun hJ _ _ q => E_putI clX10 8 (by decide) flX10_61 (Or.inl rfl) rfl dX10_deal_135 (kd3 hJ.1.1) q) (fun hJ => Sy_wI hJ.1) rfl rfl rfl (fun σ8 hσ8 => ?_)
      refine P_l (fun hJ _ _ q => E_aload_n dX10_deal_138 rfl (E_getR (b := 5) clX10 1 (by decide) flX10_19 (Or.inl ⟨_, rfl⟩) dX10_deal_139 (kd3 hJ.1.1) (rf3_1 hJ.1.1) (by decide) (E_getIN clX1 7 (by decide) flX10_133 (Or.inl rfl) dX10_deal_142 (kd5 hJ.1.1) q))) ?_
      exact P_ret (fun _ _ => E_iret rfl dX10_deal_145)

def f_X10_needKind (σ : rS) (p1 : Int32) : Option ((Unit ⊕ String) × rS) := if (v_X5_isKind σ p1) = 0 then (some ((.inr "java/lang/IllegalArgumentException", σ))) else (some ((.inl (()), σ)))
set_option maxRecDepth 20000 in
set_option maxHeartbeats 2000000 in
theorem ok_X10_needKind {σ : rS} {p1 : Int32}   : rFn Sy yX10_needKind mX10_needKind 6 [.ref 3, .int p1] σ 1 6 (tX (fun _ => .inl none)) (f_X10_needKind σ p1) := by
  refine rF_of (ls := [some (.ref 3), some (.int p1)]) yfX10_needKind rfl (Nat.le_of_ble_eq_true rfl) (fun o τ => ?_)
  unfold f_X10_needKind
  refine P_l (fun hJ _ _ q => E_aload_n dX10_needKind_0 rfl (E_getR (b := 4) clX10 0 (by decide) flX10_12 (Or.inl ⟨_, rfl⟩) dX10_needKind_1 (kd3 hJ.1.1) (rf3_0 hJ.1.1) (by decide) (E_iload_n dX10_needKind_4 rfl (E_callVN (as := [.int p1]) (b := 4) (st := []) (ok_X5_isKind (σ := σ) (k := p1) hJ ) (by decide) yfX5_isKind mlX10_398 imX5_isKind seX5_isKind clX5 (kd4 hJ.1.1) rfl (Nat.le_of_ble_eq_true rfl) rfl dX10_needKind_5 q)))) ?_
  refine P_if (fun hJ _ _ h1 h2 => E_if_ne 19 dX10_needKind_8 (by decide) h2 h1) ?_ ?_
  · skip
    exact P_thr (fun kc ks => xt_IllegalArgumentException rfl rfl (by decide) (Nat.le_of_ble_eq_true rfl) dX10_needKind_11 dX10_needKind_14 dX10_needKind_15 dX10_needKind_18 kc ks) (by decide) (by decide)
  · skip
    exact P_ret (fun _ _ => E_vret rfl dX10_needKind_19)

def v_X10_mayLay (σ : rS) (p1 : Int32) : Int32 := if (v_X10_isOn σ) = 0 then 0 else (if (v_X1_rackOf σ 5 (rI σ 3 8) p1) ≤ 0 then 0 else (if 2 ≤ (v_X1_lies σ 5 p1) then 0 else 1))
set_option maxRecDepth 20000 in
theorem ok_X10_mayLay {σ : rS} {p1 : Int32}  (hJ : J Sy σ)  : rMet yX10_mayLay mX10_mayLay 2 [.ref 3, .int p1] σ 0 0 (some (.int (v_X10_mayLay σ p1))) σ := by
  refine rMet_of (ls := [some (.ref 3), some (.int p1)]) yfX10_mayLay rfl (Nat.le_of_ble_eq_true rfl) ?_
  refine E_aload_n dX10_mayLay_0 rfl ?_
  refine E_callV (as := []) (b := 3) (st := []) (ok_X10_isOn (σ := σ)  hJ ) (by decide) yfX10_isOn mlX10_81 imX10_isOn seX10_isOn clX10 (kd3 hJ.1.1) rfl (Nat.le_of_ble_eq_true rfl) rfl dX10_mayLay_1 ?_
  refine E_if_eq 38 dX10_mayLay_4 (by decide) (fun c_4_0 => ?_) (fun c_4_0 => ?_)
  · skip
    refine E_iconst (v := 0) dX10_mayLay_38 (by decide) ?_
    exact E_zretE rfl dX10_mayLay_39 (by decide) (by unfold v_X10_mayLay; simp only [if_pos c_4_0]) rfl
  · skip
    refine E_aload_n dX10_mayLay_7 rfl ?_
    refine E_getR (b := 5) clX10 1 (by decide) flX10_19 (Or.inl ⟨_, rfl⟩) dX10_mayLay_8 (kd3 hJ.1.1) (rf3_1 hJ.1.1) (by decide) ?_
    refine E_aload_n dX10_mayLay_11 rfl ?_
    refine E_getI clX10 8 (by decide) flX10_61 (Or.inl rfl) dX10_mayLay_12 (kd3 hJ.1.1) ?_
    refine E_iload_n dX10_mayLay_15 rfl ?_
    refine E_callVN (as := [.int (rI σ 3 8), .int p1]) (b := 5) (st := []) (ok_X1_rackOf (σ := σ) (b := 5) (p := rI σ 3 8) (k := p1) hJ (Or.inl rfl)) (by decide) yfX1_rackOf mlX10_333 imX1_rackOf seX1_rackOf clX1 (kd5 hJ.1.1) rfl (Nat.le_of_ble_eq_true rfl) rfl dX10_mayLay_16 ?_
    refine E_if_le 38 dX10_mayLay_19 (by decide) (fun c_19_1 => ?_) (fun c_19_1 => ?_)
    · skip
      refine E_iconst (v := 0) dX10_mayLay_38 (by decide) ?_
      exact E_zretE rfl dX10_mayLay_39 (by decide) (by unfold v_X10_mayLay; simp only [if_neg c_4_0, if_pos c_19_1]) rfl
    · skip
      refine E_aload_n dX10_mayLay_22 rfl ?_
      refine E_getR (b := 5) clX10 1 (by decide) flX10_19 (Or.inl ⟨_, rfl⟩) dX10_mayLay_23 (kd3 hJ.1.1) (rf3_1 hJ.1.1) (by decide) ?_
      refine E_iload_n dX10_mayLay_26 rfl ?_
      refine E_callVN (as := [.int p1]) (b := 5) (st := []) (ok_X1_lies (σ := σ) (b := 5) (k := p1) hJ (Or.inl rfl)) (by decide) yfX1_lies mlX10_146 imX1_lies seX1_lies clX1 (kd5 hJ.1.1) rfl (Nat.le_of_ble_eq_true rfl) rfl dX10_mayLay_27 ?_
      refine E_iconst (v := 2) dX10_mayLay_30 (by decide) ?_
      refine E_icmp_ge 38 dX10_mayLay_31 (by decide) (fun c_31_2 => ?_) (fun c_31_2 => ?_)
      · skip
        refine E_iconst (v := 0) dX10_mayLay_38 (by decide) ?_
        exact E_zretE rfl dX10_mayLay_39 (by decide) (by unfold v_X10_mayLay; simp only [if_neg c_4_0, if_neg c_19_1, if_pos c_31_2]) rfl
      · skip
        refine E_iconst (v := 1) dX10_mayLay_34 (by decide) ?_
        refine E_goto 39 dX10_mayLay_35 (by decide) ?_
        exact E_zretE rfl dX10_mayLay_39 (by decide) (by unfold v_X10_mayLay; simp only [if_neg c_4_0, if_neg c_19_1, if_neg c_31_2]) rfl
theorem z_X10_mayLay (σ : rS) (p1 : Int32) : v_X10_mayLay σ p1 = 0 ∨ v_X10_mayLay σ p1 = 1 := by
  unfold v_X10_mayLay
  (repeat' split) <;> first | decide | exact vIn_01 _ _ _ | exact vBit_01 _ _ | exact z_X10_isOn _

def f_X10_layTile (σ : rS) (p1 : Int32) : Option (Unit × rS) := oB (f_X1_layTile σ 5 (rI σ 3 8) p1) fun _ σ2 => oB (f_X2_add σ2 1 (rI σ2 3 8) p1 0) fun _ σ4 => some (((), σ4))
set_option maxRecDepth 20000 in
set_option maxHeartbeats 2000000 in
theorem ok_X10_layTile {σ : rS} {p1 : Int32}   : rFn Sy yX10_layTile mX10_layTile 3 [.ref 3, .int p1] σ 0 0 (fun _ => .inl none) (f_X10_layTile σ p1) := by
  refine rF_of (ls := [some (.ref 3), some (.int p1)]) yfX10_layTile rfl (Nat.le_of_ble_eq_true rfl) (fun o τ => ?_)
  unfold f_X10_layTile
  refine P_l (fun hJ _ _ q => E_aload_n dX10_layTile_0 rfl (E_getR (b := 5) clX10 1 (by decide) flX10_19 (Or.inl ⟨_, rfl⟩) dX10_layTile_1 (kd3 hJ.1.1) (rf3_1 hJ.1.1) (by decide) (E_aload_n dX10_layTile_4 rfl (E_getI clX10 8 (by decide) flX10_61 (Or.inl rfl) dX10_layTile_5 (kd3 hJ.1.1) (E_iload_n dX10_layTile_8 rfl q))))) ?_
  refine P_call (t := fun _ => none) (st2 := fun _ => []) (kc2 := 0) (ks2 := 0) (fun hJ => (ok_X1_layTile (σ := σ) (b := 5) (p := rI σ 3 8) (k := p1) (Or.inl rfl))) (fun hJ _ _ _ _ v τ1 hM q => E_callVN (as := [.int (rI σ 3 8), .int p1]) (b := 5) (st := []) hM (by decide) yfX1_layTile mlX10_410 imX1_layTile seX1_layTile clX1 (kd5 hJ.1.1) rfl (Nat.le_of_ble_eq_true rfl) rfl dX10_layTile_9 q) (by decide) (by decide) (fun v1 σ2 => ?_)
  refine P_l (fun hJ _ _ q => E_aload_n dX10_layTile_12 rfl (E_getR (b := 35) clX10 5 (by decide) flX10_43 (Or.inl ⟨_, rfl⟩) dX10_layTile_13 (kd3 hJ.1.1) (rf3_5 hJ.1.1) (by decide) (E_iconst (v := 1) dX10_layTile_16 (by decide) (E_aload_n dX10_layTile_17 rfl (E_getI clX10 8 (by decide) flX10_61 (Or.inl rfl) dX10_layTile_18 (kd3 hJ.1.1) (E_iload_n dX10_layTile_21 rfl (E_iconst (v := 0) dX10_layTile_22 (by decide) q))))))) ?_
  refine P_call (t := fun _ => none) (st2 := fun _ => []) (kc2 := 0) (ks2 := 0) (fun hJ => (ok_X2_add (σ := σ2) (p1 := 1) (p2 := rI σ2 3 8) (p3 := p1) (p4 := 0) )) (fun hJ _ _ _ _ v τ1 hM q => E_callVN (as := [.int 1, .int (rI σ2 3 8), .int p1, .int 0]) (b := 35) (st := []) hM (by decide) yfX2_add mlX10_413 imX2_add seX2_add clX2 (kd35 hJ.1.1) rfl (Nat.le_of_ble_eq_true rfl) rfl dX10_layTile_23 q) (by decide) (by decide) (fun v3 σ4 => ?_)
  exact P_ret (fun _ _ => E_vret rfl dX10_layTile_26)

def f_X10_lay (σ : rS) (p1 : Int32) : Option ((Int32 ⊕ String) × rS) := oBx (f_X10_needKind σ p1) fun _ σ2 => if (v_X10_mayLay σ2 p1) = 0 then (some ((.inr "java/lang/IllegalStateException", σ2))) else (oB (f_X10_layTile σ2 p1) fun _ σ4 => some ((.inl (v_X1_lies σ4 5 p1), σ4)))
set_option maxRecDepth 20000 in
set_option maxHeartbeats 2000000 in
theorem ok_X10_lay {σ : rS} {p1 : Int32}   : rFn Sy yX10_lay mX10_lay 7 [.ref 3, .int p1] σ 2 12 (tX (fun v => .inl (some (.int v)))) (f_X10_lay σ p1) := by
  refine rF_of (ls := [some (.ref 3), some (.int p1)]) yfX10_lay rfl (Nat.le_of_ble_eq_true rfl) (fun o τ => ?_)
  unfold f_X10_lay
  refine P_l (fun hJ _ _ q => E_aload_n dX10_lay_0 rfl (E_iload_n dX10_lay_1 rfl q)) ?_
  refine P_callx (t2 := fun _ => none) (st2 := fun _ => []) (kc2 := 1) (ks2 := 6) (fun hJ => (ok_X10_needKind (σ := σ) (p1 := p1) )) (fun hJ _ _ _ _ v τ1 hM q => E_callV (as := [.int p1]) (b := 3) (st := []) hM (by decide) yfX10_needKind mlX10_136 imX10_needKind seX10_needKind clX10 (kd3 hJ.1.1) rfl (Nat.le_of_ble_eq_true rfl) rfl dX10_lay_2 q) (fun hJ _ _ _ _ E τ1 hM => E_callVx (as := [.int p1]) (b := 3) (st := []) hM (by decide) yfX10_needKind mlX10_136 imX10_needKind seX10_needKind clX10 (kd3 hJ.1.1) rfl (Nat.le_of_ble_eq_true rfl) rfl dX10_lay_2 rfl) (by decide) (by decide) (fun v1 σ2 => ?_)
  refine P_l (fun hJ _ _ q => E_aload_n dX10_lay_5 rfl (E_iload_n dX10_lay_6 rfl (E_callV (as := [.int p1]) (b := 3) (st := []) (ok_X10_mayLay (σ := σ2) (p1 := p1) hJ ) (by decide) yfX10_mayLay mlX10_139 imX10_mayLay seX10_mayLay clX10 (kd3 hJ.1.1) rfl (Nat.le_of_ble_eq_true rfl) rfl dX10_lay_7 q))) ?_
  refine P_if (fun hJ _ _ h1 h2 => E_if_ne 21 dX10_lay_10 (by decide) h2 h1) ?_ ?_
  · skip
    exact P_thr (fun kc ks => xt_IllegalStateException rfl rfl (by decide) (Nat.le_of_ble_eq_true rfl) dX10_lay_13 dX10_lay_16 dX10_lay_17 dX10_lay_20 kc ks) (by decide) (by decide)
  · skip
    refine P_l (fun hJ _ _ q => E_aload_n dX10_lay_21 rfl (E_iload_n dX10_lay_22 rfl q)) ?_
    refine P_call (t := fun _ => none) (st2 := fun _ => []) (kc2 := 1) (ks2 := 6) (fun hJ => (ok_X10_layTile (σ := σ2) (p1 := p1) )) (fun hJ _ _ _ _ v τ1 hM q => E_callV (as := [.int p1]) (b := 3) (st := []) hM (by decide) yfX10_layTile mlX10_143 imX10_layTile seX10_layTile clX10 (kd3 hJ.1.1) rfl (Nat.le_of_ble_eq_true rfl) rfl dX10_lay_23 q) (by decide) (by decide) (fun v3 σ4 => ?_)
    refine P_l (fun hJ _ _ q => E_aload_n dX10_lay_26 rfl (E_getR (b := 5) clX10 1 (by decide) flX10_19 (Or.inl ⟨_, rfl⟩) dX10_lay_27 (kd3 hJ.1.1) (rf3_1 hJ.1.1) (by decide) (E_iload_n dX10_lay_30 rfl (E_callVN (as := [.int p1]) (b := 5) (st := []) (ok_X1_lies (σ := σ4) (b := 5) (k := p1) hJ (Or.inl rfl)) (by decide) yfX1_lies mlX10_146 imX1_lies seX1_lies clX1 (kd5 hJ.1.1) rfl (Nat.le_of_ble_eq_true rfl) rfl dX10_lay_31 q)))) ?_
    exact P_ret (fun _ _ => E_iret rfl dX10_lay_34)

def v_X10_mayLayJoker (σ : rS) (p1 : Int32) : Int32 := if (v_X10_isOn σ) = 0 then 0 else (if 0 < (rI σ 5 10) then (if 2 ≤ (v_X1_lies σ 5 p1) then 0 else 1) else (if (v_X1_rackOf σ 5 (rI σ 3 8) 52) ≤ 0 then 0 else (if 2 ≤ (v_X1_lies σ 5 p1) then 0 else 1)))
set_option maxRecDepth 20000 in
theorem ok_X10_mayLayJoker {σ : rS} {p1 : Int32}  (hJ : J Sy σ)  : rMet yX10_mayLayJoker mX10_mayLayJoker 2 [.ref 3, .int p1] σ 0 0 (some (.int (v_X10_mayLayJoker σ p1))) σ := by
  refine rMet_of (ls := [some (.ref 3), some (.int p1)]) yfX10_mayLayJoker rfl (Nat.le_of_ble_eq_true rfl) ?_
  refine E_aload_n dX10_mayLayJoker_0 rfl ?_
  refine E_callV (as := []) (b := 3) (st := []) (ok_X10_isOn (σ := σ)  hJ ) (by decide) yfX10_isOn mlX10_81 imX10_isOn seX10_isOn clX10 (kd3 hJ.1.1) rfl (Nat.le_of_ble_eq_true rfl) rfl dX10_mayLayJoker_1 ?_
  refine E_if_eq 49 dX10_mayLayJoker_4 (by decide) (fun c_4_0 => ?_) (fun c_4_0 => ?_)
  · skip
    refine E_iconst (v := 0) dX10_mayLayJoker_49 (by decide) ?_
    exact E_zretE rfl dX10_mayLayJoker_50 (by decide) (by unfold v_X10_mayLayJoker; simp only [if_pos c_4_0]) rfl
  · skip
    refine E_aload_n dX10_mayLayJoker_7 rfl ?_
    refine E_getR (b := 5) clX10 1 (by decide) flX10_19 (Or.inl ⟨_, rfl⟩) dX10_mayLayJoker_8 (kd3 hJ.1.1) (rf3_1 hJ.1.1) (by decide) ?_
    refine E_getIN clX1 10 (by decide) flX10_165 (Or.inl rfl) dX10_mayLayJoker_11 (kd5 hJ.1.1) ?_
    refine E_if_gt 33 dX10_mayLayJoker_14 (by decide) (fun c_14_1 => ?_) (fun c_14_1 => ?_)
    · skip
      refine E_aload_n dX10_mayLayJoker_33 rfl ?_
      refine E_getR (b := 5) clX10 1 (by decide) flX10_19 (Or.inl ⟨_, rfl⟩) dX10_mayLayJoker_34 (kd3 hJ.1.1) (rf3_1 hJ.1.1) (by decide) ?_
      refine E_iload_n dX10_mayLayJoker_37 rfl ?_
      refine E_callVN (as := [.int p1]) (b := 5) (st := []) (ok_X1_lies (σ := σ) (b := 5) (k := p1) hJ (Or.inl rfl)) (by decide) yfX1_lies mlX10_146 imX1_lies seX1_lies clX1 (kd5 hJ.1.1) rfl (Nat.le_of_ble_eq_true rfl) rfl dX10_mayLayJoker_38 ?_
      refine E_iconst (v := 2) dX10_mayLayJoker_41 (by decide) ?_
      refine E_icmp_ge 49 dX10_mayLayJoker_42 (by decide) (fun c_42_2 => ?_) (fun c_42_2 => ?_)
      · skip
        refine E_iconst (v := 0) dX10_mayLayJoker_49 (by decide) ?_
        exact E_zretE rfl dX10_mayLayJoker_50 (by decide) (by unfold v_X10_mayLayJoker; simp only [if_neg c_4_0, if_pos c_14_1, if_pos c_42_2]) rfl
      · skip
        refine E_iconst (v := 1) dX10_mayLayJoker_45 (by decide) ?_
        refine E_goto 50 dX10_mayLayJoker_46 (by decide) ?_
        exact E_zretE rfl dX10_mayLayJoker_50 (by decide) (by unfold v_X10_mayLayJoker; simp only [if_neg c_4_0, if_pos c_14_1, if_neg c_42_2]) rfl
    · skip
      refine E_aload_n dX10_mayLayJoker_17 rfl ?_
      refine E_getR (b := 5) clX10 1 (by decide) flX10_19 (Or.inl ⟨_, rfl⟩) dX10_mayLayJoker_18 (kd3 hJ.1.1) (rf3_1 hJ.1.1) (by decide) ?_
      refine E_aload_n dX10_mayLayJoker_21 rfl ?_
      refine E_getI clX10 8 (by decide) flX10_61 (Or.inl rfl) dX10_mayLayJoker_22 (kd3 hJ.1.1) ?_
      refine E_bipush (v := 52) dX10_mayLayJoker_25 (by decide) ?_
      refine E_callVN (as := [.int (rI σ 3 8), .int 52]) (b := 5) (st := []) (ok_X1_rackOf (σ := σ) (b := 5) (p := rI σ 3 8) (k := 52) hJ (Or.inl rfl)) (by decide) yfX1_rackOf mlX10_333 imX1_rackOf seX1_rackOf clX1 (kd5 hJ.1.1) rfl (Nat.le_of_ble_eq_true rfl) rfl dX10_mayLayJoker_27 ?_
      refine E_if_le 49 dX10_mayLayJoker_30 (by decide) (fun c_30_2 => ?_) (fun c_30_2 => ?_)
      · skip
        refine E_iconst (v := 0) dX10_mayLayJoker_49 (by decide) ?_
        exact E_zretE rfl dX10_mayLayJoker_50 (by decide) (by unfold v_X10_mayLayJoker; simp only [if_neg c_4_0, if_neg c_14_1, if_pos c_30_2]) rfl
      · skip
        refine E_aload_n dX10_mayLayJoker_33 rfl ?_
        refine E_getR (b := 5) clX10 1 (by decide) flX10_19 (Or.inl ⟨_, rfl⟩) dX10_mayLayJoker_34 (kd3 hJ.1.1) (rf3_1 hJ.1.1) (by decide) ?_
        refine E_iload_n dX10_mayLayJoker_37 rfl ?_
        refine E_callVN (as := [.int p1]) (b := 5) (st := []) (ok_X1_lies (σ := σ) (b := 5) (k := p1) hJ (Or.inl rfl)) (by decide) yfX1_lies mlX10_146 imX1_lies seX1_lies clX1 (kd5 hJ.1.1) rfl (Nat.le_of_ble_eq_true rfl) rfl dX10_mayLayJoker_38 ?_
        refine E_iconst (v := 2) dX10_mayLayJoker_41 (by decide) ?_
        refine E_icmp_ge 49 dX10_mayLayJoker_42 (by decide) (fun c_42_3 => ?_) (fun c_42_3 => ?_)
        · skip
          refine E_iconst (v := 0) dX10_mayLayJoker_49 (by decide) ?_
          exact E_zretE rfl dX10_mayLayJoker_50 (by decide) (by unfold v_X10_mayLayJoker; simp only [if_neg c_4_0, if_neg c_14_1, if_neg c_30_2, if_pos c_42_3]) rfl
        · skip
          refine E_iconst (v := 1) dX10_mayLayJoker_45 (by decide) ?_
          refine E_goto 50 dX10_mayLayJoker_46 (by decide) ?_
          exact E_zretE rfl dX10_mayLayJoker_50 (by decide) (by unfold v_X10_mayLayJoker; simp only [if_neg c_4_0, if_neg c_14_1, if_neg c_30_2, if_neg c_42_3]) rfl
theorem z_X10_mayLayJoker (σ : rS) (p1 : Int32) : v_X10_mayLayJoker σ p1 = 0 ∨ v_X10_mayLayJoker σ p1 = 1 := by
  unfold v_X10_mayLayJoker
  (repeat' split) <;> first | decide | exact vIn_01 _ _ _ | exact vBit_01 _ _ | exact z_X10_isOn _

def f_X10_layJoker (σ : rS) (p1 : Int32) : Option (Unit × rS) := oB (f_X1_layJoker σ 5 (rI σ 3 8) p1) fun _ σ2 => oB (f_X2_add σ2 2 (rI σ2 3 8) p1 0) fun _ σ4 => some (((), σ4))
set_option maxRecDepth 20000 in
set_option maxHeartbeats 2000000 in
theorem ok_X10_layJoker {σ : rS} {p1 : Int32}   : rFn Sy yX10_layJoker mX10_layJoker 3 [.ref 3, .int p1] σ 0 0 (fun _ => .inl none) (f_X10_layJoker σ p1) := by
  refine rF_of (ls := [some (.ref 3), some (.int p1)]) yfX10_layJoker rfl (Nat.le_of_ble_eq_true rfl) (fun o τ => ?_)
  unfold f_X10_layJoker
  refine P_l (fun hJ _ _ q => E_aload_n dX10_layJoker_0 rfl (E_getR (b := 5) clX10 1 (by decide) flX10_19 (Or.inl ⟨_, rfl⟩) dX10_layJoker_1 (kd3 hJ.1.1) (rf3_1 hJ.1.1) (by decide) (E_aload_n dX10_layJoker_4 rfl (E_getI clX10 8 (by decide) flX10_61 (Or.inl rfl) dX10_layJoker_5 (kd3 hJ.1.1) (E_iload_n dX10_layJoker_8 rfl q))))) ?_
  refine P_call (t := fun _ => none) (st2 := fun _ => []) (kc2 := 0) (ks2 := 0) (fun hJ => (ok_X1_layJoker (σ := σ) (b := 5) (p := rI σ 3 8) (k := p1) (Or.inl rfl))) (fun hJ _ _ _ _ v τ1 hM q => E_callVN (as := [.int (rI σ 3 8), .int p1]) (b := 5) (st := []) hM (by decide) yfX1_layJoker mlX10_416 imX1_layJoker seX1_layJoker clX1 (kd5 hJ.1.1) rfl (Nat.le_of_ble_eq_true rfl) rfl dX10_layJoker_9 q) (by decide) (by decide) (fun v1 σ2 => ?_)
  refine P_l (fun hJ _ _ q => E_aload_n dX10_layJoker_12 rfl (E_getR (b := 35) clX10 5 (by decide) flX10_43 (Or.inl ⟨_, rfl⟩) dX10_layJoker_13 (kd3 hJ.1.1) (rf3_5 hJ.1.1) (by decide) (E_iconst (v := 2) dX10_layJoker_16 (by decide) (E_aload_n dX10_layJoker_17 rfl (E_getI clX10 8 (by decide) flX10_61 (Or.inl rfl) dX10_layJoker_18 (kd3 hJ.1.1) (E_iload_n dX10_layJoker_21 rfl (E_iconst (v := 0) dX10_layJoker_22 (by decide) q))))))) ?_
  refine P_call (t := fun _ => none) (st2 := fun _ => []) (kc2 := 0) (ks2 := 0) (fun hJ => (ok_X2_add (σ := σ2) (p1 := 2) (p2 := rI σ2 3 8) (p3 := p1) (p4 := 0) )) (fun hJ _ _ _ _ v τ1 hM q => E_callVN (as := [.int 2, .int (rI σ2 3 8), .int p1, .int 0]) (b := 35) (st := []) hM (by decide) yfX2_add mlX10_413 imX2_add seX2_add clX2 (kd35 hJ.1.1) rfl (Nat.le_of_ble_eq_true rfl) rfl dX10_layJoker_23 q) (by decide) (by decide) (fun v3 σ4 => ?_)
  exact P_ret (fun _ _ => E_vret rfl dX10_layJoker_26)

def f_X10_joker (σ : rS) (p1 : Int32) : Option ((Int32 ⊕ String) × rS) := oBx (f_X10_needKind σ p1) fun _ σ2 => if (v_X10_mayLayJoker σ2 p1) = 0 then (some ((.inr "java/lang/IllegalStateException", σ2))) else (oB (f_X10_layJoker σ2 p1) fun _ σ4 => some ((.inl (rI σ4 5 9), σ4)))
set_option maxRecDepth 20000 in
set_option maxHeartbeats 2000000 in
theorem ok_X10_joker {σ : rS} {p1 : Int32}   : rFn Sy yX10_joker mX10_joker 7 [.ref 3, .int p1] σ 2 12 (tX (fun v => .inl (some (.int v)))) (f_X10_joker σ p1) := by
  refine rF_of (ls := [some (.ref 3), some (.int p1)]) yfX10_joker rfl (Nat.le_of_ble_eq_true rfl) (fun o τ => ?_)
  unfold f_X10_joker
  refine P_l (fun hJ _ _ q => E_aload_n dX10_joker_0 rfl (E_iload_n dX10_joker_1 rfl q)) ?_
  refine P_callx (t2 := fun _ => none) (st2 := fun _ => []) (kc2 := 1) (ks2 := 6) (fun hJ => (ok_X10_needKind (σ := σ) (p1 := p1) )) (fun hJ _ _ _ _ v τ1 hM q => E_callV (as := [.int p1]) (b := 3) (st := []) hM (by decide) yfX10_needKind mlX10_136 imX10_needKind seX10_needKind clX10 (kd3 hJ.1.1) rfl (Nat.le_of_ble_eq_true rfl) rfl dX10_joker_2 q) (fun hJ _ _ _ _ E τ1 hM => E_callVx (as := [.int p1]) (b := 3) (st := []) hM (by decide) yfX10_needKind mlX10_136 imX10_needKind seX10_needKind clX10 (kd3 hJ.1.1) rfl (Nat.le_of_ble_eq_true rfl) rfl dX10_joker_2 rfl) (by decide) (by decide) (fun v1 σ2 => ?_)
  refine P_l (fun hJ _ _ q => E_aload_n dX10_joker_5 rfl (E_iload_n dX10_joker_6 rfl (E_callV (as := [.int p1]) (b := 3) (st := []) (ok_X10_mayLayJoker (σ := σ2) (p1 := p1) hJ ) (by decide) yfX10_mayLayJoker mlX10_150 imX10_mayLayJoker seX10_mayLayJoker clX10 (kd3 hJ.1.1) rfl (Nat.le_of_ble_eq_true rfl) rfl dX10_joker_7 q))) ?_
  refine P_if (fun hJ _ _ h1 h2 => E_if_ne 21 dX10_joker_10 (by decide) h2 h1) ?_ ?_
  · skip
    exact P_thr (fun kc ks => xt_IllegalStateException rfl rfl (by decide) (Nat.le_of_ble_eq_true rfl) dX10_joker_13 dX10_joker_16 dX10_joker_17 dX10_joker_20 kc ks) (by decide) (by decide)
  · skip
    refine P_l (fun hJ _ _ q => E_aload_n dX10_joker_21 rfl (E_iload_n dX10_joker_22 rfl q)) ?_
    refine P_call (t := fun _ => none) (st2 := fun _ => []) (kc2 := 1) (ks2 := 6) (fun hJ => (ok_X10_layJoker (σ := σ2) (p1 := p1) )) (fun hJ _ _ _ _ v τ1 hM q => E_callV (as := [.int p1]) (b := 3) (st := []) hM (by decide) yfX10_layJoker mlX10_153 imX10_layJoker seX10_layJoker clX10 (kd3 hJ.1.1) rfl (Nat.le_of_ble_eq_true rfl) rfl dX10_joker_23 q) (by decide) (by decide) (fun v3 σ4 => ?_)
    refine P_l (fun hJ _ _ q => E_aload_n dX10_joker_26 rfl (E_getR (b := 5) clX10 1 (by decide) flX10_19 (Or.inl ⟨_, rfl⟩) dX10_joker_27 (kd3 hJ.1.1) (rf3_1 hJ.1.1) (by decide) (E_getIN clX1 9 (by decide) flX10_156 (Or.inl rfl) dX10_joker_30 (kd5 hJ.1.1) q))) ?_
    exact P_ret (fun _ _ => E_iret rfl dX10_joker_33)

def v_X10_hasMelded (σ : rS) (p1 : Int32) : Int32 := if (vAt (rI σ 24) 4 p1) = 1 then 1 else 0
set_option maxRecDepth 20000 in
theorem ok_X10_hasMelded {σ : rS} {p1 : Int32}  (hJ : J Sy σ)  : rMet yX10_hasMelded mX10_hasMelded 1 [.ref 3, .int p1] σ 0 0 (some (.int (v_X10_hasMelded σ p1))) σ := by
  refine rMet_of (ls := [some (.ref 3), some (.int p1)]) yfX10_hasMelded rfl (Nat.le_of_ble_eq_true rfl) ?_
  refine E_aload_n dX10_hasMelded_0 rfl ?_
  refine E_getR (b := 19) clX10 3 (by decide) flX10_29 (Or.inl ⟨_, rfl⟩) dX10_hasMelded_1 (kd3 hJ.1.1) (rf3_3 hJ.1.1) (by decide) ?_
  refine E_getRN (b := 24) clX6 5 (by decide) flX10_401 (Or.inr ⟨_, rfl⟩) dX10_hasMelded_4 (kd19 hJ.1.1) (rf19_5 hJ.1.1) (by decide) ?_
  refine E_iload_n dX10_hasMelded_7 rfl ?_
  refine E_callS (as := [.ref 24, .int p1]) (st := []) (ok_at (σ := σ) (a := 24) (i := p1) (f := rI σ 24) (kd24 hJ.1.1) (by decide) rfl) (by decide) yfX10_at mlX10_193 stX10_at rfl (Nat.le_of_ble_eq_true rfl) rfl dX10_hasMelded_8 ?_
  refine E_iconst (v := 1) dX10_hasMelded_11 (by decide) ?_
  refine E_icmp_ne 19 dX10_hasMelded_12 (by decide) (fun c_12_0 => ?_) (fun c_12_0 => ?_)
  · skip
    refine E_iconst (v := 0) dX10_hasMelded_19 (by decide) ?_
    exact E_zretE rfl dX10_hasMelded_20 (by decide) (by unfold v_X10_hasMelded; simp only [if_neg c_12_0]) rfl
  · skip
    refine E_iconst (v := 1) dX10_hasMelded_15 (by decide) ?_
    refine E_goto 20 dX10_hasMelded_16 (by decide) ?_
    exact E_zretE rfl dX10_hasMelded_20 (by decide) (by unfold v_X10_hasMelded; simp only [if_pos c_12_0]) rfl
theorem z_X10_hasMelded (σ : rS) (p1 : Int32) : v_X10_hasMelded σ p1 = 0 ∨ v_X10_hasMelded σ p1 = 1 := by
  unfold v_X10_hasMelded
  (repeat' split) <;> first | decide | exact vIn_01 _ _ _ | exact vBit_01 _ _

def v_X10_maySwap (σ : rS) (p1 : Int32) : Int32 := if (v_X10_isOn σ) = 0 then 0 else (if (v_X10_hasMelded σ (rI σ 3 8)) = 0 then 0 else (if (v_X1_rackOf σ 5 (rI σ 3 8) p1) ≤ 0 then 0 else (if (vAt (rI σ 10) 52 p1) ≤ 0 then 0 else 1)))
set_option maxRecDepth 20000 in
theorem ok_X10_maySwap {σ : rS} {p1 : Int32}  (hJ : J Sy σ)  : rMet yX10_maySwap mX10_maySwap 2 [.ref 3, .int p1] σ 0 0 (some (.int (v_X10_maySwap σ p1))) σ := by
  refine rMet_of (ls := [some (.ref 3), some (.int p1)]) yfX10_maySwap rfl (Nat.le_of_ble_eq_true rfl) ?_
  refine E_aload_n dX10_maySwap_0 rfl ?_
  refine E_callV (as := []) (b := 3) (st := []) (ok_X10_isOn (σ := σ)  hJ ) (by decide) yfX10_isOn mlX10_81 imX10_isOn seX10_isOn clX10 (kd3 hJ.1.1) rfl (Nat.le_of_ble_eq_true rfl) rfl dX10_maySwap_1 ?_
  refine E_if_eq 51 dX10_maySwap_4 (by decide) (fun c_4_0 => ?_) (fun c_4_0 => ?_)
  · skip
    refine E_iconst (v := 0) dX10_maySwap_51 (by decide) ?_
    exact E_zretE rfl dX10_maySwap_52 (by decide) (by unfold v_X10_maySwap; simp only [if_pos c_4_0]) rfl
  · skip
    refine E_aload_n dX10_maySwap_7 rfl ?_
    refine E_aload_n dX10_maySwap_8 rfl ?_
    refine E_getI clX10 8 (by decide) flX10_61 (Or.inl rfl) dX10_maySwap_9 (kd3 hJ.1.1) ?_
    refine E_callV (as := [.int (rI σ 3 8)]) (b := 3) (st := []) (ok_X10_hasMelded (σ := σ) (p1 := rI σ 3 8) hJ ) (by decide) yfX10_hasMelded mlX10_209 imX10_hasMelded seX10_hasMelded clX10 (kd3 hJ.1.1) rfl (Nat.le_of_ble_eq_true rfl) rfl dX10_maySwap_12 ?_
    refine E_if_eq 51 dX10_maySwap_15 (by decide) (fun c_15_1 => ?_) (fun c_15_1 => ?_)
    · skip
      refine E_iconst (v := 0) dX10_maySwap_51 (by decide) ?_
      exact E_zretE rfl dX10_maySwap_52 (by decide) (by unfold v_X10_maySwap; simp only [if_neg c_4_0, if_pos c_15_1]) rfl
    · skip
      refine E_aload_n dX10_maySwap_18 rfl ?_
      refine E_getR (b := 5) clX10 1 (by decide) flX10_19 (Or.inl ⟨_, rfl⟩) dX10_maySwap_19 (kd3 hJ.1.1) (rf3_1 hJ.1.1) (by decide) ?_
      refine E_aload_n dX10_maySwap_22 rfl ?_
      refine E_getI clX10 8 (by decide) flX10_61 (Or.inl rfl) dX10_maySwap_23 (kd3 hJ.1.1) ?_
      refine E_iload_n dX10_maySwap_26 rfl ?_
      refine E_callVN (as := [.int (rI σ 3 8), .int p1]) (b := 5) (st := []) (ok_X1_rackOf (σ := σ) (b := 5) (p := rI σ 3 8) (k := p1) hJ (Or.inl rfl)) (by decide) yfX1_rackOf mlX10_333 imX1_rackOf seX1_rackOf clX1 (kd5 hJ.1.1) rfl (Nat.le_of_ble_eq_true rfl) rfl dX10_maySwap_27 ?_
      refine E_if_le 51 dX10_maySwap_30 (by decide) (fun c_30_2 => ?_) (fun c_30_2 => ?_)
      · skip
        refine E_iconst (v := 0) dX10_maySwap_51 (by decide) ?_
        exact E_zretE rfl dX10_maySwap_52 (by decide) (by unfold v_X10_maySwap; simp only [if_neg c_4_0, if_neg c_15_1, if_pos c_30_2]) rfl
      · skip
        refine E_aload_n dX10_maySwap_33 rfl ?_
        refine E_getR (b := 5) clX10 1 (by decide) flX10_19 (Or.inl ⟨_, rfl⟩) dX10_maySwap_34 (kd3 hJ.1.1) (rf3_1 hJ.1.1) (by decide) ?_
        refine E_getRN (b := 10) clX1 4 (by decide) flX10_336 (Or.inr ⟨_, rfl⟩) dX10_maySwap_37 (kd5 hJ.1.1) (rf5_4 hJ.1.1) (by decide) ?_
        refine E_iload_n dX10_maySwap_40 rfl ?_
        refine E_callS (as := [.ref 10, .int p1]) (st := []) (ok_at (σ := σ) (a := 10) (i := p1) (f := rI σ 10) (kd10 hJ.1.1) (by decide) rfl) (by decide) yfX10_at mlX10_193 stX10_at rfl (Nat.le_of_ble_eq_true rfl) rfl dX10_maySwap_41 ?_
        refine E_if_le 51 dX10_maySwap_44 (by decide) (fun c_44_3 => ?_) (fun c_44_3 => ?_)
        · skip
          refine E_iconst (v := 0) dX10_maySwap_51 (by decide) ?_
          exact E_zretE rfl dX10_maySwap_52 (by decide) (by unfold v_X10_maySwap; simp only [if_neg c_4_0, if_neg c_15_1, if_neg c_30_2, if_pos c_44_3]) rfl
        · skip
          refine E_iconst (v := 1) dX10_maySwap_47 (by decide) ?_
          refine E_goto 52 dX10_maySwap_48 (by decide) ?_
          exact E_zretE rfl dX10_maySwap_52 (by decide) (by unfold v_X10_maySwap; simp only [if_neg c_4_0, if_neg c_15_1, if_neg c_30_2, if_neg c_44_3]) rfl
theorem z_X10_maySwap (σ : rS) (p1 : Int32) : v_X10_maySwap σ p1 = 0 ∨ v_X10_maySwap σ p1 = 1 := by
  unfold v_X10_maySwap
  (repeat' split) <;> first | decide | exact vIn_01 _ _ _ | exact vBit_01 _ _ | exact z_X10_isOn _ | exact z_X10_hasMelded _ _

def f_X10_swapJoker (σ : rS) (p1 : Int32) : Option (Unit × rS) := oB (f_X1_swapJoker σ 5 (rI σ 3 8) p1) fun _ σ2 => oB (f_X2_add σ2 3 (rI σ2 3 8) p1 0) fun _ σ4 => some (((), σ4))
set_option maxRecDepth 20000 in
set_option maxHeartbeats 2000000 in
theorem ok_X10_swapJoker {σ : rS} {p1 : Int32}   : rFn Sy yX10_swapJoker mX10_swapJoker 3 [.ref 3, .int p1] σ 0 0 (fun _ => .inl none) (f_X10_swapJoker σ p1) := by
  refine rF_of (ls := [some (.ref 3), some (.int p1)]) yfX10_swapJoker rfl (Nat.le_of_ble_eq_true rfl) (fun o τ => ?_)
  unfold f_X10_swapJoker
  refine P_l (fun hJ _ _ q => E_aload_n dX10_swapJoker_0 rfl (E_getR (b := 5) clX10 1 (by decide) flX10_19 (Or.inl ⟨_, rfl⟩) dX10_swapJoker_1 (kd3 hJ.1.1) (rf3_1 hJ.1.1) (by decide) (E_aload_n dX10_swapJoker_4 rfl (E_getI clX10 8 (by decide) flX10_61 (Or.inl rfl) dX10_swapJoker_5 (kd3 hJ.1.1) (E_iload_n dX10_swapJoker_8 rfl q))))) ?_
  refine P_call (t := fun _ => none) (st2 := fun _ => []) (kc2 := 0) (ks2 := 0) (fun hJ => (ok_X1_swapJoker (σ := σ) (b := 5) (p := rI σ 3 8) (k := p1) (Or.inl rfl))) (fun hJ _ _ _ _ v τ1 hM q => E_callVN (as := [.int (rI σ 3 8), .int p1]) (b := 5) (st := []) hM (by decide) yfX1_swapJoker mlX10_418 imX1_swapJoker seX1_swapJoker clX1 (kd5 hJ.1.1) rfl (Nat.le_of_ble_eq_true rfl) rfl dX10_swapJoker_9 q) (by decide) (by decide) (fun v1 σ2 => ?_)
  refine P_l (fun hJ _ _ q => E_aload_n dX10_swapJoker_12 rfl (E_getR (b := 35) clX10 5 (by decide) flX10_43 (Or.inl ⟨_, rfl⟩) dX10_swapJoker_13 (kd3 hJ.1.1) (rf3_5 hJ.1.1) (by decide) (E_iconst (v := 3) dX10_swapJoker_16 (by decide) (E_aload_n dX10_swapJoker_17 rfl (E_getI clX10 8 (by decide) flX10_61 (Or.inl rfl) dX10_swapJoker_18 (kd3 hJ.1.1) (E_iload_n dX10_swapJoker_21 rfl (E_iconst (v := 0) dX10_swapJoker_22 (by decide) q))))))) ?_
  refine P_call (t := fun _ => none) (st2 := fun _ => []) (kc2 := 0) (ks2 := 0) (fun hJ => (ok_X2_add (σ := σ2) (p1 := 3) (p2 := rI σ2 3 8) (p3 := p1) (p4 := 0) )) (fun hJ _ _ _ _ v τ1 hM q => E_callVN (as := [.int 3, .int (rI σ2 3 8), .int p1, .int 0]) (b := 35) (st := []) hM (by decide) yfX2_add mlX10_413 imX2_add seX2_add clX2 (kd35 hJ.1.1) rfl (Nat.le_of_ble_eq_true rfl) rfl dX10_swapJoker_23 q) (by decide) (by decide) (fun v3 σ4 => ?_)
  exact P_ret (fun _ _ => E_vret rfl dX10_swapJoker_26)

def f_X10_swap (σ : rS) (p1 : Int32) : Option ((Int32 ⊕ String) × rS) := oBx (f_X10_needKind σ p1) fun _ σ2 => if (v_X10_maySwap σ2 p1) = 0 then (some ((.inr "java/lang/IllegalStateException", σ2))) else (oB (f_X10_swapJoker σ2 p1) fun _ σ4 => some ((.inl (rI σ4 5 10), σ4)))
set_option maxRecDepth 20000 in
set_option maxHeartbeats 2000000 in
theorem ok_X10_swap {σ : rS} {p1 : Int32}   : rFn Sy yX10_swap mX10_swap 7 [.ref 3, .int p1] σ 2 12 (tX (fun v => .inl (some (.int v)))) (f_X10_swap σ p1) := by
  refine rF_of (ls := [some (.ref 3), some (.int p1)]) yfX10_swap rfl (Nat.le_of_ble_eq_true rfl) (fun o τ => ?_)
  unfold f_X10_swap
  refine P_l (fun hJ _ _ q => E_aload_n dX10_swap_0 rfl (E_iload_n dX10_swap_1 rfl q)) ?_
  refine P_callx (t2 := fun _ => none) (st2 := fun _ => []) (kc2 := 1) (ks2 := 6) (fun hJ => (ok_X10_needKind (σ := σ) (p1 := p1) )) (fun hJ _ _ _ _ v τ1 hM q => E_callV (as := [.int p1]) (b := 3) (st := []) hM (by decide) yfX10_needKind mlX10_136 imX10_needKind seX10_needKind clX10 (kd3 hJ.1.1) rfl (Nat.le_of_ble_eq_true rfl) rfl dX10_swap_2 q) (fun hJ _ _ _ _ E τ1 hM => E_callVx (as := [.int p1]) (b := 3) (st := []) hM (by decide) yfX10_needKind mlX10_136 imX10_needKind seX10_needKind clX10 (kd3 hJ.1.1) rfl (Nat.le_of_ble_eq_true rfl) rfl dX10_swap_2 rfl) (by decide) (by decide) (fun v1 σ2 => ?_)
  refine P_l (fun hJ _ _ q => E_aload_n dX10_swap_5 rfl (E_iload_n dX10_swap_6 rfl (E_callV (as := [.int p1]) (b := 3) (st := []) (ok_X10_maySwap (σ := σ2) (p1 := p1) hJ ) (by decide) yfX10_maySwap mlX10_159 imX10_maySwap seX10_maySwap clX10 (kd3 hJ.1.1) rfl (Nat.le_of_ble_eq_true rfl) rfl dX10_swap_7 q))) ?_
  refine P_if (fun hJ _ _ h1 h2 => E_if_ne 21 dX10_swap_10 (by decide) h2 h1) ?_ ?_
  · skip
    exact P_thr (fun kc ks => xt_IllegalStateException rfl rfl (by decide) (Nat.le_of_ble_eq_true rfl) dX10_swap_13 dX10_swap_16 dX10_swap_17 dX10_swap_20 kc ks) (by decide) (by decide)
  · skip
    refine P_l (fun hJ _ _ q => E_aload_n dX10_swap_21 rfl (E_iload_n dX10_swap_22 rfl q)) ?_
    refine P_call (t := fun _ => none) (st2 := fun _ => []) (kc2 := 1) (ks2 := 6) (fun hJ => (ok_X10_swapJoker (σ := σ2) (p1 := p1) )) (fun hJ _ _ _ _ v τ1 hM q => E_callV (as := [.int p1]) (b := 3) (st := []) hM (by decide) yfX10_swapJoker mlX10_162 imX10_swapJoker seX10_swapJoker clX10 (kd3 hJ.1.1) rfl (Nat.le_of_ble_eq_true rfl) rfl dX10_swap_23 q) (by decide) (by decide) (fun v3 σ4 => ?_)
    refine P_l (fun hJ _ _ q => E_aload_n dX10_swap_26 rfl (E_getR (b := 5) clX10 1 (by decide) flX10_19 (Or.inl ⟨_, rfl⟩) dX10_swap_27 (kd3 hJ.1.1) (rf3_1 hJ.1.1) (by decide) (E_getIN clX1 10 (by decide) flX10_165 (Or.inl rfl) dX10_swap_30 (kd5 hJ.1.1) q))) ?_
    exact P_ret (fun _ _ => E_iret rfl dX10_swap_33)

def v_X10_mayTakeBack (σ : rS) : Int32 := if (v_X10_isOn σ) = 0 then 0 else (if (rI σ 5 6) ≤ 0 then 0 else 1)
set_option maxRecDepth 20000 in
theorem ok_X10_mayTakeBack {σ : rS}  (hJ : J Sy σ)  : rMet yX10_mayTakeBack mX10_mayTakeBack 1 [.ref 3] σ 0 0 (some (.int (v_X10_mayTakeBack σ))) σ := by
  refine rMet_of (ls := [some (.ref 3)]) yfX10_mayTakeBack rfl (Nat.le_of_ble_eq_true rfl) ?_
  refine E_aload_n dX10_mayTakeBack_0 rfl ?_
  refine E_callV (as := []) (b := 3) (st := []) (ok_X10_isOn (σ := σ)  hJ ) (by decide) yfX10_isOn mlX10_81 imX10_isOn seX10_isOn clX10 (kd3 hJ.1.1) rfl (Nat.le_of_ble_eq_true rfl) rfl dX10_mayTakeBack_1 ?_
  refine E_if_eq 21 dX10_mayTakeBack_4 (by decide) (fun c_4_0 => ?_) (fun c_4_0 => ?_)
  · skip
    refine E_iconst (v := 0) dX10_mayTakeBack_21 (by decide) ?_
    exact E_zretE rfl dX10_mayTakeBack_22 (by decide) (by unfold v_X10_mayTakeBack; simp only [if_pos c_4_0]) rfl
  · skip
    refine E_aload_n dX10_mayTakeBack_7 rfl ?_
    refine E_getR (b := 5) clX10 1 (by decide) flX10_19 (Or.inl ⟨_, rfl⟩) dX10_mayTakeBack_8 (kd3 hJ.1.1) (rf3_1 hJ.1.1) (by decide) ?_
    refine E_getIN clX1 6 (by decide) flX10_174 (Or.inl rfl) dX10_mayTakeBack_11 (kd5 hJ.1.1) ?_
    refine E_if_le 21 dX10_mayTakeBack_14 (by decide) (fun c_14_1 => ?_) (fun c_14_1 => ?_)
    · skip
      refine E_iconst (v := 0) dX10_mayTakeBack_21 (by decide) ?_
      exact E_zretE rfl dX10_mayTakeBack_22 (by decide) (by unfold v_X10_mayTakeBack; simp only [if_neg c_4_0, if_pos c_14_1]) rfl
    · skip
      refine E_iconst (v := 1) dX10_mayTakeBack_17 (by decide) ?_
      refine E_goto 22 dX10_mayTakeBack_18 (by decide) ?_
      exact E_zretE rfl dX10_mayTakeBack_22 (by decide) (by unfold v_X10_mayTakeBack; simp only [if_neg c_4_0, if_neg c_14_1]) rfl
theorem z_X10_mayTakeBack (σ : rS) : v_X10_mayTakeBack σ = 0 ∨ v_X10_mayTakeBack σ = 1 := by
  unfold v_X10_mayTakeBack
  (repeat' split) <;> first | decide | exact vIn_01 _ _ _ | exact vBit_01 _ _ | exact z_X10_isOn _

def f_X10_takeBack (σ : rS) : Option (Unit × rS) := oB (f_X1_undo σ 5 (rI σ 3 8)) fun v1 σ2 => oB (f_X2_add σ2 4 (rI σ2 3 8) v1 0) fun _ σ4 => some (((), σ4))
set_option maxRecDepth 20000 in
set_option maxHeartbeats 2000000 in
theorem ok_X10_takeBack {σ : rS}   : rFn Sy yX10_takeBack mX10_takeBack 4 [.ref 3] σ 0 0 (fun _ => .inl none) (f_X10_takeBack σ) := by
  refine rF_of (ls := [some (.ref 3), none]) yfX10_takeBack rfl (Nat.le_of_ble_eq_true rfl) (fun o τ => ?_)
  unfold f_X10_takeBack
  refine P_l (fun hJ _ _ q => E_aload_n dX10_takeBack_0 rfl (E_getR (b := 5) clX10 1 (by decide) flX10_19 (Or.inl ⟨_, rfl⟩) dX10_takeBack_1 (kd3 hJ.1.1) (rf3_1 hJ.1.1) (by decide) (E_aload_n dX10_takeBack_4 rfl (E_getI clX10 8 (by decide) flX10_61 (Or.inl rfl) dX10_takeBack_5 (kd3 hJ.1.1) q)))) ?_
  refine P_call (t := fun v => some (.int v)) (st2 := fun v => .int v :: []) (kc2 := 0) (ks2 := 0) (fun hJ => (ok_X1_undo (σ := σ) (b := 5) (p := rI σ 3 8) (Or.inl rfl))) (fun hJ _ _ _ _ v τ1 hM q => E_callVN (as := [.int (rI σ 3 8)]) (b := 5) (st := []) hM (by decide) yfX1_undo mlX10_420 imX1_undo seX1_undo clX1 (kd5 hJ.1.1) rfl (Nat.le_of_ble_eq_true rfl) rfl dX10_takeBack_8 q) (by decide) (by decide) (fun v1 σ2 => ?_)
  refine P_l (fun hJ _ _ q => E_istore_n (ls2 := [some (.ref 3), some (.int v1)]) dX10_takeBack_11 (by decide) rfl (E_aload_n dX10_takeBack_12 rfl (E_getR (b := 35) clX10 5 (by decide) flX10_43 (Or.inl ⟨_, rfl⟩) dX10_takeBack_13 (kd3 hJ.1.1) (rf3_5 hJ.1.1) (by decide) (E_iconst (v := 4) dX10_takeBack_16 (by decide) (E_aload_n dX10_takeBack_17 rfl (E_getI clX10 8 (by decide) flX10_61 (Or.inl rfl) dX10_takeBack_18 (kd3 hJ.1.1) (E_iload_n dX10_takeBack_21 rfl (E_iconst (v := 0) dX10_takeBack_22 (by decide) q)))))))) ?_
  refine P_call (t := fun _ => none) (st2 := fun _ => []) (kc2 := 0) (ks2 := 0) (fun hJ => (ok_X2_add (σ := σ2) (p1 := 4) (p2 := rI σ2 3 8) (p3 := v1) (p4 := 0) )) (fun hJ _ _ _ _ v τ1 hM q => E_callVN (as := [.int 4, .int (rI σ2 3 8), .int v1, .int 0]) (b := 35) (st := []) hM (by decide) yfX2_add mlX10_413 imX2_add seX2_add clX2 (kd35 hJ.1.1) rfl (Nat.le_of_ble_eq_true rfl) rfl dX10_takeBack_23 q) (by decide) (by decide) (fun v3 σ4 => ?_)
  exact P_ret (fun _ _ => E_vret rfl dX10_takeBack_26)

def f_X10_back (σ : rS) : Option ((Int32 ⊕ String) × rS) := if (v_X10_mayTakeBack σ) = 0 then (some ((.inr "java/lang/IllegalStateException", σ))) else (oB (f_X10_takeBack σ) fun _ σ2 => some ((.inl (rI σ2 5 6), σ2)))
set_option maxRecDepth 20000 in
set_option maxHeartbeats 2000000 in
theorem ok_X10_back {σ : rS}   : rFn Sy yX10_back mX10_back 6 [.ref 3] σ 1 6 (tX (fun v => .inl (some (.int v)))) (f_X10_back σ) := by
  refine rF_of (ls := [some (.ref 3)]) yfX10_back rfl (Nat.le_of_ble_eq_true rfl) (fun o τ => ?_)
  unfold f_X10_back
  refine P_l (fun hJ _ _ q => E_aload_n dX10_back_0 rfl (E_callV (as := []) (b := 3) (st := []) (ok_X10_mayTakeBack (σ := σ)  hJ ) (by decide) yfX10_mayTakeBack mlX10_168 imX10_mayTakeBack seX10_mayTakeBack clX10 (kd3 hJ.1.1) rfl (Nat.le_of_ble_eq_true rfl) rfl dX10_back_1 q)) ?_
  refine P_if (fun hJ _ _ h1 h2 => E_if_ne 15 dX10_back_4 (by decide) h2 h1) ?_ ?_
  · skip
    exact P_thr (fun kc ks => xt_IllegalStateException rfl rfl (by decide) (Nat.le_of_ble_eq_true rfl) dX10_back_7 dX10_back_10 dX10_back_11 dX10_back_14 kc ks) (by decide) (by decide)
  · skip
    refine P_l (fun hJ _ _ q => E_aload_n dX10_back_15 rfl q) ?_
    refine P_call (t := fun _ => none) (st2 := fun _ => []) (kc2 := 1) (ks2 := 6) (fun hJ => (ok_X10_takeBack (σ := σ)  )) (fun hJ _ _ _ _ v τ1 hM q => E_callV (as := []) (b := 3) (st := []) hM (by decide) yfX10_takeBack mlX10_171 imX10_takeBack seX10_takeBack clX10 (kd3 hJ.1.1) rfl (Nat.le_of_ble_eq_true rfl) rfl dX10_back_16 q) (by decide) (by decide) (fun v1 σ2 => ?_)
    refine P_l (fun hJ _ _ q => E_aload_n dX10_back_19 rfl (E_getR (b := 5) clX10 1 (by decide) flX10_19 (Or.inl ⟨_, rfl⟩) dX10_back_20 (kd3 hJ.1.1) (rf3_1 hJ.1.1) (by decide) (E_getIN clX1 6 (by decide) flX10_174 (Or.inl rfl) dX10_back_23 (kd5 hJ.1.1) q))) ?_
    exact P_ret (fun _ _ => E_iret rfl dX10_back_26)

def b_X10_takeLaid_9 (s3 : Int32 × rS) : Option ((Unit × rS) ⊕ (Int32 × rS)) := if (rI s3.2 5 6) ≤ s3.1 then (some (.inl (((), s3.2)))) else (oB (f_X9_add s3.2 (v_X1_doneKind s3.2 5 s3.1) 1) fun _ σ5 => some (.inr ((s3.1 + 1, σ5))))
def f_X10_takeLaid (σ : rS) : Option (Unit × rS) := oB (f_X9_clear σ) fun _ σ2 => oLoop (b_X10_takeLaid_9) oFuel ((0, σ2))
set_option maxRecDepth 20000 in
set_option maxHeartbeats 2000000 in
theorem ok_X10_takeLaid {σ : rS}   : rFn Sy yX10_takeLaid mX10_takeLaid 2 [.ref 3] σ 0 0 (fun _ => .inl none) (f_X10_takeLaid σ) := by
  refine rF_of (ls := [some (.ref 3), none]) yfX10_takeLaid rfl (Nat.le_of_ble_eq_true rfl) (fun o τ => ?_)
  unfold f_X10_takeLaid
  refine P_l (fun hJ _ _ q => E_aload_n dX10_takeLaid_0 rfl (E_getR (b := 37) clX10 6 (by decide) flX10_50 (Or.inl ⟨_, rfl⟩) dX10_takeLaid_1 (kd3 hJ.1.1) (rf3_6 hJ.1.1) (by decide) q)) ?_
  refine P_call (t := fun _ => none) (st2 := fun _ => []) (kc2 := 0) (ks2 := 0) (fun hJ => (ok_X9_clear (σ := σ)  )) (fun hJ _ _ _ _ v τ1 hM q => E_callVN (as := []) (b := 37) (st := []) hM (by decide) yfX9_clear mlX10_454 imX9_clear seX9_clear clX9 (kd37 hJ.1.1) rfl (Nat.le_of_ble_eq_true rfl) rfl dX10_takeLaid_4 q) (by decide) (by decide) (fun v1 σ2 => ?_)
  refine P_l (fun hJ _ _ q => E_iconst (v := 0) dX10_takeLaid_7 (by decide) (E_istore_n (ls2 := [some (.ref 3), some (.int 0)]) dX10_takeLaid_8 (by decide) rfl q)) ?_
  refine P_loop (fun s3 => [some (.ref 3), some (.int s3.1)]) (fun s3 => s3.2) (fun s3 => ?_) _ ((0, σ2))
  unfold b_X10_takeLaid_9
  refine P_l (fun hJ _ _ q => E_iload_n dX10_takeLaid_9 rfl (E_aload_n dX10_takeLaid_10 rfl (E_getR (b := 5) clX10 1 (by decide) flX10_19 (Or.inl ⟨_, rfl⟩) dX10_takeLaid_11 (kd3 hJ.1.1) (rf3_1 hJ.1.1) (by decide) (E_getIN clX1 6 (by decide) flX10_174 (Or.inl rfl) dX10_takeLaid_14 (kd5 hJ.1.1) q)))) ?_
  refine P_if (fun hJ _ _ h1 h2 => E_icmp_ge 42 dX10_takeLaid_17 (by decide) h1 h2) ?_ ?_
  · skip
    exact P_inl (P_ret (fun _ _ => E_vret rfl dX10_takeLaid_42))
  · skip
    refine P_l (fun hJ _ _ q => E_aload_n dX10_takeLaid_20 rfl (E_getR (b := 37) clX10 6 (by decide) flX10_50 (Or.inl ⟨_, rfl⟩) dX10_takeLaid_21 (kd3 hJ.1.1) (rf3_6 hJ.1.1) (by decide) (E_aload_n dX10_takeLaid_24 rfl (E_getR (b := 5) clX10 1 (by decide) flX10_19 (Or.inl ⟨_, rfl⟩) dX10_takeLaid_25 (kd3 hJ.1.1) (rf3_1 hJ.1.1) (by decide) (E_iload_n dX10_takeLaid_28 rfl (E_callVN (as := [.int s3.1]) (b := 5) (st := [.ref 37]) (ok_X1_doneKind (σ := s3.2) (b := 5) (i := s3.1) hJ (Or.inl rfl)) (by decide) yfX1_doneKind mlX10_457 imX1_doneKind seX1_doneKind clX1 (kd5 hJ.1.1) rfl (Nat.le_of_ble_eq_true rfl) rfl dX10_takeLaid_29 (E_iconst (v := 1) dX10_takeLaid_32 (by decide) q))))))) ?_
    refine P_call (t := fun _ => none) (st2 := fun _ => []) (kc2 := 0) (ks2 := 0) (fun hJ => (ok_X9_add (σ := s3.2) (p1 := v_X1_doneKind s3.2 5 s3.1) (p2 := 1) )) (fun hJ _ _ _ _ v τ1 hM q => E_callVN (as := [.int (v_X1_doneKind s3.2 5 s3.1), .int 1]) (b := 37) (st := []) hM (by decide) yfX9_add mlX10_455 imX9_add seX9_add clX9 (kd37 hJ.1.1) rfl (Nat.le_of_ble_eq_true rfl) rfl dX10_takeLaid_33 q) (by decide) (by decide) (fun v4 σ5 => ?_)
    refine P_l (fun hJ _ _ q => E_iinc (v := 1) (ls2 := [some (.ref 3), some (.int (s3.1 + 1))]) dX10_takeLaid_36 rfl (by decide) (by decide) rfl (E_goto 9 dX10_takeLaid_39 (by decide) q)) ?_
    exact P_back ((s3.1 + 1, σ5))

def f_X10_mayEnd (σ : rS) : Option (Int32 × rS) := if (if (v_X10_isOn σ) = 0 then true else (if (rI σ 5 6) = 0 then true else (if (rI σ 5 10) ≤ 0 then false else true))) = true then (some ((0, σ))) else (if (v_X10_hasMelded σ (rI σ 3 8)) = 0 then (oB (f_X10_takeLaid σ) fun _ σ2 => (f_X1_laidWorth σ2 5).bind fun v3 => if v3 < (rI σ2 4 3) then (some ((0, σ2))) else (oB (f_X9_go σ2 1 ((rI σ2 4 0) + 1)) fun v4 σ5 => if v4 = 0 then (some ((0, σ5))) else (oB (f_X10_takeTable σ5) fun _ σ7 => oB (f_X9_go σ7 1 ((rI σ7 4 0) + 1)) fun v8 σ9 => some ((if v8 ≤ 0 then 0 else 1, σ9))))) else (oB (f_X10_takeTable σ) fun _ σ11 => oB (f_X9_go σ11 1 ((rI σ11 4 0) + 1)) fun v12 σ13 => some ((if v12 ≤ 0 then 0 else 1, σ13))))
set_option maxRecDepth 20000 in
set_option maxHeartbeats 2000000 in
theorem ok_X10_mayEnd {σ : rS}   : rFn Sy yX10_mayEnd mX10_mayEnd 5 [.ref 3] σ 0 0 (fun v => .inl (some (.int v))) (f_X10_mayEnd σ) := by
  refine rF_of (ls := [some (.ref 3)]) yfX10_mayEnd rfl (Nat.le_of_ble_eq_true rfl) (fun o τ => ?_)
  unfold f_X10_mayEnd
  refine P_l (fun hJ _ _ q => E_aload_n dX10_mayEnd_0 rfl (E_callV (as := []) (b := 3) (st := []) (ok_X10_isOn (σ := σ)  hJ ) (by decide) yfX10_isOn mlX10_81 imX10_isOn seX10_isOn clX10 (kd3 hJ.1.1) rfl (Nat.le_of_ble_eq_true rfl) rfl dX10_mayEnd_1 q)) ?_
  refine P_if (c := (if (v_X10_isOn σ) = 0 then true else (if (rI σ 5 6) = 0 then true else (if (rI σ 5 10) ≤ 0 then false else true))) = true) (pc1 := 27) (ls1 := [some (.ref 3)]) (st1 := []) (pc2 := 29) (ls2 := [some (.ref 3)]) (st2 := []) (fun hJ _ _ hX hY => ?_) ?_ ?_
  · skip
    refine E_if_eq 27 dX10_mayEnd_4 (by decide) (fun c_4_0 => ?_) (fun c_4_0 => ?_)
    · skip
      exact hX (by simp only [if_pos c_4_0])
    · skip
      refine E_aload_n dX10_mayEnd_7 rfl ?_
      refine E_getR (b := 5) clX10 1 (by decide) flX10_19 (Or.inl ⟨_, rfl⟩) dX10_mayEnd_8 (kd3 hJ.1.1) (rf3_1 hJ.1.1) (by decide) ?_
      refine E_getIN clX1 6 (by decide) flX10_174 (Or.inl rfl) dX10_mayEnd_11 (kd5 hJ.1.1) ?_
      refine E_if_eq 27 dX10_mayEnd_14 (by decide) (fun c_14_1 => ?_) (fun c_14_1 => ?_)
      · skip
        exact hX (by simp only [if_neg c_4_0, if_pos c_14_1])
      · skip
        refine E_aload_n dX10_mayEnd_17 rfl ?_
        refine E_getR (b := 5) clX10 1 (by decide) flX10_19 (Or.inl ⟨_, rfl⟩) dX10_mayEnd_18 (kd3 hJ.1.1) (rf3_1 hJ.1.1) (by decide) ?_
        refine E_getIN clX1 10 (by decide) flX10_165 (Or.inl rfl) dX10_mayEnd_21 (kd5 hJ.1.1) ?_
        refine E_if_le 29 dX10_mayEnd_24 (by decide) (fun c_24_2 => ?_) (fun c_24_2 => ?_)
        · skip
          exact hY (by simp only [if_neg c_4_0, if_neg c_14_1, if_pos c_24_2]; exact Bool.false_ne_true)
        · skip
          exact hX (by simp only [if_neg c_4_0, if_neg c_14_1, if_neg c_24_2])
  · skip
    refine P_l (fun hJ _ _ q => E_iconst (v := 0) dX10_mayEnd_27 (by decide) q) ?_
    exact P_ret (fun _ _ => E_zret01 rfl (by decide) dX10_mayEnd_28)
  · skip
    refine P_l (fun hJ _ _ q => E_aload_n dX10_mayEnd_29 rfl (E_aload_n dX10_mayEnd_30 rfl (E_getI clX10 8 (by decide) flX10_61 (Or.inl rfl) dX10_mayEnd_31 (kd3 hJ.1.1) (E_callV (as := [.int (rI σ 3 8)]) (b := 3) (st := []) (ok_X10_hasMelded (σ := σ) (p1 := rI σ 3 8) hJ ) (by decide) yfX10_hasMelded mlX10_209 imX10_hasMelded seX10_hasMelded clX10 (kd3 hJ.1.1) rfl (Nat.le_of_ble_eq_true rfl) rfl dX10_mayEnd_34 q)))) ?_
    refine P_if (fun hJ _ _ h1 h2 => E_if_ne 87 dX10_mayEnd_37 (by decide) h2 h1) ?_ ?_
    · skip
      refine P_l (fun hJ _ _ q => E_aload_n dX10_mayEnd_40 rfl q) ?_
      refine P_call (t := fun _ => none) (st2 := fun _ => []) (kc2 := 0) (ks2 := 0) (fun hJ => (ok_X10_takeLaid (σ := σ)  )) (fun hJ _ _ _ _ v τ1 hM q => E_callV (as := []) (b := 3) (st := []) hM (by decide) yfX10_takeLaid mlX10_404 imX10_takeLaid seX10_takeLaid clX10 (kd3 hJ.1.1) rfl (Nat.le_of_ble_eq_true rfl) rfl dX10_mayEnd_41 q) (by decide) (by decide) (fun v1 σ2 => ?_)
      refine P_l (fun hJ _ _ q => E_aload_n dX10_mayEnd_44 rfl (E_getR (b := 5) clX10 1 (by decide) flX10_19 (Or.inl ⟨_, rfl⟩) dX10_mayEnd_45 (kd3 hJ.1.1) (rf3_1 hJ.1.1) (by decide) q)) ?_
      refine P_callr (t := fun v => some (.int v)) (st2 := fun v => .int v :: []) (fun hJ => (ok_X1_laidWorth (σ := σ2) (b := 5) (Or.inl rfl))) (fun hJ _ _ v hM q => E_callVN (as := []) (b := 5) (st := []) hM (by decide) yfX1_laidWorth mlX10_407 imX1_laidWorth seX1_laidWorth clX1 (kd5 hJ.1.1) rfl (Nat.le_of_ble_eq_true rfl) rfl dX10_mayEnd_48 q) (fun v3 => ?_)
      refine P_l (fun hJ _ _ q => E_aload_n dX10_mayEnd_51 rfl (E_getR (b := 4) clX10 0 (by decide) flX10_12 (Or.inl ⟨_, rfl⟩) dX10_mayEnd_52 (kd3 hJ.1.1) (rf3_0 hJ.1.1) (by decide) (E_getIN clX5 3 (by decide) flX10_97 (Or.inl rfl) dX10_mayEnd_55 (kd4 hJ.1.1) q))) ?_
      refine P_if (fun hJ _ _ h1 h2 => E_icmp_lt 85 dX10_mayEnd_58 (by decide) h1 h2) ?_ ?_
      · skip
        refine P_l (fun hJ _ _ q => E_iconst (v := 0) dX10_mayEnd_85 (by decide) q) ?_
        exact P_ret (fun _ _ => E_zret01 rfl (by decide) dX10_mayEnd_86)
      · skip
        refine P_l (fun hJ _ _ q => E_aload_n dX10_mayEnd_61 rfl (E_getR (b := 37) clX10 6 (by decide) flX10_50 (Or.inl ⟨_, rfl⟩) dX10_mayEnd_62 (kd3 hJ.1.1) (rf3_6 hJ.1.1) (by decide) (E_aload_n dX10_mayEnd_65 rfl (E_getR (b := 4) clX10 0 (by decide) flX10_12 (Or.inl ⟨_, rfl⟩) dX10_mayEnd_66 (kd3 hJ.1.1) (rf3_0 hJ.1.1) (by decide) (E_iconst (v := 1) dX10_mayEnd_69 (by decide) (E_aload_n dX10_mayEnd_70 rfl (E_getR (b := 4) clX10 0 (by decide) flX10_12 (Or.inl ⟨_, rfl⟩) dX10_mayEnd_71 (kd3 hJ.1.1) (rf3_0 hJ.1.1) (by decide) (E_getIN clX5 0 (by decide) flX10_88 (Or.inl rfl) dX10_mayEnd_74 (kd4 hJ.1.1) (E_iconst (v := 1) dX10_mayEnd_77 (by decide) (E_iadd dX10_mayEnd_78 q)))))))))) ?_
        refine P_call (t := fun v => some (.int v)) (st2 := fun v => .int v :: []) (kc2 := 0) (ks2 := 0) (fun hJ => (ok_X9_go (σ := σ2) (p2 := 1) (p3 := (rI σ2 4 0) + 1) )) (fun hJ _ _ _ _ v τ1 hM q => E_callVN (as := [.ref 4, .int 1, .int ((rI σ2 4 0) + 1)]) (b := 37) (st := []) hM (by decide) yfX9_go mlX10_245 imX9_go seX9_go clX9 (kd37 hJ.1.1) rfl (Nat.le_of_ble_eq_true rfl) rfl dX10_mayEnd_79 q) (by decide) (by decide) (fun v4 σ5 => ?_)
        refine P_if (fun hJ _ _ h1 h2 => E_if_ne 87 dX10_mayEnd_82 (by decide) h2 h1) ?_ ?_
        · skip
          refine P_l (fun hJ _ _ q => E_iconst (v := 0) dX10_mayEnd_85 (by decide) q) ?_
          exact P_ret (fun _ _ => E_zret01 rfl (by decide) dX10_mayEnd_86)
        · skip
          refine P_l (fun hJ _ _ q => E_aload_n dX10_mayEnd_87 rfl q) ?_
          refine P_call (t := fun _ => none) (st2 := fun _ => []) (kc2 := 0) (ks2 := 0) (fun hJ => (ok_X10_takeTable (σ := σ5)  )) (fun hJ _ _ _ _ v τ1 hM q => E_callV (as := []) (b := 3) (st := []) hM (by decide) yfX10_takeTable mlX10_242 imX10_takeTable seX10_takeTable clX10 (kd3 hJ.1.1) rfl (Nat.le_of_ble_eq_true rfl) rfl dX10_mayEnd_88 q) (by decide) (by decide) (fun v6 σ7 => ?_)
          refine P_l (fun hJ _ _ q => E_aload_n dX10_mayEnd_91 rfl (E_getR (b := 37) clX10 6 (by decide) flX10_50 (Or.inl ⟨_, rfl⟩) dX10_mayEnd_92 (kd3 hJ.1.1) (rf3_6 hJ.1.1) (by decide) (E_aload_n dX10_mayEnd_95 rfl (E_getR (b := 4) clX10 0 (by decide) flX10_12 (Or.inl ⟨_, rfl⟩) dX10_mayEnd_96 (kd3 hJ.1.1) (rf3_0 hJ.1.1) (by decide) (E_iconst (v := 1) dX10_mayEnd_99 (by decide) (E_aload_n dX10_mayEnd_100 rfl (E_getR (b := 4) clX10 0 (by decide) flX10_12 (Or.inl ⟨_, rfl⟩) dX10_mayEnd_101 (kd3 hJ.1.1) (rf3_0 hJ.1.1) (by decide) (E_getIN clX5 0 (by decide) flX10_88 (Or.inl rfl) dX10_mayEnd_104 (kd4 hJ.1.1) (E_iconst (v := 1) dX10_mayEnd_107 (by decide) (E_iadd dX10_mayEnd_108 q)))))))))) ?_
          refine P_call (t := fun v => some (.int v)) (st2 := fun v => .int v :: []) (kc2 := 0) (ks2 := 0) (fun hJ => (ok_X9_go (σ := σ7) (p2 := 1) (p3 := (rI σ7 4 0) + 1) )) (fun hJ _ _ _ _ v τ1 hM q => E_callVN (as := [.ref 4, .int 1, .int ((rI σ7 4 0) + 1)]) (b := 37) (st := []) hM (by decide) yfX9_go mlX10_245 imX9_go seX9_go clX9 (kd37 hJ.1.1) rfl (Nat.le_of_ble_eq_true rfl) rfl dX10_mayEnd_109 q) (by decide) (by decide) (fun v8 σ9 => ?_)
          refine P_l (pc2 := 120) (ls2 := [none]) (st2 := [.int (if v8 ≤ 0 then 0 else 1)]) (fun hJ _ _ hq => ?_) ?_
          · skip
            refine E_if_le 119 dX10_mayEnd_112 (by decide) (fun c_112_0 => ?_) (fun c_112_0 => ?_)
            · skip
              refine E_iconst (v := 0) dX10_mayEnd_119 (by decide) ?_
              simp only [if_pos c_112_0] at hq
              exact E_less hq (rLe_at [none] [some (.ref 3)] trivial)
            · skip
              refine E_iconst (v := 1) dX10_mayEnd_115 (by decide) ?_
              refine E_goto 120 dX10_mayEnd_116 (by decide) ?_
              simp only [if_neg c_112_0] at hq
              exact E_less hq (rLe_at [none] [some (.ref 3)] trivial)
          · skip
            exact P_ret (fun _ _ => E_zret01 rfl (by split <;> decide) dX10_mayEnd_120)
    · skip
      refine P_l (fun hJ _ _ q => E_aload_n dX10_mayEnd_87 rfl q) ?_
      refine P_call (t := fun _ => none) (st2 := fun _ => []) (kc2 := 0) (ks2 := 0) (fun hJ => (ok_X10_takeTable (σ := σ)  )) (fun hJ _ _ _ _ v τ1 hM q => E_callV (as := []) (b := 3) (st := []) hM (by decide) yfX10_takeTable mlX10_242 imX10_takeTable seX10_takeTable clX10 (kd3 hJ.1.1) rfl (Nat.le_of_ble_eq_true rfl) rfl dX10_mayEnd_88 q) (by decide) (by decide) (fun v10 σ11 => ?_)
      refine P_l (fun hJ _ _ q => E_aload_n dX10_mayEnd_91 rfl (E_getR (b := 37) clX10 6 (by decide) flX10_50 (Or.inl ⟨_, rfl⟩) dX10_mayEnd_92 (kd3 hJ.1.1) (rf3_6 hJ.1.1) (by decide) (E_aload_n dX10_mayEnd_95 rfl (E_getR (b := 4) clX10 0 (by decide) flX10_12 (Or.inl ⟨_, rfl⟩) dX10_mayEnd_96 (kd3 hJ.1.1) (rf3_0 hJ.1.1) (by decide) (E_iconst (v := 1) dX10_mayEnd_99 (by decide) (E_aload_n dX10_mayEnd_100 rfl (E_getR (b := 4) clX10 0 (by decide) flX10_12 (Or.inl ⟨_, rfl⟩) dX10_mayEnd_101 (kd3 hJ.1.1) (rf3_0 hJ.1.1) (by decide) (E_getIN clX5 0 (by decide) flX10_88 (Or.inl rfl) dX10_mayEnd_104 (kd4 hJ.1.1) (E_iconst (v := 1) dX10_mayEnd_107 (by decide) (E_iadd dX10_mayEnd_108 q)))))))))) ?_
      refine P_call (t := fun v => some (.int v)) (st2 := fun v => .int v :: []) (kc2 := 0) (ks2 := 0) (fun hJ => (ok_X9_go (σ := σ11) (p2 := 1) (p3 := (rI σ11 4 0) + 1) )) (fun hJ _ _ _ _ v τ1 hM q => E_callVN (as := [.ref 4, .int 1, .int ((rI σ11 4 0) + 1)]) (b := 37) (st := []) hM (by decide) yfX9_go mlX10_245 imX9_go seX9_go clX9 (kd37 hJ.1.1) rfl (Nat.le_of_ble_eq_true rfl) rfl dX10_mayEnd_109 q) (by decide) (by decide) (fun v12 σ13 => ?_)
      refine P_l (pc2 := 120) (ls2 := [none]) (st2 := [.int (if v12 ≤ 0 then 0 else 1)]) (fun hJ _ _ hq => ?_) ?_
      · skip
        refine E_if_le 119 dX10_mayEnd_112 (by decide) (fun c_112_0 => ?_) (fun c_112_0 => ?_)
        · skip
          refine E_iconst (v := 0) dX10_mayEnd_119 (by decide) ?_
          simp only [if_pos c_112_0] at hq
          exact E_less hq (rLe_at [none] [some (.ref 3)] trivial)
        · skip
          refine E_iconst (v := 1) dX10_mayEnd_115 (by decide) ?_
          refine E_goto 120 dX10_mayEnd_116 (by decide) ?_
          simp only [if_neg c_112_0] at hq
          exact E_less hq (rLe_at [none] [some (.ref 3)] trivial)
      · skip
        exact P_ret (fun _ _ => E_zret01 rfl (by split <;> decide) dX10_mayEnd_120)

def b_X10_endRound_4 (p1 : Int32) (s3 : Int32 × Int32 × rS) : Option (((Unit × rS) ⊕ (Int32 × rS)) ⊕ (Int32 × Int32 × rS)) := if (rI s3.2.2 19 0) ≤ s3.2.1 then (some (.inl (.inr ((s3.1, s3.2.2))))) else (if s3.2.1 = p1 then (some (.inr ((s3.1, s3.2.1 + 1, s3.2.2)))) else ((f_X1_worthOf s3.2.2 5 s3.2.1).bind fun v4 => oLet (rowI s3.2.2 22 (vSet (rI s3.2.2 22) 4 s3.2.1 ((vAt (rI s3.2.2 22) 4 s3.2.1) - v4))) fun σ5 => some (.inr ((s3.1 + v4, s3.2.1 + 1, σ5)))))
def f_X10_endRound (σ : rS) (p1 : Int32) : Option (Unit × rS) := oJoin (oLoop (b_X10_endRound_4 p1) oFuel ((0, 0, σ))) fun j2 => oLet (rowI j2.2 22 (vSet (rI j2.2 22) 4 p1 ((vAt (rI j2.2 22) 4 p1) + j2.1))) fun σ6 => oLet (rowI σ6 27 (vSet (rI σ6 27) 4 p1 ((vAt (rI σ6 27) 4 p1) + 1))) fun σ7 => oB (f_X6_climb σ7 p1) fun _ σ9 => oLet (wI σ9 3 8 ((-1))) fun σ10 => oLet (wI σ10 3 11 p1) fun σ11 => oLet (wI σ11 3 10 ((rI σ11 3 10) + 1)) fun σ12 => some (((), σ12))
set_option maxRecDepth 20000 in
set_option maxHeartbeats 2000000 in
theorem ok_X10_endRound {σ : rS} {p1 : Int32}   : rFn Sy yX10_endRound mX10_endRound 3 [.ref 3, .int p1] σ 0 0 (fun _ => .inl none) (f_X10_endRound σ p1) := by
  refine rF_of (ls := [some (.ref 3), some (.int p1), none, none, none]) yfX10_endRound rfl (Nat.le_of_ble_eq_true rfl) (fun o τ => ?_)
  unfold f_X10_endRound
  refine P_l (fun hJ _ _ q => E_iconst (v := 0) dX10_endRound_0 (by decide) (E_istore_n (ls2 := [some (.ref 3), some (.int p1), some (.int 0), none, none]) dX10_endRound_1 (by decide) rfl (E_iconst (v := 0) dX10_endRound_2 (by decide) (E_istore_n (ls2 := [some (.ref 3), some (.int p1), some (.int 0), some (.int 0), none]) dX10_endRound_3 (by decide) rfl q)))) ?_
  refine P_join (pc2 := 66) (fun j2 => [some (.ref 3), some (.int p1), some (.int j2.1), none, none]) (fun j2 => []) (fun j2 => j2.2) ?_ (fun j2 => ?_)
  · skip
    refine P_loop (fun s3 => [some (.ref 3), some (.int p1), some (.int s3.1), some (.int s3.2.1), none]) (fun s3 => s3.2.2) (fun s3 => ?_) _ ((0, 0, σ))
    unfold b_X10_endRound_4
    refine P_l (fun hJ _ _ q => E_iload_n dX10_endRound_4 rfl (E_aload_n dX10_endRound_5 rfl (E_getR (b := 19) clX10 3 (by decide) flX10_29 (Or.inl ⟨_, rfl⟩) dX10_endRound_6 (kd3 hJ.1.1) (rf3_3 hJ.1.1) (by decide) (E_getIN clX6 0 (by decide) flX10_111 (Or.inl rfl) dX10_endRound_9 (kd19 hJ.1.1) q)))) ?_
    refine P_if (fun hJ _ _ h1 h2 => E_icmp_ge 66 dX10_endRound_12 (by decide) h1 h2) ?_ ?_
    · skip
      refine P_less [some (.ref 3), some (.int p1), some (.int s3.1), none, none] (And.intro rfl (And.intro rfl (And.intro rfl trivial))) ?_
      exact P_inl (P_back ((s3.1, s3.2.2)))
    · skip
      refine P_l (fun hJ _ _ q => E_iload_n dX10_endRound_15 rfl (E_iload_n dX10_endRound_16 rfl q)) ?_
      refine P_if (fun hJ _ _ h1 h2 => E_icmp_eq 60 dX10_endRound_17 (by decide) h1 h2) ?_ ?_
      · skip
        refine P_l (fun hJ _ _ q => E_iinc (v := 1) (ls2 := [some (.ref 3), some (.int p1), some (.int s3.1), some (.int (s3.2.1 + 1)), none]) dX10_endRound_60 rfl (by decide) (by decide) rfl (E_goto 4 dX10_endRound_63 (by decide) q)) ?_
        exact P_back ((s3.1, s3.2.1 + 1, s3.2.2))
      · skip
        refine P_l (fun hJ _ _ q => E_aload_n dX10_endRound_20 rfl (E_getR (b := 5) clX10 1 (by decide) flX10_19 (Or.inl ⟨_, rfl⟩) dX10_endRound_21 (kd3 hJ.1.1) (rf3_1 hJ.1.1) (by decide) (E_iload_n dX10_endRound_24 rfl q))) ?_
        refine P_callr (t := fun v => some (.int v)) (st2 := fun v => .int v :: []) (fun hJ => (ok_X1_worthOf (σ := s3.2.2) (b := 5) (p := s3.2.1) (Or.inl rfl))) (fun hJ _ _ v hM q => E_callVN (as := [.int s3.2.1]) (b := 5) (st := []) hM (by decide) yfX1_worthOf mlX10_347 imX1_worthOf seX1_worthOf clX1 (kd5 hJ.1.1) rfl (Nat.le_of_ble_eq_true rfl) rfl dX10_endRound_25 q) (fun v4 => ?_)
        refine P_l (fun hJ _ _ q => E_istore (ls2 := [some (.ref 3), some (.int p1), some (.int s3.1), some (.int s3.2.1), some (.int v4)]) dX10_endRound_28 (by decide) rfl (E_aload_n dX10_endRound_30 rfl (E_getR (b := 19) clX10 3 (by decide) flX10_29 (Or.inl ⟨_, rfl⟩) dX10_endRound_31 (kd3 hJ.1.1) (rf3_3 hJ.1.1) (by decide) (E_getRN (b := 22) clX6 3 (by decide) flX10_344 (Or.inr ⟨_, rfl⟩) dX10_endRound_34 (kd19 hJ.1.1) (rf19_3 hJ.1.1) (by decide) (E_iload_n dX10_endRound_37 rfl (E_aload_n dX10_endRound_38 rfl (E_getR (b := 19) clX10 3 (by decide) flX10_29 (Or.inl ⟨_, rfl⟩) dX10_endRound_39 (kd3 hJ.1.1) (rf3_3 hJ.1.1) (by decide) (E_getRN (b := 22) clX6 3 (by decide) flX10_344 (Or.inr ⟨_, rfl⟩) dX10_endRound_42 (kd19 hJ.1.1) (rf19_3 hJ.1.1) (by decide) (E_iload_n dX10_endRound_45 rfl (E_callS (as := [.ref 22, .int s3.2.1]) (st := [.int s3.2.1, .ref 22]) (ok_at (σ := s3.2.2) (a := 22) (i := s3.2.1) (f := rI s3.2.2 22) (kd22 hJ.1.1) (by decide) rfl) (by decide) yfX10_at mlX10_193 stX10_at rfl (Nat.le_of_ble_eq_true rfl) rfl dX10_endRound_46 (E_iload dX10_endRound_49 rfl (E_isub dX10_endRound_51 q)))))))))))) ?_
        refine P_w (fun hJ _ _ q => E_callS (as := [.ref 22, .int s3.2.1, .int ((vAt (rI s3.2.2 22) 4 s3.2.1) - v4)]) (st := []) (ok_set (σ := s3.2.2) (a := 22) (i := s3.2.1) (x := (vAt (rI s3.2.2 22) 4 s3.2.1) - v4) (f := rI s3.2.2 22) (kd22 hJ.1.1) (by decide) (by decide) rfl) (by decide) yfX10_set mlX10_202 stX10_set rfl (Nat.le_of_ble_eq_true rfl) rfl dX10_endRound_52 q) (fun hJ => Sy_rowI hJ.1) rfl rfl rfl (fun σ5 hσ5 => ?_)
        refine P_l (fun hJ _ _ q => E_iload_n dX10_endRound_55 rfl (E_iload dX10_endRound_56 rfl (E_iadd dX10_endRound_58 (E_istore_n (ls2 := [some (.ref 3), some (.int p1), some (.int (s3.1 + v4)), some (.int s3.2.1), some (.int v4)]) dX10_endRound_59 (by decide) rfl (E_iinc (v := 1) (ls2 := [some (.ref 3), some (.int p1), some (.int (s3.1 + v4)), some (.int (s3.2.1 + 1)), some (.int v4)]) dX10_endRound_60 rfl (by decide) (by decide) rfl (E_goto 4 dX10_endRound_63 (by decide) q)))))) ?_
        refine P_less [some (.ref 3), some (.int p1), some (.int (s3.1 + v4)), some (.int (s3.2.1 + 1)), none] (And.intro rfl (And.intro rfl (And.intro rfl (And.intro rfl trivial)))) ?_
        exact P_back ((s3.1 + v4, s3.2.1 + 1, σ5))
  · skip
    refine P_l (fun hJ _ _ q => E_aload_n dX10_endRound_66 rfl (E_getR (b := 19) clX10 3 (by decide) flX10_29 (Or.inl ⟨_, rfl⟩) dX10_endRound_67 (kd3 hJ.1.1) (rf3_3 hJ.1.1) (by decide) (E_getRN (b := 22) clX6 3 (by decide) flX10_344 (Or.inr ⟨_, rfl⟩) dX10_endRound_70 (kd19 hJ.1.1) (rf19_3 hJ.1.1) (by decide) (E_iload_n dX10_endRound_73 rfl (E_aload_n dX10_endRound_74 rfl (E_getR (b := 19) clX10 3 (by decide) flX10_29 (Or.inl ⟨_, rfl⟩) dX10_endRound_75 (kd3 hJ.1.1) (rf3_3 hJ.1.1) (by decide) (E_getRN (b := 22) clX6 3 (by decide) flX10_344 (Or.inr ⟨_, rfl⟩) dX10_endRound_78 (kd19 hJ.1.1) (rf19_3 hJ.1.1) (by decide) (E_iload_n dX10_endRound_81 rfl (E_callS (as := [.ref 22, .int p1]) (st := [.int p1, .ref 22]) (ok_at (σ := j2.2) (a := 22) (i := p1) (f := rI j2.2 22) (kd22 hJ.1.1) (by decide) rfl) (by decide) yfX10_at mlX10_193 stX10_at rfl (Nat.le_of_ble_eq_true rfl) rfl dX10_endRound_82 (E_iload_n dX10_endRound_85 rfl (E_iadd dX10_endRound_86 q))))))))))) ?_
    refine P_w (fun hJ _ _ q => E_callS (as := [.ref 22, .int p1, .int ((vAt (rI j2.2 22) 4 p1) + j2.1)]) (st := []) (ok_set (σ := j2.2) (a := 22) (i := p1) (x := (vAt (rI j2.2 22) 4 p1) + j2.1) (f := rI j2.2 22) (kd22 hJ.1.1) (by decide) (by decide) rfl) (by decide) yfX10_set mlX10_202 stX10_set rfl (Nat.le_of_ble_eq_true rfl) rfl dX10_endRound_87 q) (fun hJ => Sy_rowI hJ.1) rfl rfl rfl (fun σ6 hσ6 => ?_)
    refine P_l (fun hJ _ _ q => E_aload_n dX10_endRound_90 rfl (E_getR (b := 19) clX10 3 (by decide) flX10_29 (Or.inl ⟨_, rfl⟩) dX10_endRound_91 (kd3 hJ.1.1) (rf3_3 hJ.1.1) (by decide) (E_getRN (b := 27) clX6 8 (by decide) flX10_353 (Or.inr ⟨_, rfl⟩) dX10_endRound_94 (kd19 hJ.1.1) (rf19_8 hJ.1.1) (by decide) (E_iload_n dX10_endRound_97 rfl (E_aload_n dX10_endRound_98 rfl (E_getR (b := 19) clX10 3 (by decide) flX10_29 (Or.inl ⟨_, rfl⟩) dX10_endRound_99 (kd3 hJ.1.1) (rf3_3 hJ.1.1) (by decide) (E_getRN (b := 27) clX6 8 (by decide) flX10_353 (Or.inr ⟨_, rfl⟩) dX10_endRound_102 (kd19 hJ.1.1) (rf19_8 hJ.1.1) (by decide) (E_iload_n dX10_endRound_105 rfl (E_callS (as := [.ref 27, .int p1]) (st := [.int p1, .ref 27]) (ok_at (σ := σ6) (a := 27) (i := p1) (f := rI σ6 27) (kd27 hJ.1.1) (by decide) rfl) (by decide) yfX10_at mlX10_193 stX10_at rfl (Nat.le_of_ble_eq_true rfl) rfl dX10_endRound_106 (E_iconst (v := 1) dX10_endRound_109 (by decide) (E_iadd dX10_endRound_110 q))))))))))) ?_
    refine P_w (fun hJ _ _ q => E_callS (as := [.ref 27, .int p1, .int ((vAt (rI σ6 27) 4 p1) + 1)]) (st := []) (ok_set (σ := σ6) (a := 27) (i := p1) (x := (vAt (rI σ6 27) 4 p1) + 1) (f := rI σ6 27) (kd27 hJ.1.1) (by decide) (by decide) rfl) (by decide) yfX10_set mlX10_202 stX10_set rfl (Nat.le_of_ble_eq_true rfl) rfl dX10_endRound_111 q) (fun hJ => Sy_rowI hJ.1) rfl rfl rfl (fun σ7 hσ7 => ?_)
    refine P_l (fun hJ _ _ q => E_aload_n dX10_endRound_114 rfl (E_getR (b := 19) clX10 3 (by decide) flX10_29 (Or.inl ⟨_, rfl⟩) dX10_endRound_115 (kd3 hJ.1.1) (rf3_3 hJ.1.1) (by decide) (E_iload_n dX10_endRound_118 rfl q))) ?_
    refine P_call (t := fun _ => none) (st2 := fun _ => []) (kc2 := 0) (ks2 := 0) (fun hJ => (ok_X6_climb (σ := σ7) (p1 := p1) )) (fun hJ _ _ _ _ v τ1 hM q => E_callVN (as := [.int p1]) (b := 19) (st := []) hM (by decide) yfX6_climb mlX10_448 imX6_climb seX6_climb clX6 (kd19 hJ.1.1) rfl (Nat.le_of_ble_eq_true rfl) rfl dX10_endRound_119 q) (by decide) (by decide) (fun v8 σ9 => ?_)
    refine P_l (fun hJ _ _ q => E_aload_n dX10_endRound_122 rfl (E_iconst (v := (-1)) dX10_endRound_123 (by decide) q)) ?_
    refine P_w (fun hJ _ _ q => E_putI clX10 8 (by decide) flX10_61 (Or.inl rfl) rfl dX10_endRound_124 (kd3 hJ.1.1) q) (fun hJ => Sy_wI hJ.1) rfl rfl rfl (fun σ10 hσ10 => ?_)
    refine P_l (fun hJ _ _ q => E_aload_n dX10_endRound_127 rfl (E_iload_n dX10_endRound_128 rfl q)) ?_
    refine P_w (fun hJ _ _ q => E_putI clX10 11 (by decide) flX10_65 (Or.inl rfl) rfl dX10_endRound_129 (kd3 hJ.1.1) q) (fun hJ => Sy_wI hJ.1) rfl rfl rfl (fun σ11 hσ11 => ?_)
    refine P_l (fun hJ _ _ q => E_aload_n dX10_endRound_132 rfl (E_dup dX10_endRound_133 rfl (E_getI clX10 10 (by decide) flX10_394 (Or.inl rfl) dX10_endRound_134 (kd3 hJ.1.1) (E_iconst (v := 1) dX10_endRound_137 (by decide) (E_iadd dX10_endRound_138 q))))) ?_
    refine P_w (fun hJ _ _ q => E_putI clX10 10 (by decide) flX10_394 (Or.inl rfl) rfl dX10_endRound_139 (kd3 hJ.1.1) q) (fun hJ => Sy_wI hJ.1) rfl rfl rfl (fun σ12 hσ12 => ?_)
    exact P_ret (fun _ _ => E_vret rfl dX10_endRound_142)

def f_X10_passOn (σ : rS) : Option (Unit × rS) := oLet (wI σ 3 8 (if (rI σ 19 0) ≤ ((rI σ 3 8) + 1) then 0 else ((rI σ 3 8) + 1))) fun σ1 => some (((), σ1))
set_option maxRecDepth 20000 in
set_option maxHeartbeats 2000000 in
theorem ok_X10_passOn {σ : rS}   : rFn Sy yX10_passOn mX10_passOn 0 [.ref 3] σ 0 0 (fun _ => .inl none) (f_X10_passOn σ) := by
  refine rF_of (ls := [some (.ref 3)]) yfX10_passOn rfl (Nat.le_of_ble_eq_true rfl) (fun o τ => ?_)
  unfold f_X10_passOn
  refine P_l (fun hJ _ _ q => E_aload_n dX10_passOn_0 rfl (E_aload_n dX10_passOn_1 rfl (E_getI clX10 8 (by decide) flX10_61 (Or.inl rfl) dX10_passOn_2 (kd3 hJ.1.1) (E_iconst (v := 1) dX10_passOn_5 (by decide) (E_iadd dX10_passOn_6 (E_aload_n dX10_passOn_7 rfl (E_getR (b := 19) clX10 3 (by decide) flX10_29 (Or.inl ⟨_, rfl⟩) dX10_passOn_8 (kd3 hJ.1.1) (rf3_3 hJ.1.1) (by decide) (E_getIN clX6 0 (by decide) flX10_111 (Or.inl rfl) dX10_passOn_11 (kd19 hJ.1.1) q)))))))) ?_
  refine P_l (pc2 := 27) (ls2 := [none]) (st2 := [.int (if (rI σ 19 0) ≤ ((rI σ 3 8) + 1) then 0 else ((rI σ 3 8) + 1)), .ref 3]) (fun hJ _ _ hq => ?_) ?_
  · skip
    refine E_icmp_ge 26 dX10_passOn_14 (by decide) (fun c_14_0 => ?_) (fun c_14_0 => ?_)
    · skip
      refine E_iconst (v := 0) dX10_passOn_26 (by decide) ?_
      simp only [if_pos c_14_0] at hq
      exact E_less hq (rLe_at [none] [some (.ref 3)] trivial)
    · skip
      refine E_aload_n dX10_passOn_17 rfl ?_
      refine E_getI clX10 8 (by decide) flX10_61 (Or.inl rfl) dX10_passOn_18 (kd3 hJ.1.1) ?_
      refine E_iconst (v := 1) dX10_passOn_21 (by decide) ?_
      refine E_iadd dX10_passOn_22 ?_
      refine E_goto 27 dX10_passOn_23 (by decide) ?_
      simp only [if_neg c_14_0] at hq
      exact E_less hq (rLe_at [none] [some (.ref 3)] trivial)
  · skip
    refine P_w (fun hJ _ _ q => E_putI clX10 8 (by decide) flX10_61 (Or.inl rfl) rfl dX10_passOn_27 (kd3 hJ.1.1) q) (fun hJ => Sy_wI hJ.1) rfl rfl rfl (fun σ1 hσ1 => ?_)
    exact P_ret (fun _ _ => E_vret rfl dX10_passOn_30)

def f_X10_endByLaying (σ : rS) : Option (Unit × rS) := oB (f_X2_add σ 5 (rI σ 3 8) ((-1)) 0) fun _ σ2 => oLet (rowI σ2 24 (vSet (rI σ2 24) 4 (rI σ 3 8) 1)) fun σ3 => oB (f_X1_settle σ3 5) fun _ σ5 => oLet (wI σ5 3 9 0) fun σ6 => if (v_X1_sizeOf σ6 5 (rI σ 3 8)) = 0 then (oB (f_X10_endRound σ6 (rI σ 3 8)) fun _ σ8 => some (((), σ8))) else (oB (f_X10_passOn σ6) fun _ σ10 => some (((), σ10)))
set_option maxRecDepth 20000 in
set_option maxHeartbeats 2000000 in
theorem ok_X10_endByLaying {σ : rS}   : rFn Sy yX10_endByLaying mX10_endByLaying 4 [.ref 3] σ 0 0 (fun _ => .inl none) (f_X10_endByLaying σ) := by
  refine rF_of (ls := [some (.ref 3), none]) yfX10_endByLaying rfl (Nat.le_of_ble_eq_true rfl) (fun o τ => ?_)
  unfold f_X10_endByLaying
  refine P_l (fun hJ _ _ q => E_aload_n dX10_endByLaying_0 rfl (E_getI clX10 8 (by decide) flX10_61 (Or.inl rfl) dX10_endByLaying_1 (kd3 hJ.1.1) (E_istore_n (ls2 := [some (.ref 3), some (.int (rI σ 3 8))]) dX10_endByLaying_4 (by decide) rfl (E_aload_n dX10_endByLaying_5 rfl (E_getR (b := 35) clX10 5 (by decide) flX10_43 (Or.inl ⟨_, rfl⟩) dX10_endByLaying_6 (kd3 hJ.1.1) (rf3_5 hJ.1.1) (by decide) (E_iconst (v := 5) dX10_endByLaying_9 (by decide) (E_iload_n dX10_endByLaying_10 rfl (E_iconst (v := (-1)) dX10_endByLaying_11 (by decide) (E_iconst (v := 0) dX10_endByLaying_12 (by decide) q))))))))) ?_
  refine P_call (t := fun _ => none) (st2 := fun _ => []) (kc2 := 0) (ks2 := 0) (fun hJ => (ok_X2_add (σ := σ) (p1 := 5) (p2 := rI σ 3 8) (p3 := (-1)) (p4 := 0) )) (fun hJ _ _ _ _ v τ1 hM q => E_callVN (as := [.int 5, .int (rI σ 3 8), .int ((-1)), .int 0]) (b := 35) (st := []) hM (by decide) yfX2_add mlX10_413 imX2_add seX2_add clX2 (kd35 hJ.1.1) rfl (Nat.le_of_ble_eq_true rfl) rfl dX10_endByLaying_13 q) (by decide) (by decide) (fun v1 σ2 => ?_)
  refine P_l (fun hJ _ _ q => E_aload_n dX10_endByLaying_16 rfl (E_getR (b := 19) clX10 3 (by decide) flX10_29 (Or.inl ⟨_, rfl⟩) dX10_endByLaying_17 (kd3 hJ.1.1) (rf3_3 hJ.1.1) (by decide) (E_getRN (b := 24) clX6 5 (by decide) flX10_401 (Or.inr ⟨_, rfl⟩) dX10_endByLaying_20 (kd19 hJ.1.1) (rf19_5 hJ.1.1) (by decide) (E_iload_n dX10_endByLaying_23 rfl (E_iconst (v := 1) dX10_endByLaying_24 (by decide) q))))) ?_
  refine P_w (fun hJ _ _ q => E_callS (as := [.ref 24, .int (rI σ 3 8), .int 1]) (st := []) (ok_set (σ := σ2) (a := 24) (i := rI σ 3 8) (x := 1) (f := rI σ2 24) (kd24 hJ.1.1) (by decide) (by decide) rfl) (by decide) yfX10_set mlX10_202 stX10_set rfl (Nat.le_of_ble_eq_true rfl) rfl dX10_endByLaying_25 q) (fun hJ => Sy_rowI hJ.1) rfl rfl rfl (fun σ3 hσ3 => ?_)
  refine P_l (fun hJ _ _ q => E_aload_n dX10_endByLaying_28 rfl (E_getR (b := 5) clX10 1 (by decide) flX10_19 (Or.inl ⟨_, rfl⟩) dX10_endByLaying_29 (kd3 hJ.1.1) (rf3_1 hJ.1.1) (by decide) q)) ?_
  refine P_call (t := fun _ => none) (st2 := fun _ => []) (kc2 := 0) (ks2 := 0) (fun hJ => (ok_X1_settle (σ := σ3) (b := 5) (Or.inl rfl))) (fun hJ _ _ _ _ v τ1 hM q => E_callVN (as := []) (b := 5) (st := []) hM (by decide) yfX1_settle mlX10_423 imX1_settle seX1_settle clX1 (kd5 hJ.1.1) rfl (Nat.le_of_ble_eq_true rfl) rfl dX10_endByLaying_32 q) (by decide) (by decide) (fun v4 σ5 => ?_)
  refine P_l (fun hJ _ _ q => E_aload_n dX10_endByLaying_35 rfl (E_iconst (v := 0) dX10_endByLaying_36 (by decide) q)) ?_
  refine P_w (fun hJ _ _ q => E_putI clX10 9 (by decide) flX10_130 (Or.inl rfl) rfl dX10_endByLaying_37 (kd3 hJ.1.1) q) (fun hJ => Sy_wI hJ.1) rfl rfl rfl (fun σ6 hσ6 => ?_)
  refine P_l (fun hJ _ _ q => E_aload_n dX10_endByLaying_40 rfl (E_getR (b := 5) clX10 1 (by decide) flX10_19 (Or.inl ⟨_, rfl⟩) dX10_endByLaying_41 (kd3 hJ.1.1) (rf3_1 hJ.1.1) (by decide) (E_iload_n dX10_endByLaying_44 rfl (E_callVN (as := [.int (rI σ 3 8)]) (b := 5) (st := []) (ok_X1_sizeOf (σ := σ6) (b := 5) (p := rI σ 3 8) hJ (Or.inl rfl)) (by decide) yfX1_sizeOf mlX10_301 imX1_sizeOf seX1_sizeOf clX1 (kd5 hJ.1.1) rfl (Nat.le_of_ble_eq_true rfl) rfl dX10_endByLaying_45 q)))) ?_
  refine P_if (fun hJ _ _ h1 h2 => E_if_ne 59 dX10_endByLaying_48 (by decide) h2 h1) ?_ ?_
  · skip
    refine P_l (fun hJ _ _ q => E_aload_n dX10_endByLaying_51 rfl (E_iload_n dX10_endByLaying_52 rfl q)) ?_
    refine P_call (t := fun _ => none) (st2 := fun _ => []) (kc2 := 0) (ks2 := 0) (fun hJ => (ok_X10_endRound (σ := σ6) (p1 := rI σ 3 8) )) (fun hJ _ _ _ _ v τ1 hM q => E_callV (as := [.int (rI σ 3 8)]) (b := 3) (st := []) hM (by decide) yfX10_endRound mlX10_426 imX10_endRound seX10_endRound clX10 (kd3 hJ.1.1) rfl (Nat.le_of_ble_eq_true rfl) rfl dX10_endByLaying_53 q) (by decide) (by decide) (fun v7 σ8 => ?_)
    refine P_l (fun hJ _ _ q => E_goto 63 dX10_endByLaying_56 (by decide) q) ?_
    exact P_ret (fun _ _ => E_vret rfl dX10_endByLaying_63)
  · skip
    refine P_l (fun hJ _ _ q => E_aload_n dX10_endByLaying_59 rfl q) ?_
    refine P_call (t := fun _ => none) (st2 := fun _ => []) (kc2 := 0) (ks2 := 0) (fun hJ => (ok_X10_passOn (σ := σ6)  )) (fun hJ _ _ _ _ v τ1 hM q => E_callV (as := []) (b := 3) (st := []) hM (by decide) yfX10_passOn mlX10_429 imX10_passOn seX10_passOn clX10 (kd3 hJ.1.1) rfl (Nat.le_of_ble_eq_true rfl) rfl dX10_endByLaying_60 q) (by decide) (by decide) (fun v9 σ10 => ?_)
    exact P_ret (fun _ _ => E_vret rfl dX10_endByLaying_63)

def f_X10_end (σ : rS) : Option ((Int32 ⊕ String) × rS) := oB (f_X10_mayEnd σ) fun v1 σ2 => if v1 = 0 then (some ((.inr "java/lang/IllegalStateException", σ2))) else (oB (f_X10_endByLaying σ2) fun _ σ4 => some ((.inl (rI σ4 3 8), σ4)))
set_option maxRecDepth 20000 in
set_option maxHeartbeats 2000000 in
theorem ok_X10_end {σ : rS}   : rFn Sy yX10_end mX10_end 6 [.ref 3] σ 1 6 (tX (fun v => .inl (some (.int v)))) (f_X10_end σ) := by
  refine rF_of (ls := [some (.ref 3)]) yfX10_end rfl (Nat.le_of_ble_eq_true rfl) (fun o τ => ?_)
  unfold f_X10_end
  refine P_l (fun hJ _ _ q => E_aload_n dX10_end_0 rfl q) ?_
  refine P_call (t := fun v => some (.int v)) (st2 := fun v => .int v :: []) (kc2 := 1) (ks2 := 6) (fun hJ => (ok_X10_mayEnd (σ := σ)  )) (fun hJ _ _ _ _ v τ1 hM q => E_callV (as := []) (b := 3) (st := []) hM (by decide) yfX10_mayEnd mlX10_177 imX10_mayEnd seX10_mayEnd clX10 (kd3 hJ.1.1) rfl (Nat.le_of_ble_eq_true rfl) rfl dX10_end_1 q) (by decide) (by decide) (fun v1 σ2 => ?_)
  refine P_if (fun hJ _ _ h1 h2 => E_if_ne 15 dX10_end_4 (by decide) h2 h1) ?_ ?_
  · skip
    exact P_thr (fun kc ks => xt_IllegalStateException rfl rfl (by decide) (Nat.le_of_ble_eq_true rfl) dX10_end_7 dX10_end_10 dX10_end_11 dX10_end_14 kc ks) (by decide) (by decide)
  · skip
    refine P_l (fun hJ _ _ q => E_aload_n dX10_end_15 rfl q) ?_
    refine P_call (t := fun _ => none) (st2 := fun _ => []) (kc2 := 1) (ks2 := 6) (fun hJ => (ok_X10_endByLaying (σ := σ2)  )) (fun hJ _ _ _ _ v τ1 hM q => E_callV (as := []) (b := 3) (st := []) hM (by decide) yfX10_endByLaying mlX10_180 imX10_endByLaying seX10_endByLaying clX10 (kd3 hJ.1.1) rfl (Nat.le_of_ble_eq_true rfl) rfl dX10_end_16 q) (by decide) (by decide) (fun v3 σ4 => ?_)
    refine P_l (fun hJ _ _ q => E_aload_n dX10_end_19 rfl (E_getI clX10 8 (by decide) flX10_61 (Or.inl rfl) dX10_end_20 (kd3 hJ.1.1) q)) ?_
    exact P_ret (fun _ _ => E_iret rfl dX10_end_23)

def f_X10_needRound (σ : rS) : Option ((Unit ⊕ String) × rS) := if (v_X10_isOn σ) = 0 then (some ((.inr "java/lang/IllegalStateException", σ))) else (some ((.inl (()), σ)))
set_option maxRecDepth 20000 in
set_option maxHeartbeats 2000000 in
theorem ok_X10_needRound {σ : rS}   : rFn Sy yX10_needRound mX10_needRound 6 [.ref 3] σ 1 6 (tX (fun _ => .inl none)) (f_X10_needRound σ) := by
  refine rF_of (ls := [some (.ref 3)]) yfX10_needRound rfl (Nat.le_of_ble_eq_true rfl) (fun o τ => ?_)
  unfold f_X10_needRound
  refine P_l (fun hJ _ _ q => E_aload_n dX10_needRound_0 rfl (E_callV (as := []) (b := 3) (st := []) (ok_X10_isOn (σ := σ)  hJ ) (by decide) yfX10_isOn mlX10_81 imX10_isOn seX10_isOn clX10 (kd3 hJ.1.1) rfl (Nat.le_of_ble_eq_true rfl) rfl dX10_needRound_1 q)) ?_
  refine P_if (fun hJ _ _ h1 h2 => E_if_ne 15 dX10_needRound_4 (by decide) h2 h1) ?_ ?_
  · skip
    exact P_thr (fun kc ks => xt_IllegalStateException rfl rfl (by decide) (Nat.le_of_ble_eq_true rfl) dX10_needRound_7 dX10_needRound_10 dX10_needRound_11 dX10_needRound_14 kc ks) (by decide) (by decide)
  · skip
    exact P_ret (fun _ _ => E_vret rfl dX10_needRound_15)

def f_X10_findAlone (σ : rS) : Option (Int64 × rS) := if (rI σ 3 16) = (rI σ 5 12) then (some ((rL σ 3 17, σ))) else (oB (f_X10_takeTable σ) fun _ σ2 => oB (f_X9_go σ2 3 ((rI σ2 4 0) + 1)) fun v3 σ4 => oJoin (if v3 ≤ 0 then (some (.inr (0 : Int64))) else (if inB 0 ((rK σ4 (rR σ4 (rR σ4 37 5) 0)).2) then (some (.inr (rL σ4 (rR σ4 (rR σ4 37 5) 1) (0 : Int32).toNatClampNeg))) else none)) fun j5 => oLet (wL σ4 3 17 j5) fun σ7 => oLet (wI σ7 3 16 (rI σ7 5 12)) fun σ8 => some ((rL σ8 3 17, σ8)))
set_option maxRecDepth 20000 in
set_option maxHeartbeats 2000000 in
theorem ok_X10_findAlone {σ : rS}   : rFn Sy yX10_findAlone mX10_findAlone 5 [.ref 3] σ 0 0 (fun v => .inl (some (.long v))) (f_X10_findAlone σ) := by
  refine rF_of (ls := [some (.ref 3)]) yfX10_findAlone rfl (Nat.le_of_ble_eq_true rfl) (fun o τ => ?_)
  unfold f_X10_findAlone
  refine P_l (fun hJ _ _ q => E_aload_n dX10_findAlone_0 rfl (E_getI clX10 16 (by decide) flX10_71 (Or.inl rfl) dX10_findAlone_1 (kd3 hJ.1.1) (E_aload_n dX10_findAlone_4 rfl (E_getR (b := 5) clX10 1 (by decide) flX10_19 (Or.inl ⟨_, rfl⟩) dX10_findAlone_5 (kd3 hJ.1.1) (rf3_1 hJ.1.1) (by decide) (E_getIN clX1 12 (by decide) flX10_460 (Or.inl rfl) dX10_findAlone_8 (kd5 hJ.1.1) q))))) ?_
  refine P_if (fun hJ _ _ h1 h2 => E_icmp_eq 73 dX10_findAlone_11 (by decide) h1 h2) ?_ ?_
  · skip
    refine P_l (fun hJ _ _ q => E_aload_n dX10_findAlone_73 rfl (E_getL clX10 17 (by decide) flX10_476 rfl dX10_findAlone_74 (kd3 hJ.1.1) q)) ?_
    exact P_ret (fun _ _ => E_lret rfl dX10_findAlone_77)
  · skip
    refine P_l (fun hJ _ _ q => E_aload_n dX10_findAlone_14 rfl q) ?_
    refine P_call (t := fun _ => none) (st2 := fun _ => []) (kc2 := 0) (ks2 := 0) (fun hJ => (ok_X10_takeTable (σ := σ)  )) (fun hJ _ _ _ _ v τ1 hM q => E_callV (as := []) (b := 3) (st := []) hM (by decide) yfX10_takeTable mlX10_242 imX10_takeTable seX10_takeTable clX10 (kd3 hJ.1.1) rfl (Nat.le_of_ble_eq_true rfl) rfl dX10_findAlone_15 q) (by decide) (by decide) (fun v1 σ2 => ?_)
    refine P_l (fun hJ _ _ q => E_aload_n dX10_findAlone_18 rfl (E_aload_n dX10_findAlone_19 rfl (E_getR (b := 37) clX10 6 (by decide) flX10_50 (Or.inl ⟨_, rfl⟩) dX10_findAlone_20 (kd3 hJ.1.1) (rf3_6 hJ.1.1) (by decide) (E_aload_n dX10_findAlone_23 rfl (E_getR (b := 4) clX10 0 (by decide) flX10_12 (Or.inl ⟨_, rfl⟩) dX10_findAlone_24 (kd3 hJ.1.1) (rf3_0 hJ.1.1) (by decide) (E_iconst (v := 3) dX10_findAlone_27 (by decide) (E_aload_n dX10_findAlone_28 rfl (E_getR (b := 4) clX10 0 (by decide) flX10_12 (Or.inl ⟨_, rfl⟩) dX10_findAlone_29 (kd3 hJ.1.1) (rf3_0 hJ.1.1) (by decide) (E_getIN clX5 0 (by decide) flX10_88 (Or.inl rfl) dX10_findAlone_32 (kd4 hJ.1.1) (E_iconst (v := 1) dX10_findAlone_35 (by decide) (E_iadd dX10_findAlone_36 q))))))))))) ?_
    refine P_call (t := fun v => some (.int v)) (st2 := fun v => .int v :: [.ref 3]) (kc2 := 0) (ks2 := 0) (fun hJ => (ok_X9_go (σ := σ2) (p2 := 3) (p3 := (rI σ2 4 0) + 1) )) (fun hJ _ _ _ _ v τ1 hM q => E_callVN (as := [.ref 4, .int 3, .int ((rI σ2 4 0) + 1)]) (b := 37) (st := [.ref 3]) hM (by decide) yfX9_go mlX10_245 imX9_go seX9_go clX9 (kd37 hJ.1.1) rfl (Nat.le_of_ble_eq_true rfl) rfl dX10_findAlone_37 q) (by decide) (by decide) (fun v3 σ4 => ?_)
    refine P_join (pc2 := 59) (fun j5 => [some (.ref 3)]) (fun j5 => [.long j5, .ref 3]) (fun _ => σ4) ?_ (fun j5 => ?_)
    · skip
      refine P_if (fun hJ _ _ h1 h2 => E_if_le 58 dX10_findAlone_40 (by decide) h1 h2) ?_ ?_
      · skip
        refine P_l (fun hJ _ _ q => E_lconst (v := 0) dX10_findAlone_58 (by decide) q) ?_
        exact P_back (0 : Int64)
      · skip
        refine P_l (fun hJ _ _ q => E_aload_n dX10_findAlone_43 rfl (E_getR (b := 37) clX10 6 (by decide) flX10_50 (Or.inl ⟨_, rfl⟩) dX10_findAlone_44 (kd3 hJ.1.1) (rf3_6 hJ.1.1) (by decide) (E_getRN (b := rR σ4 37 5) clX9 5 (by decide) flX10_463 (Or.inl ⟨_, rfl⟩) dX10_findAlone_47 (kd37 hJ.1.1) rfl (Nat.pos_iff_ne_zero.mp (Nat.lt_of_lt_of_le (by decide : 0 < 3) (Sy_here hJ.1).2)) (E_getRN (b := rR σ4 (rR σ4 37 5) 1) clX3 1 (by decide) flX10_467 (Or.inr ⟨_, rfl⟩) dX10_findAlone_50 (Sy_here hJ.1).1 rfl (Nat.pos_iff_ne_zero.mp (Nat.lt_of_lt_of_le (by decide : 0 < 3) (Sy_here1 hJ.1).2)) (E_iconst (v := 0) dX10_findAlone_53 (by decide) q))))) ?_
        refine P_g (fun g6 => ?_)
        refine P_l (fun hJ _ _ q => E_lald dX10_findAlone_54 (Sy_here1 hJ.1).1 (inB_vp g6) (E_goto 59 dX10_findAlone_55 (by decide) q)) ?_
        exact P_back (rL σ4 (rR σ4 (rR σ4 37 5) 1) (0 : Int32).toNatClampNeg)
    · skip
      refine P_w (fun hJ _ _ q => E_putL clX10 17 (by decide) flX10_476 rfl rfl dX10_findAlone_59 (kd3 hJ.1.1) q) (fun hJ => Sy_wL hJ.1) rfl rfl rfl (fun σ7 hσ7 => ?_)
      refine P_l (fun hJ _ _ q => E_aload_n dX10_findAlone_62 rfl (E_aload_n dX10_findAlone_63 rfl (E_getR (b := 5) clX10 1 (by decide) flX10_19 (Or.inl ⟨_, rfl⟩) dX10_findAlone_64 (kd3 hJ.1.1) (rf3_1 hJ.1.1) (by decide) (E_getIN clX1 12 (by decide) flX10_460 (Or.inl rfl) dX10_findAlone_67 (kd5 hJ.1.1) q)))) ?_
      refine P_w (fun hJ _ _ q => E_putI clX10 16 (by decide) flX10_71 (Or.inl rfl) rfl dX10_findAlone_70 (kd3 hJ.1.1) q) (fun hJ => Sy_wI hJ.1) rfl rfl rfl (fun σ8 hσ8 => ?_)
      refine P_l (fun hJ _ _ q => E_aload_n dX10_findAlone_73 rfl (E_getL clX10 17 (by decide) flX10_476 rfl dX10_findAlone_74 (kd3 hJ.1.1) q)) ?_
      exact P_ret (fun _ _ => E_lret rfl dX10_findAlone_77)

def f_X10_endByDrawing (σ : rS) (p1 : Int32) : Option (Int32 × rS) := oLet (if (rI σ 5 6) ≤ 0 then 0 else 1 : Int32) fun x1 => oB (f_X1_undoAll σ 5 (rI σ 3 8)) fun _ σ3 => oJoin (if (if x1 = 0 then (if (v_X10_hasMelded σ3 (rI σ 3 8)) = 0 then true else false) else true) = true then (some (.inr σ3)) else (oB (f_X10_findAlone σ3) fun v5 σ6 => oB (f_X6_pass σ6 (rI σ 3 8) v5) fun _ σ8 => some (.inr σ8))) fun j4 => oB (f_X1_drawUpTo j4 5 (rI σ 3 8) (if x1 = 0 then 1 else (rI j4 4 4))) fun v9 σ10 => oB (f_X6_freshen σ10 (rI σ 3 8) v9) fun _ σ12 => oB (f_X2_add σ12 p1 (rI σ 3 8) ((-1)) v9) fun _ σ14 => oLet (wI σ14 3 9 (if v9 = 0 then ((rI σ14 3 9) + 1) else 0)) fun σ15 => if (rI σ15 3 9) < (rI σ15 19 0) then (oB (f_X10_passOn σ15) fun _ σ17 => some ((v9, σ17))) else ((f_X1_lightest σ15 5 (rI σ15 19 0)).bind fun v18 => oB (f_X10_endRound σ15 v18) fun _ σ20 => some ((v9, σ20)))
set_option maxRecDepth 20000 in
set_option maxHeartbeats 2000000 in
theorem ok_X10_endByDrawing {σ : rS} {p1 : Int32}   : rFn Sy yX10_endByDrawing mX10_endByDrawing 6 [.ref 3, .int p1] σ 0 0 (fun v => .inl (some (.int v))) (f_X10_endByDrawing σ p1) := by
  refine rF_of (ls := [some (.ref 3), some (.int p1), none, none, none]) yfX10_endByDrawing rfl (Nat.le_of_ble_eq_true rfl) (fun o τ => ?_)
  unfold f_X10_endByDrawing
  refine P_l (fun hJ _ _ q => E_aload_n dX10_endByDrawing_0 rfl (E_getI clX10 8 (by decide) flX10_61 (Or.inl rfl) dX10_endByDrawing_1 (kd3 hJ.1.1) (E_istore_n (ls2 := [some (.ref 3), some (.int p1), some (.int (rI σ 3 8)), none, none]) dX10_endByDrawing_4 (by decide) rfl (E_aload_n dX10_endByDrawing_5 rfl (E_getR (b := 5) clX10 1 (by decide) flX10_19 (Or.inl ⟨_, rfl⟩) dX10_endByDrawing_6 (kd3 hJ.1.1) (rf3_1 hJ.1.1) (by decide) (E_getIN clX1 6 (by decide) flX10_174 (Or.inl rfl) dX10_endByDrawing_9 (kd5 hJ.1.1) q)))))) ?_
  refine P_l (pc2 := 20) (ls2 := [some (.ref 3), some (.int p1), some (.int (rI σ 3 8)), none, none]) (st2 := [.int (if (rI σ 5 6) ≤ 0 then 0 else 1)]) (fun hJ _ _ hq => ?_) ?_
  · skip
    refine E_if_le 19 dX10_endByDrawing_12 (by decide) (fun c_12_0 => ?_) (fun c_12_0 => ?_)
    · skip
      refine E_iconst (v := 0) dX10_endByDrawing_19 (by decide) ?_
      simp only [if_pos c_12_0] at hq
      exact hq
    · skip
      refine E_iconst (v := 1) dX10_endByDrawing_15 (by decide) ?_
      refine E_goto 20 dX10_endByDrawing_16 (by decide) ?_
      simp only [if_neg c_12_0] at hq
      exact hq
  · skip
    refine P_l (fun hJ _ _ q => E_istore_n (ls2 := [some (.ref 3), some (.int p1), some (.int (rI σ 3 8)), some (.int (if (rI σ 5 6) ≤ 0 then 0 else 1)), none]) dX10_endByDrawing_20 (by decide) rfl q) ?_
    refine P_v (if (rI σ 5 6) ≤ 0 then 0 else 1) (fun x => [some (.ref 3), some (.int p1), some (.int (rI σ 3 8)), some (.int x), none]) (fun x1 => ?_)
    refine P_l (fun hJ _ _ q => E_aload_n dX10_endByDrawing_21 rfl (E_getR (b := 5) clX10 1 (by decide) flX10_19 (Or.inl ⟨_, rfl⟩) dX10_endByDrawing_22 (kd3 hJ.1.1) (rf3_1 hJ.1.1) (by decide) (E_iload_n dX10_endByDrawing_25 rfl q))) ?_
    refine P_call (t := fun _ => none) (st2 := fun _ => []) (kc2 := 0) (ks2 := 0) (fun hJ => (ok_X1_undoAll (σ := σ) (b := 5) (p := rI σ 3 8) (Or.inl rfl))) (fun hJ _ _ _ _ v τ1 hM q => E_callVN (as := [.int (rI σ 3 8)]) (b := 5) (st := []) hM (by decide) yfX1_undoAll mlX10_432 imX1_undoAll seX1_undoAll clX1 (kd5 hJ.1.1) rfl (Nat.le_of_ble_eq_true rfl) rfl dX10_endByDrawing_26 q) (by decide) (by decide) (fun v2 σ3 => ?_)
    refine P_l (fun hJ _ _ q => E_iload_n dX10_endByDrawing_29 rfl q) ?_
    refine P_join (pc2 := 53) (fun j4 => [some (.ref 3), some (.int p1), some (.int (rI σ 3 8)), some (.int x1), none]) (fun j4 => []) (fun j4 => j4) ?_ (fun j4 => ?_)
    · skip
      refine P_if (c := (if x1 = 0 then (if (v_X10_hasMelded σ3 (rI σ 3 8)) = 0 then true else false) else true) = true) (pc1 := 53) (ls1 := [some (.ref 3), some (.int p1), some (.int (rI σ 3 8)), some (.int x1), none]) (st1 := []) (pc2 := 41) (ls2 := [some (.ref 3), some (.int p1), some (.int (rI σ 3 8)), some (.int x1), none]) (st2 := []) (fun hJ _ _ hX hY => ?_) ?_ ?_
      · skip
        refine E_if_ne 53 dX10_endByDrawing_30 (by decide) (fun c_30_0 => ?_) (fun c_30_0 => ?_)
        · skip
          exact hX (by simp only [if_neg c_30_0])
        · skip
          refine E_aload_n dX10_endByDrawing_33 rfl ?_
          refine E_iload_n dX10_endByDrawing_34 rfl ?_
          refine E_callV (as := [.int (rI σ 3 8)]) (b := 3) (st := []) (ok_X10_hasMelded (σ := σ3) (p1 := rI σ 3 8) hJ ) (by decide) yfX10_hasMelded mlX10_209 imX10_hasMelded seX10_hasMelded clX10 (kd3 hJ.1.1) rfl (Nat.le_of_ble_eq_true rfl) rfl dX10_endByDrawing_35 ?_
          refine E_if_eq 53 dX10_endByDrawing_38 (by decide) (fun c_38_1 => ?_) (fun c_38_1 => ?_)
          · skip
            exact hX (by simp only [if_pos c_30_0, if_pos c_38_1])
          · skip
            exact hY (by simp only [if_pos c_30_0, if_neg c_38_1]; exact Bool.false_ne_true)
      · skip
        exact P_back σ3
      · skip
        refine P_l (fun hJ _ _ q => E_aload_n dX10_endByDrawing_41 rfl (E_getR (b := 19) clX10 3 (by decide) flX10_29 (Or.inl ⟨_, rfl⟩) dX10_endByDrawing_42 (kd3 hJ.1.1) (rf3_3 hJ.1.1) (by decide) (E_iload_n dX10_endByDrawing_45 rfl (E_aload_n dX10_endByDrawing_46 rfl q)))) ?_
        refine P_call (t := fun v => some (.long v)) (st2 := fun v => .long v :: [.int (rI σ 3 8), .ref 19]) (kc2 := 0) (ks2 := 0) (fun hJ => (ok_X10_findAlone (σ := σ3)  )) (fun hJ _ _ _ _ v τ1 hM q => E_callV (as := []) (b := 3) (st := [.int (rI σ 3 8), .ref 19]) hM (by decide) yfX10_findAlone mlX10_290 imX10_findAlone seX10_findAlone clX10 (kd3 hJ.1.1) rfl (Nat.le_of_ble_eq_true rfl) rfl dX10_endByDrawing_47 q) (by decide) (by decide) (fun v5 σ6 => ?_)
        refine P_call (t := fun _ => none) (st2 := fun _ => []) (kc2 := 0) (ks2 := 0) (fun hJ => (ok_X6_pass (σ := σ6) (p1 := rI σ 3 8) (p2 := v5) )) (fun hJ _ _ _ _ v τ1 hM q => E_callVN (as := [.int (rI σ 3 8), .long v5]) (b := 19) (st := []) hM (by decide) yfX6_pass mlX10_435 imX6_pass seX6_pass clX6 (kd19 hJ.1.1) rfl (Nat.le_of_ble_eq_true rfl) rfl dX10_endByDrawing_50 q) (by decide) (by decide) (fun v7 σ8 => ?_)
        exact P_back σ8
    · skip
      refine P_l (fun hJ _ _ q => E_aload_n dX10_endByDrawing_53 rfl (E_getR (b := 5) clX10 1 (by decide) flX10_19 (Or.inl ⟨_, rfl⟩) dX10_endByDrawing_54 (kd3 hJ.1.1) (rf3_1 hJ.1.1) (by decide) (E_iload_n dX10_endByDrawing_57 rfl (E_iload_n dX10_endByDrawing_58 rfl q)))) ?_
      refine P_l (pc2 := 73) (ls2 := [some (.ref 3), some (.int p1), some (.int (rI σ 3 8)), none, none]) (st2 := [.int (if x1 = 0 then 1 else (rI j4 4 4)), .int (rI σ 3 8), .ref 5]) (fun hJ _ _ hq => ?_) ?_
      · skip
        refine E_if_eq 72 dX10_endByDrawing_59 (by decide) (fun c_59_0 => ?_) (fun c_59_0 => ?_)
        · skip
          refine E_iconst (v := 1) dX10_endByDrawing_72 (by decide) ?_
          simp only [if_pos c_59_0] at hq
          exact E_less hq (rLe_at [some (.ref 3), some (.int p1), some (.int (rI σ 3 8)), none, none] [some (.ref 3), some (.int p1), some (.int (rI σ 3 8)), some (.int x1), none] (And.intro rfl (And.intro rfl (And.intro rfl trivial))))
        · skip
          refine E_aload_n dX10_endByDrawing_62 rfl ?_
          refine E_getR (b := 4) clX10 0 (by decide) flX10_12 (Or.inl ⟨_, rfl⟩) dX10_endByDrawing_63 (kd3 hJ.1.1) (rf3_0 hJ.1.1) (by decide) ?_
          refine E_getIN clX5 4 (by decide) flX10_100 (Or.inl rfl) dX10_endByDrawing_66 (kd4 hJ.1.1) ?_
          refine E_goto 73 dX10_endByDrawing_69 (by decide) ?_
          simp only [if_neg c_59_0] at hq
          exact E_less hq (rLe_at [some (.ref 3), some (.int p1), some (.int (rI σ 3 8)), none, none] [some (.ref 3), some (.int p1), some (.int (rI σ 3 8)), some (.int x1), none] (And.intro rfl (And.intro rfl (And.intro rfl trivial))))
      · skip
        refine P_call (t := fun v => some (.int v)) (st2 := fun v => .int v :: []) (kc2 := 0) (ks2 := 0) (fun hJ => (ok_X1_drawUpTo (σ := j4) (b := 5) (p := rI σ 3 8) (m := if x1 = 0 then 1 else (rI j4 4 4)) (Or.inl rfl))) (fun hJ _ _ _ _ v τ1 hM q => E_callVN (as := [.int (rI σ 3 8), .int (if x1 = 0 then 1 else (rI j4 4 4))]) (b := 5) (st := []) hM (by decide) yfX1_drawUpTo mlX10_439 imX1_drawUpTo seX1_drawUpTo clX1 (kd5 hJ.1.1) rfl (Nat.le_of_ble_eq_true rfl) rfl dX10_endByDrawing_73 q) (by decide) (by decide) (fun v9 σ10 => ?_)
        refine P_l (fun hJ _ _ q => E_istore (ls2 := [some (.ref 3), some (.int p1), some (.int (rI σ 3 8)), none, some (.int v9)]) dX10_endByDrawing_76 (by decide) rfl (E_aload_n dX10_endByDrawing_78 rfl (E_getR (b := 19) clX10 3 (by decide) flX10_29 (Or.inl ⟨_, rfl⟩) dX10_endByDrawing_79 (kd3 hJ.1.1) (rf3_3 hJ.1.1) (by decide) (E_iload_n dX10_endByDrawing_82 rfl (E_iload dX10_endByDrawing_83 rfl q))))) ?_
        refine P_call (t := fun _ => none) (st2 := fun _ => []) (kc2 := 0) (ks2 := 0) (fun hJ => (ok_X6_freshen (σ := σ10) (p1 := rI σ 3 8) (p2 := v9) )) (fun hJ _ _ _ _ v τ1 hM q => E_callVN (as := [.int (rI σ 3 8), .int v9]) (b := 19) (st := []) hM (by decide) yfX6_freshen mlX10_442 imX6_freshen seX6_freshen clX6 (kd19 hJ.1.1) rfl (Nat.le_of_ble_eq_true rfl) rfl dX10_endByDrawing_85 q) (by decide) (by decide) (fun v11 σ12 => ?_)
        refine P_l (fun hJ _ _ q => E_aload_n dX10_endByDrawing_88 rfl (E_getR (b := 35) clX10 5 (by decide) flX10_43 (Or.inl ⟨_, rfl⟩) dX10_endByDrawing_89 (kd3 hJ.1.1) (rf3_5 hJ.1.1) (by decide) (E_iload_n dX10_endByDrawing_92 rfl (E_iload_n dX10_endByDrawing_93 rfl (E_iconst (v := (-1)) dX10_endByDrawing_94 (by decide) (E_iload dX10_endByDrawing_95 rfl q)))))) ?_
        refine P_call (t := fun _ => none) (st2 := fun _ => []) (kc2 := 0) (ks2 := 0) (fun hJ => (ok_X2_add (σ := σ12) (p1 := p1) (p2 := rI σ 3 8) (p3 := (-1)) (p4 := v9) )) (fun hJ _ _ _ _ v τ1 hM q => E_callVN (as := [.int p1, .int (rI σ 3 8), .int ((-1)), .int v9]) (b := 35) (st := []) hM (by decide) yfX2_add mlX10_413 imX2_add seX2_add clX2 (kd35 hJ.1.1) rfl (Nat.le_of_ble_eq_true rfl) rfl dX10_endByDrawing_97 q) (by decide) (by decide) (fun v13 σ14 => ?_)
        refine P_l (fun hJ _ _ q => E_aload_n dX10_endByDrawing_100 rfl (E_iload dX10_endByDrawing_101 rfl q)) ?_
        refine P_l (pc2 := 116) (ls2 := [some (.ref 3), none, none, none, some (.int v9)]) (st2 := [.int (if v9 = 0 then ((rI σ14 3 9) + 1) else 0), .ref 3]) (fun hJ _ _ hq => ?_) ?_
        · skip
          refine E_if_ne 115 dX10_endByDrawing_103 (by decide) (fun c_103_0 => ?_) (fun c_103_0 => ?_)
          · skip
            refine E_iconst (v := 0) dX10_endByDrawing_115 (by decide) ?_
            simp only [if_neg c_103_0] at hq
            exact E_less hq (rLe_at [some (.ref 3), none, none, none, some (.int v9)] [some (.ref 3), some (.int p1), some (.int (rI σ 3 8)), none, some (.int v9)] (And.intro rfl (And.intro rfl trivial)))
          · skip
            refine E_aload_n dX10_endByDrawing_106 rfl ?_
            refine E_getI clX10 9 (by decide) flX10_130 (Or.inl rfl) dX10_endByDrawing_107 (kd3 hJ.1.1) ?_
            refine E_iconst (v := 1) dX10_endByDrawing_110 (by decide) ?_
            refine E_iadd dX10_endByDrawing_111 ?_
            refine E_goto 116 dX10_endByDrawing_112 (by decide) ?_
            simp only [if_pos c_103_0] at hq
            exact E_less hq (rLe_at [some (.ref 3), none, none, none, some (.int v9)] [some (.ref 3), some (.int p1), some (.int (rI σ 3 8)), none, some (.int v9)] (And.intro rfl (And.intro rfl trivial)))
        · skip
          refine P_w (fun hJ _ _ q => E_putI clX10 9 (by decide) flX10_130 (Or.inl rfl) rfl dX10_endByDrawing_116 (kd3 hJ.1.1) q) (fun hJ => Sy_wI hJ.1) rfl rfl rfl (fun σ15 hσ15 => ?_)
          refine P_l (fun hJ _ _ q => E_aload_n dX10_endByDrawing_119 rfl (E_getI clX10 9 (by decide) flX10_130 (Or.inl rfl) dX10_endByDrawing_120 (kd3 hJ.1.1) (E_aload_n dX10_endByDrawing_123 rfl (E_getR (b := 19) clX10 3 (by decide) flX10_29 (Or.inl ⟨_, rfl⟩) dX10_endByDrawing_124 (kd3 hJ.1.1) (rf3_3 hJ.1.1) (by decide) (E_getIN clX6 0 (by decide) flX10_111 (Or.inl rfl) dX10_endByDrawing_127 (kd19 hJ.1.1) q))))) ?_
          refine P_if (fun hJ _ _ h1 h2 => E_icmp_lt 154 dX10_endByDrawing_130 (by decide) h1 h2) ?_ ?_
          · skip
            refine P_l (fun hJ _ _ q => E_aload_n dX10_endByDrawing_154 rfl q) ?_
            refine P_call (t := fun _ => none) (st2 := fun _ => []) (kc2 := 0) (ks2 := 0) (fun hJ => (ok_X10_passOn (σ := σ15)  )) (fun hJ _ _ _ _ v τ1 hM q => E_callV (as := []) (b := 3) (st := []) hM (by decide) yfX10_passOn mlX10_429 imX10_passOn seX10_passOn clX10 (kd3 hJ.1.1) rfl (Nat.le_of_ble_eq_true rfl) rfl dX10_endByDrawing_155 q) (by decide) (by decide) (fun v16 σ17 => ?_)
            refine P_l (fun hJ _ _ q => E_iload dX10_endByDrawing_158 rfl q) ?_
            exact P_ret (fun _ _ => E_iret rfl dX10_endByDrawing_160)
          · skip
            refine P_l (fun hJ _ _ q => E_aload_n dX10_endByDrawing_133 rfl (E_aload_n dX10_endByDrawing_134 rfl (E_getR (b := 5) clX10 1 (by decide) flX10_19 (Or.inl ⟨_, rfl⟩) dX10_endByDrawing_135 (kd3 hJ.1.1) (rf3_1 hJ.1.1) (by decide) (E_aload_n dX10_endByDrawing_138 rfl (E_getR (b := 19) clX10 3 (by decide) flX10_29 (Or.inl ⟨_, rfl⟩) dX10_endByDrawing_139 (kd3 hJ.1.1) (rf3_3 hJ.1.1) (by decide) (E_getIN clX6 0 (by decide) flX10_111 (Or.inl rfl) dX10_endByDrawing_142 (kd19 hJ.1.1) q)))))) ?_
            refine P_callr (t := fun v => some (.int v)) (st2 := fun v => .int v :: [.ref 3]) (fun hJ => (ok_X1_lightest (σ := σ15) (b := 5) (n := rI σ15 19 0) (Or.inl rfl))) (fun hJ _ _ v hM q => E_callVN (as := [.int (rI σ15 19 0)]) (b := 5) (st := [.ref 3]) hM (by decide) yfX1_lightest mlX10_445 imX1_lightest seX1_lightest clX1 (kd5 hJ.1.1) rfl (Nat.le_of_ble_eq_true rfl) rfl dX10_endByDrawing_145 q) (fun v18 => ?_)
            refine P_call (t := fun _ => none) (st2 := fun _ => []) (kc2 := 0) (ks2 := 0) (fun hJ => (ok_X10_endRound (σ := σ15) (p1 := v18) )) (fun hJ _ _ _ _ v τ1 hM q => E_callV (as := [.int v18]) (b := 3) (st := []) hM (by decide) yfX10_endRound mlX10_426 imX10_endRound seX10_endRound clX10 (kd3 hJ.1.1) rfl (Nat.le_of_ble_eq_true rfl) rfl dX10_endByDrawing_148 q) (by decide) (by decide) (fun v19 σ20 => ?_)
            refine P_l (fun hJ _ _ q => E_goto 158 dX10_endByDrawing_151 (by decide) (E_iload dX10_endByDrawing_158 rfl q)) ?_
            exact P_ret (fun _ _ => E_iret rfl dX10_endByDrawing_160)

def f_X10_draw (σ : rS) : Option ((Int32 ⊕ String) × rS) := oBx (f_X10_needRound σ) fun _ σ2 => oB (f_X10_endByDrawing σ2 6) fun v3 σ4 => some ((.inl v3, σ4))
set_option maxRecDepth 20000 in
set_option maxHeartbeats 2000000 in
theorem ok_X10_draw {σ : rS}   : rFn Sy yX10_draw mX10_draw 7 [.ref 3] σ 1 6 (tX (fun v => .inl (some (.int v)))) (f_X10_draw σ) := by
  refine rF_of (ls := [some (.ref 3)]) yfX10_draw rfl (Nat.le_of_ble_eq_true rfl) (fun o τ => ?_)
  unfold f_X10_draw
  refine P_l (fun hJ _ _ q => E_aload_n dX10_draw_0 rfl q) ?_
  refine P_callx (t2 := fun _ => none) (st2 := fun _ => []) (kc2 := 0) (ks2 := 0) (fun hJ => (ok_X10_needRound (σ := σ)  )) (fun hJ _ _ _ _ v τ1 hM q => E_callV (as := []) (b := 3) (st := []) hM (by decide) yfX10_needRound mlX10_183 imX10_needRound seX10_needRound clX10 (kd3 hJ.1.1) rfl (Nat.le_of_ble_eq_true rfl) rfl dX10_draw_1 q) (fun hJ _ _ _ _ E τ1 hM => E_callVx (as := []) (b := 3) (st := []) hM (by decide) yfX10_needRound mlX10_183 imX10_needRound seX10_needRound clX10 (kd3 hJ.1.1) rfl (Nat.le_of_ble_eq_true rfl) rfl dX10_draw_1 rfl) (by decide) (by decide) (fun v1 σ2 => ?_)
  refine P_l (fun hJ _ _ q => E_aload_n dX10_draw_4 rfl (E_bipush (v := 6) dX10_draw_5 (by decide) q)) ?_
  refine P_call (t := fun v => some (.int v)) (st2 := fun v => .int v :: []) (kc2 := 0) (ks2 := 0) (fun hJ => (ok_X10_endByDrawing (σ := σ2) (p1 := 6) )) (fun hJ _ _ _ _ v τ1 hM q => E_callV (as := [.int 6]) (b := 3) (st := []) hM (by decide) yfX10_endByDrawing mlX10_186 imX10_endByDrawing seX10_endByDrawing clX10 (kd3 hJ.1.1) rfl (Nat.le_of_ble_eq_true rfl) rfl dX10_draw_7 q) (by decide) (by decide) (fun v3 σ4 => ?_)
  exact P_ret (fun _ _ => E_iret rfl dX10_draw_10)

def f_X10_tick (σ : rS) (p1 : Int32) : Option ((Int32 ⊕ String) × rS) := if (vIn p1 1 999) = 0 then (some ((.inr "java/lang/IllegalArgumentException", σ))) else (oBx (f_X10_needRound σ) fun _ σ2 => oLet (if 0 < (vAt (rI σ2 23) 4 (rI σ2 3 8)) - p1 then (vAt (rI σ2 23) 4 (rI σ2 3 8)) - p1 else 0 : Int32) fun x3 => oLet (rowI σ2 23 (vSet (rI σ2 23) 4 (rI σ2 3 8) x3)) fun σ4 => if x3 = 0 then (oB (f_X10_endByDrawing σ4 7) fun v5 σ6 => some ((.inl x3, σ6))) else (some ((.inl x3, σ4))))
set_option maxRecDepth 20000 in
set_option maxHeartbeats 2000000 in
theorem ok_X10_tick {σ : rS} {p1 : Int32}   : rFn Sy yX10_tick mX10_tick 7 [.ref 3, .int p1] σ 2 12 (tX (fun v => .inl (some (.int v)))) (f_X10_tick σ p1) := by
  refine rF_of (ls := [some (.ref 3), some (.int p1), none]) yfX10_tick rfl (Nat.le_of_ble_eq_true rfl) (fun o τ => ?_)
  unfold f_X10_tick
  refine P_l (fun hJ _ _ q => E_iload_n dX10_tick_0 rfl (E_iconst (v := 1) dX10_tick_1 (by decide) (E_sipush (v := 999) dX10_tick_2 (by decide) (E_callS (as := [.int p1, .int 1, .int 999]) (st := []) (ok_within (σ := σ) (v := p1) (a := 1) (b := 999)) (by decide) yfX10_within mlX10_74 stX10_within rfl (Nat.le_of_ble_eq_true rfl) rfl dX10_tick_5 q)))) ?_
  refine P_if (fun hJ _ _ h1 h2 => E_if_ne 19 dX10_tick_8 (by decide) h2 h1) ?_ ?_
  · skip
    exact P_thr (fun kc ks => xt_IllegalArgumentException rfl rfl (by decide) (Nat.le_of_ble_eq_true rfl) dX10_tick_11 dX10_tick_14 dX10_tick_15 dX10_tick_18 kc ks) (by decide) (by decide)
  · skip
    refine P_l (fun hJ _ _ q => E_aload_n dX10_tick_19 rfl q) ?_
    refine P_callx (t2 := fun _ => none) (st2 := fun _ => []) (kc2 := 1) (ks2 := 6) (fun hJ => (ok_X10_needRound (σ := σ)  )) (fun hJ _ _ _ _ v τ1 hM q => E_callV (as := []) (b := 3) (st := []) hM (by decide) yfX10_needRound mlX10_183 imX10_needRound seX10_needRound clX10 (kd3 hJ.1.1) rfl (Nat.le_of_ble_eq_true rfl) rfl dX10_tick_20 q) (fun hJ _ _ _ _ E τ1 hM => E_callVx (as := []) (b := 3) (st := []) hM (by decide) yfX10_needRound mlX10_183 imX10_needRound seX10_needRound clX10 (kd3 hJ.1.1) rfl (Nat.le_of_ble_eq_true rfl) rfl dX10_tick_20 rfl) (by decide) (by decide) (fun v1 σ2 => ?_)
    refine P_l (fun hJ _ _ q => E_iconst (v := 0) dX10_tick_23 (by decide) (E_aload_n dX10_tick_24 rfl (E_getR (b := 19) clX10 3 (by decide) flX10_29 (Or.inl ⟨_, rfl⟩) dX10_tick_25 (kd3 hJ.1.1) (rf3_3 hJ.1.1) (by decide) (E_getRN (b := 23) clX6 4 (by decide) flX10_189 (Or.inr ⟨_, rfl⟩) dX10_tick_28 (kd19 hJ.1.1) (rf19_4 hJ.1.1) (by decide) (E_aload_n dX10_tick_31 rfl (E_getI clX10 8 (by decide) flX10_61 (Or.inl rfl) dX10_tick_32 (kd3 hJ.1.1) (E_callS (as := [.ref 23, .int (rI σ2 3 8)]) (st := [.int 0]) (ok_at (σ := σ2) (a := 23) (i := rI σ2 3 8) (f := rI σ2 23) (kd23 hJ.1.1) (by decide) rfl) (by decide) yfX10_at mlX10_193 stX10_at rfl (Nat.le_of_ble_eq_true rfl) rfl dX10_tick_35 (E_iload_n dX10_tick_38 rfl (E_isub dX10_tick_39 (E_mmax mlX10_197 (by decide) (Nat.le_of_ble_eq_true rfl) dX10_tick_40 (E_istore_n (ls2 := [some (.ref 3), some (.int p1), some (.int (if 0 < (vAt (rI σ2 23) 4 (rI σ2 3 8)) - p1 then (vAt (rI σ2 23) 4 (rI σ2 3 8)) - p1 else 0))]) dX10_tick_43 (by decide) rfl q))))))))))) ?_
    refine P_v (if 0 < (vAt (rI σ2 23) 4 (rI σ2 3 8)) - p1 then (vAt (rI σ2 23) 4 (rI σ2 3 8)) - p1 else 0) (fun x => [some (.ref 3), some (.int p1), some (.int x)]) (fun x3 => ?_)
    refine P_l (fun hJ _ _ q => E_aload_n dX10_tick_44 rfl (E_getR (b := 19) clX10 3 (by decide) flX10_29 (Or.inl ⟨_, rfl⟩) dX10_tick_45 (kd3 hJ.1.1) (rf3_3 hJ.1.1) (by decide) (E_getRN (b := 23) clX6 4 (by decide) flX10_189 (Or.inr ⟨_, rfl⟩) dX10_tick_48 (kd19 hJ.1.1) (rf19_4 hJ.1.1) (by decide) (E_aload_n dX10_tick_51 rfl (E_getI clX10 8 (by decide) flX10_61 (Or.inl rfl) dX10_tick_52 (kd3 hJ.1.1) (E_iload_n dX10_tick_55 rfl q)))))) ?_
    refine P_w (fun hJ _ _ q => E_callS (as := [.ref 23, .int (rI σ2 3 8), .int x3]) (st := []) (ok_set (σ := σ2) (a := 23) (i := rI σ2 3 8) (x := x3) (f := rI σ2 23) (kd23 hJ.1.1) (by decide) (by decide) rfl) (by decide) yfX10_set mlX10_202 stX10_set rfl (Nat.le_of_ble_eq_true rfl) rfl dX10_tick_56 q) (fun hJ => Sy_rowI hJ.1) rfl rfl rfl (fun σ4 hσ4 => ?_)
    refine P_l (fun hJ _ _ q => E_iload_n dX10_tick_59 rfl q) ?_
    refine P_if (fun hJ _ _ h1 h2 => E_if_ne 70 dX10_tick_60 (by decide) h2 h1) ?_ ?_
    · skip
      refine P_l (fun hJ _ _ q => E_aload_n dX10_tick_63 rfl (E_bipush (v := 7) dX10_tick_64 (by decide) q)) ?_
      refine P_call (t := fun v => some (.int v)) (st2 := fun v => .int v :: []) (kc2 := 1) (ks2 := 6) (fun hJ => (ok_X10_endByDrawing (σ := σ4) (p1 := 7) )) (fun hJ _ _ _ _ v τ1 hM q => E_callV (as := [.int 7]) (b := 3) (st := []) hM (by decide) yfX10_endByDrawing mlX10_186 imX10_endByDrawing seX10_endByDrawing clX10 (kd3 hJ.1.1) rfl (Nat.le_of_ble_eq_true rfl) rfl dX10_tick_66 q) (by decide) (by decide) (fun v5 σ6 => ?_)
      refine P_l (fun hJ _ _ q => E_pop dX10_tick_69 rfl (E_iload_n dX10_tick_70 rfl q)) ?_
      exact P_ret (fun _ _ => E_iret rfl dX10_tick_71)
    · skip
      refine P_l (fun hJ _ _ q => E_iload_n dX10_tick_70 rfl q) ?_
      exact P_ret (fun _ _ => E_iret rfl dX10_tick_71)

def b_X10_autoBlocking_7 (v1 : Int64) (σ2 : rS) (s3 : Int32) : Option ((Int32 × rS) ⊕ (Int32)) := if 52 ≤ s3 then (oB (f_X10_endByDrawing σ2 6) fun v4 σ5 => some (.inl ((0, σ5)))) else (if (if (vBit v1 s3) = 0 then true else (if (v_X10_mayLay σ2 s3) = 0 then true else false)) = true then (some (.inr (s3 + 1))) else (oB (f_X10_layTile σ2 s3) fun _ σ7 => oB (f_X10_endByLaying σ7) fun _ σ9 => some (.inl ((1, σ9)))))
def f_X10_autoBlocking (σ : rS) : Option (Int32 × rS) := oB (f_X10_findAlone σ) fun v1 σ2 => oLoop (b_X10_autoBlocking_7 v1 σ2) oFuel 0
set_option maxRecDepth 20000 in
set_option maxHeartbeats 2000000 in
theorem ok_X10_autoBlocking {σ : rS}   : rFn Sy yX10_autoBlocking mX10_autoBlocking 7 [.ref 3] σ 0 0 (fun v => .inl (some (.int v))) (f_X10_autoBlocking σ) := by
  refine rF_of (ls := [some (.ref 3), none, none, none]) yfX10_autoBlocking rfl (Nat.le_of_ble_eq_true rfl) (fun o τ => ?_)
  unfold f_X10_autoBlocking
  refine P_l (fun hJ _ _ q => E_aload_n dX10_autoBlocking_0 rfl q) ?_
  refine P_call (t := fun v => some (.long v)) (st2 := fun v => .long v :: []) (kc2 := 0) (ks2 := 0) (fun hJ => (ok_X10_findAlone (σ := σ)  )) (fun hJ _ _ _ _ v τ1 hM q => E_callV (as := []) (b := 3) (st := []) hM (by decide) yfX10_findAlone mlX10_290 imX10_findAlone seX10_findAlone clX10 (kd3 hJ.1.1) rfl (Nat.le_of_ble_eq_true rfl) rfl dX10_autoBlocking_1 q) (by decide) (by decide) (fun v1 σ2 => ?_)
  refine P_l (fun hJ _ _ q => E_lstore_n (ls2 := [some (.ref 3), some (.long v1), none, none]) dX10_autoBlocking_4 (by decide) rfl (E_iconst (v := 0) dX10_autoBlocking_5 (by decide) (E_istore_n (ls2 := [some (.ref 3), some (.long v1), none, some (.int 0)]) dX10_autoBlocking_6 (by decide) rfl q))) ?_
  refine P_loop (fun s3 => [some (.ref 3), some (.long v1), none, some (.int s3)]) (fun _ => σ2) (fun s3 => ?_) _ 0
  unfold b_X10_autoBlocking_7
  refine P_l (fun hJ _ _ q => E_iload_n dX10_autoBlocking_7 rfl (E_bipush (v := 52) dX10_autoBlocking_8 (by decide) q)) ?_
  refine P_if (fun hJ _ _ h1 h2 => E_icmp_ge 46 dX10_autoBlocking_10 (by decide) h1 h2) ?_ ?_
  · skip
    refine P_l (fun hJ _ _ q => E_aload_n dX10_autoBlocking_46 rfl (E_bipush (v := 6) dX10_autoBlocking_47 (by decide) q)) ?_
    refine P_call (t := fun v => some (.int v)) (st2 := fun v => .int v :: []) (kc2 := 0) (ks2 := 0) (fun hJ => (ok_X10_endByDrawing (σ := σ2) (p1 := 6) )) (fun hJ _ _ _ _ v τ1 hM q => E_callV (as := [.int 6]) (b := 3) (st := []) hM (by decide) yfX10_endByDrawing mlX10_186 imX10_endByDrawing seX10_endByDrawing clX10 (kd3 hJ.1.1) rfl (Nat.le_of_ble_eq_true rfl) rfl dX10_autoBlocking_49 q) (by decide) (by decide) (fun v4 σ5 => ?_)
    refine P_l (fun hJ _ _ q => E_pop dX10_autoBlocking_52 rfl (E_iconst (v := 0) dX10_autoBlocking_53 (by decide) q)) ?_
    exact P_inl (P_ret (fun _ _ => E_iret rfl dX10_autoBlocking_54))
  · skip
    refine P_l (fun hJ _ _ q => E_lload_n dX10_autoBlocking_13 rfl (E_iload_n dX10_autoBlocking_14 rfl (E_callS (as := [.long v1, .int s3]) (st := []) (ok_isIn (σ := σ2) (s := v1) (k := s3)) (by decide) yfX10_isIn mlX10_294 stX10_isIn rfl (Nat.le_of_ble_eq_true rfl) rfl dX10_autoBlocking_15 q))) ?_
    refine P_if (c := (if (vBit v1 s3) = 0 then true else (if (v_X10_mayLay σ2 s3) = 0 then true else false)) = true) (pc1 := 40) (ls1 := [some (.ref 3), some (.long v1), none, some (.int s3)]) (st1 := []) (pc2 := 29) (ls2 := [some (.ref 3), some (.long v1), none, some (.int s3)]) (st2 := []) (fun hJ _ _ hX hY => ?_) ?_ ?_
    · skip
      refine E_if_eq 40 dX10_autoBlocking_18 (by decide) (fun c_18_0 => ?_) (fun c_18_0 => ?_)
      · skip
        exact hX (by simp only [if_pos c_18_0])
      · skip
        refine E_aload_n dX10_autoBlocking_21 rfl ?_
        refine E_iload_n dX10_autoBlocking_22 rfl ?_
        refine E_callV (as := [.int s3]) (b := 3) (st := []) (ok_X10_mayLay (σ := σ2) (p1 := s3) hJ ) (by decide) yfX10_mayLay mlX10_139 imX10_mayLay seX10_mayLay clX10 (kd3 hJ.1.1) rfl (Nat.le_of_ble_eq_true rfl) rfl dX10_autoBlocking_23 ?_
        refine E_if_eq 40 dX10_autoBlocking_26 (by decide) (fun c_26_1 => ?_) (fun c_26_1 => ?_)
        · skip
          exact hX (by simp only [if_neg c_18_0, if_pos c_26_1])
        · skip
          exact hY (by simp only [if_neg c_18_0, if_neg c_26_1]; exact Bool.false_ne_true)
    · skip
      refine P_l (fun hJ _ _ q => E_iinc (v := 1) (ls2 := [some (.ref 3), some (.long v1), none, some (.int (s3 + 1))]) dX10_autoBlocking_40 rfl (by decide) (by decide) rfl (E_goto 7 dX10_autoBlocking_43 (by decide) q)) ?_
      exact P_back (s3 + 1)
    · skip
      refine P_l (fun hJ _ _ q => E_aload_n dX10_autoBlocking_29 rfl (E_iload_n dX10_autoBlocking_30 rfl q)) ?_
      refine P_call (t := fun _ => none) (st2 := fun _ => []) (kc2 := 0) (ks2 := 0) (fun hJ => (ok_X10_layTile (σ := σ2) (p1 := s3) )) (fun hJ _ _ _ _ v τ1 hM q => E_callV (as := [.int s3]) (b := 3) (st := []) hM (by decide) yfX10_layTile mlX10_143 imX10_layTile seX10_layTile clX10 (kd3 hJ.1.1) rfl (Nat.le_of_ble_eq_true rfl) rfl dX10_autoBlocking_31 q) (by decide) (by decide) (fun v6 σ7 => ?_)
      refine P_l (fun hJ _ _ q => E_aload_n dX10_autoBlocking_34 rfl q) ?_
      refine P_call (t := fun _ => none) (st2 := fun _ => []) (kc2 := 0) (ks2 := 0) (fun hJ => (ok_X10_endByLaying (σ := σ7)  )) (fun hJ _ _ _ _ v τ1 hM q => E_callV (as := []) (b := 3) (st := []) hM (by decide) yfX10_endByLaying mlX10_180 imX10_endByLaying seX10_endByLaying clX10 (kd3 hJ.1.1) rfl (Nat.le_of_ble_eq_true rfl) rfl dX10_autoBlocking_35 q) (by decide) (by decide) (fun v8 σ9 => ?_)
      refine P_l (fun hJ _ _ q => E_iconst (v := 1) dX10_autoBlocking_38 (by decide) q) ?_
      exact P_inl (P_ret (fun _ _ => E_iret rfl dX10_autoBlocking_39))

def b_X10_findPlan_44 (σ : rS) (p1 : Int32) (s5 : Int32 × rS) : Option (((Unit × rS) ⊕ (rS)) ⊕ (Int32 × rS)) := if 52 ≤ s5.1 then (some (.inl (.inr s5.2))) else (oB (f_X9_add s5.2 s5.1 (if (v_X10_hasMelded σ p1) = 0 then 0 else (v_X1_lies s5.2 5 s5.1))) fun _ σ7 => oB (f_X9_allow σ7 s5.1 (if 2 - (v_X1_lies s5.2 5 s5.1) < v_X1_rackOf σ7 5 p1 s5.1 then 2 - (v_X1_lies s5.2 5 s5.1) else v_X1_rackOf σ7 5 p1 s5.1)) fun _ σ9 => some (.inr ((s5.1 + 1, σ9))))
def f_X10_findPlan (σ : rS) (p1 : Int32) : Option (Unit × rS) := if (if (rI σ 65 1) = p1 then (if (rI σ 65 2) = (rI σ 5 12) then false else true) else true) = true then (oB (f_X9_clear σ) fun _ σ2 => oJoin (oLoop (b_X10_findPlan_44 σ p1) oFuel ((0, σ2))) fun j4 => oLet (wI j4 37 18 (if (v_X10_hasMelded σ p1) = 0 then 1 else 0)) fun σ10 => oB (f_X9_go σ10 4 ((rI σ10 4 0) + 1)) fun v11 σ12 => oLet (wI σ12 65 3 (if v11 ≤ 0 then 0 else 1)) fun σ13 => oLet (wI σ13 65 1 p1) fun σ14 => oLet (wI σ14 65 2 (rI σ14 5 12)) fun σ15 => if inB 0 ((rK σ15 (rR σ15 (rR σ15 37 5) 0)).2) then (oB (f_X4_unpack σ15 (rL σ15 (rR σ15 (rR σ15 37 5) 1) (0 : Int32).toNatClampNeg) (rL σ15 (rR σ15 (rR σ15 37 5) 2) (0 : Int32).toNatClampNeg)) fun _ σ18 => some (((), σ18))) else none) else (some (((), σ)))
set_option maxRecDepth 20000 in
set_option maxHeartbeats 2000000 in
theorem ok_X10_findPlan {σ : rS} {p1 : Int32}   : rFn Sy yX10_findPlan mX10_findPlan 5 [.ref 3, .int p1] σ 0 0 (fun _ => .inl none) (f_X10_findPlan σ p1) := by
  refine rF_of (ls := [some (.ref 3), some (.int p1), none, none, none]) yfX10_findPlan rfl (Nat.le_of_ble_eq_true rfl) (fun o τ => ?_)
  unfold f_X10_findPlan
  refine P_l (fun hJ _ _ q => E_aload_n dX10_findPlan_0 rfl (E_getR (b := 65) clX10 7 (by decide) flX10_57 (Or.inl ⟨_, rfl⟩) dX10_findPlan_1 (kd3 hJ.1.1) (rf3_7 hJ.1.1) (by decide) (E_getIN clX4 1 (by decide) flX10_480 (Or.inl rfl) dX10_findPlan_4 (kd65 hJ.1.1) (E_iload_n dX10_findPlan_7 rfl q)))) ?_
  refine P_if (c := (if (rI σ 65 1) = p1 then (if (rI σ 65 2) = (rI σ 5 12) then false else true) else true) = true) (pc1 := 29) (ls1 := [some (.ref 3), some (.int p1), none, none, none]) (st1 := []) (pc2 := 28) (ls2 := [some (.ref 3), some (.int p1), none, none, none]) (st2 := []) (fun hJ _ _ hX hY => ?_) ?_ ?_
  · skip
    refine E_icmp_ne 29 dX10_findPlan_8 (by decide) (fun c_8_0 => ?_) (fun c_8_0 => ?_)
    · skip
      exact hX (by simp only [if_neg c_8_0])
    · skip
      refine E_aload_n dX10_findPlan_11 rfl ?_
      refine E_getR (b := 65) clX10 7 (by decide) flX10_57 (Or.inl ⟨_, rfl⟩) dX10_findPlan_12 (kd3 hJ.1.1) (rf3_7 hJ.1.1) (by decide) ?_
      refine E_getIN clX4 2 (by decide) flX10_483 (Or.inl rfl) dX10_findPlan_15 (kd65 hJ.1.1) ?_
      refine E_aload_n dX10_findPlan_18 rfl ?_
      refine E_getR (b := 5) clX10 1 (by decide) flX10_19 (Or.inl ⟨_, rfl⟩) dX10_findPlan_19 (kd3 hJ.1.1) (rf3_1 hJ.1.1) (by decide) ?_
      refine E_getIN clX1 12 (by decide) flX10_460 (Or.inl rfl) dX10_findPlan_22 (kd5 hJ.1.1) ?_
      refine E_icmp_ne 29 dX10_findPlan_25 (by decide) (fun c_25_1 => ?_) (fun c_25_1 => ?_)
      · skip
        exact hX (by simp only [if_pos c_8_0, if_neg c_25_1])
      · skip
        exact hY (by simp only [if_pos c_8_0, if_pos c_25_1]; exact Bool.false_ne_true)
  · skip
    refine P_l (fun hJ _ _ q => E_aload_n dX10_findPlan_29 rfl (E_iload_n dX10_findPlan_30 rfl (E_callV (as := [.int p1]) (b := 3) (st := []) (ok_X10_hasMelded (σ := σ) (p1 := p1) hJ ) (by decide) yfX10_hasMelded mlX10_209 imX10_hasMelded seX10_hasMelded clX10 (kd3 hJ.1.1) rfl (Nat.le_of_ble_eq_true rfl) rfl dX10_findPlan_31 (E_istore_n (ls2 := [some (.ref 3), some (.int p1), some (.int (v_X10_hasMelded σ p1)), none, none]) dX10_findPlan_34 (by decide) rfl (E_aload_n dX10_findPlan_35 rfl (E_getR (b := 37) clX10 6 (by decide) flX10_50 (Or.inl ⟨_, rfl⟩) dX10_findPlan_36 (kd3 hJ.1.1) (rf3_6 hJ.1.1) (by decide) q)))))) ?_
    refine P_call (t := fun _ => none) (st2 := fun _ => []) (kc2 := 0) (ks2 := 0) (fun hJ => (ok_X9_clear (σ := σ)  )) (fun hJ _ _ _ _ v τ1 hM q => E_callVN (as := []) (b := 37) (st := []) hM (by decide) yfX9_clear mlX10_454 imX9_clear seX9_clear clX9 (kd37 hJ.1.1) rfl (Nat.le_of_ble_eq_true rfl) rfl dX10_findPlan_39 q) (by decide) (by decide) (fun v1 σ2 => ?_)
    refine P_l (fun hJ _ _ q => E_iconst (v := 0) dX10_findPlan_42 (by decide) (E_istore_n (ls2 := [some (.ref 3), some (.int p1), some (.int (v_X10_hasMelded σ p1)), some (.int 0), none]) dX10_findPlan_43 (by decide) rfl q)) ?_
    refine P_join (pc2 := 108) (fun j4 => [some (.ref 3), some (.int p1), some (.int (v_X10_hasMelded σ p1)), none, none]) (fun j4 => []) (fun j4 => j4) ?_ (fun j4 => ?_)
    · skip
      refine P_loop (fun s5 => [some (.ref 3), some (.int p1), some (.int (v_X10_hasMelded σ p1)), some (.int s5.1), none]) (fun s5 => s5.2) (fun s5 => ?_) _ ((0, σ2))
      unfold b_X10_findPlan_44
      refine P_l (fun hJ _ _ q => E_iload_n dX10_findPlan_44 rfl (E_bipush (v := 52) dX10_findPlan_45 (by decide) q)) ?_
      refine P_if (fun hJ _ _ h1 h2 => E_icmp_ge 108 dX10_findPlan_47 (by decide) h1 h2) ?_ ?_
      · skip
        refine P_less [some (.ref 3), some (.int p1), some (.int (v_X10_hasMelded σ p1)), none, none] (And.intro rfl (And.intro rfl (And.intro rfl trivial))) ?_
        exact P_inl (P_back s5.2)
      · skip
        refine P_l (fun hJ _ _ q => E_aload_n dX10_findPlan_50 rfl (E_getR (b := 5) clX10 1 (by decide) flX10_19 (Or.inl ⟨_, rfl⟩) dX10_findPlan_51 (kd3 hJ.1.1) (rf3_1 hJ.1.1) (by decide) (E_iload_n dX10_findPlan_54 rfl (E_callVN (as := [.int s5.1]) (b := 5) (st := []) (ok_X1_lies (σ := s5.2) (b := 5) (k := s5.1) hJ (Or.inl rfl)) (by decide) yfX1_lies mlX10_146 imX1_lies seX1_lies clX1 (kd5 hJ.1.1) rfl (Nat.le_of_ble_eq_true rfl) rfl dX10_findPlan_55 (E_istore (ls2 := [some (.ref 3), some (.int p1), some (.int (v_X10_hasMelded σ p1)), some (.int s5.1), some (.int (v_X1_lies s5.2 5 s5.1))]) dX10_findPlan_58 (by decide) rfl (E_aload_n dX10_findPlan_60 rfl (E_getR (b := 37) clX10 6 (by decide) flX10_50 (Or.inl ⟨_, rfl⟩) dX10_findPlan_61 (kd3 hJ.1.1) (rf3_6 hJ.1.1) (by decide) (E_iload_n dX10_findPlan_64 rfl (E_iload_n dX10_findPlan_65 rfl q))))))))) ?_
        refine P_l (pc2 := 75) (ls2 := [some (.ref 3), some (.int p1), some (.int (v_X10_hasMelded σ p1)), some (.int s5.1), some (.int (v_X1_lies s5.2 5 s5.1))]) (st2 := [.int (if (v_X10_hasMelded σ p1) = 0 then 0 else (v_X1_lies s5.2 5 s5.1)), .int s5.1, .ref 37]) (fun hJ _ _ hq => ?_) ?_
        · skip
          refine E_if_eq 74 dX10_findPlan_66 (by decide) (fun c_66_0 => ?_) (fun c_66_0 => ?_)
          · skip
            refine E_iconst (v := 0) dX10_findPlan_74 (by decide) ?_
            simp only [if_pos c_66_0] at hq
            exact hq
          · skip
            refine E_iload dX10_findPlan_69 rfl ?_
            refine E_goto 75 dX10_findPlan_71 (by decide) ?_
            simp only [if_neg c_66_0] at hq
            exact hq
        · skip
          refine P_call (t := fun _ => none) (st2 := fun _ => []) (kc2 := 0) (ks2 := 0) (fun hJ => (ok_X9_add (σ := s5.2) (p1 := s5.1) (p2 := if (v_X10_hasMelded σ p1) = 0 then 0 else (v_X1_lies s5.2 5 s5.1)) )) (fun hJ _ _ _ _ v τ1 hM q => E_callVN (as := [.int s5.1, .int (if (v_X10_hasMelded σ p1) = 0 then 0 else (v_X1_lies s5.2 5 s5.1))]) (b := 37) (st := []) hM (by decide) yfX9_add mlX10_455 imX9_add seX9_add clX9 (kd37 hJ.1.1) rfl (Nat.le_of_ble_eq_true rfl) rfl dX10_findPlan_75 q) (by decide) (by decide) (fun v6 σ7 => ?_)
          refine P_l (fun hJ _ _ q => E_aload_n dX10_findPlan_78 rfl (E_getR (b := 37) clX10 6 (by decide) flX10_50 (Or.inl ⟨_, rfl⟩) dX10_findPlan_79 (kd3 hJ.1.1) (rf3_6 hJ.1.1) (by decide) (E_iload_n dX10_findPlan_82 rfl (E_aload_n dX10_findPlan_83 rfl (E_getR (b := 5) clX10 1 (by decide) flX10_19 (Or.inl ⟨_, rfl⟩) dX10_findPlan_84 (kd3 hJ.1.1) (rf3_1 hJ.1.1) (by decide) (E_iload_n dX10_findPlan_87 rfl (E_iload_n dX10_findPlan_88 rfl (E_callVN (as := [.int p1, .int s5.1]) (b := 5) (st := [.int s5.1, .ref 37]) (ok_X1_rackOf (σ := σ7) (b := 5) (p := p1) (k := s5.1) hJ (Or.inl rfl)) (by decide) yfX1_rackOf mlX10_333 imX1_rackOf seX1_rackOf clX1 (kd5 hJ.1.1) rfl (Nat.le_of_ble_eq_true rfl) rfl dX10_findPlan_89 (E_iconst (v := 2) dX10_findPlan_92 (by decide) (E_iload dX10_findPlan_93 rfl (E_isub dX10_findPlan_95 (E_mmin mlX10_311 (by decide) (Nat.le_of_ble_eq_true rfl) dX10_findPlan_96 q)))))))))))) ?_
          refine P_call (t := fun _ => none) (st2 := fun _ => []) (kc2 := 0) (ks2 := 0) (fun hJ => (ok_X9_allow (σ := σ7) (p1 := s5.1) (p2 := if 2 - (v_X1_lies s5.2 5 s5.1) < v_X1_rackOf σ7 5 p1 s5.1 then 2 - (v_X1_lies s5.2 5 s5.1) else v_X1_rackOf σ7 5 p1 s5.1) )) (fun hJ _ _ _ _ v τ1 hM q => E_callVN (as := [.int s5.1, .int (if 2 - (v_X1_lies s5.2 5 s5.1) < v_X1_rackOf σ7 5 p1 s5.1 then 2 - (v_X1_lies s5.2 5 s5.1) else v_X1_rackOf σ7 5 p1 s5.1)]) (b := 37) (st := []) hM (by decide) yfX9_allow mlX10_486 imX9_allow seX9_allow clX9 (kd37 hJ.1.1) rfl (Nat.le_of_ble_eq_true rfl) rfl dX10_findPlan_99 q) (by decide) (by decide) (fun v8 σ9 => ?_)
          refine P_l (fun hJ _ _ q => E_iinc (v := 1) (ls2 := [some (.ref 3), some (.int p1), some (.int (v_X10_hasMelded σ p1)), some (.int (s5.1 + 1)), some (.int (v_X1_lies s5.2 5 s5.1))]) dX10_findPlan_102 rfl (by decide) (by decide) rfl (E_goto 44 dX10_findPlan_105 (by decide) q)) ?_
          refine P_less [some (.ref 3), some (.int p1), some (.int (v_X10_hasMelded σ p1)), some (.int (s5.1 + 1)), none] (And.intro rfl (And.intro rfl (And.intro rfl (And.intro rfl trivial)))) ?_
          exact P_back ((s5.1 + 1, σ9))
    · skip
      refine P_l (fun hJ _ _ q => E_aload_n dX10_findPlan_108 rfl (E_getR (b := 37) clX10 6 (by decide) flX10_50 (Or.inl ⟨_, rfl⟩) dX10_findPlan_109 (kd3 hJ.1.1) (rf3_6 hJ.1.1) (by decide) (E_iload_n dX10_findPlan_112 rfl q))) ?_
      refine P_l (pc2 := 121) (ls2 := [some (.ref 3), some (.int p1), none, none, none]) (st2 := [.int (if (v_X10_hasMelded σ p1) = 0 then 1 else 0), .ref 37]) (fun hJ _ _ hq => ?_) ?_
      · skip
        refine E_if_ne 120 dX10_findPlan_113 (by decide) (fun c_113_0 => ?_) (fun c_113_0 => ?_)
        · skip
          refine E_iconst (v := 0) dX10_findPlan_120 (by decide) ?_
          simp only [if_neg c_113_0] at hq
          exact E_less hq (rLe_at [some (.ref 3), some (.int p1), none, none, none] [some (.ref 3), some (.int p1), some (.int (v_X10_hasMelded σ p1)), none, none] (And.intro rfl (And.intro rfl trivial)))
        · skip
          refine E_iconst (v := 1) dX10_findPlan_116 (by decide) ?_
          refine E_goto 121 dX10_findPlan_117 (by decide) ?_
          simp only [if_pos c_113_0] at hq
          exact E_less hq (rLe_at [some (.ref 3), some (.int p1), none, none, none] [some (.ref 3), some (.int p1), some (.int (v_X10_hasMelded σ p1)), none, none] (And.intro rfl (And.intro rfl trivial)))
      · skip
        refine P_w (fun hJ _ _ q => E_putIN clX9 18 (by decide) flX10_489 (Or.inr ⟨rfl, (by split <;> decide)⟩) rfl dX10_findPlan_121 (kd37 hJ.1.1) q) (fun hJ => Sy_wI hJ.1) rfl rfl rfl (fun σ10 hσ10 => ?_)
        refine P_l (fun hJ _ _ q => E_aload_n dX10_findPlan_124 rfl (E_getR (b := 65) clX10 7 (by decide) flX10_57 (Or.inl ⟨_, rfl⟩) dX10_findPlan_125 (kd3 hJ.1.1) (rf3_7 hJ.1.1) (by decide) (E_aload_n dX10_findPlan_128 rfl (E_getR (b := 37) clX10 6 (by decide) flX10_50 (Or.inl ⟨_, rfl⟩) dX10_findPlan_129 (kd3 hJ.1.1) (rf3_6 hJ.1.1) (by decide) (E_aload_n dX10_findPlan_132 rfl (E_getR (b := 4) clX10 0 (by decide) flX10_12 (Or.inl ⟨_, rfl⟩) dX10_findPlan_133 (kd3 hJ.1.1) (rf3_0 hJ.1.1) (by decide) (E_iconst (v := 4) dX10_findPlan_136 (by decide) (E_aload_n dX10_findPlan_137 rfl (E_getR (b := 4) clX10 0 (by decide) flX10_12 (Or.inl ⟨_, rfl⟩) dX10_findPlan_138 (kd3 hJ.1.1) (rf3_0 hJ.1.1) (by decide) (E_getIN clX5 0 (by decide) flX10_88 (Or.inl rfl) dX10_findPlan_141 (kd4 hJ.1.1) (E_iconst (v := 1) dX10_findPlan_144 (by decide) (E_iadd dX10_findPlan_145 q)))))))))))) ?_
        refine P_call (t := fun v => some (.int v)) (st2 := fun v => .int v :: [.ref 65]) (kc2 := 0) (ks2 := 0) (fun hJ => (ok_X9_go (σ := σ10) (p2 := 4) (p3 := (rI σ10 4 0) + 1) )) (fun hJ _ _ _ _ v τ1 hM q => E_callVN (as := [.ref 4, .int 4, .int ((rI σ10 4 0) + 1)]) (b := 37) (st := [.ref 65]) hM (by decide) yfX9_go mlX10_245 imX9_go seX9_go clX9 (kd37 hJ.1.1) rfl (Nat.le_of_ble_eq_true rfl) rfl dX10_findPlan_146 q) (by decide) (by decide) (fun v11 σ12 => ?_)
        refine P_l (pc2 := 157) (ls2 := [some (.ref 3), some (.int p1), none, none, none]) (st2 := [.int (if v11 ≤ 0 then 0 else 1), .ref 65]) (fun hJ _ _ hq => ?_) ?_
        · skip
          refine E_if_le 156 dX10_findPlan_149 (by decide) (fun c_149_0 => ?_) (fun c_149_0 => ?_)
          · skip
            refine E_iconst (v := 0) dX10_findPlan_156 (by decide) ?_
            simp only [if_pos c_149_0] at hq
            exact hq
          · skip
            refine E_iconst (v := 1) dX10_findPlan_152 (by decide) ?_
            refine E_goto 157 dX10_findPlan_153 (by decide) ?_
            simp only [if_neg c_149_0] at hq
            exact hq
        · skip
          refine P_w (fun hJ _ _ q => E_putIN clX4 3 (by decide) flX10_279 (Or.inr ⟨rfl, (by split <;> decide)⟩) rfl dX10_findPlan_157 (kd65 hJ.1.1) q) (fun hJ => Sy_wI hJ.1) rfl rfl rfl (fun σ13 hσ13 => ?_)
          refine P_l (fun hJ _ _ q => E_aload_n dX10_findPlan_160 rfl (E_getR (b := 65) clX10 7 (by decide) flX10_57 (Or.inl ⟨_, rfl⟩) dX10_findPlan_161 (kd3 hJ.1.1) (rf3_7 hJ.1.1) (by decide) (E_iload_n dX10_findPlan_164 rfl q))) ?_
          refine P_w (fun hJ _ _ q => E_putIN clX4 1 (by decide) flX10_480 (Or.inl rfl) rfl dX10_findPlan_165 (kd65 hJ.1.1) q) (fun hJ => Sy_wI hJ.1) rfl rfl rfl (fun σ14 hσ14 => ?_)
          refine P_l (fun hJ _ _ q => E_aload_n dX10_findPlan_168 rfl (E_getR (b := 65) clX10 7 (by decide) flX10_57 (Or.inl ⟨_, rfl⟩) dX10_findPlan_169 (kd3 hJ.1.1) (rf3_7 hJ.1.1) (by decide) (E_aload_n dX10_findPlan_172 rfl (E_getR (b := 5) clX10 1 (by decide) flX10_19 (Or.inl ⟨_, rfl⟩) dX10_findPlan_173 (kd3 hJ.1.1) (rf3_1 hJ.1.1) (by decide) (E_getIN clX1 12 (by decide) flX10_460 (Or.inl rfl) dX10_findPlan_176 (kd5 hJ.1.1) q))))) ?_
          refine P_w (fun hJ _ _ q => E_putIN clX4 2 (by decide) flX10_483 (Or.inl rfl) rfl dX10_findPlan_179 (kd65 hJ.1.1) q) (fun hJ => Sy_wI hJ.1) rfl rfl rfl (fun σ15 hσ15 => ?_)
          refine P_l (fun hJ _ _ q => E_aload_n dX10_findPlan_182 rfl (E_getR (b := 65) clX10 7 (by decide) flX10_57 (Or.inl ⟨_, rfl⟩) dX10_findPlan_183 (kd3 hJ.1.1) (rf3_7 hJ.1.1) (by decide) (E_aload_n dX10_findPlan_186 rfl (E_getR (b := 37) clX10 6 (by decide) flX10_50 (Or.inl ⟨_, rfl⟩) dX10_findPlan_187 (kd3 hJ.1.1) (rf3_6 hJ.1.1) (by decide) (E_getRN (b := rR σ15 37 5) clX9 5 (by decide) flX10_463 (Or.inl ⟨_, rfl⟩) dX10_findPlan_190 (kd37 hJ.1.1) rfl (Nat.pos_iff_ne_zero.mp (Nat.lt_of_lt_of_le (by decide : 0 < 3) (Sy_here hJ.1).2)) (E_getRN (b := rR σ15 (rR σ15 37 5) 1) clX3 1 (by decide) flX10_467 (Or.inr ⟨_, rfl⟩) dX10_findPlan_193 (Sy_here hJ.1).1 rfl (Nat.pos_iff_ne_zero.mp (Nat.lt_of_lt_of_le (by decide : 0 < 3) (Sy_here1 hJ.1).2)) (E_iconst (v := 0) dX10_findPlan_196 (by decide) q))))))) ?_
          refine P_g (fun g16 => ?_)
          refine P_l (fun hJ _ _ q => E_lald dX10_findPlan_197 (Sy_here1 hJ.1).1 (inB_vp g16) (E_aload_n dX10_findPlan_198 rfl (E_getR (b := 37) clX10 6 (by decide) flX10_50 (Or.inl ⟨_, rfl⟩) dX10_findPlan_199 (kd3 hJ.1.1) (rf3_6 hJ.1.1) (by decide) (E_getRN (b := rR σ15 37 5) clX9 5 (by decide) flX10_463 (Or.inl ⟨_, rfl⟩) dX10_findPlan_202 (kd37 hJ.1.1) rfl (Nat.pos_iff_ne_zero.mp (Nat.lt_of_lt_of_le (by decide : 0 < 3) (Sy_here hJ.1).2)) (E_getRN (b := rR σ15 (rR σ15 37 5) 2) clX3 2 (by decide) flX10_473 (Or.inr ⟨_, rfl⟩) dX10_findPlan_205 (Sy_here hJ.1).1 rfl (Nat.pos_iff_ne_zero.mp (Nat.lt_of_lt_of_le (by decide : 0 < 3) (Sy_here2 hJ.1).2)) (E_iconst (v := 0) dX10_findPlan_208 (by decide) (E_lald dX10_findPlan_209 (Sy_here2 hJ.1).1 (inB_vp g16) q))))))) ?_
          refine P_call (t := fun _ => none) (st2 := fun _ => []) (kc2 := 0) (ks2 := 0) (fun hJ => (ok_X4_unpack (σ := σ15) (p1 := rL σ15 (rR σ15 (rR σ15 37 5) 1) (0 : Int32).toNatClampNeg) (p2 := rL σ15 (rR σ15 (rR σ15 37 5) 2) (0 : Int32).toNatClampNeg) )) (fun hJ _ _ _ _ v τ1 hM q => E_callVN (as := [.long (rL σ15 (rR σ15 (rR σ15 37 5) 1) (0 : Int32).toNatClampNeg), .long (rL σ15 (rR σ15 (rR σ15 37 5) 2) (0 : Int32).toNatClampNeg)]) (b := 65) (st := []) hM (by decide) yfX4_unpack mlX10_492 imX4_unpack seX4_unpack clX4 (kd65 hJ.1.1) rfl (Nat.le_of_ble_eq_true rfl) rfl dX10_findPlan_210 q) (by decide) (by decide) (fun v17 σ18 => ?_)
          exact P_ret (fun _ _ => E_vret rfl dX10_findPlan_213)
  · skip
    exact P_ret (fun _ _ => E_vret rfl dX10_findPlan_28)

def v_X10_isPlanGood (σ : rS) (p1 : Int32) : Int32 := if (rI σ 65 3) = 0 then 0 else (if (rI σ 65 4) = 0 then 0 else (if (v_X10_hasMelded σ (rI σ 3 8)) = 0 then (if (rI σ 4 3) ≤ (rI σ 65 5) then (if p1 = 2 then (if 3 ≤ (rI σ 65 4) then 1 else (if (rI σ 65 4) = (v_X1_sizeOf σ 5 (rI σ 3 8)) then 1 else 0)) else 1) else 0) else (if p1 = 2 then (if 3 ≤ (rI σ 65 4) then 1 else (if (rI σ 65 4) = (v_X1_sizeOf σ 5 (rI σ 3 8)) then 1 else 0)) else 1)))
set_option maxRecDepth 20000 in
theorem ok_X10_isPlanGood {σ : rS} {p1 : Int32}  (hJ : J Sy σ)  : rMet yX10_isPlanGood mX10_isPlanGood 2 [.ref 3, .int p1] σ 0 0 (some (.int (v_X10_isPlanGood σ p1))) σ := by
  refine rMet_of (ls := [some (.ref 3), some (.int p1)]) yfX10_isPlanGood rfl (Nat.le_of_ble_eq_true rfl) ?_
  refine E_aload_n dX10_isPlanGood_0 rfl ?_
  refine E_getR (b := 65) clX10 7 (by decide) flX10_57 (Or.inl ⟨_, rfl⟩) dX10_isPlanGood_1 (kd3 hJ.1.1) (rf3_7 hJ.1.1) (by decide) ?_
  refine E_getIN clX4 3 (by decide) flX10_279 (Or.inr rfl) dX10_isPlanGood_4 (kd65 hJ.1.1) ?_
  refine E_if_eq 20 dX10_isPlanGood_7 (by decide) (fun c_7_0 => ?_) (fun c_7_0 => ?_)
  · skip
    refine E_iconst (v := 0) dX10_isPlanGood_20 (by decide) ?_
    exact E_zretE rfl dX10_isPlanGood_21 (by decide) (by unfold v_X10_isPlanGood; simp only [if_pos c_7_0]) rfl
  · skip
    refine E_aload_n dX10_isPlanGood_10 rfl ?_
    refine E_getR (b := 65) clX10 7 (by decide) flX10_57 (Or.inl ⟨_, rfl⟩) dX10_isPlanGood_11 (kd3 hJ.1.1) (rf3_7 hJ.1.1) (by decide) ?_
    refine E_getIN clX4 4 (by decide) flX10_283 (Or.inl rfl) dX10_isPlanGood_14 (kd65 hJ.1.1) ?_
    refine E_if_ne 22 dX10_isPlanGood_17 (by decide) (fun c_17_1 => ?_) (fun c_17_1 => ?_)
    · skip
      refine E_aload_n dX10_isPlanGood_22 rfl ?_
      refine E_aload_n dX10_isPlanGood_23 rfl ?_
      refine E_getI clX10 8 (by decide) flX10_61 (Or.inl rfl) dX10_isPlanGood_24 (kd3 hJ.1.1) ?_
      refine E_callV (as := [.int (rI σ 3 8)]) (b := 3) (st := []) (ok_X10_hasMelded (σ := σ) (p1 := rI σ 3 8) hJ ) (by decide) yfX10_hasMelded mlX10_209 imX10_hasMelded seX10_hasMelded clX10 (kd3 hJ.1.1) rfl (Nat.le_of_ble_eq_true rfl) rfl dX10_isPlanGood_27 ?_
      refine E_if_ne 52 dX10_isPlanGood_30 (by decide) (fun c_30_2 => ?_) (fun c_30_2 => ?_)
      · skip
        refine E_iload_n dX10_isPlanGood_52 rfl ?_
        refine E_iconst (v := 2) dX10_isPlanGood_53 (by decide) ?_
        refine E_icmp_ne 89 dX10_isPlanGood_54 (by decide) (fun c_54_3 => ?_) (fun c_54_3 => ?_)
        · skip
          refine E_iconst (v := 1) dX10_isPlanGood_89 (by decide) ?_
          refine E_goto 94 dX10_isPlanGood_90 (by decide) ?_
          exact E_zretE rfl dX10_isPlanGood_94 (by decide) (by unfold v_X10_isPlanGood; simp only [if_neg c_7_0, if_neg c_17_1, if_neg c_30_2, if_neg c_54_3]) rfl
        · skip
          refine E_aload_n dX10_isPlanGood_57 rfl ?_
          refine E_getR (b := 65) clX10 7 (by decide) flX10_57 (Or.inl ⟨_, rfl⟩) dX10_isPlanGood_58 (kd3 hJ.1.1) (rf3_7 hJ.1.1) (by decide) ?_
          refine E_getIN clX4 4 (by decide) flX10_283 (Or.inl rfl) dX10_isPlanGood_61 (kd65 hJ.1.1) ?_
          refine E_iconst (v := 3) dX10_isPlanGood_64 (by decide) ?_
          refine E_icmp_ge 89 dX10_isPlanGood_65 (by decide) (fun c_65_4 => ?_) (fun c_65_4 => ?_)
          · skip
            refine E_iconst (v := 1) dX10_isPlanGood_89 (by decide) ?_
            refine E_goto 94 dX10_isPlanGood_90 (by decide) ?_
            exact E_zretE rfl dX10_isPlanGood_94 (by decide) (by unfold v_X10_isPlanGood; simp only [if_neg c_7_0, if_neg c_17_1, if_neg c_30_2, if_pos c_54_3, if_pos c_65_4]) rfl
          · skip
            refine E_aload_n dX10_isPlanGood_68 rfl ?_
            refine E_getR (b := 65) clX10 7 (by decide) flX10_57 (Or.inl ⟨_, rfl⟩) dX10_isPlanGood_69 (kd3 hJ.1.1) (rf3_7 hJ.1.1) (by decide) ?_
            refine E_getIN clX4 4 (by decide) flX10_283 (Or.inl rfl) dX10_isPlanGood_72 (kd65 hJ.1.1) ?_
            refine E_aload_n dX10_isPlanGood_75 rfl ?_
            refine E_getR (b := 5) clX10 1 (by decide) flX10_19 (Or.inl ⟨_, rfl⟩) dX10_isPlanGood_76 (kd3 hJ.1.1) (rf3_1 hJ.1.1) (by decide) ?_
            refine E_aload_n dX10_isPlanGood_79 rfl ?_
            refine E_getI clX10 8 (by decide) flX10_61 (Or.inl rfl) dX10_isPlanGood_80 (kd3 hJ.1.1) ?_
            refine E_callVN (as := [.int (rI σ 3 8)]) (b := 5) (st := [.int (rI σ 65 4)]) (ok_X1_sizeOf (σ := σ) (b := 5) (p := rI σ 3 8) hJ (Or.inl rfl)) (by decide) yfX1_sizeOf mlX10_301 imX1_sizeOf seX1_sizeOf clX1 (kd5 hJ.1.1) rfl (Nat.le_of_ble_eq_true rfl) rfl dX10_isPlanGood_83 ?_
            refine E_icmp_ne 93 dX10_isPlanGood_86 (by decide) (fun c_86_5 => ?_) (fun c_86_5 => ?_)
            · skip
              refine E_iconst (v := 0) dX10_isPlanGood_93 (by decide) ?_
              exact E_zretE rfl dX10_isPlanGood_94 (by decide) (by unfold v_X10_isPlanGood; simp only [if_neg c_7_0, if_neg c_17_1, if_neg c_30_2, if_pos c_54_3, if_neg c_65_4, if_neg c_86_5]) rfl
            · skip
              refine E_iconst (v := 1) dX10_isPlanGood_89 (by decide) ?_
              refine E_goto 94 dX10_isPlanGood_90 (by decide) ?_
              exact E_zretE rfl dX10_isPlanGood_94 (by decide) (by unfold v_X10_isPlanGood; simp only [if_neg c_7_0, if_neg c_17_1, if_neg c_30_2, if_pos c_54_3, if_neg c_65_4, if_pos c_86_5]) rfl
      · skip
        refine E_aload_n dX10_isPlanGood_33 rfl ?_
        refine E_getR (b := 65) clX10 7 (by decide) flX10_57 (Or.inl ⟨_, rfl⟩) dX10_isPlanGood_34 (kd3 hJ.1.1) (rf3_7 hJ.1.1) (by decide) ?_
        refine E_getIN clX4 5 (by decide) flX10_284 (Or.inl rfl) dX10_isPlanGood_37 (kd65 hJ.1.1) ?_
        refine E_aload_n dX10_isPlanGood_40 rfl ?_
        refine E_getR (b := 4) clX10 0 (by decide) flX10_12 (Or.inl ⟨_, rfl⟩) dX10_isPlanGood_41 (kd3 hJ.1.1) (rf3_0 hJ.1.1) (by decide) ?_
        refine E_getIN clX5 3 (by decide) flX10_97 (Or.inl rfl) dX10_isPlanGood_44 (kd4 hJ.1.1) ?_
        refine E_icmp_ge 52 dX10_isPlanGood_47 (by decide) (fun c_47_3 => ?_) (fun c_47_3 => ?_)
        · skip
          refine E_iload_n dX10_isPlanGood_52 rfl ?_
          refine E_iconst (v := 2) dX10_isPlanGood_53 (by decide) ?_
          refine E_icmp_ne 89 dX10_isPlanGood_54 (by decide) (fun c_54_4 => ?_) (fun c_54_4 => ?_)
          · skip
            refine E_iconst (v := 1) dX10_isPlanGood_89 (by decide) ?_
            refine E_goto 94 dX10_isPlanGood_90 (by decide) ?_
            exact E_zretE rfl dX10_isPlanGood_94 (by decide) (by unfold v_X10_isPlanGood; simp only [if_neg c_7_0, if_neg c_17_1, if_pos c_30_2, if_pos c_47_3, if_neg c_54_4]) rfl
          · skip
            refine E_aload_n dX10_isPlanGood_57 rfl ?_
            refine E_getR (b := 65) clX10 7 (by decide) flX10_57 (Or.inl ⟨_, rfl⟩) dX10_isPlanGood_58 (kd3 hJ.1.1) (rf3_7 hJ.1.1) (by decide) ?_
            refine E_getIN clX4 4 (by decide) flX10_283 (Or.inl rfl) dX10_isPlanGood_61 (kd65 hJ.1.1) ?_
            refine E_iconst (v := 3) dX10_isPlanGood_64 (by decide) ?_
            refine E_icmp_ge 89 dX10_isPlanGood_65 (by decide) (fun c_65_5 => ?_) (fun c_65_5 => ?_)
            · skip
              refine E_iconst (v := 1) dX10_isPlanGood_89 (by decide) ?_
              refine E_goto 94 dX10_isPlanGood_90 (by decide) ?_
              exact E_zretE rfl dX10_isPlanGood_94 (by decide) (by unfold v_X10_isPlanGood; simp only [if_neg c_7_0, if_neg c_17_1, if_pos c_30_2, if_pos c_47_3, if_pos c_54_4, if_pos c_65_5]) rfl
            · skip
              refine E_aload_n dX10_isPlanGood_68 rfl ?_
              refine E_getR (b := 65) clX10 7 (by decide) flX10_57 (Or.inl ⟨_, rfl⟩) dX10_isPlanGood_69 (kd3 hJ.1.1) (rf3_7 hJ.1.1) (by decide) ?_
              refine E_getIN clX4 4 (by decide) flX10_283 (Or.inl rfl) dX10_isPlanGood_72 (kd65 hJ.1.1) ?_
              refine E_aload_n dX10_isPlanGood_75 rfl ?_
              refine E_getR (b := 5) clX10 1 (by decide) flX10_19 (Or.inl ⟨_, rfl⟩) dX10_isPlanGood_76 (kd3 hJ.1.1) (rf3_1 hJ.1.1) (by decide) ?_
              refine E_aload_n dX10_isPlanGood_79 rfl ?_
              refine E_getI clX10 8 (by decide) flX10_61 (Or.inl rfl) dX10_isPlanGood_80 (kd3 hJ.1.1) ?_
              refine E_callVN (as := [.int (rI σ 3 8)]) (b := 5) (st := [.int (rI σ 65 4)]) (ok_X1_sizeOf (σ := σ) (b := 5) (p := rI σ 3 8) hJ (Or.inl rfl)) (by decide) yfX1_sizeOf mlX10_301 imX1_sizeOf seX1_sizeOf clX1 (kd5 hJ.1.1) rfl (Nat.le_of_ble_eq_true rfl) rfl dX10_isPlanGood_83 ?_
              refine E_icmp_ne 93 dX10_isPlanGood_86 (by decide) (fun c_86_6 => ?_) (fun c_86_6 => ?_)
              · skip
                refine E_iconst (v := 0) dX10_isPlanGood_93 (by decide) ?_
                exact E_zretE rfl dX10_isPlanGood_94 (by decide) (by unfold v_X10_isPlanGood; simp only [if_neg c_7_0, if_neg c_17_1, if_pos c_30_2, if_pos c_47_3, if_pos c_54_4, if_neg c_65_5, if_neg c_86_6]) rfl
              · skip
                refine E_iconst (v := 1) dX10_isPlanGood_89 (by decide) ?_
                refine E_goto 94 dX10_isPlanGood_90 (by decide) ?_
                exact E_zretE rfl dX10_isPlanGood_94 (by decide) (by unfold v_X10_isPlanGood; simp only [if_neg c_7_0, if_neg c_17_1, if_pos c_30_2, if_pos c_47_3, if_pos c_54_4, if_neg c_65_5, if_pos c_86_6]) rfl
        · skip
          refine E_iconst (v := 0) dX10_isPlanGood_50 (by decide) ?_
          exact E_zretE rfl dX10_isPlanGood_51 (by decide) (by unfold v_X10_isPlanGood; simp only [if_neg c_7_0, if_neg c_17_1, if_pos c_30_2, if_neg c_47_3]) rfl
    · skip
      refine E_iconst (v := 0) dX10_isPlanGood_20 (by decide) ?_
      exact E_zretE rfl dX10_isPlanGood_21 (by decide) (by unfold v_X10_isPlanGood; simp only [if_neg c_7_0, if_pos c_17_1]) rfl
theorem z_X10_isPlanGood (σ : rS) (p1 : Int32) : v_X10_isPlanGood σ p1 = 0 ∨ v_X10_isPlanGood σ p1 = 1 := by
  unfold v_X10_isPlanGood
  (repeat' split) <;> first | decide | exact vIn_01 _ _ _ | exact vBit_01 _ _ | exact z_X10_hasMelded _ _

def b_X10_autoByPlan_27 (s7 : Int32 × rS) : Option (((Int32 × rS) ⊕ (rS)) ⊕ (Int32 × rS)) := if (rI s7.2 65 4) ≤ s7.1 then (some (.inl (.inr s7.2))) else (oB (f_X10_layTile s7.2 (v_X4_kindAt s7.2 s7.1)) fun _ σ9 => some (.inr ((s7.1 + 1, σ9))))
def f_X10_autoByPlan (σ : rS) (p1 : Int32) : Option (Int32 × rS) := oB (f_X10_findPlan σ (rI σ 3 8)) fun _ σ2 => if (v_X10_isPlanGood σ2 p1) = 0 then (oB (f_X10_endByDrawing σ2 6) fun v3 σ4 => some ((0, σ4))) else (oJoin (oLoop (b_X10_autoByPlan_27) oFuel ((0, σ2))) fun j6 => oB (f_X10_endByLaying j6) fun _ σ11 => some ((rI j6 65 4, σ11)))
set_option maxRecDepth 20000 in
set_option maxHeartbeats 2000000 in
theorem ok_X10_autoByPlan {σ : rS} {p1 : Int32}   : rFn Sy yX10_autoByPlan mX10_autoByPlan 7 [.ref 3, .int p1] σ 0 0 (fun v => .inl (some (.int v))) (f_X10_autoByPlan σ p1) := by
  refine rF_of (ls := [some (.ref 3), some (.int p1), none]) yfX10_autoByPlan rfl (Nat.le_of_ble_eq_true rfl) (fun o τ => ?_)
  unfold f_X10_autoByPlan
  refine P_l (fun hJ _ _ q => E_aload_n dX10_autoByPlan_0 rfl (E_aload_n dX10_autoByPlan_1 rfl (E_getI clX10 8 (by decide) flX10_61 (Or.inl rfl) dX10_autoByPlan_2 (kd3 hJ.1.1) q))) ?_
  refine P_call (t := fun _ => none) (st2 := fun _ => []) (kc2 := 0) (ks2 := 0) (fun hJ => (ok_X10_findPlan (σ := σ) (p1 := rI σ 3 8) )) (fun hJ _ _ _ _ v τ1 hM q => E_callV (as := [.int (rI σ 3 8)]) (b := 3) (st := []) hM (by decide) yfX10_findPlan mlX10_276 imX10_findPlan seX10_findPlan clX10 (kd3 hJ.1.1) rfl (Nat.le_of_ble_eq_true rfl) rfl dX10_autoByPlan_5 q) (by decide) (by decide) (fun v1 σ2 => ?_)
  refine P_l (fun hJ _ _ q => E_aload_n dX10_autoByPlan_8 rfl (E_iload_n dX10_autoByPlan_9 rfl (E_callV (as := [.int p1]) (b := 3) (st := []) (ok_X10_isPlanGood (σ := σ2) (p1 := p1) hJ ) (by decide) yfX10_isPlanGood mlX10_451 imX10_isPlanGood seX10_isPlanGood clX10 (kd3 hJ.1.1) rfl (Nat.le_of_ble_eq_true rfl) rfl dX10_autoByPlan_10 q))) ?_
  refine P_if (fun hJ _ _ h1 h2 => E_if_ne 25 dX10_autoByPlan_13 (by decide) h2 h1) ?_ ?_
  · skip
    refine P_l (fun hJ _ _ q => E_aload_n dX10_autoByPlan_16 rfl (E_bipush (v := 6) dX10_autoByPlan_17 (by decide) q)) ?_
    refine P_call (t := fun v => some (.int v)) (st2 := fun v => .int v :: []) (kc2 := 0) (ks2 := 0) (fun hJ => (ok_X10_endByDrawing (σ := σ2) (p1 := 6) )) (fun hJ _ _ _ _ v τ1 hM q => E_callV (as := [.int 6]) (b := 3) (st := []) hM (by decide) yfX10_endByDrawing mlX10_186 imX10_endByDrawing seX10_endByDrawing clX10 (kd3 hJ.1.1) rfl (Nat.le_of_ble_eq_true rfl) rfl dX10_autoByPlan_19 q) (by decide) (by decide) (fun v3 σ4 => ?_)
    refine P_l (fun hJ _ _ q => E_pop dX10_autoByPlan_22 rfl (E_iconst (v := 0) dX10_autoByPlan_23 (by decide) q)) ?_
    exact P_ret (fun _ _ => E_iret rfl dX10_autoByPlan_24)
  · skip
    refine P_l (fun hJ _ _ q => E_iconst (v := 0) dX10_autoByPlan_25 (by decide) (E_istore_n (ls2 := [some (.ref 3), some (.int p1), some (.int 0)]) dX10_autoByPlan_26 (by decide) rfl q)) ?_
    refine P_join (pc2 := 56) (fun j6 => [some (.ref 3), none, none]) (fun j6 => []) (fun j6 => j6) ?_ (fun j6 => ?_)
    · skip
      refine P_less [some (.ref 3), none, some (.int 0)] (And.intro rfl (And.intro rfl trivial)) ?_
      refine P_loop (fun s7 => [some (.ref 3), none, some (.int s7.1)]) (fun s7 => s7.2) (fun s7 => ?_) _ ((0, σ2))
      unfold b_X10_autoByPlan_27
      refine P_l (fun hJ _ _ q => E_iload_n dX10_autoByPlan_27 rfl (E_aload_n dX10_autoByPlan_28 rfl (E_getR (b := 65) clX10 7 (by decide) flX10_57 (Or.inl ⟨_, rfl⟩) dX10_autoByPlan_29 (kd3 hJ.1.1) (rf3_7 hJ.1.1) (by decide) (E_getIN clX4 4 (by decide) flX10_283 (Or.inl rfl) dX10_autoByPlan_32 (kd65 hJ.1.1) q)))) ?_
      refine P_if (fun hJ _ _ h1 h2 => E_icmp_ge 56 dX10_autoByPlan_35 (by decide) h1 h2) ?_ ?_
      · skip
        refine P_less [some (.ref 3), none, none] (And.intro rfl trivial) ?_
        exact P_inl (P_back s7.2)
      · skip
        refine P_l (fun hJ _ _ q => E_aload_n dX10_autoByPlan_38 rfl (E_aload_n dX10_autoByPlan_39 rfl (E_getR (b := 65) clX10 7 (by decide) flX10_57 (Or.inl ⟨_, rfl⟩) dX10_autoByPlan_40 (kd3 hJ.1.1) (rf3_7 hJ.1.1) (by decide) (E_iload_n dX10_autoByPlan_43 rfl (E_callVN (as := [.int s7.1]) (b := 65) (st := [.ref 3]) (ok_X4_kindAt (σ := s7.2) (p1 := s7.1) hJ ) (by decide) yfX4_kindAt mlX10_287 imX4_kindAt seX4_kindAt clX4 (kd65 hJ.1.1) rfl (Nat.le_of_ble_eq_true rfl) rfl dX10_autoByPlan_44 q))))) ?_
        refine P_call (t := fun _ => none) (st2 := fun _ => []) (kc2 := 0) (ks2 := 0) (fun hJ => (ok_X10_layTile (σ := s7.2) (p1 := v_X4_kindAt s7.2 s7.1) )) (fun hJ _ _ _ _ v τ1 hM q => E_callV (as := [.int (v_X4_kindAt s7.2 s7.1)]) (b := 3) (st := []) hM (by decide) yfX10_layTile mlX10_143 imX10_layTile seX10_layTile clX10 (kd3 hJ.1.1) rfl (Nat.le_of_ble_eq_true rfl) rfl dX10_autoByPlan_47 q) (by decide) (by decide) (fun v8 σ9 => ?_)
        refine P_l (fun hJ _ _ q => E_iinc (v := 1) (ls2 := [some (.ref 3), none, some (.int (s7.1 + 1))]) dX10_autoByPlan_50 rfl (by decide) (by decide) rfl (E_goto 27 dX10_autoByPlan_53 (by decide) q)) ?_
        exact P_back ((s7.1 + 1, σ9))
    · skip
      refine P_l (fun hJ _ _ q => E_aload_n dX10_autoByPlan_56 rfl (E_getR (b := 65) clX10 7 (by decide) flX10_57 (Or.inl ⟨_, rfl⟩) dX10_autoByPlan_57 (kd3 hJ.1.1) (rf3_7 hJ.1.1) (by decide) (E_getIN clX4 4 (by decide) flX10_283 (Or.inl rfl) dX10_autoByPlan_60 (kd65 hJ.1.1) (E_istore_n (ls2 := [some (.ref 3), none, some (.int (rI j6 65 4))]) dX10_autoByPlan_63 (by decide) rfl (E_aload_n dX10_autoByPlan_64 rfl q))))) ?_
      refine P_call (t := fun _ => none) (st2 := fun _ => []) (kc2 := 0) (ks2 := 0) (fun hJ => (ok_X10_endByLaying (σ := j6)  )) (fun hJ _ _ _ _ v τ1 hM q => E_callV (as := []) (b := 3) (st := []) hM (by decide) yfX10_endByLaying mlX10_180 imX10_endByLaying seX10_endByLaying clX10 (kd3 hJ.1.1) rfl (Nat.le_of_ble_eq_true rfl) rfl dX10_autoByPlan_65 q) (by decide) (by decide) (fun v10 σ11 => ?_)
      refine P_l (fun hJ _ _ q => E_iload_n dX10_autoByPlan_68 rfl q) ?_
      exact P_ret (fun _ _ => E_iret rfl dX10_autoByPlan_69)

def f_X10_auto (σ : rS) : Option ((Int32 ⊕ String) × rS) := oBx (f_X10_needRound σ) fun _ σ2 => if (if (vAt (rI σ2 21) 4 (rI σ2 3 8)) = 0 then true else (if (rI σ2 5 6) ≤ 0 then false else true)) = true then (some ((.inr "java/lang/IllegalStateException", σ2))) else (if (if (vAt (rI σ2 21) 4 (rI σ2 3 8)) = 3 then (if (v_X10_hasMelded σ2 (rI σ2 3 8)) = 0 then true else false) else true) = true then (oB (f_X10_autoByPlan σ2 (vAt (rI σ2 21) 4 (rI σ2 3 8))) fun v3 σ4 => some ((.inl v3, σ4))) else (oB (f_X10_autoBlocking σ2) fun v5 σ6 => some ((.inl v5, σ6))))
set_option maxRecDepth 20000 in
set_option maxHeartbeats 2000000 in
theorem ok_X10_auto {σ : rS}   : rFn Sy yX10_auto mX10_auto 8 [.ref 3] σ 2 12 (tX (fun v => .inl (some (.int v)))) (f_X10_auto σ) := by
  refine rF_of (ls := [some (.ref 3), none]) yfX10_auto rfl (Nat.le_of_ble_eq_true rfl) (fun o τ => ?_)
  unfold f_X10_auto
  refine P_l (fun hJ _ _ q => E_aload_n dX10_auto_0 rfl q) ?_
  refine P_callx (t2 := fun _ => none) (st2 := fun _ => []) (kc2 := 1) (ks2 := 6) (fun hJ => (ok_X10_needRound (σ := σ)  )) (fun hJ _ _ _ _ v τ1 hM q => E_callV (as := []) (b := 3) (st := []) hM (by decide) yfX10_needRound mlX10_183 imX10_needRound seX10_needRound clX10 (kd3 hJ.1.1) rfl (Nat.le_of_ble_eq_true rfl) rfl dX10_auto_1 q) (fun hJ _ _ _ _ E τ1 hM => E_callVx (as := []) (b := 3) (st := []) hM (by decide) yfX10_needRound mlX10_183 imX10_needRound seX10_needRound clX10 (kd3 hJ.1.1) rfl (Nat.le_of_ble_eq_true rfl) rfl dX10_auto_1 rfl) (by decide) (by decide) (fun v1 σ2 => ?_)
  refine P_l (fun hJ _ _ q => E_aload_n dX10_auto_4 rfl (E_getR (b := 19) clX10 3 (by decide) flX10_29 (Or.inl ⟨_, rfl⟩) dX10_auto_5 (kd3 hJ.1.1) (rf3_3 hJ.1.1) (by decide) (E_getRN (b := 21) clX6 2 (by decide) flX10_206 (Or.inr ⟨_, rfl⟩) dX10_auto_8 (kd19 hJ.1.1) (rf19_2 hJ.1.1) (by decide) (E_aload_n dX10_auto_11 rfl (E_getI clX10 8 (by decide) flX10_61 (Or.inl rfl) dX10_auto_12 (kd3 hJ.1.1) (E_callS (as := [.ref 21, .int (rI σ2 3 8)]) (st := []) (ok_at (σ := σ2) (a := 21) (i := rI σ2 3 8) (f := rI σ2 21) (kd21 hJ.1.1) (by decide) rfl) (by decide) yfX10_at mlX10_193 stX10_at rfl (Nat.le_of_ble_eq_true rfl) rfl dX10_auto_15 (E_istore_n (ls2 := [some (.ref 3), some (.int (vAt (rI σ2 21) 4 (rI σ2 3 8)))]) dX10_auto_18 (by decide) rfl (E_iload_n dX10_auto_19 rfl q)))))))) ?_
  refine P_if (c := (if (vAt (rI σ2 21) 4 (rI σ2 3 8)) = 0 then true else (if (rI σ2 5 6) ≤ 0 then false else true)) = true) (pc1 := 33) (ls1 := [some (.ref 3), some (.int (vAt (rI σ2 21) 4 (rI σ2 3 8)))]) (st1 := []) (pc2 := 41) (ls2 := [some (.ref 3), some (.int (vAt (rI σ2 21) 4 (rI σ2 3 8)))]) (st2 := []) (fun hJ _ _ hX hY => ?_) ?_ ?_
  · skip
    refine E_if_eq 33 dX10_auto_20 (by decide) (fun c_20_0 => ?_) (fun c_20_0 => ?_)
    · skip
      exact hX (by simp only [if_pos c_20_0])
    · skip
      refine E_aload_n dX10_auto_23 rfl ?_
      refine E_getR (b := 5) clX10 1 (by decide) flX10_19 (Or.inl ⟨_, rfl⟩) dX10_auto_24 (kd3 hJ.1.1) (rf3_1 hJ.1.1) (by decide) ?_
      refine E_getIN clX1 6 (by decide) flX10_174 (Or.inl rfl) dX10_auto_27 (kd5 hJ.1.1) ?_
      refine E_if_le 41 dX10_auto_30 (by decide) (fun c_30_1 => ?_) (fun c_30_1 => ?_)
      · skip
        exact hY (by simp only [if_neg c_20_0, if_pos c_30_1]; exact Bool.false_ne_true)
      · skip
        exact hX (by simp only [if_neg c_20_0, if_neg c_30_1])
  · skip
    exact P_thr (fun kc ks => xt_IllegalStateException rfl rfl (by decide) (Nat.le_of_ble_eq_true rfl) dX10_auto_33 dX10_auto_36 dX10_auto_37 dX10_auto_40 kc ks) (by decide) (by decide)
  · skip
    refine P_l (fun hJ _ _ q => E_iload_n dX10_auto_41 rfl (E_iconst (v := 3) dX10_auto_42 (by decide) q)) ?_
    refine P_if (c := (if (vAt (rI σ2 21) 4 (rI σ2 3 8)) = 3 then (if (v_X10_hasMelded σ2 (rI σ2 3 8)) = 0 then true else false) else true) = true) (pc1 := 62) (ls1 := [some (.ref 3), some (.int (vAt (rI σ2 21) 4 (rI σ2 3 8)))]) (st1 := []) (pc2 := 57) (ls2 := [some (.ref 3), some (.int (vAt (rI σ2 21) 4 (rI σ2 3 8)))]) (st2 := []) (fun hJ _ _ hX hY => ?_) ?_ ?_
    · skip
      refine E_icmp_ne 62 dX10_auto_43 (by decide) (fun c_43_0 => ?_) (fun c_43_0 => ?_)
      · skip
        exact hX (by simp only [if_neg c_43_0])
      · skip
        refine E_aload_n dX10_auto_46 rfl ?_
        refine E_aload_n dX10_auto_47 rfl ?_
        refine E_getI clX10 8 (by decide) flX10_61 (Or.inl rfl) dX10_auto_48 (kd3 hJ.1.1) ?_
        refine E_callV (as := [.int (rI σ2 3 8)]) (b := 3) (st := []) (ok_X10_hasMelded (σ := σ2) (p1 := rI σ2 3 8) hJ ) (by decide) yfX10_hasMelded mlX10_209 imX10_hasMelded seX10_hasMelded clX10 (kd3 hJ.1.1) rfl (Nat.le_of_ble_eq_true rfl) rfl dX10_auto_51 ?_
        refine E_if_eq 62 dX10_auto_54 (by decide) (fun c_54_1 => ?_) (fun c_54_1 => ?_)
        · skip
          exact hX (by simp only [if_pos c_43_0, if_pos c_54_1])
        · skip
          exact hY (by simp only [if_pos c_43_0, if_neg c_54_1]; exact Bool.false_ne_true)
    · skip
      refine P_l (fun hJ _ _ q => E_aload_n dX10_auto_62 rfl (E_iload_n dX10_auto_63 rfl q)) ?_
      refine P_call (t := fun v => some (.int v)) (st2 := fun v => .int v :: []) (kc2 := 1) (ks2 := 6) (fun hJ => (ok_X10_autoByPlan (σ := σ2) (p1 := vAt (rI σ2 21) 4 (rI σ2 3 8)) )) (fun hJ _ _ _ _ v τ1 hM q => E_callV (as := [.int (vAt (rI σ2 21) 4 (rI σ2 3 8))]) (b := 3) (st := []) hM (by decide) yfX10_autoByPlan mlX10_215 imX10_autoByPlan seX10_autoByPlan clX10 (kd3 hJ.1.1) rfl (Nat.le_of_ble_eq_true rfl) rfl dX10_auto_64 q) (by decide) (by decide) (fun v3 σ4 => ?_)
      exact P_ret (fun _ _ => E_iret rfl dX10_auto_67)
    · skip
      refine P_l (fun hJ _ _ q => E_aload_n dX10_auto_57 rfl q) ?_
      refine P_call (t := fun v => some (.int v)) (st2 := fun v => .int v :: []) (kc2 := 1) (ks2 := 6) (fun hJ => (ok_X10_autoBlocking (σ := σ2)  )) (fun hJ _ _ _ _ v τ1 hM q => E_callV (as := []) (b := 3) (st := []) hM (by decide) yfX10_autoBlocking mlX10_212 imX10_autoBlocking seX10_autoBlocking clX10 (kd3 hJ.1.1) rfl (Nat.le_of_ble_eq_true rfl) rfl dX10_auto_58 q) (by decide) (by decide) (fun v5 σ6 => ?_)
      exact P_ret (fun _ _ => E_iret rfl dX10_auto_61)

def f_X10_type (σ : rS) (p1 : Int32) : Option ((Int32 ⊕ String) × rS) := if (if (vIn p1 97 122) = 0 then (if (vIn p1 48 57) = 0 then false else true) else true) = true then (oB (f_X7_write σ p1) fun v1 σ2 => if v1 = 0 then (some ((.inr "java/lang/IllegalStateException", σ2))) else (some ((.inl (rI σ2 31 1), σ2)))) else (some ((.inr "java/lang/IllegalArgumentException", σ)))
set_option maxRecDepth 20000 in
set_option maxHeartbeats 2000000 in
theorem ok_X10_type {σ : rS} {p1 : Int32}   : rFn Sy yX10_type mX10_type 6 [.ref 3, .int p1] σ 1 6 (tX (fun v => .inl (some (.int v)))) (f_X10_type σ p1) := by
  refine rF_of (ls := [some (.ref 3), some (.int p1)]) yfX10_type rfl (Nat.le_of_ble_eq_true rfl) (fun o τ => ?_)
  unfold f_X10_type
  refine P_l (fun hJ _ _ q => E_iload_n dX10_type_0 rfl (E_bipush (v := 97) dX10_type_1 (by decide) (E_bipush (v := 122) dX10_type_3 (by decide) (E_callS (as := [.int p1, .int 97, .int 122]) (st := []) (ok_within (σ := σ) (v := p1) (a := 97) (b := 122)) (by decide) yfX10_within mlX10_74 stX10_within rfl (Nat.le_of_ble_eq_true rfl) rfl dX10_type_5 q)))) ?_
  refine P_if (c := (if (vIn p1 97 122) = 0 then (if (vIn p1 48 57) = 0 then false else true) else true) = true) (pc1 := 30) (ls1 := [some (.ref 3), some (.int p1)]) (st1 := []) (pc2 := 22) (ls2 := [some (.ref 3), some (.int p1)]) (st2 := []) (fun hJ _ _ hX hY => ?_) ?_ ?_
  · skip
    refine E_if_ne 30 dX10_type_8 (by decide) (fun c_8_0 => ?_) (fun c_8_0 => ?_)
    · skip
      exact hX (by simp only [if_neg c_8_0])
    · skip
      refine E_iload_n dX10_type_11 rfl ?_
      refine E_bipush (v := 48) dX10_type_12 (by decide) ?_
      refine E_bipush (v := 57) dX10_type_14 (by decide) ?_
      refine E_callS (as := [.int p1, .int 48, .int 57]) (st := []) (ok_within (σ := σ) (v := p1) (a := 48) (b := 57)) (by decide) yfX10_within mlX10_74 stX10_within rfl (Nat.le_of_ble_eq_true rfl) rfl dX10_type_16 ?_
      refine E_if_ne 30 dX10_type_19 (by decide) (fun c_19_1 => ?_) (fun c_19_1 => ?_)
      · skip
        exact hX (by simp only [if_pos c_8_0, if_neg c_19_1])
      · skip
        exact hY (by simp only [if_pos c_8_0, if_pos c_19_1]; exact Bool.false_ne_true)
  · skip
    refine P_l (fun hJ _ _ q => E_aload_n dX10_type_30 rfl (E_getR (b := 31) clX10 4 (by decide) flX10_36 (Or.inl ⟨_, rfl⟩) dX10_type_31 (kd3 hJ.1.1) (rf3_4 hJ.1.1) (by decide) (E_iload_n dX10_type_34 rfl q))) ?_
    refine P_call (t := fun v => some (.int v)) (st2 := fun v => .int v :: []) (kc2 := 1) (ks2 := 6) (fun hJ => (ok_X7_write (σ := σ) (p1 := p1) )) (fun hJ _ _ _ _ v τ1 hM q => E_callVN (as := [.int p1]) (b := 31) (st := []) hM (by decide) yfX7_write mlX10_218 imX7_write seX7_write clX7 (kd31 hJ.1.1) rfl (Nat.le_of_ble_eq_true rfl) rfl dX10_type_35 q) (by decide) (by decide) (fun v1 σ2 => ?_)
    refine P_if (fun hJ _ _ h1 h2 => E_if_ne 49 dX10_type_38 (by decide) h2 h1) ?_ ?_
    · skip
      exact P_thr (fun kc ks => xt_IllegalStateException rfl rfl (by decide) (Nat.le_of_ble_eq_true rfl) dX10_type_41 dX10_type_44 dX10_type_45 dX10_type_48 kc ks) (by decide) (by decide)
    · skip
      refine P_l (fun hJ _ _ q => E_aload_n dX10_type_49 rfl (E_getR (b := 31) clX10 4 (by decide) flX10_36 (Or.inl ⟨_, rfl⟩) dX10_type_50 (kd3 hJ.1.1) (rf3_4 hJ.1.1) (by decide) (E_getIN clX7 1 (by decide) flX10_222 (Or.inl rfl) dX10_type_53 (kd31 hJ.1.1) q))) ?_
      exact P_ret (fun _ _ => E_iret rfl dX10_type_56)
  · skip
    exact P_thr (fun kc ks => xt_IllegalArgumentException rfl rfl (by decide) (Nat.le_of_ble_eq_true rfl) dX10_type_22 dX10_type_25 dX10_type_26 dX10_type_29 kc ks) (by decide) (by decide)

def f_X10_move (σ : rS) (p1 : Int32) (p2 : Int32) : Option (Int32 × rS) := if p1 = 1 then (if (v_X10_mayLay σ p2) = 0 then (some ((0, σ))) else (oB (f_X10_layTile σ p2) fun _ σ3 => some ((1, σ3)))) else (if p1 = 2 then (if (v_X10_mayLayJoker σ p2) = 0 then (some ((0, σ))) else (oB (f_X10_layJoker σ p2) fun _ σ6 => some ((1, σ6)))) else (if p1 = 3 then (if (v_X10_maySwap σ p2) = 0 then (some ((0, σ))) else (oB (f_X10_swapJoker σ p2) fun _ σ9 => some ((1, σ9)))) else (if p1 = 4 then (if (v_X10_mayTakeBack σ) = 0 then (some ((0, σ))) else (oB (f_X10_takeBack σ) fun _ σ12 => some ((1, σ12)))) else (if p1 = 5 then (oB (f_X10_mayEnd σ) fun v14 σ15 => if v14 = 0 then (some ((0, σ15))) else (oB (f_X10_endByLaying σ15) fun _ σ17 => some ((1, σ17)))) else (if (v_X10_isOn σ) = 0 then (some ((0, σ))) else (oB (f_X10_endByDrawing σ 6) fun v18 σ19 => some ((1, σ19))))))))
set_option maxRecDepth 20000 in
set_option maxHeartbeats 2000000 in
theorem ok_X10_move {σ : rS} {p1 : Int32} {p2 : Int32}   : rFn Sy yX10_move mX10_move 7 [.ref 3, .int p1, .int p2] σ 0 0 (fun v => .inl (some (.int v))) (f_X10_move σ p1 p2) := by
  refine rF_of (ls := [some (.ref 3), some (.int p1), some (.int p2)]) yfX10_move rfl (Nat.le_of_ble_eq_true rfl) (fun o τ => ?_)
  unfold f_X10_move
  refine P_l (fun hJ _ _ q => E_iload_n dX10_move_0 rfl q) ?_
  refine P_case (fun h1 => ?_) (fun h1 => ?_)
  · skip
    refine P_l (fun hJ _ _ q => E_tableIn (off := 35) 36 dX10_move_1 (by rw [h1]; decide) (by rw [h1]; decide) (by rw [h1]; rfl) (by decide) q) ?_
    refine P_l (fun hJ _ _ q => E_aload_n dX10_move_36 rfl (E_iload_n dX10_move_37 rfl (E_callV (as := [.int p2]) (b := 3) (st := []) (ok_X10_mayLay (σ := σ) (p1 := p2) hJ ) (by decide) yfX10_mayLay mlX10_139 imX10_mayLay seX10_mayLay clX10 (kd3 hJ.1.1) rfl (Nat.le_of_ble_eq_true rfl) rfl dX10_move_38 q))) ?_
    refine P_if (fun hJ _ _ h1 h2 => E_if_ne 46 dX10_move_41 (by decide) h2 h1) ?_ ?_
    · skip
      refine P_l (fun hJ _ _ q => E_iconst (v := 0) dX10_move_44 (by decide) q) ?_
      exact P_ret (fun _ _ => E_zret01 rfl (by decide) dX10_move_45)
    · skip
      refine P_l (fun hJ _ _ q => E_aload_n dX10_move_46 rfl (E_iload_n dX10_move_47 rfl q)) ?_
      refine P_call (t := fun _ => none) (st2 := fun _ => []) (kc2 := 0) (ks2 := 0) (fun hJ => (ok_X10_layTile (σ := σ) (p1 := p2) )) (fun hJ _ _ _ _ v τ1 hM q => E_callV (as := [.int p2]) (b := 3) (st := []) hM (by decide) yfX10_layTile mlX10_143 imX10_layTile seX10_layTile clX10 (kd3 hJ.1.1) rfl (Nat.le_of_ble_eq_true rfl) rfl dX10_move_48 q) (by decide) (by decide) (fun v2 σ3 => ?_)
      refine P_l (fun hJ _ _ q => E_iconst (v := 1) dX10_move_51 (by decide) q) ?_
      exact P_ret (fun _ _ => E_zret01 rfl (by decide) dX10_move_52)
  · skip
    refine P_case (fun h4 => ?_) (fun h4 => ?_)
    · skip
      refine P_l (fun hJ _ _ q => E_tableIn (off := 52) 53 dX10_move_1 (by rw [h4]; decide) (by rw [h4]; decide) (by rw [h4]; rfl) (by decide) q) ?_
      refine P_l (fun hJ _ _ q => E_aload_n dX10_move_53 rfl (E_iload_n dX10_move_54 rfl (E_callV (as := [.int p2]) (b := 3) (st := []) (ok_X10_mayLayJoker (σ := σ) (p1 := p2) hJ ) (by decide) yfX10_mayLayJoker mlX10_150 imX10_mayLayJoker seX10_mayLayJoker clX10 (kd3 hJ.1.1) rfl (Nat.le_of_ble_eq_true rfl) rfl dX10_move_55 q))) ?_
      refine P_if (fun hJ _ _ h1 h2 => E_if_ne 63 dX10_move_58 (by decide) h2 h1) ?_ ?_
      · skip
        refine P_l (fun hJ _ _ q => E_iconst (v := 0) dX10_move_61 (by decide) q) ?_
        exact P_ret (fun _ _ => E_zret01 rfl (by decide) dX10_move_62)
      · skip
        refine P_l (fun hJ _ _ q => E_aload_n dX10_move_63 rfl (E_iload_n dX10_move_64 rfl q)) ?_
        refine P_call (t := fun _ => none) (st2 := fun _ => []) (kc2 := 0) (ks2 := 0) (fun hJ => (ok_X10_layJoker (σ := σ) (p1 := p2) )) (fun hJ _ _ _ _ v τ1 hM q => E_callV (as := [.int p2]) (b := 3) (st := []) hM (by decide) yfX10_layJoker mlX10_153 imX10_layJoker seX10_layJoker clX10 (kd3 hJ.1.1) rfl (Nat.le_of_ble_eq_true rfl) rfl dX10_move_65 q) (by decide) (by decide) (fun v5 σ6 => ?_)
        refine P_l (fun hJ _ _ q => E_iconst (v := 1) dX10_move_68 (by decide) q) ?_
        exact P_ret (fun _ _ => E_zret01 rfl (by decide) dX10_move_69)
    · skip
      refine P_case (fun h7 => ?_) (fun h7 => ?_)
      · skip
        refine P_l (fun hJ _ _ q => E_tableIn (off := 69) 70 dX10_move_1 (by rw [h7]; decide) (by rw [h7]; decide) (by rw [h7]; rfl) (by decide) q) ?_
        refine P_l (fun hJ _ _ q => E_aload_n dX10_move_70 rfl (E_iload_n dX10_move_71 rfl (E_callV (as := [.int p2]) (b := 3) (st := []) (ok_X10_maySwap (σ := σ) (p1 := p2) hJ ) (by decide) yfX10_maySwap mlX10_159 imX10_maySwap seX10_maySwap clX10 (kd3 hJ.1.1) rfl (Nat.le_of_ble_eq_true rfl) rfl dX10_move_72 q))) ?_
        refine P_if (fun hJ _ _ h1 h2 => E_if_ne 80 dX10_move_75 (by decide) h2 h1) ?_ ?_
        · skip
          refine P_l (fun hJ _ _ q => E_iconst (v := 0) dX10_move_78 (by decide) q) ?_
          exact P_ret (fun _ _ => E_zret01 rfl (by decide) dX10_move_79)
        · skip
          refine P_l (fun hJ _ _ q => E_aload_n dX10_move_80 rfl (E_iload_n dX10_move_81 rfl q)) ?_
          refine P_call (t := fun _ => none) (st2 := fun _ => []) (kc2 := 0) (ks2 := 0) (fun hJ => (ok_X10_swapJoker (σ := σ) (p1 := p2) )) (fun hJ _ _ _ _ v τ1 hM q => E_callV (as := [.int p2]) (b := 3) (st := []) hM (by decide) yfX10_swapJoker mlX10_162 imX10_swapJoker seX10_swapJoker clX10 (kd3 hJ.1.1) rfl (Nat.le_of_ble_eq_true rfl) rfl dX10_move_82 q) (by decide) (by decide) (fun v8 σ9 => ?_)
          refine P_l (fun hJ _ _ q => E_iconst (v := 1) dX10_move_85 (by decide) q) ?_
          exact P_ret (fun _ _ => E_zret01 rfl (by decide) dX10_move_86)
      · skip
        refine P_case (fun h10 => ?_) (fun h10 => ?_)
        · skip
          refine P_l (fun hJ _ _ q => E_tableIn (off := 86) 87 dX10_move_1 (by rw [h10]; decide) (by rw [h10]; decide) (by rw [h10]; rfl) (by decide) q) ?_
          refine P_l (fun hJ _ _ q => E_aload_n dX10_move_87 rfl (E_callV (as := []) (b := 3) (st := []) (ok_X10_mayTakeBack (σ := σ)  hJ ) (by decide) yfX10_mayTakeBack mlX10_168 imX10_mayTakeBack seX10_mayTakeBack clX10 (kd3 hJ.1.1) rfl (Nat.le_of_ble_eq_true rfl) rfl dX10_move_88 q)) ?_
          refine P_if (fun hJ _ _ h1 h2 => E_if_ne 96 dX10_move_91 (by decide) h2 h1) ?_ ?_
          · skip
            refine P_l (fun hJ _ _ q => E_iconst (v := 0) dX10_move_94 (by decide) q) ?_
            exact P_ret (fun _ _ => E_zret01 rfl (by decide) dX10_move_95)
          · skip
            refine P_l (fun hJ _ _ q => E_aload_n dX10_move_96 rfl q) ?_
            refine P_call (t := fun _ => none) (st2 := fun _ => []) (kc2 := 0) (ks2 := 0) (fun hJ => (ok_X10_takeBack (σ := σ)  )) (fun hJ _ _ _ _ v τ1 hM q => E_callV (as := []) (b := 3) (st := []) hM (by decide) yfX10_takeBack mlX10_171 imX10_takeBack seX10_takeBack clX10 (kd3 hJ.1.1) rfl (Nat.le_of_ble_eq_true rfl) rfl dX10_move_97 q) (by decide) (by decide) (fun v11 σ12 => ?_)
            refine P_l (fun hJ _ _ q => E_iconst (v := 1) dX10_move_100 (by decide) q) ?_
            exact P_ret (fun _ _ => E_zret01 rfl (by decide) dX10_move_101)
        · skip
          refine P_case (fun h13 => ?_) (fun h13 => ?_)
          · skip
            refine P_l (fun hJ _ _ q => E_tableIn (off := 101) 102 dX10_move_1 (by rw [h13]; decide) (by rw [h13]; decide) (by rw [h13]; rfl) (by decide) q) ?_
            refine P_l (fun hJ _ _ q => E_aload_n dX10_move_102 rfl q) ?_
            refine P_call (t := fun v => some (.int v)) (st2 := fun v => .int v :: []) (kc2 := 0) (ks2 := 0) (fun hJ => (ok_X10_mayEnd (σ := σ)  )) (fun hJ _ _ _ _ v τ1 hM q => E_callV (as := []) (b := 3) (st := []) hM (by decide) yfX10_mayEnd mlX10_177 imX10_mayEnd seX10_mayEnd clX10 (kd3 hJ.1.1) rfl (Nat.le_of_ble_eq_true rfl) rfl dX10_move_103 q) (by decide) (by decide) (fun v14 σ15 => ?_)
            refine P_if (fun hJ _ _ h1 h2 => E_if_ne 111 dX10_move_106 (by decide) h2 h1) ?_ ?_
            · skip
              refine P_l (fun hJ _ _ q => E_iconst (v := 0) dX10_move_109 (by decide) q) ?_
              exact P_ret (fun _ _ => E_zret01 rfl (by decide) dX10_move_110)
            · skip
              refine P_l (fun hJ _ _ q => E_aload_n dX10_move_111 rfl q) ?_
              refine P_call (t := fun _ => none) (st2 := fun _ => []) (kc2 := 0) (ks2 := 0) (fun hJ => (ok_X10_endByLaying (σ := σ15)  )) (fun hJ _ _ _ _ v τ1 hM q => E_callV (as := []) (b := 3) (st := []) hM (by decide) yfX10_endByLaying mlX10_180 imX10_endByLaying seX10_endByLaying clX10 (kd3 hJ.1.1) rfl (Nat.le_of_ble_eq_true rfl) rfl dX10_move_112 q) (by decide) (by decide) (fun v16 σ17 => ?_)
              refine P_l (fun hJ _ _ q => E_iconst (v := 1) dX10_move_115 (by decide) q) ?_
              exact P_ret (fun _ _ => E_zret01 rfl (by decide) dX10_move_116)
          · skip
            refine P_l (fun hJ _ _ q => E_tableOut 117 dX10_move_1 (by have e0 := sw_ne h1; have e1 := sw_ne h4; have e2 := sw_ne h7; have e3 := sw_ne h10; have e4 := sw_ne h13; simp only [sw_l1, sw_l2, sw_l3, sw_l4, sw_l5] at *; omega) (by decide) q) ?_
            refine P_l (fun hJ _ _ q => E_aload_n dX10_move_117 rfl (E_callV (as := []) (b := 3) (st := []) (ok_X10_isOn (σ := σ)  hJ ) (by decide) yfX10_isOn mlX10_81 imX10_isOn seX10_isOn clX10 (kd3 hJ.1.1) rfl (Nat.le_of_ble_eq_true rfl) rfl dX10_move_118 q)) ?_
            refine P_if (fun hJ _ _ h1 h2 => E_if_ne 126 dX10_move_121 (by decide) h2 h1) ?_ ?_
            · skip
              refine P_l (fun hJ _ _ q => E_iconst (v := 0) dX10_move_124 (by decide) q) ?_
              exact P_ret (fun _ _ => E_zret01 rfl (by decide) dX10_move_125)
            · skip
              refine P_l (fun hJ _ _ q => E_aload_n dX10_move_126 rfl (E_bipush (v := 6) dX10_move_127 (by decide) q)) ?_
              refine P_call (t := fun v => some (.int v)) (st2 := fun v => .int v :: []) (kc2 := 0) (ks2 := 0) (fun hJ => (ok_X10_endByDrawing (σ := σ) (p1 := 6) )) (fun hJ _ _ _ _ v τ1 hM q => E_callV (as := [.int 6]) (b := 3) (st := []) hM (by decide) yfX10_endByDrawing mlX10_186 imX10_endByDrawing seX10_endByDrawing clX10 (kd3 hJ.1.1) rfl (Nat.le_of_ble_eq_true rfl) rfl dX10_move_129 q) (by decide) (by decide) (fun v18 σ19 => ?_)
              refine P_l (fun hJ _ _ q => E_pop dX10_move_132 rfl (E_iconst (v := 1) dX10_move_133 (by decide) q)) ?_
              exact P_ret (fun _ _ => E_zret01 rfl (by decide) dX10_move_134)

def b_X10_play_28 (s5 : Int32 × rS) : Option (((Int32 ⊕ String) × rS) ⊕ (Int32 × rS)) := if (rI s5.2 31 4) ≤ s5.1 then (oLet (wI s5.2 31 1 0) fun σ6 => some (.inl ((.inl s5.1, σ6)))) else (oB (f_X10_move s5.2 (vAt (rI s5.2 33) 40 s5.1) (vAt (rI s5.2 34) 40 s5.1)) fun v7 σ8 => if v7 = 0 then (oLet (wI σ8 31 1 0) fun σ9 => some (.inl ((.inl s5.1, σ9)))) else (some (.inr ((s5.1 + 1, σ8)))))
def f_X10_play (σ : rS) : Option ((Int32 ⊕ String) × rS) := oB (f_X7_read σ) fun v1 σ2 => if v1 = 0 then (some ((.inr "java/lang/IllegalArgumentException", σ2))) else (oBx (f_X10_needRound σ2) fun _ σ4 => oLoop (b_X10_play_28) oFuel ((0, σ4)))
set_option maxRecDepth 20000 in
set_option maxHeartbeats 2000000 in
theorem ok_X10_play {σ : rS}   : rFn Sy yX10_play mX10_play 8 [.ref 3] σ 2 12 (tX (fun v => .inl (some (.int v)))) (f_X10_play σ) := by
  refine rF_of (ls := [some (.ref 3), none]) yfX10_play rfl (Nat.le_of_ble_eq_true rfl) (fun o τ => ?_)
  unfold f_X10_play
  refine P_l (fun hJ _ _ q => E_aload_n dX10_play_0 rfl (E_getR (b := 31) clX10 4 (by decide) flX10_36 (Or.inl ⟨_, rfl⟩) dX10_play_1 (kd3 hJ.1.1) (rf3_4 hJ.1.1) (by decide) (E_aload_n dX10_play_4 rfl (E_getR (b := 4) clX10 0 (by decide) flX10_12 (Or.inl ⟨_, rfl⟩) dX10_play_5 (kd3 hJ.1.1) (rf3_0 hJ.1.1) (by decide) q)))) ?_
  refine P_call (t := fun v => some (.int v)) (st2 := fun v => .int v :: []) (kc2 := 2) (ks2 := 12) (fun hJ => (ok_X7_read (σ := σ)  )) (fun hJ _ _ _ _ v τ1 hM q => E_callVN (as := [.ref 4]) (b := 31) (st := []) hM (by decide) yfX7_read mlX10_225 imX7_read seX7_read clX7 (kd31 hJ.1.1) rfl (Nat.le_of_ble_eq_true rfl) rfl dX10_play_8 q) (by decide) (by decide) (fun v1 σ2 => ?_)
  refine P_if (fun hJ _ _ h1 h2 => E_if_ne 22 dX10_play_11 (by decide) h2 h1) ?_ ?_
  · skip
    exact P_thr (fun kc ks => xt_IllegalArgumentException rfl rfl (by decide) (Nat.le_of_ble_eq_true rfl) dX10_play_14 dX10_play_17 dX10_play_18 dX10_play_21 kc ks) (by decide) (by decide)
  · skip
    refine P_l (fun hJ _ _ q => E_aload_n dX10_play_22 rfl q) ?_
    refine P_callx (t2 := fun _ => none) (st2 := fun _ => []) (kc2 := 1) (ks2 := 6) (fun hJ => (ok_X10_needRound (σ := σ2)  )) (fun hJ _ _ _ _ v τ1 hM q => E_callV (as := []) (b := 3) (st := []) hM (by decide) yfX10_needRound mlX10_183 imX10_needRound seX10_needRound clX10 (kd3 hJ.1.1) rfl (Nat.le_of_ble_eq_true rfl) rfl dX10_play_23 q) (fun hJ _ _ _ _ E τ1 hM => E_callVx (as := []) (b := 3) (st := []) hM (by decide) yfX10_needRound mlX10_183 imX10_needRound seX10_needRound clX10 (kd3 hJ.1.1) rfl (Nat.le_of_ble_eq_true rfl) rfl dX10_play_23 rfl) (by decide) (by decide) (fun v3 σ4 => ?_)
    refine P_l (fun hJ _ _ q => E_iconst (v := 0) dX10_play_26 (by decide) (E_istore_n (ls2 := [some (.ref 3), some (.int 0)]) dX10_play_27 (by decide) rfl q)) ?_
    refine P_loop (fun s5 => [some (.ref 3), some (.int s5.1)]) (fun s5 => s5.2) (fun s5 => ?_) _ ((0, σ4))
    unfold b_X10_play_28
    refine P_l (fun hJ _ _ q => E_iload_n dX10_play_28 rfl (E_aload_n dX10_play_29 rfl (E_getR (b := 31) clX10 4 (by decide) flX10_36 (Or.inl ⟨_, rfl⟩) dX10_play_30 (kd3 hJ.1.1) (rf3_4 hJ.1.1) (by decide) (E_getIN clX7 4 (by decide) flX10_229 (Or.inl rfl) dX10_play_33 (kd31 hJ.1.1) q)))) ?_
    refine P_if (fun hJ _ _ h1 h2 => E_icmp_ge 74 dX10_play_36 (by decide) h1 h2) ?_ ?_
    · skip
      refine P_l (fun hJ _ _ q => E_aload_n dX10_play_74 rfl (E_getR (b := 31) clX10 4 (by decide) flX10_36 (Or.inl ⟨_, rfl⟩) dX10_play_75 (kd3 hJ.1.1) (rf3_4 hJ.1.1) (by decide) (E_iconst (v := 0) dX10_play_78 (by decide) q))) ?_
      refine P_w (fun hJ _ _ q => E_putIN clX7 1 (by decide) flX10_222 (Or.inl rfl) rfl dX10_play_79 (kd31 hJ.1.1) q) (fun hJ => Sy_wI hJ.1) rfl rfl rfl (fun σ6 hσ6 => ?_)
      refine P_l (fun hJ _ _ q => E_iload_n dX10_play_82 rfl q) ?_
      exact P_inl (P_ret (fun _ _ => E_iret rfl dX10_play_83))
    · skip
      refine P_l (fun hJ _ _ q => E_aload_n dX10_play_39 rfl (E_aload_n dX10_play_40 rfl (E_getR (b := 31) clX10 4 (by decide) flX10_36 (Or.inl ⟨_, rfl⟩) dX10_play_41 (kd3 hJ.1.1) (rf3_4 hJ.1.1) (by decide) (E_getRN (b := 33) clX7 2 (by decide) flX10_232 (Or.inr ⟨_, rfl⟩) dX10_play_44 (kd31 hJ.1.1) (rf31_2 hJ.1.1) (by decide) (E_iload_n dX10_play_47 rfl (E_callS (as := [.ref 33, .int s5.1]) (st := [.ref 3]) (ok_at (σ := s5.2) (a := 33) (i := s5.1) (f := rI s5.2 33) (kd33 hJ.1.1) (by decide) rfl) (by decide) yfX10_at mlX10_193 stX10_at rfl (Nat.le_of_ble_eq_true rfl) rfl dX10_play_48 (E_aload_n dX10_play_51 rfl (E_getR (b := 31) clX10 4 (by decide) flX10_36 (Or.inl ⟨_, rfl⟩) dX10_play_52 (kd3 hJ.1.1) (rf3_4 hJ.1.1) (by decide) (E_getRN (b := 34) clX7 3 (by decide) flX10_235 (Or.inr ⟨_, rfl⟩) dX10_play_55 (kd31 hJ.1.1) (rf31_3 hJ.1.1) (by decide) (E_iload_n dX10_play_58 rfl (E_callS (as := [.ref 34, .int s5.1]) (st := [.int (vAt (rI s5.2 33) 40 s5.1), .ref 3]) (ok_at (σ := s5.2) (a := 34) (i := s5.1) (f := rI s5.2 34) (kd34 hJ.1.1) (by decide) rfl) (by decide) yfX10_at mlX10_193 stX10_at rfl (Nat.le_of_ble_eq_true rfl) rfl dX10_play_59 q))))))))))) ?_
      refine P_call (t := fun v => some (.int v)) (st2 := fun v => .int v :: []) (kc2 := 1) (ks2 := 6) (fun hJ => (ok_X10_move (σ := s5.2) (p1 := vAt (rI s5.2 33) 40 s5.1) (p2 := vAt (rI s5.2 34) 40 s5.1) )) (fun hJ _ _ _ _ v τ1 hM q => E_callV (as := [.int (vAt (rI s5.2 33) 40 s5.1), .int (vAt (rI s5.2 34) 40 s5.1)]) (b := 3) (st := []) hM (by decide) yfX10_move mlX10_238 imX10_move seX10_move clX10 (kd3 hJ.1.1) rfl (Nat.le_of_ble_eq_true rfl) rfl dX10_play_62 q) (by decide) (by decide) (fun v7 σ8 => ?_)
      refine P_if (fun hJ _ _ h1 h2 => E_if_eq 74 dX10_play_65 (by decide) h1 h2) ?_ ?_
      · skip
        refine P_l (fun hJ _ _ q => E_aload_n dX10_play_74 rfl (E_getR (b := 31) clX10 4 (by decide) flX10_36 (Or.inl ⟨_, rfl⟩) dX10_play_75 (kd3 hJ.1.1) (rf3_4 hJ.1.1) (by decide) (E_iconst (v := 0) dX10_play_78 (by decide) q))) ?_
        refine P_w (fun hJ _ _ q => E_putIN clX7 1 (by decide) flX10_222 (Or.inl rfl) rfl dX10_play_79 (kd31 hJ.1.1) q) (fun hJ => Sy_wI hJ.1) rfl rfl rfl (fun σ9 hσ9 => ?_)
        refine P_l (fun hJ _ _ q => E_iload_n dX10_play_82 rfl q) ?_
        exact P_inl (P_ret (fun _ _ => E_iret rfl dX10_play_83))
      · skip
        refine P_l (fun hJ _ _ q => E_iinc (v := 1) (ls2 := [some (.ref 3), some (.int (s5.1 + 1))]) dX10_play_68 rfl (by decide) (by decide) rfl (E_goto 28 dX10_play_71 (by decide) q)) ?_
        exact P_back ((s5.1 + 1, σ8))

def f_X10_findCuts (σ : rS) : Option (Unit × rS) := if (rI σ 3 12) = (rI σ 5 12) then (some (((), σ))) else (oB (f_X10_takeTable σ) fun _ σ2 => oB (f_X9_go σ2 2 ((rI σ2 4 0) + 1)) fun v3 σ4 => oJoin (if (if v3 ≤ 0 then 0 else 1) = 0 then (some (.inr 0)) else (if inB 0 ((rK σ4 (rR σ4 (rR σ4 37 5) 0)).2) then (some (.inr (((rL σ4 (rR σ4 (rR σ4 37 5) 1) (0 : Int32).toNatClampNeg : Int64)).toInt32))) else none)) fun j5 => oLet (wI σ4 3 13 j5) fun σ7 => oJoin (if (if v3 ≤ 0 then 0 else 1) = 0 then (some (.inr ((-1)))) else (if inB 0 ((rK σ7 (rR σ7 (rR σ7 37 5) 0)).2) then (some (.inr (((((rL σ7 (rR σ7 (rR σ7 37 5) 2) (0 : Int32).toNatClampNeg).toUInt64 >>> (((32 : Int32)).toInt64.toUInt64 &&& Int64.toUInt64 63)).toInt64 : Int64)).toInt32))) else none)) fun j8 => oLet (wI σ7 3 14 j8) fun σ10 => if (if v3 ≤ 0 then 0 else 1) = 0 then (oLet (wI σ10 3 15 ((-1))) fun σ11 => oLet (wI σ11 3 12 (rI σ11 5 12)) fun σ12 => some (((), σ12))) else (if inB 0 ((rK σ10 (rR σ10 (rR σ10 37 5) 0)).2) then (oLet (wI σ10 3 15 (((rL σ10 (rR σ10 (rR σ10 37 5) 2) (0 : Int32).toNatClampNeg : Int64)).toInt32)) fun σ14 => oLet (wI σ14 3 12 (rI σ14 5 12)) fun σ15 => some (((), σ15))) else none))
set_option maxRecDepth 20000 in
set_option maxHeartbeats 2000000 in
theorem ok_X10_findCuts {σ : rS}   : rFn Sy yX10_findCuts mX10_findCuts 5 [.ref 3] σ 0 0 (fun _ => .inl none) (f_X10_findCuts σ) := by
  refine rF_of (ls := [some (.ref 3), none]) yfX10_findCuts rfl (Nat.le_of_ble_eq_true rfl) (fun o τ => ?_)
  unfold f_X10_findCuts
  refine P_l (fun hJ _ _ q => E_aload_n dX10_findCuts_0 rfl (E_getI clX10 12 (by decide) flX10_68 (Or.inl rfl) dX10_findCuts_1 (kd3 hJ.1.1) (E_aload_n dX10_findCuts_4 rfl (E_getR (b := 5) clX10 1 (by decide) flX10_19 (Or.inl ⟨_, rfl⟩) dX10_findCuts_5 (kd3 hJ.1.1) (rf3_1 hJ.1.1) (by decide) (E_getIN clX1 12 (by decide) flX10_460 (Or.inl rfl) dX10_findCuts_8 (kd5 hJ.1.1) q))))) ?_
  refine P_if (fun hJ _ _ h1 h2 => E_icmp_ne 15 dX10_findCuts_11 (by decide) h2 h1) ?_ ?_
  · skip
    exact P_ret (fun _ _ => E_vret rfl dX10_findCuts_14)
  · skip
    refine P_l (fun hJ _ _ q => E_aload_n dX10_findCuts_15 rfl q) ?_
    refine P_call (t := fun _ => none) (st2 := fun _ => []) (kc2 := 0) (ks2 := 0) (fun hJ => (ok_X10_takeTable (σ := σ)  )) (fun hJ _ _ _ _ v τ1 hM q => E_callV (as := []) (b := 3) (st := []) hM (by decide) yfX10_takeTable mlX10_242 imX10_takeTable seX10_takeTable clX10 (kd3 hJ.1.1) rfl (Nat.le_of_ble_eq_true rfl) rfl dX10_findCuts_16 q) (by decide) (by decide) (fun v1 σ2 => ?_)
    refine P_l (fun hJ _ _ q => E_aload_n dX10_findCuts_19 rfl (E_getR (b := 37) clX10 6 (by decide) flX10_50 (Or.inl ⟨_, rfl⟩) dX10_findCuts_20 (kd3 hJ.1.1) (rf3_6 hJ.1.1) (by decide) (E_aload_n dX10_findCuts_23 rfl (E_getR (b := 4) clX10 0 (by decide) flX10_12 (Or.inl ⟨_, rfl⟩) dX10_findCuts_24 (kd3 hJ.1.1) (rf3_0 hJ.1.1) (by decide) (E_iconst (v := 2) dX10_findCuts_27 (by decide) (E_aload_n dX10_findCuts_28 rfl (E_getR (b := 4) clX10 0 (by decide) flX10_12 (Or.inl ⟨_, rfl⟩) dX10_findCuts_29 (kd3 hJ.1.1) (rf3_0 hJ.1.1) (by decide) (E_getIN clX5 0 (by decide) flX10_88 (Or.inl rfl) dX10_findCuts_32 (kd4 hJ.1.1) (E_iconst (v := 1) dX10_findCuts_35 (by decide) (E_iadd dX10_findCuts_36 q)))))))))) ?_
    refine P_call (t := fun v => some (.int v)) (st2 := fun v => .int v :: []) (kc2 := 0) (ks2 := 0) (fun hJ => (ok_X9_go (σ := σ2) (p2 := 2) (p3 := (rI σ2 4 0) + 1) )) (fun hJ _ _ _ _ v τ1 hM q => E_callVN (as := [.ref 4, .int 2, .int ((rI σ2 4 0) + 1)]) (b := 37) (st := []) hM (by decide) yfX9_go mlX10_245 imX9_go seX9_go clX9 (kd37 hJ.1.1) rfl (Nat.le_of_ble_eq_true rfl) rfl dX10_findCuts_37 q) (by decide) (by decide) (fun v3 σ4 => ?_)
    refine P_l (pc2 := 48) (ls2 := [some (.ref 3), none]) (st2 := [.int (if v3 ≤ 0 then 0 else 1)]) (fun hJ _ _ hq => ?_) ?_
    · skip
      refine E_if_le 47 dX10_findCuts_40 (by decide) (fun c_40_0 => ?_) (fun c_40_0 => ?_)
      · skip
        refine E_iconst (v := 0) dX10_findCuts_47 (by decide) ?_
        simp only [if_pos c_40_0] at hq
        exact hq
      · skip
        refine E_iconst (v := 1) dX10_findCuts_43 (by decide) ?_
        refine E_goto 48 dX10_findCuts_44 (by decide) ?_
        simp only [if_neg c_40_0] at hq
        exact hq
    · skip
      refine P_l (fun hJ _ _ q => E_istore_n (ls2 := [some (.ref 3), some (.int (if v3 ≤ 0 then 0 else 1))]) dX10_findCuts_48 (by decide) rfl (E_aload_n dX10_findCuts_49 rfl (E_iload_n dX10_findCuts_50 rfl q))) ?_
      refine P_join (pc2 := 71) (fun j5 => [some (.ref 3), some (.int (if v3 ≤ 0 then 0 else 1))]) (fun j5 => [.int j5, .ref 3]) (fun _ => σ4) ?_ (fun j5 => ?_)
      · skip
        refine P_if (fun hJ _ _ h1 h2 => E_if_eq 70 dX10_findCuts_51 (by decide) h1 h2) ?_ ?_
        · skip
          refine P_l (fun hJ _ _ q => E_iconst (v := 0) dX10_findCuts_70 (by decide) q) ?_
          exact P_back 0
        · skip
          refine P_l (fun hJ _ _ q => E_aload_n dX10_findCuts_54 rfl (E_getR (b := 37) clX10 6 (by decide) flX10_50 (Or.inl ⟨_, rfl⟩) dX10_findCuts_55 (kd3 hJ.1.1) (rf3_6 hJ.1.1) (by decide) (E_getRN (b := rR σ4 37 5) clX9 5 (by decide) flX10_463 (Or.inl ⟨_, rfl⟩) dX10_findCuts_58 (kd37 hJ.1.1) rfl (Nat.pos_iff_ne_zero.mp (Nat.lt_of_lt_of_le (by decide : 0 < 3) (Sy_here hJ.1).2)) (E_getRN (b := rR σ4 (rR σ4 37 5) 1) clX3 1 (by decide) flX10_467 (Or.inr ⟨_, rfl⟩) dX10_findCuts_61 (Sy_here hJ.1).1 rfl (Nat.pos_iff_ne_zero.mp (Nat.lt_of_lt_of_le (by decide : 0 < 3) (Sy_here1 hJ.1).2)) (E_iconst (v := 0) dX10_findCuts_64 (by decide) q))))) ?_
          refine P_g (fun g6 => ?_)
          refine P_l (fun hJ _ _ q => E_lald dX10_findCuts_65 (Sy_here1 hJ.1).1 (inB_vp g6) (E_l2i dX10_findCuts_66 (E_goto 71 dX10_findCuts_67 (by decide) q))) ?_
          exact P_back (((rL σ4 (rR σ4 (rR σ4 37 5) 1) (0 : Int32).toNatClampNeg : Int64)).toInt32)
      · skip
        refine P_w (fun hJ _ _ q => E_putI clX10 13 (by decide) flX10_252 (Or.inl rfl) rfl dX10_findCuts_71 (kd3 hJ.1.1) q) (fun hJ => Sy_wI hJ.1) rfl rfl rfl (fun σ7 hσ7 => ?_)
        refine P_l (fun hJ _ _ q => E_aload_n dX10_findCuts_74 rfl (E_iload_n dX10_findCuts_75 rfl q)) ?_
        refine P_join (pc2 := 99) (fun j8 => [some (.ref 3), some (.int (if v3 ≤ 0 then 0 else 1))]) (fun j8 => [.int j8, .ref 3]) (fun _ => σ7) ?_ (fun j8 => ?_)
        · skip
          refine P_if (fun hJ _ _ h1 h2 => E_if_eq 98 dX10_findCuts_76 (by decide) h1 h2) ?_ ?_
          · skip
            refine P_l (fun hJ _ _ q => E_iconst (v := (-1)) dX10_findCuts_98 (by decide) q) ?_
            exact P_back ((-1))
          · skip
            refine P_l (fun hJ _ _ q => E_aload_n dX10_findCuts_79 rfl (E_getR (b := 37) clX10 6 (by decide) flX10_50 (Or.inl ⟨_, rfl⟩) dX10_findCuts_80 (kd3 hJ.1.1) (rf3_6 hJ.1.1) (by decide) (E_getRN (b := rR σ7 37 5) clX9 5 (by decide) flX10_463 (Or.inl ⟨_, rfl⟩) dX10_findCuts_83 (kd37 hJ.1.1) rfl (Nat.pos_iff_ne_zero.mp (Nat.lt_of_lt_of_le (by decide : 0 < 3) (Sy_here hJ.1).2)) (E_getRN (b := rR σ7 (rR σ7 37 5) 2) clX3 2 (by decide) flX10_473 (Or.inr ⟨_, rfl⟩) dX10_findCuts_86 (Sy_here hJ.1).1 rfl (Nat.pos_iff_ne_zero.mp (Nat.lt_of_lt_of_le (by decide : 0 < 3) (Sy_here2 hJ.1).2)) (E_iconst (v := 0) dX10_findCuts_89 (by decide) q))))) ?_
            refine P_g (fun g9 => ?_)
            refine P_l (fun hJ _ _ q => E_lald dX10_findCuts_90 (Sy_here2 hJ.1).1 (inB_vp g9) (E_bipush (v := 32) dX10_findCuts_91 (by decide) (E_lushr dX10_findCuts_93 (E_l2i dX10_findCuts_94 (E_goto 99 dX10_findCuts_95 (by decide) q))))) ?_
            exact P_back (((((rL σ7 (rR σ7 (rR σ7 37 5) 2) (0 : Int32).toNatClampNeg).toUInt64 >>> (((32 : Int32)).toInt64.toUInt64 &&& Int64.toUInt64 63)).toInt64 : Int64)).toInt32)
        · skip
          refine P_w (fun hJ _ _ q => E_putI clX10 14 (by decide) flX10_255 (Or.inl rfl) rfl dX10_findCuts_99 (kd3 hJ.1.1) q) (fun hJ => Sy_wI hJ.1) rfl rfl rfl (fun σ10 hσ10 => ?_)
          refine P_l (fun hJ _ _ q => E_aload_n dX10_findCuts_102 rfl (E_iload_n dX10_findCuts_103 rfl q)) ?_
          refine P_if (fun hJ _ _ h1 h2 => E_if_eq 123 dX10_findCuts_104 (by decide) h1 h2) ?_ ?_
          · skip
            refine P_l (fun hJ _ _ q => E_iconst (v := (-1)) dX10_findCuts_123 (by decide) q) ?_
            refine P_w (fun hJ _ _ q => E_putI clX10 15 (by decide) flX10_258 (Or.inl rfl) rfl dX10_findCuts_124 (kd3 hJ.1.1) q) (fun hJ => Sy_wI hJ.1) rfl rfl rfl (fun σ11 hσ11 => ?_)
            refine P_l (fun hJ _ _ q => E_aload_n dX10_findCuts_127 rfl (E_aload_n dX10_findCuts_128 rfl (E_getR (b := 5) clX10 1 (by decide) flX10_19 (Or.inl ⟨_, rfl⟩) dX10_findCuts_129 (kd3 hJ.1.1) (rf3_1 hJ.1.1) (by decide) (E_getIN clX1 12 (by decide) flX10_460 (Or.inl rfl) dX10_findCuts_132 (kd5 hJ.1.1) q)))) ?_
            refine P_w (fun hJ _ _ q => E_putI clX10 12 (by decide) flX10_68 (Or.inl rfl) rfl dX10_findCuts_135 (kd3 hJ.1.1) q) (fun hJ => Sy_wI hJ.1) rfl rfl rfl (fun σ12 hσ12 => ?_)
            exact P_ret (fun _ _ => E_vret rfl dX10_findCuts_138)
          · skip
            refine P_l (fun hJ _ _ q => E_aload_n dX10_findCuts_107 rfl (E_getR (b := 37) clX10 6 (by decide) flX10_50 (Or.inl ⟨_, rfl⟩) dX10_findCuts_108 (kd3 hJ.1.1) (rf3_6 hJ.1.1) (by decide) (E_getRN (b := rR σ10 37 5) clX9 5 (by decide) flX10_463 (Or.inl ⟨_, rfl⟩) dX10_findCuts_111 (kd37 hJ.1.1) rfl (Nat.pos_iff_ne_zero.mp (Nat.lt_of_lt_of_le (by decide : 0 < 3) (Sy_here hJ.1).2)) (E_getRN (b := rR σ10 (rR σ10 37 5) 2) clX3 2 (by decide) flX10_473 (Or.inr ⟨_, rfl⟩) dX10_findCuts_114 (Sy_here hJ.1).1 rfl (Nat.pos_iff_ne_zero.mp (Nat.lt_of_lt_of_le (by decide : 0 < 3) (Sy_here2 hJ.1).2)) (E_iconst (v := 0) dX10_findCuts_117 (by decide) q))))) ?_
            refine P_g (fun g13 => ?_)
            refine P_l (fun hJ _ _ q => E_lald dX10_findCuts_118 (Sy_here2 hJ.1).1 (inB_vp g13) (E_l2i dX10_findCuts_119 (E_goto 124 dX10_findCuts_120 (by decide) q))) ?_
            refine P_w (fun hJ _ _ q => E_putI clX10 15 (by decide) flX10_258 (Or.inl rfl) rfl dX10_findCuts_124 (kd3 hJ.1.1) q) (fun hJ => Sy_wI hJ.1) rfl rfl rfl (fun σ14 hσ14 => ?_)
            refine P_l (fun hJ _ _ q => E_aload_n dX10_findCuts_127 rfl (E_aload_n dX10_findCuts_128 rfl (E_getR (b := 5) clX10 1 (by decide) flX10_19 (Or.inl ⟨_, rfl⟩) dX10_findCuts_129 (kd3 hJ.1.1) (rf3_1 hJ.1.1) (by decide) (E_getIN clX1 12 (by decide) flX10_460 (Or.inl rfl) dX10_findCuts_132 (kd5 hJ.1.1) q)))) ?_
            refine P_w (fun hJ _ _ q => E_putI clX10 12 (by decide) flX10_68 (Or.inl rfl) rfl dX10_findCuts_135 (kd3 hJ.1.1) q) (fun hJ => Sy_wI hJ.1) rfl rfl rfl (fun σ15 hσ15 => ?_)
            exact P_ret (fun _ _ => E_vret rfl dX10_findCuts_138)

def f_X10_cuts (σ : rS) (p1 : Int32) : Option ((Int32 ⊕ String) × rS) := if (vIn p1 0 2) = 0 then (some ((.inr "java/lang/IllegalArgumentException", σ))) else (oB (f_X10_findCuts σ) fun _ σ2 => some ((.inl (if p1 = 0 then (rI σ2 3 13) else (if p1 = 1 then (rI σ2 3 14) else (rI σ2 3 15))), σ2)))
set_option maxRecDepth 20000 in
set_option maxHeartbeats 2000000 in
theorem ok_X10_cuts {σ : rS} {p1 : Int32}   : rFn Sy yX10_cuts mX10_cuts 6 [.ref 3, .int p1] σ 1 6 (tX (fun v => .inl (some (.int v)))) (f_X10_cuts σ p1) := by
  refine rF_of (ls := [some (.ref 3), some (.int p1)]) yfX10_cuts rfl (Nat.le_of_ble_eq_true rfl) (fun o τ => ?_)
  unfold f_X10_cuts
  refine P_l (fun hJ _ _ q => E_iload_n dX10_cuts_0 rfl (E_iconst (v := 0) dX10_cuts_1 (by decide) (E_iconst (v := 2) dX10_cuts_2 (by decide) (E_callS (as := [.int p1, .int 0, .int 2]) (st := []) (ok_within (σ := σ) (v := p1) (a := 0) (b := 2)) (by decide) yfX10_within mlX10_74 stX10_within rfl (Nat.le_of_ble_eq_true rfl) rfl dX10_cuts_3 q)))) ?_
  refine P_if (fun hJ _ _ h1 h2 => E_if_ne 17 dX10_cuts_6 (by decide) h2 h1) ?_ ?_
  · skip
    exact P_thr (fun kc ks => xt_IllegalArgumentException rfl rfl (by decide) (Nat.le_of_ble_eq_true rfl) dX10_cuts_9 dX10_cuts_12 dX10_cuts_13 dX10_cuts_16 kc ks) (by decide) (by decide)
  · skip
    refine P_l (fun hJ _ _ q => E_aload_n dX10_cuts_17 rfl q) ?_
    refine P_call (t := fun _ => none) (st2 := fun _ => []) (kc2 := 1) (ks2 := 6) (fun hJ => (ok_X10_findCuts (σ := σ)  )) (fun hJ _ _ _ _ v τ1 hM q => E_callV (as := []) (b := 3) (st := []) hM (by decide) yfX10_findCuts mlX10_249 imX10_findCuts seX10_findCuts clX10 (kd3 hJ.1.1) rfl (Nat.le_of_ble_eq_true rfl) rfl dX10_cuts_18 q) (by decide) (by decide) (fun v1 σ2 => ?_)
    refine P_l (fun hJ _ _ q => E_iload_n dX10_cuts_21 rfl q) ?_
    refine P_l (pc2 := 48) (ls2 := [none, none]) (st2 := [.int (if p1 = 0 then (rI σ2 3 13) else (if p1 = 1 then (rI σ2 3 14) else (rI σ2 3 15)))]) (fun hJ _ _ hq => ?_) ?_
    · skip
      refine E_if_ne 32 dX10_cuts_22 (by decide) (fun c_22_0 => ?_) (fun c_22_0 => ?_)
      · skip
        refine E_iload_n dX10_cuts_32 rfl ?_
        refine E_iconst (v := 1) dX10_cuts_33 (by decide) ?_
        refine E_icmp_ne 44 dX10_cuts_34 (by decide) (fun c_34_1 => ?_) (fun c_34_1 => ?_)
        · skip
          refine E_aload_n dX10_cuts_44 rfl ?_
          refine E_getI clX10 15 (by decide) flX10_258 (Or.inl rfl) dX10_cuts_45 (kd3 hJ.1.1) ?_
          simp only [if_neg c_22_0, if_neg c_34_1] at hq
          exact E_less hq (rLe_at [none, none] [some (.ref 3), some (.int p1)] trivial)
        · skip
          refine E_aload_n dX10_cuts_37 rfl ?_
          refine E_getI clX10 14 (by decide) flX10_255 (Or.inl rfl) dX10_cuts_38 (kd3 hJ.1.1) ?_
          refine E_goto 48 dX10_cuts_41 (by decide) ?_
          simp only [if_neg c_22_0, if_pos c_34_1] at hq
          exact E_less hq (rLe_at [none, none] [some (.ref 3), some (.int p1)] trivial)
      · skip
        refine E_aload_n dX10_cuts_25 rfl ?_
        refine E_getI clX10 13 (by decide) flX10_252 (Or.inl rfl) dX10_cuts_26 (kd3 hJ.1.1) ?_
        refine E_goto 48 dX10_cuts_29 (by decide) ?_
        simp only [if_pos c_22_0] at hq
        exact E_less hq (rLe_at [none, none] [some (.ref 3), some (.int p1)] trivial)
    · skip
      exact P_ret (fun _ _ => E_iret rfl dX10_cuts_48)

def f_X10_states (σ : rS) (p1 : Int32) : Option ((Int32 ⊕ String) × rS) := if (vIn p1 1 (rI σ 4 0)) = 0 then (some ((.inr "java/lang/IllegalArgumentException", σ))) else (oB (f_X10_takeTable σ) fun _ σ2 => oB (f_X9_go σ2 0 p1) fun v3 σ4 => some ((.inl v3, σ4)))
set_option maxRecDepth 20000 in
set_option maxHeartbeats 2000000 in
theorem ok_X10_states {σ : rS} {p1 : Int32}   : rFn Sy yX10_states mX10_states 6 [.ref 3, .int p1] σ 1 6 (tX (fun v => .inl (some (.int v)))) (f_X10_states σ p1) := by
  refine rF_of (ls := [some (.ref 3), some (.int p1)]) yfX10_states rfl (Nat.le_of_ble_eq_true rfl) (fun o τ => ?_)
  unfold f_X10_states
  refine P_l (fun hJ _ _ q => E_iload_n dX10_states_0 rfl (E_iconst (v := 1) dX10_states_1 (by decide) (E_aload_n dX10_states_2 rfl (E_getR (b := 4) clX10 0 (by decide) flX10_12 (Or.inl ⟨_, rfl⟩) dX10_states_3 (kd3 hJ.1.1) (rf3_0 hJ.1.1) (by decide) (E_getIN clX5 0 (by decide) flX10_88 (Or.inl rfl) dX10_states_6 (kd4 hJ.1.1) (E_callS (as := [.int p1, .int 1, .int (rI σ 4 0)]) (st := []) (ok_within (σ := σ) (v := p1) (a := 1) (b := rI σ 4 0)) (by decide) yfX10_within mlX10_74 stX10_within rfl (Nat.le_of_ble_eq_true rfl) rfl dX10_states_9 q)))))) ?_
  refine P_if (fun hJ _ _ h1 h2 => E_if_ne 23 dX10_states_12 (by decide) h2 h1) ?_ ?_
  · skip
    exact P_thr (fun kc ks => xt_IllegalArgumentException rfl rfl (by decide) (Nat.le_of_ble_eq_true rfl) dX10_states_15 dX10_states_18 dX10_states_19 dX10_states_22 kc ks) (by decide) (by decide)
  · skip
    refine P_l (fun hJ _ _ q => E_aload_n dX10_states_23 rfl q) ?_
    refine P_call (t := fun _ => none) (st2 := fun _ => []) (kc2 := 1) (ks2 := 6) (fun hJ => (ok_X10_takeTable (σ := σ)  )) (fun hJ _ _ _ _ v τ1 hM q => E_callV (as := []) (b := 3) (st := []) hM (by decide) yfX10_takeTable mlX10_242 imX10_takeTable seX10_takeTable clX10 (kd3 hJ.1.1) rfl (Nat.le_of_ble_eq_true rfl) rfl dX10_states_24 q) (by decide) (by decide) (fun v1 σ2 => ?_)
    refine P_l (fun hJ _ _ q => E_aload_n dX10_states_27 rfl (E_getR (b := 37) clX10 6 (by decide) flX10_50 (Or.inl ⟨_, rfl⟩) dX10_states_28 (kd3 hJ.1.1) (rf3_6 hJ.1.1) (by decide) (E_aload_n dX10_states_31 rfl (E_getR (b := 4) clX10 0 (by decide) flX10_12 (Or.inl ⟨_, rfl⟩) dX10_states_32 (kd3 hJ.1.1) (rf3_0 hJ.1.1) (by decide) (E_iconst (v := 0) dX10_states_35 (by decide) (E_iload_n dX10_states_36 rfl q)))))) ?_
    refine P_call (t := fun v => some (.int v)) (st2 := fun v => .int v :: []) (kc2 := 1) (ks2 := 6) (fun hJ => (ok_X9_go (σ := σ2) (p2 := 0) (p3 := p1) )) (fun hJ _ _ _ _ v τ1 hM q => E_callVN (as := [.ref 4, .int 0, .int p1]) (b := 37) (st := []) hM (by decide) yfX9_go mlX10_245 imX9_go seX9_go clX9 (kd37 hJ.1.1) rfl (Nat.le_of_ble_eq_true rfl) rfl dX10_states_37 q) (by decide) (by decide) (fun v3 σ4 => ?_)
    exact P_ret (fun _ _ => E_iret rfl dX10_states_40)

def f_X10_needPlayer (σ : rS) (p1 : Int32) : Option ((Unit ⊕ String) × rS) := if (vIn p1 0 ((rI σ 19 0) - 1)) = 0 then (some ((.inr "java/lang/IndexOutOfBoundsException", σ))) else (some ((.inl (()), σ)))
set_option maxRecDepth 20000 in
set_option maxHeartbeats 2000000 in
theorem ok_X10_needPlayer {σ : rS} {p1 : Int32}   : rFn Sy yX10_needPlayer mX10_needPlayer 6 [.ref 3, .int p1] σ 1 6 (tX (fun _ => .inl none)) (f_X10_needPlayer σ p1) := by
  refine rF_of (ls := [some (.ref 3), some (.int p1)]) yfX10_needPlayer rfl (Nat.le_of_ble_eq_true rfl) (fun o τ => ?_)
  unfold f_X10_needPlayer
  refine P_l (fun hJ _ _ q => E_iload_n dX10_needPlayer_0 rfl (E_iconst (v := 0) dX10_needPlayer_1 (by decide) (E_aload_n dX10_needPlayer_2 rfl (E_getR (b := 19) clX10 3 (by decide) flX10_29 (Or.inl ⟨_, rfl⟩) dX10_needPlayer_3 (kd3 hJ.1.1) (rf3_3 hJ.1.1) (by decide) (E_getIN clX6 0 (by decide) flX10_111 (Or.inl rfl) dX10_needPlayer_6 (kd19 hJ.1.1) (E_iconst (v := 1) dX10_needPlayer_9 (by decide) (E_isub dX10_needPlayer_10 (E_callS (as := [.int p1, .int 0, .int ((rI σ 19 0) - 1)]) (st := []) (ok_within (σ := σ) (v := p1) (a := 0) (b := (rI σ 19 0) - 1)) (by decide) yfX10_within mlX10_74 stX10_within rfl (Nat.le_of_ble_eq_true rfl) rfl dX10_needPlayer_11 q)))))))) ?_
  refine P_if (fun hJ _ _ h1 h2 => E_if_ne 25 dX10_needPlayer_14 (by decide) h2 h1) ?_ ?_
  · skip
    exact P_thr (fun kc ks => xt_IndexOutOfBoundsException rfl rfl (by decide) (Nat.le_of_ble_eq_true rfl) dX10_needPlayer_17 dX10_needPlayer_20 dX10_needPlayer_21 dX10_needPlayer_24 kc ks) (by decide) (by decide)
  · skip
    exact P_ret (fun _ _ => E_vret rfl dX10_needPlayer_25)

def f_X10_best (σ : rS) (p1 : Int32) (p2 : Int32) : Option ((Int32 ⊕ String) × rS) := oBx (f_X10_needPlayer σ p1) fun _ σ2 => if (vIn p2 0 1) = 0 then (some ((.inr "java/lang/IllegalArgumentException", σ2))) else (oB (f_X10_findPlan σ2 p1) fun _ σ4 => if (rI σ4 65 3) = 0 then (some ((.inl ((-1)), σ4))) else (some ((.inl (if p2 = 0 then (rI σ4 65 4) else (rI σ4 65 5)), σ4))))
set_option maxRecDepth 20000 in
set_option maxHeartbeats 2000000 in
theorem ok_X10_best {σ : rS} {p1 : Int32} {p2 : Int32}   : rFn Sy yX10_best mX10_best 7 [.ref 3, .int p1, .int p2] σ 2 12 (tX (fun v => .inl (some (.int v)))) (f_X10_best σ p1 p2) := by
  refine rF_of (ls := [some (.ref 3), some (.int p1), some (.int p2)]) yfX10_best rfl (Nat.le_of_ble_eq_true rfl) (fun o τ => ?_)
  unfold f_X10_best
  refine P_l (fun hJ _ _ q => E_aload_n dX10_best_0 rfl (E_iload_n dX10_best_1 rfl q)) ?_
  refine P_callx (t2 := fun _ => none) (st2 := fun _ => []) (kc2 := 1) (ks2 := 6) (fun hJ => (ok_X10_needPlayer (σ := σ) (p1 := p1) )) (fun hJ _ _ _ _ v τ1 hM q => E_callV (as := [.int p1]) (b := 3) (st := []) hM (by decide) yfX10_needPlayer mlX10_273 imX10_needPlayer seX10_needPlayer clX10 (kd3 hJ.1.1) rfl (Nat.le_of_ble_eq_true rfl) rfl dX10_best_2 q) (fun hJ _ _ _ _ E τ1 hM => E_callVx (as := [.int p1]) (b := 3) (st := []) hM (by decide) yfX10_needPlayer mlX10_273 imX10_needPlayer seX10_needPlayer clX10 (kd3 hJ.1.1) rfl (Nat.le_of_ble_eq_true rfl) rfl dX10_best_2 rfl) (by decide) (by decide) (fun v1 σ2 => ?_)
  refine P_l (fun hJ _ _ q => E_iload_n dX10_best_5 rfl (E_iconst (v := 0) dX10_best_6 (by decide) (E_iconst (v := 1) dX10_best_7 (by decide) (E_callS (as := [.int p2, .int 0, .int 1]) (st := []) (ok_within (σ := σ2) (v := p2) (a := 0) (b := 1)) (by decide) yfX10_within mlX10_74 stX10_within rfl (Nat.le_of_ble_eq_true rfl) rfl dX10_best_8 q)))) ?_
  refine P_if (fun hJ _ _ h1 h2 => E_if_ne 22 dX10_best_11 (by decide) h2 h1) ?_ ?_
  · skip
    exact P_thr (fun kc ks => xt_IllegalArgumentException rfl rfl (by decide) (Nat.le_of_ble_eq_true rfl) dX10_best_14 dX10_best_17 dX10_best_18 dX10_best_21 kc ks) (by decide) (by decide)
  · skip
    refine P_l (fun hJ _ _ q => E_aload_n dX10_best_22 rfl (E_iload_n dX10_best_23 rfl q)) ?_
    refine P_call (t := fun _ => none) (st2 := fun _ => []) (kc2 := 1) (ks2 := 6) (fun hJ => (ok_X10_findPlan (σ := σ2) (p1 := p1) )) (fun hJ _ _ _ _ v τ1 hM q => E_callV (as := [.int p1]) (b := 3) (st := []) hM (by decide) yfX10_findPlan mlX10_276 imX10_findPlan seX10_findPlan clX10 (kd3 hJ.1.1) rfl (Nat.le_of_ble_eq_true rfl) rfl dX10_best_24 q) (by decide) (by decide) (fun v3 σ4 => ?_)
    refine P_l (fun hJ _ _ q => E_aload_n dX10_best_27 rfl (E_getR (b := 65) clX10 7 (by decide) flX10_57 (Or.inl ⟨_, rfl⟩) dX10_best_28 (kd3 hJ.1.1) (rf3_7 hJ.1.1) (by decide) (E_getIN clX4 3 (by decide) flX10_279 (Or.inr rfl) dX10_best_31 (kd65 hJ.1.1) q))) ?_
    refine P_if (fun hJ _ _ h1 h2 => E_if_ne 39 dX10_best_34 (by decide) h2 h1) ?_ ?_
    · skip
      refine P_l (fun hJ _ _ q => E_iconst (v := (-1)) dX10_best_37 (by decide) q) ?_
      exact P_ret (fun _ _ => E_iret rfl dX10_best_38)
    · skip
      refine P_l (fun hJ _ _ q => E_iload_n dX10_best_39 rfl q) ?_
      refine P_l (pc2 := 60) (ls2 := [none, none, none]) (st2 := [.int (if p2 = 0 then (rI σ4 65 4) else (rI σ4 65 5))]) (fun hJ _ _ hq => ?_) ?_
      · skip
        refine E_if_ne 53 dX10_best_40 (by decide) (fun c_40_0 => ?_) (fun c_40_0 => ?_)
        · skip
          refine E_aload_n dX10_best_53 rfl ?_
          refine E_getR (b := 65) clX10 7 (by decide) flX10_57 (Or.inl ⟨_, rfl⟩) dX10_best_54 (kd3 hJ.1.1) (rf3_7 hJ.1.1) (by decide) ?_
          refine E_getIN clX4 5 (by decide) flX10_284 (Or.inl rfl) dX10_best_57 (kd65 hJ.1.1) ?_
          simp only [if_neg c_40_0] at hq
          exact E_less hq (rLe_at [none, none, none] [some (.ref 3), some (.int p1), some (.int p2)] trivial)
        · skip
          refine E_aload_n dX10_best_43 rfl ?_
          refine E_getR (b := 65) clX10 7 (by decide) flX10_57 (Or.inl ⟨_, rfl⟩) dX10_best_44 (kd3 hJ.1.1) (rf3_7 hJ.1.1) (by decide) ?_
          refine E_getIN clX4 4 (by decide) flX10_283 (Or.inl rfl) dX10_best_47 (kd65 hJ.1.1) ?_
          refine E_goto 60 dX10_best_50 (by decide) ?_
          simp only [if_pos c_40_0] at hq
          exact E_less hq (rLe_at [none, none, none] [some (.ref 3), some (.int p1), some (.int p2)] trivial)
      · skip
        exact P_ret (fun _ _ => E_iret rfl dX10_best_60)

def f_X10_plan (σ : rS) (p1 : Int32) (p2 : Int32) : Option ((Int32 ⊕ String) × rS) := oBx (f_X10_needPlayer σ p1) fun _ σ2 => if 0 ≤ p2 then (oB (f_X10_findPlan σ2 p1) fun _ σ4 => some ((.inl (v_X4_kindAt σ4 p2), σ4))) else (some ((.inr "java/lang/IllegalArgumentException", σ2)))
set_option maxRecDepth 20000 in
set_option maxHeartbeats 2000000 in
theorem ok_X10_plan {σ : rS} {p1 : Int32} {p2 : Int32}   : rFn Sy yX10_plan mX10_plan 7 [.ref 3, .int p1, .int p2] σ 2 12 (tX (fun v => .inl (some (.int v)))) (f_X10_plan σ p1 p2) := by
  refine rF_of (ls := [some (.ref 3), some (.int p1), some (.int p2)]) yfX10_plan rfl (Nat.le_of_ble_eq_true rfl) (fun o τ => ?_)
  unfold f_X10_plan
  refine P_l (fun hJ _ _ q => E_aload_n dX10_plan_0 rfl (E_iload_n dX10_plan_1 rfl q)) ?_
  refine P_callx (t2 := fun _ => none) (st2 := fun _ => []) (kc2 := 1) (ks2 := 6) (fun hJ => (ok_X10_needPlayer (σ := σ) (p1 := p1) )) (fun hJ _ _ _ _ v τ1 hM q => E_callV (as := [.int p1]) (b := 3) (st := []) hM (by decide) yfX10_needPlayer mlX10_273 imX10_needPlayer seX10_needPlayer clX10 (kd3 hJ.1.1) rfl (Nat.le_of_ble_eq_true rfl) rfl dX10_plan_2 q) (fun hJ _ _ _ _ E τ1 hM => E_callVx (as := [.int p1]) (b := 3) (st := []) hM (by decide) yfX10_needPlayer mlX10_273 imX10_needPlayer seX10_needPlayer clX10 (kd3 hJ.1.1) rfl (Nat.le_of_ble_eq_true rfl) rfl dX10_plan_2 rfl) (by decide) (by decide) (fun v1 σ2 => ?_)
  refine P_l (fun hJ _ _ q => E_iload_n dX10_plan_5 rfl q) ?_
  refine P_if (fun hJ _ _ h1 h2 => E_if_ge 17 dX10_plan_6 (by decide) h1 h2) ?_ ?_
  · skip
    refine P_l (fun hJ _ _ q => E_aload_n dX10_plan_17 rfl (E_iload_n dX10_plan_18 rfl q)) ?_
    refine P_call (t := fun _ => none) (st2 := fun _ => []) (kc2 := 1) (ks2 := 6) (fun hJ => (ok_X10_findPlan (σ := σ2) (p1 := p1) )) (fun hJ _ _ _ _ v τ1 hM q => E_callV (as := [.int p1]) (b := 3) (st := []) hM (by decide) yfX10_findPlan mlX10_276 imX10_findPlan seX10_findPlan clX10 (kd3 hJ.1.1) rfl (Nat.le_of_ble_eq_true rfl) rfl dX10_plan_19 q) (by decide) (by decide) (fun v3 σ4 => ?_)
    refine P_l (fun hJ _ _ q => E_aload_n dX10_plan_22 rfl (E_getR (b := 65) clX10 7 (by decide) flX10_57 (Or.inl ⟨_, rfl⟩) dX10_plan_23 (kd3 hJ.1.1) (rf3_7 hJ.1.1) (by decide) (E_iload_n dX10_plan_26 rfl (E_callVN (as := [.int p2]) (b := 65) (st := []) (ok_X4_kindAt (σ := σ4) (p1 := p2) hJ ) (by decide) yfX4_kindAt mlX10_287 imX4_kindAt seX4_kindAt clX4 (kd65 hJ.1.1) rfl (Nat.le_of_ble_eq_true rfl) rfl dX10_plan_27 q)))) ?_
    exact P_ret (fun _ _ => E_iret rfl dX10_plan_30)
  · skip
    exact P_thr (fun kc ks => xt_IllegalArgumentException rfl rfl (by decide) (Nat.le_of_ble_eq_true rfl) dX10_plan_9 dX10_plan_12 dX10_plan_13 dX10_plan_16 kc ks) (by decide) (by decide)

def f_X10_alone (σ : rS) (p1 : Int32) : Option ((Int32 ⊕ String) × rS) := oBx (f_X10_needKind σ p1) fun _ σ2 => oB (f_X10_findAlone σ2) fun v3 σ4 => some ((.inl (vBit v3 p1), σ4))
set_option maxRecDepth 20000 in
set_option maxHeartbeats 2000000 in
theorem ok_X10_alone {σ : rS} {p1 : Int32}   : rFn Sy yX10_alone mX10_alone 7 [.ref 3, .int p1] σ 1 6 (tX (fun v => .inl (some (.int v)))) (f_X10_alone σ p1) := by
  refine rF_of (ls := [some (.ref 3), some (.int p1)]) yfX10_alone rfl (Nat.le_of_ble_eq_true rfl) (fun o τ => ?_)
  unfold f_X10_alone
  refine P_l (fun hJ _ _ q => E_aload_n dX10_alone_0 rfl (E_iload_n dX10_alone_1 rfl q)) ?_
  refine P_callx (t2 := fun _ => none) (st2 := fun _ => []) (kc2 := 0) (ks2 := 0) (fun hJ => (ok_X10_needKind (σ := σ) (p1 := p1) )) (fun hJ _ _ _ _ v τ1 hM q => E_callV (as := [.int p1]) (b := 3) (st := []) hM (by decide) yfX10_needKind mlX10_136 imX10_needKind seX10_needKind clX10 (kd3 hJ.1.1) rfl (Nat.le_of_ble_eq_true rfl) rfl dX10_alone_2 q) (fun hJ _ _ _ _ E τ1 hM => E_callVx (as := [.int p1]) (b := 3) (st := []) hM (by decide) yfX10_needKind mlX10_136 imX10_needKind seX10_needKind clX10 (kd3 hJ.1.1) rfl (Nat.le_of_ble_eq_true rfl) rfl dX10_alone_2 rfl) (by decide) (by decide) (fun v1 σ2 => ?_)
  refine P_l (fun hJ _ _ q => E_aload_n dX10_alone_5 rfl q) ?_
  refine P_call (t := fun v => some (.long v)) (st2 := fun v => .long v :: []) (kc2 := 0) (ks2 := 0) (fun hJ => (ok_X10_findAlone (σ := σ2)  )) (fun hJ _ _ _ _ v τ1 hM q => E_callV (as := []) (b := 3) (st := []) hM (by decide) yfX10_findAlone mlX10_290 imX10_findAlone seX10_findAlone clX10 (kd3 hJ.1.1) rfl (Nat.le_of_ble_eq_true rfl) rfl dX10_alone_6 q) (by decide) (by decide) (fun v3 σ4 => ?_)
  refine P_l (fun hJ _ _ q => E_iload_n dX10_alone_9 rfl (E_callS (as := [.long v3, .int p1]) (st := []) (ok_isIn (σ := σ4) (s := v3) (k := p1)) (by decide) yfX10_isIn mlX10_294 stX10_isIn rfl (Nat.le_of_ble_eq_true rfl) rfl dX10_alone_10 q)) ?_
  exact P_ret (fun _ _ => E_zret01 rfl (vBit_01 _ _) dX10_alone_13)

def f_X10_needPiece (σ : rS) (p1 : Int32) : Option ((Unit ⊕ String) × rS) := if (if p1 = 52 then true else (if (v_X5_isKind σ p1) = 0 then false else true)) = true then (some ((.inl (()), σ))) else (some ((.inr "java/lang/IllegalArgumentException", σ)))
set_option maxRecDepth 20000 in
set_option maxHeartbeats 2000000 in
theorem ok_X10_needPiece {σ : rS} {p1 : Int32}   : rFn Sy yX10_needPiece mX10_needPiece 6 [.ref 3, .int p1] σ 1 6 (tX (fun _ => .inl none)) (f_X10_needPiece σ p1) := by
  refine rF_of (ls := [some (.ref 3), some (.int p1)]) yfX10_needPiece rfl (Nat.le_of_ble_eq_true rfl) (fun o τ => ?_)
  unfold f_X10_needPiece
  refine P_l (fun hJ _ _ q => E_iload_n dX10_needPiece_0 rfl (E_bipush (v := 52) dX10_needPiece_1 (by decide) q)) ?_
  refine P_if (c := (if p1 = 52 then true else (if (v_X5_isKind σ p1) = 0 then false else true)) = true) (pc1 := 25) (ls1 := [some (.ref 3), some (.int p1)]) (st1 := []) (pc2 := 17) (ls2 := [some (.ref 3), some (.int p1)]) (st2 := []) (fun hJ _ _ hX hY => ?_) ?_ ?_
  · skip
    refine E_icmp_eq 25 dX10_needPiece_3 (by decide) (fun c_3_0 => ?_) (fun c_3_0 => ?_)
    · skip
      exact hX (by simp only [if_pos c_3_0])
    · skip
      refine E_aload_n dX10_needPiece_6 rfl ?_
      refine E_getR (b := 4) clX10 0 (by decide) flX10_12 (Or.inl ⟨_, rfl⟩) dX10_needPiece_7 (kd3 hJ.1.1) (rf3_0 hJ.1.1) (by decide) ?_
      refine E_iload_n dX10_needPiece_10 rfl ?_
      refine E_callVN (as := [.int p1]) (b := 4) (st := []) (ok_X5_isKind (σ := σ) (k := p1) hJ ) (by decide) yfX5_isKind mlX10_398 imX5_isKind seX5_isKind clX5 (kd4 hJ.1.1) rfl (Nat.le_of_ble_eq_true rfl) rfl dX10_needPiece_11 ?_
      refine E_if_ne 25 dX10_needPiece_14 (by decide) (fun c_14_1 => ?_) (fun c_14_1 => ?_)
      · skip
        exact hX (by simp only [if_neg c_3_0, if_neg c_14_1])
      · skip
        exact hY (by simp only [if_neg c_3_0, if_pos c_14_1]; exact Bool.false_ne_true)
  · skip
    exact P_ret (fun _ _ => E_vret rfl dX10_needPiece_25)
  · skip
    exact P_thr (fun kc ks => xt_IllegalArgumentException rfl rfl (by decide) (Nat.le_of_ble_eq_true rfl) dX10_needPiece_17 dX10_needPiece_20 dX10_needPiece_21 dX10_needPiece_24 kc ks) (by decide) (by decide)

def b_X10_thousandths_8 (p1 : Int32) (p2 : Int32) (p3 : Int32) (s3 : Int64 × Int64 × Int32) : Option ((Int32 ⊕ (Int64 × Int64)) ⊕ (Int64 × Int64 × Int32)) := if p2 ≤ s3.2.2 then (some (.inl (.inr ((s3.1, s3.2.1))))) else (oLet (s3.1 * (((if 0 < p1 - s3.2.2 then p1 - s3.2.2 else 0 : Int32)).toInt64) : Int64) fun x4 => oLet (s3.2.1 * (((if 0 < (p1 - p3) - s3.2.2 then (p1 - p3) - s3.2.2 else 0 : Int32)).toInt64) : Int64) fun x5 => some (.inr ((x4, x5, s3.2.2 + 1))))
def f_X10_thousandths (σ : rS) (p1 : Int32) (p2 : Int32) (p3 : Int32) : Option Int32 := oJoin (oLoop (b_X10_thousandths_8 p1 p2 p3) oFuel (((1 : Int64), (1 : Int64), 0))) fun j2 => if 0 < (lg_cmp j2.1 (0 : Int64)) then (if ¬ j2.1 = 0 then (some (((((1000 : Int64) * (j2.1 - j2.2)) / j2.1 : Int64)).toInt32)) else none) else (some 0)
set_option maxRecDepth 20000 in
set_option maxHeartbeats 2000000 in
theorem ok_X10_thousandths {σ : rS} {p1 : Int32} {p2 : Int32} {p3 : Int32}   : rFr Sy yX10_thousandths mX10_thousandths 1 [.int p1, .int p2, .int p3] σ (fun v => some (.int v)) (f_X10_thousandths σ p1 p2 p3) := by
  refine rFr_of (ls := [some (.int p1), some (.int p2), some (.int p3), none, none, none, none, none]) yfX10_thousandths rfl (Nat.le_of_ble_eq_true rfl) (fun o τ => ?_)
  unfold f_X10_thousandths
  refine P_l (fun hJ _ _ q => E_lconst (v := 1) dX10_thousandths_0 (by decide) (E_lstore_n (ls2 := [some (.int p1), some (.int p2), some (.int p3), some (.long (1 : Int64)), none, none, none, none]) dX10_thousandths_1 (by decide) rfl (E_lconst (v := 1) dX10_thousandths_2 (by decide) (E_lstore (ls2 := [some (.int p1), some (.int p2), some (.int p3), some (.long (1 : Int64)), none, some (.long (1 : Int64)), none, none]) dX10_thousandths_3 (by decide) rfl (E_iconst (v := 0) dX10_thousandths_5 (by decide) (E_istore (ls2 := [some (.int p1), some (.int p2), some (.int p3), some (.long (1 : Int64)), none, some (.long (1 : Int64)), none, some (.int 0)]) dX10_thousandths_6 (by decide) rfl q)))))) ?_
  refine P_join (pc2 := 48) (fun j2 => [none, none, none, some (.long j2.1), none, some (.long j2.2), none, none]) (fun j2 => []) (fun _ => σ) ?_ (fun j2 => ?_)
  · skip
    refine P_loop (fun s3 => [some (.int p1), some (.int p2), some (.int p3), some (.long s3.1), none, some (.long s3.2.1), none, some (.int s3.2.2)]) (fun _ => σ) (fun s3 => ?_) _ (((1 : Int64), (1 : Int64), 0))
    unfold b_X10_thousandths_8
    refine P_l (fun hJ _ _ q => E_iload dX10_thousandths_8 rfl (E_iload_n dX10_thousandths_10 rfl q)) ?_
    refine P_if (fun hJ _ _ h1 h2 => E_icmp_ge 48 dX10_thousandths_11 (by decide) h1 h2) ?_ ?_
    · skip
      refine P_less [none, none, none, some (.long s3.1), none, some (.long s3.2.1), none, none] (And.intro rfl (And.intro rfl trivial)) ?_
      exact P_inl (P_back ((s3.1, s3.2.1)))
    · skip
      refine P_l (fun hJ _ _ q => E_lload_n dX10_thousandths_14 rfl (E_iconst (v := 0) dX10_thousandths_15 (by decide) (E_iload_n dX10_thousandths_16 rfl (E_iload dX10_thousandths_17 rfl (E_isub dX10_thousandths_19 (E_mmax mlX10_197 (by decide) (Nat.le_of_ble_eq_true rfl) dX10_thousandths_20 (E_i2l dX10_thousandths_23 (E_lmul dX10_thousandths_24 (E_lstore_n (ls2 := [some (.int p1), some (.int p2), some (.int p3), some (.long (s3.1 * (((if 0 < p1 - s3.2.2 then p1 - s3.2.2 else 0 : Int32)).toInt64))), none, some (.long s3.2.1), none, some (.int s3.2.2)]) dX10_thousandths_25 (by decide) rfl q))))))))) ?_
      refine P_v (s3.1 * (((if 0 < p1 - s3.2.2 then p1 - s3.2.2 else 0 : Int32)).toInt64)) (fun x => [some (.int p1), some (.int p2), some (.int p3), some (.long x), none, some (.long s3.2.1), none, some (.int s3.2.2)]) (fun x4 => ?_)
      refine P_l (fun hJ _ _ q => E_lload dX10_thousandths_26 rfl (E_iconst (v := 0) dX10_thousandths_28 (by decide) (E_iload_n dX10_thousandths_29 rfl (E_iload_n dX10_thousandths_30 rfl (E_isub dX10_thousandths_31 (E_iload dX10_thousandths_32 rfl (E_isub dX10_thousandths_34 (E_mmax mlX10_197 (by decide) (Nat.le_of_ble_eq_true rfl) dX10_thousandths_35 (E_i2l dX10_thousandths_38 (E_lmul dX10_thousandths_39 (E_lstore (ls2 := [some (.int p1), some (.int p2), some (.int p3), some (.long x4), none, some (.long (s3.2.1 * (((if 0 < (p1 - p3) - s3.2.2 then (p1 - p3) - s3.2.2 else 0 : Int32)).toInt64))), none, some (.int s3.2.2)]) dX10_thousandths_40 (by decide) rfl q))))))))))) ?_
      refine P_v (s3.2.1 * (((if 0 < (p1 - p3) - s3.2.2 then (p1 - p3) - s3.2.2 else 0 : Int32)).toInt64)) (fun x => [some (.int p1), some (.int p2), some (.int p3), some (.long x4), none, some (.long x), none, some (.int s3.2.2)]) (fun x5 => ?_)
      refine P_l (fun hJ _ _ q => E_iinc (v := 1) (ls2 := [some (.int p1), some (.int p2), some (.int p3), some (.long x4), none, some (.long x5), none, some (.int (s3.2.2 + 1))]) dX10_thousandths_42 rfl (by decide) (by decide) rfl (E_goto 8 dX10_thousandths_45 (by decide) q)) ?_
      exact P_back ((x4, x5, s3.2.2 + 1))
  · skip
    refine P_l (fun hJ _ _ q => E_lload_n dX10_thousandths_48 rfl (E_lconst (v := 0) dX10_thousandths_49 (by decide) (E_lcmp dX10_thousandths_50 q))) ?_
    refine P_if (fun hJ _ _ h1 h2 => E_if_gt 58 dX10_thousandths_51 (by decide) h1 h2) ?_ ?_
    · skip
      refine P_l (fun hJ _ _ q => E_ldc2 dX10_thousandths_58 kcX10_496 (E_lload_n dX10_thousandths_61 rfl (E_lload dX10_thousandths_62 rfl (E_lsub dX10_thousandths_64 (E_lmul dX10_thousandths_65 (E_lload_n dX10_thousandths_66 rfl q)))))) ?_
      refine P_g (fun g6 => ?_)
      refine P_l (fun hJ _ _ q => E_ldiv dX10_thousandths_67 g6 (E_l2i dX10_thousandths_68 q)) ?_
      exact P_retr (fun _ _ => E_iret rfl dX10_thousandths_69)
    · skip
      refine P_l (fun hJ _ _ q => E_iconst (v := 0) dX10_thousandths_54 (by decide) (E_goto 69 dX10_thousandths_55 (by decide) q)) ?_
      exact P_retr (fun _ _ => E_iret rfl dX10_thousandths_69)

def f_X10_chance (σ : rS) (p1 : Int32) (p2 : Int32) (p3 : Int32) : Option ((Int32 ⊕ String) × rS) := oBx (f_X10_needPlayer σ p1) fun _ σ2 => oBx (f_X10_needPlayer σ2 p2) fun _ σ4 => if p1 = p2 then (some ((.inr "java/lang/IllegalArgumentException", σ4))) else (oBx (f_X10_needPiece σ4 p3) fun _ σ6 => (f_X6_passedBy σ6 p2).bind fun v7 => oLet (if (vBit v7 p3) = 0 then (v_X1_sizeOf σ6 5 p2) else (if vAt (rI σ6 25) 4 p2 < v_X1_sizeOf σ6 5 p2 then vAt (rI σ6 25) 4 p2 else v_X1_sizeOf σ6 5 p2) : Int32) fun x8 => (f_X1_allHidden σ6 5 p1).bind fun v9 => (f_X1_hidden σ6 5 p1 p3).bind fun v10 => (f_X10_thousandths σ6 v9 v10 x8).bind fun v11 => some ((.inl v11, σ6)))
set_option maxRecDepth 20000 in
set_option maxHeartbeats 2000000 in
theorem ok_X10_chance {σ : rS} {p1 : Int32} {p2 : Int32} {p3 : Int32}   : rFn Sy yX10_chance mX10_chance 7 [.ref 3, .int p1, .int p2, .int p3] σ 4 24 (tX (fun v => .inl (some (.int v)))) (f_X10_chance σ p1 p2 p3) := by
  refine rF_of (ls := [some (.ref 3), some (.int p1), some (.int p2), some (.int p3), none]) yfX10_chance rfl (Nat.le_of_ble_eq_true rfl) (fun o τ => ?_)
  unfold f_X10_chance
  refine P_l (fun hJ _ _ q => E_aload_n dX10_chance_0 rfl (E_iload_n dX10_chance_1 rfl q)) ?_
  refine P_callx (t2 := fun _ => none) (st2 := fun _ => []) (kc2 := 3) (ks2 := 18) (fun hJ => (ok_X10_needPlayer (σ := σ) (p1 := p1) )) (fun hJ _ _ _ _ v τ1 hM q => E_callV (as := [.int p1]) (b := 3) (st := []) hM (by decide) yfX10_needPlayer mlX10_273 imX10_needPlayer seX10_needPlayer clX10 (kd3 hJ.1.1) rfl (Nat.le_of_ble_eq_true rfl) rfl dX10_chance_2 q) (fun hJ _ _ _ _ E τ1 hM => E_callVx (as := [.int p1]) (b := 3) (st := []) hM (by decide) yfX10_needPlayer mlX10_273 imX10_needPlayer seX10_needPlayer clX10 (kd3 hJ.1.1) rfl (Nat.le_of_ble_eq_true rfl) rfl dX10_chance_2 rfl) (by decide) (by decide) (fun v1 σ2 => ?_)
  refine P_l (fun hJ _ _ q => E_aload_n dX10_chance_5 rfl (E_iload_n dX10_chance_6 rfl q)) ?_
  refine P_callx (t2 := fun _ => none) (st2 := fun _ => []) (kc2 := 2) (ks2 := 12) (fun hJ => (ok_X10_needPlayer (σ := σ2) (p1 := p2) )) (fun hJ _ _ _ _ v τ1 hM q => E_callV (as := [.int p2]) (b := 3) (st := []) hM (by decide) yfX10_needPlayer mlX10_273 imX10_needPlayer seX10_needPlayer clX10 (kd3 hJ.1.1) rfl (Nat.le_of_ble_eq_true rfl) rfl dX10_chance_7 q) (fun hJ _ _ _ _ E τ1 hM => E_callVx (as := [.int p2]) (b := 3) (st := []) hM (by decide) yfX10_needPlayer mlX10_273 imX10_needPlayer seX10_needPlayer clX10 (kd3 hJ.1.1) rfl (Nat.le_of_ble_eq_true rfl) rfl dX10_chance_7 rfl) (by decide) (by decide) (fun v3 σ4 => ?_)
  refine P_l (fun hJ _ _ q => E_iload_n dX10_chance_10 rfl (E_iload_n dX10_chance_11 rfl q)) ?_
  refine P_if (fun hJ _ _ h1 h2 => E_icmp_ne 23 dX10_chance_12 (by decide) h2 h1) ?_ ?_
  · skip
    exact P_thr (fun kc ks => xt_IllegalArgumentException rfl rfl (by decide) (Nat.le_of_ble_eq_true rfl) dX10_chance_15 dX10_chance_18 dX10_chance_19 dX10_chance_22 kc ks) (by decide) (by decide)
  · skip
    refine P_l (fun hJ _ _ q => E_aload_n dX10_chance_23 rfl (E_iload_n dX10_chance_24 rfl q)) ?_
    refine P_callx (t2 := fun _ => none) (st2 := fun _ => []) (kc2 := 1) (ks2 := 6) (fun hJ => (ok_X10_needPiece (σ := σ4) (p1 := p3) )) (fun hJ _ _ _ _ v τ1 hM q => E_callV (as := [.int p3]) (b := 3) (st := []) hM (by decide) yfX10_needPiece mlX10_298 imX10_needPiece seX10_needPiece clX10 (kd3 hJ.1.1) rfl (Nat.le_of_ble_eq_true rfl) rfl dX10_chance_25 q) (fun hJ _ _ _ _ E τ1 hM => E_callVx (as := [.int p3]) (b := 3) (st := []) hM (by decide) yfX10_needPiece mlX10_298 imX10_needPiece seX10_needPiece clX10 (kd3 hJ.1.1) rfl (Nat.le_of_ble_eq_true rfl) rfl dX10_chance_25 rfl) (by decide) (by decide) (fun v5 σ6 => ?_)
    refine P_l (fun hJ _ _ q => E_aload_n dX10_chance_28 rfl (E_getR (b := 5) clX10 1 (by decide) flX10_19 (Or.inl ⟨_, rfl⟩) dX10_chance_29 (kd3 hJ.1.1) (rf3_1 hJ.1.1) (by decide) (E_iload_n dX10_chance_32 rfl (E_callVN (as := [.int p2]) (b := 5) (st := []) (ok_X1_sizeOf (σ := σ6) (b := 5) (p := p2) hJ (Or.inl rfl)) (by decide) yfX1_sizeOf mlX10_301 imX1_sizeOf seX1_sizeOf clX1 (kd5 hJ.1.1) rfl (Nat.le_of_ble_eq_true rfl) rfl dX10_chance_33 (E_istore (ls2 := [some (.ref 3), some (.int p1), some (.int p2), some (.int p3), some (.int (v_X1_sizeOf σ6 5 p2))]) dX10_chance_36 (by decide) rfl (E_aload_n dX10_chance_38 rfl (E_getR (b := 19) clX10 3 (by decide) flX10_29 (Or.inl ⟨_, rfl⟩) dX10_chance_39 (kd3 hJ.1.1) (rf3_3 hJ.1.1) (by decide) (E_iload_n dX10_chance_42 rfl q)))))))) ?_
    refine P_callr (t := fun v => some (.long v)) (st2 := fun v => .long v :: []) (fun hJ => (ok_X6_passedBy (σ := σ6) (p1 := p2) )) (fun hJ _ _ v hM q => E_callVN (as := [.int p2]) (b := 19) (st := []) hM (by decide) yfX6_passedBy mlX10_304 imX6_passedBy seX6_passedBy clX6 (kd19 hJ.1.1) rfl (Nat.le_of_ble_eq_true rfl) rfl dX10_chance_43 q) (fun v7 => ?_)
    refine P_l (fun hJ _ _ q => E_iload_n dX10_chance_46 rfl (E_callS (as := [.long v7, .int p3]) (st := []) (ok_isIn (σ := σ6) (s := v7) (k := p3)) (by decide) yfX10_isIn mlX10_294 stX10_isIn rfl (Nat.le_of_ble_eq_true rfl) rfl dX10_chance_47 q)) ?_
    refine P_l (pc2 := 71) (ls2 := [some (.ref 3), some (.int p1), none, some (.int p3), some (.int (if (vBit v7 p3) = 0 then (v_X1_sizeOf σ6 5 p2) else (if vAt (rI σ6 25) 4 p2 < v_X1_sizeOf σ6 5 p2 then vAt (rI σ6 25) 4 p2 else v_X1_sizeOf σ6 5 p2)))]) (st2 := []) (fun hJ _ _ hq => ?_) ?_
    · skip
      refine E_if_eq 71 dX10_chance_50 (by decide) (fun c_50_0 => ?_) (fun c_50_0 => ?_)
      · skip
        simp only [if_pos c_50_0] at hq
        exact E_less hq (rLe_at [some (.ref 3), some (.int p1), none, some (.int p3), some (.int (v_X1_sizeOf σ6 5 p2))] [some (.ref 3), some (.int p1), some (.int p2), some (.int p3), some (.int (v_X1_sizeOf σ6 5 p2))] (And.intro rfl (And.intro rfl (And.intro rfl (And.intro rfl trivial)))))
      · skip
        refine E_iload dX10_chance_53 rfl ?_
        refine E_aload_n dX10_chance_55 rfl ?_
        refine E_getR (b := 19) clX10 3 (by decide) flX10_29 (Or.inl ⟨_, rfl⟩) dX10_chance_56 (kd3 hJ.1.1) (rf3_3 hJ.1.1) (by decide) ?_
        refine E_getRN (b := 25) clX6 6 (by decide) flX10_308 (Or.inr ⟨_, rfl⟩) dX10_chance_59 (kd19 hJ.1.1) (rf19_6 hJ.1.1) (by decide) ?_
        refine E_iload_n dX10_chance_62 rfl ?_
        refine E_callS (as := [.ref 25, .int p2]) (st := [.int (v_X1_sizeOf σ6 5 p2)]) (ok_at (σ := σ6) (a := 25) (i := p2) (f := rI σ6 25) (kd25 hJ.1.1) (by decide) rfl) (by decide) yfX10_at mlX10_193 stX10_at rfl (Nat.le_of_ble_eq_true rfl) rfl dX10_chance_63 ?_
        refine E_mmin mlX10_311 (by decide) (Nat.le_of_ble_eq_true rfl) dX10_chance_66 ?_
        refine E_istore (ls2 := [some (.ref 3), some (.int p1), some (.int p2), some (.int p3), some (.int (if vAt (rI σ6 25) 4 p2 < v_X1_sizeOf σ6 5 p2 then vAt (rI σ6 25) 4 p2 else v_X1_sizeOf σ6 5 p2))]) dX10_chance_69 (by decide) rfl ?_
        simp only [if_neg c_50_0] at hq
        exact E_less hq (rLe_at [some (.ref 3), some (.int p1), none, some (.int p3), some (.int (if vAt (rI σ6 25) 4 p2 < v_X1_sizeOf σ6 5 p2 then vAt (rI σ6 25) 4 p2 else v_X1_sizeOf σ6 5 p2))] [some (.ref 3), some (.int p1), some (.int p2), some (.int p3), some (.int (if vAt (rI σ6 25) 4 p2 < v_X1_sizeOf σ6 5 p2 then vAt (rI σ6 25) 4 p2 else v_X1_sizeOf σ6 5 p2))] (And.intro rfl (And.intro rfl (And.intro rfl (And.intro rfl trivial)))))
    · skip
      refine P_v (if (vBit v7 p3) = 0 then (v_X1_sizeOf σ6 5 p2) else (if vAt (rI σ6 25) 4 p2 < v_X1_sizeOf σ6 5 p2 then vAt (rI σ6 25) 4 p2 else v_X1_sizeOf σ6 5 p2)) (fun x => [some (.ref 3), some (.int p1), none, some (.int p3), some (.int x)]) (fun x8 => ?_)
      refine P_l (fun hJ _ _ q => E_aload_n dX10_chance_71 rfl (E_getR (b := 5) clX10 1 (by decide) flX10_19 (Or.inl ⟨_, rfl⟩) dX10_chance_72 (kd3 hJ.1.1) (rf3_1 hJ.1.1) (by decide) (E_iload_n dX10_chance_75 rfl q))) ?_
      refine P_callr (t := fun v => some (.int v)) (st2 := fun v => .int v :: []) (fun hJ => (ok_X1_allHidden (σ := σ6) (b := 5) (p := p1) (Or.inl rfl))) (fun hJ _ _ v hM q => E_callVN (as := [.int p1]) (b := 5) (st := []) hM (by decide) yfX1_allHidden mlX10_314 imX1_allHidden seX1_allHidden clX1 (kd5 hJ.1.1) rfl (Nat.le_of_ble_eq_true rfl) rfl dX10_chance_76 q) (fun v9 => ?_)
      refine P_l (fun hJ _ _ q => E_aload_n dX10_chance_79 rfl (E_getR (b := 5) clX10 1 (by decide) flX10_19 (Or.inl ⟨_, rfl⟩) dX10_chance_80 (kd3 hJ.1.1) (rf3_1 hJ.1.1) (by decide) (E_iload_n dX10_chance_83 rfl (E_iload_n dX10_chance_84 rfl q)))) ?_
      refine P_callr (t := fun v => some (.int v)) (st2 := fun v => .int v :: [.int v9]) (fun hJ => (ok_X1_hidden (σ := σ6) (b := 5) (p := p1) (k := p3) (Or.inl rfl))) (fun hJ _ _ v hM q => E_callVN (as := [.int p1, .int p3]) (b := 5) (st := [.int v9]) hM (by decide) yfX1_hidden mlX10_317 imX1_hidden seX1_hidden clX1 (kd5 hJ.1.1) rfl (Nat.le_of_ble_eq_true rfl) rfl dX10_chance_85 q) (fun v10 => ?_)
      refine P_l (fun hJ _ _ q => E_iload dX10_chance_88 rfl q) ?_
      refine P_callr (t := fun v => some (.int v)) (st2 := fun v => .int v :: []) (fun hJ => (ok_X10_thousandths (σ := σ6) (p1 := v9) (p2 := v10) (p3 := x8) )) (fun hJ _ _ v hM q => E_callS (as := [.int v9, .int v10, .int x8]) (st := []) hM (by decide) yfX10_thousandths mlX10_320 stX10_thousandths rfl (Nat.le_of_ble_eq_true rfl) rfl dX10_chance_90 q) (fun v11 => ?_)
      exact P_ret (fun _ _ => E_iret rfl dX10_chance_93)

def f_X10_passed (σ : rS) (p1 : Int32) (p2 : Int32) : Option ((Int32 ⊕ String) × rS) := oBx (f_X10_needPlayer σ p1) fun _ σ2 => oBx (f_X10_needKind σ2 p2) fun _ σ4 => (f_X6_passedBy σ4 p1).bind fun v5 => some ((.inl (vBit v5 p2), σ4))
set_option maxRecDepth 20000 in
set_option maxHeartbeats 2000000 in
theorem ok_X10_passed {σ : rS} {p1 : Int32} {p2 : Int32}   : rFn Sy yX10_passed mX10_passed 7 [.ref 3, .int p1, .int p2] σ 2 12 (tX (fun v => .inl (some (.int v)))) (f_X10_passed σ p1 p2) := by
  refine rF_of (ls := [some (.ref 3), some (.int p1), some (.int p2)]) yfX10_passed rfl (Nat.le_of_ble_eq_true rfl) (fun o τ => ?_)
  unfold f_X10_passed
  refine P_l (fun hJ _ _ q => E_aload_n dX10_passed_0 rfl (E_iload_n dX10_passed_1 rfl q)) ?_
  refine P_callx (t2 := fun _ => none) (st2 := fun _ => []) (kc2 := 1) (ks2 := 6) (fun hJ => (ok_X10_needPlayer (σ := σ) (p1 := p1) )) (fun hJ _ _ _ _ v τ1 hM q => E_callV (as := [.int p1]) (b := 3) (st := []) hM (by decide) yfX10_needPlayer mlX10_273 imX10_needPlayer seX10_needPlayer clX10 (kd3 hJ.1.1) rfl (Nat.le_of_ble_eq_true rfl) rfl dX10_passed_2 q) (fun hJ _ _ _ _ E τ1 hM => E_callVx (as := [.int p1]) (b := 3) (st := []) hM (by decide) yfX10_needPlayer mlX10_273 imX10_needPlayer seX10_needPlayer clX10 (kd3 hJ.1.1) rfl (Nat.le_of_ble_eq_true rfl) rfl dX10_passed_2 rfl) (by decide) (by decide) (fun v1 σ2 => ?_)
  refine P_l (fun hJ _ _ q => E_aload_n dX10_passed_5 rfl (E_iload_n dX10_passed_6 rfl q)) ?_
  refine P_callx (t2 := fun _ => none) (st2 := fun _ => []) (kc2 := 0) (ks2 := 0) (fun hJ => (ok_X10_needKind (σ := σ2) (p1 := p2) )) (fun hJ _ _ _ _ v τ1 hM q => E_callV (as := [.int p2]) (b := 3) (st := []) hM (by decide) yfX10_needKind mlX10_136 imX10_needKind seX10_needKind clX10 (kd3 hJ.1.1) rfl (Nat.le_of_ble_eq_true rfl) rfl dX10_passed_7 q) (fun hJ _ _ _ _ E τ1 hM => E_callVx (as := [.int p2]) (b := 3) (st := []) hM (by decide) yfX10_needKind mlX10_136 imX10_needKind seX10_needKind clX10 (kd3 hJ.1.1) rfl (Nat.le_of_ble_eq_true rfl) rfl dX10_passed_7 rfl) (by decide) (by decide) (fun v3 σ4 => ?_)
  refine P_l (fun hJ _ _ q => E_aload_n dX10_passed_10 rfl (E_getR (b := 19) clX10 3 (by decide) flX10_29 (Or.inl ⟨_, rfl⟩) dX10_passed_11 (kd3 hJ.1.1) (rf3_3 hJ.1.1) (by decide) (E_iload_n dX10_passed_14 rfl q))) ?_
  refine P_callr (t := fun v => some (.long v)) (st2 := fun v => .long v :: []) (fun hJ => (ok_X6_passedBy (σ := σ4) (p1 := p1) )) (fun hJ _ _ v hM q => E_callVN (as := [.int p1]) (b := 19) (st := []) hM (by decide) yfX6_passedBy mlX10_304 imX6_passedBy seX6_passedBy clX6 (kd19 hJ.1.1) rfl (Nat.le_of_ble_eq_true rfl) rfl dX10_passed_15 q) (fun v5 => ?_)
  refine P_l (fun hJ _ _ q => E_iload_n dX10_passed_18 rfl (E_callS (as := [.long v5, .int p2]) (st := []) (ok_isIn (σ := σ4) (s := v5) (k := p2)) (by decide) yfX10_isIn mlX10_294 stX10_isIn rfl (Nat.le_of_ble_eq_true rfl) rfl dX10_passed_19 q)) ?_
  exact P_ret (fun _ _ => E_zret01 rfl (vBit_01 _ _) dX10_passed_22)

def f_X10_claim (σ : rS) (p1 : Int32) (p2 : Int32) (p3 : Int32) : Option ((Int32 ⊕ String) × rS) := oBx (f_X10_needPlayer σ p1) fun _ σ2 => oBx (f_X10_needKind σ2 p2) fun _ σ4 => if (vIn p3 0 2) = 0 then (some ((.inr "java/lang/IllegalArgumentException", σ4))) else (oLet (vAt (rI σ4 30) 208 ((p1 * 52) + p2) : Int32) fun x5 => oLet (rowI σ4 30 (vSet (rI σ4 30) 208 ((p1 * 52) + p2) p3)) fun σ6 => some ((.inl x5, σ6)))
set_option maxRecDepth 20000 in
set_option maxHeartbeats 2000000 in
theorem ok_X10_claim {σ : rS} {p1 : Int32} {p2 : Int32} {p3 : Int32}   : rFn Sy yX10_claim mX10_claim 7 [.ref 3, .int p1, .int p2, .int p3] σ 3 18 (tX (fun v => .inl (some (.int v)))) (f_X10_claim σ p1 p2 p3) := by
  refine rF_of (ls := [some (.ref 3), some (.int p1), some (.int p2), some (.int p3), none]) yfX10_claim rfl (Nat.le_of_ble_eq_true rfl) (fun o τ => ?_)
  unfold f_X10_claim
  refine P_l (fun hJ _ _ q => E_aload_n dX10_claim_0 rfl (E_iload_n dX10_claim_1 rfl q)) ?_
  refine P_callx (t2 := fun _ => none) (st2 := fun _ => []) (kc2 := 2) (ks2 := 12) (fun hJ => (ok_X10_needPlayer (σ := σ) (p1 := p1) )) (fun hJ _ _ _ _ v τ1 hM q => E_callV (as := [.int p1]) (b := 3) (st := []) hM (by decide) yfX10_needPlayer mlX10_273 imX10_needPlayer seX10_needPlayer clX10 (kd3 hJ.1.1) rfl (Nat.le_of_ble_eq_true rfl) rfl dX10_claim_2 q) (fun hJ _ _ _ _ E τ1 hM => E_callVx (as := [.int p1]) (b := 3) (st := []) hM (by decide) yfX10_needPlayer mlX10_273 imX10_needPlayer seX10_needPlayer clX10 (kd3 hJ.1.1) rfl (Nat.le_of_ble_eq_true rfl) rfl dX10_claim_2 rfl) (by decide) (by decide) (fun v1 σ2 => ?_)
  refine P_l (fun hJ _ _ q => E_aload_n dX10_claim_5 rfl (E_iload_n dX10_claim_6 rfl q)) ?_
  refine P_callx (t2 := fun _ => none) (st2 := fun _ => []) (kc2 := 1) (ks2 := 6) (fun hJ => (ok_X10_needKind (σ := σ2) (p1 := p2) )) (fun hJ _ _ _ _ v τ1 hM q => E_callV (as := [.int p2]) (b := 3) (st := []) hM (by decide) yfX10_needKind mlX10_136 imX10_needKind seX10_needKind clX10 (kd3 hJ.1.1) rfl (Nat.le_of_ble_eq_true rfl) rfl dX10_claim_7 q) (fun hJ _ _ _ _ E τ1 hM => E_callVx (as := [.int p2]) (b := 3) (st := []) hM (by decide) yfX10_needKind mlX10_136 imX10_needKind seX10_needKind clX10 (kd3 hJ.1.1) rfl (Nat.le_of_ble_eq_true rfl) rfl dX10_claim_7 rfl) (by decide) (by decide) (fun v3 σ4 => ?_)
  refine P_l (fun hJ _ _ q => E_iload_n dX10_claim_10 rfl (E_iconst (v := 0) dX10_claim_11 (by decide) (E_iconst (v := 2) dX10_claim_12 (by decide) (E_callS (as := [.int p3, .int 0, .int 2]) (st := []) (ok_within (σ := σ4) (v := p3) (a := 0) (b := 2)) (by decide) yfX10_within mlX10_74 stX10_within rfl (Nat.le_of_ble_eq_true rfl) rfl dX10_claim_13 q)))) ?_
  refine P_if (fun hJ _ _ h1 h2 => E_if_ne 27 dX10_claim_16 (by decide) h2 h1) ?_ ?_
  · skip
    exact P_thr (fun kc ks => xt_IllegalArgumentException rfl rfl (by decide) (Nat.le_of_ble_eq_true rfl) dX10_claim_19 dX10_claim_22 dX10_claim_23 dX10_claim_26 kc ks) (by decide) (by decide)
  · skip
    refine P_l (fun hJ _ _ q => E_aload_n dX10_claim_27 rfl (E_getR (b := 19) clX10 3 (by decide) flX10_29 (Or.inl ⟨_, rfl⟩) dX10_claim_28 (kd3 hJ.1.1) (rf3_3 hJ.1.1) (by decide) (E_getRN (b := 30) clX6 11 (by decide) flX10_324 (Or.inr ⟨_, rfl⟩) dX10_claim_31 (kd19 hJ.1.1) (rf19_11 hJ.1.1) (by decide) (E_iload_n dX10_claim_34 rfl (E_bipush (v := 52) dX10_claim_35 (by decide) (E_imul dX10_claim_37 (E_iload_n dX10_claim_38 rfl (E_iadd dX10_claim_39 (E_callS (as := [.ref 30, .int ((p1 * 52) + p2)]) (st := []) (ok_at (σ := σ4) (a := 30) (i := (p1 * 52) + p2) (f := rI σ4 30) (kd30 hJ.1.1) (by decide) rfl) (by decide) yfX10_at mlX10_193 stX10_at rfl (Nat.le_of_ble_eq_true rfl) rfl dX10_claim_40 (E_istore (ls2 := [some (.ref 3), some (.int p1), some (.int p2), some (.int p3), some (.int (vAt (rI σ4 30) 208 ((p1 * 52) + p2)))]) dX10_claim_43 (by decide) rfl q)))))))))) ?_
    refine P_v (vAt (rI σ4 30) 208 ((p1 * 52) + p2)) (fun x => [some (.ref 3), some (.int p1), some (.int p2), some (.int p3), some (.int x)]) (fun x5 => ?_)
    refine P_l (fun hJ _ _ q => E_aload_n dX10_claim_45 rfl (E_getR (b := 19) clX10 3 (by decide) flX10_29 (Or.inl ⟨_, rfl⟩) dX10_claim_46 (kd3 hJ.1.1) (rf3_3 hJ.1.1) (by decide) (E_getRN (b := 30) clX6 11 (by decide) flX10_324 (Or.inr ⟨_, rfl⟩) dX10_claim_49 (kd19 hJ.1.1) (rf19_11 hJ.1.1) (by decide) (E_iload_n dX10_claim_52 rfl (E_bipush (v := 52) dX10_claim_53 (by decide) (E_imul dX10_claim_55 (E_iload_n dX10_claim_56 rfl (E_iadd dX10_claim_57 (E_iload_n dX10_claim_58 rfl q))))))))) ?_
    refine P_w (fun hJ _ _ q => E_callS (as := [.ref 30, .int ((p1 * 52) + p2), .int p3]) (st := []) (ok_set (σ := σ4) (a := 30) (i := (p1 * 52) + p2) (x := p3) (f := rI σ4 30) (kd30 hJ.1.1) (by decide) (by decide) rfl) (by decide) yfX10_set mlX10_202 stX10_set rfl (Nat.le_of_ble_eq_true rfl) rfl dX10_claim_59 q) (fun hJ => Sy_rowI hJ.1) rfl rfl rfl (fun σ6 hσ6 => ?_)
    refine P_l (fun hJ _ _ q => E_iload dX10_claim_62 rfl q) ?_
    exact P_ret (fun _ _ => E_iret rfl dX10_claim_64)

def f_X10_rackIs (σ : rS) (p1 : Int32) (p2 : Int32) : Option ((Int32 ⊕ String) × rS) := oBx (f_X10_needPlayer σ p1) fun _ σ2 => oBx (f_X10_needPiece σ2 p2) fun _ σ4 => some ((.inl (v_X1_rackOf σ4 5 p1 p2), σ4))
set_option maxRecDepth 20000 in
set_option maxHeartbeats 2000000 in
theorem ok_X10_rackIs {σ : rS} {p1 : Int32} {p2 : Int32}   : rFn Sy yX10_rackIs mX10_rackIs 7 [.ref 3, .int p1, .int p2] σ 2 12 (tX (fun v => .inl (some (.int v)))) (f_X10_rackIs σ p1 p2) := by
  refine rF_of (ls := [some (.ref 3), some (.int p1), some (.int p2)]) yfX10_rackIs rfl (Nat.le_of_ble_eq_true rfl) (fun o τ => ?_)
  unfold f_X10_rackIs
  refine P_l (fun hJ _ _ q => E_aload_n dX10_rackIs_0 rfl (E_iload_n dX10_rackIs_1 rfl q)) ?_
  refine P_callx (t2 := fun _ => none) (st2 := fun _ => []) (kc2 := 1) (ks2 := 6) (fun hJ => (ok_X10_needPlayer (σ := σ) (p1 := p1) )) (fun hJ _ _ _ _ v τ1 hM q => E_callV (as := [.int p1]) (b := 3) (st := []) hM (by decide) yfX10_needPlayer mlX10_273 imX10_needPlayer seX10_needPlayer clX10 (kd3 hJ.1.1) rfl (Nat.le_of_ble_eq_true rfl) rfl dX10_rackIs_2 q) (fun hJ _ _ _ _ E τ1 hM => E_callVx (as := [.int p1]) (b := 3) (st := []) hM (by decide) yfX10_needPlayer mlX10_273 imX10_needPlayer seX10_needPlayer clX10 (kd3 hJ.1.1) rfl (Nat.le_of_ble_eq_true rfl) rfl dX10_rackIs_2 rfl) (by decide) (by decide) (fun v1 σ2 => ?_)
  refine P_l (fun hJ _ _ q => E_aload_n dX10_rackIs_5 rfl (E_iload_n dX10_rackIs_6 rfl q)) ?_
  refine P_callx (t2 := fun _ => none) (st2 := fun _ => []) (kc2 := 0) (ks2 := 0) (fun hJ => (ok_X10_needPiece (σ := σ2) (p1 := p2) )) (fun hJ _ _ _ _ v τ1 hM q => E_callV (as := [.int p2]) (b := 3) (st := []) hM (by decide) yfX10_needPiece mlX10_298 imX10_needPiece seX10_needPiece clX10 (kd3 hJ.1.1) rfl (Nat.le_of_ble_eq_true rfl) rfl dX10_rackIs_7 q) (fun hJ _ _ _ _ E τ1 hM => E_callVx (as := [.int p2]) (b := 3) (st := []) hM (by decide) yfX10_needPiece mlX10_298 imX10_needPiece seX10_needPiece clX10 (kd3 hJ.1.1) rfl (Nat.le_of_ble_eq_true rfl) rfl dX10_rackIs_7 rfl) (by decide) (by decide) (fun v3 σ4 => ?_)
  refine P_l (fun hJ _ _ q => E_aload_n dX10_rackIs_10 rfl (E_getR (b := 5) clX10 1 (by decide) flX10_19 (Or.inl ⟨_, rfl⟩) dX10_rackIs_11 (kd3 hJ.1.1) (rf3_1 hJ.1.1) (by decide) (E_iload_n dX10_rackIs_14 rfl (E_iload_n dX10_rackIs_15 rfl (E_callVN (as := [.int p1, .int p2]) (b := 5) (st := []) (ok_X1_rackOf (σ := σ4) (b := 5) (p := p1) (k := p2) hJ (Or.inl rfl)) (by decide) yfX1_rackOf mlX10_333 imX1_rackOf seX1_rackOf clX1 (kd5 hJ.1.1) rfl (Nat.le_of_ble_eq_true rfl) rfl dX10_rackIs_16 q))))) ?_
  exact P_ret (fun _ _ => E_iret rfl dX10_rackIs_19)

def f_X10_tableIs (σ : rS) (p1 : Int32) (p2 : Int32) : Option ((Int32 ⊕ String) × rS) := oBx (f_X10_needKind σ p1) fun _ σ2 => some ((.inl (if p2 = 0 then (vAt (rI σ2 9) 52 p1) else (vAt (rI σ2 10) 52 p1)), σ2))
set_option maxRecDepth 20000 in
set_option maxHeartbeats 2000000 in
theorem ok_X10_tableIs {σ : rS} {p1 : Int32} {p2 : Int32}   : rFn Sy yX10_tableIs mX10_tableIs 7 [.ref 3, .int p1, .int p2] σ 1 6 (tX (fun v => .inl (some (.int v)))) (f_X10_tableIs σ p1 p2) := by
  refine rF_of (ls := [some (.ref 3), some (.int p1), some (.int p2)]) yfX10_tableIs rfl (Nat.le_of_ble_eq_true rfl) (fun o τ => ?_)
  unfold f_X10_tableIs
  refine P_l (fun hJ _ _ q => E_aload_n dX10_tableIs_0 rfl (E_iload_n dX10_tableIs_1 rfl q)) ?_
  refine P_callx (t2 := fun _ => none) (st2 := fun _ => []) (kc2 := 0) (ks2 := 0) (fun hJ => (ok_X10_needKind (σ := σ) (p1 := p1) )) (fun hJ _ _ _ _ v τ1 hM q => E_callV (as := [.int p1]) (b := 3) (st := []) hM (by decide) yfX10_needKind mlX10_136 imX10_needKind seX10_needKind clX10 (kd3 hJ.1.1) rfl (Nat.le_of_ble_eq_true rfl) rfl dX10_tableIs_2 q) (fun hJ _ _ _ _ E τ1 hM => E_callVx (as := [.int p1]) (b := 3) (st := []) hM (by decide) yfX10_needKind mlX10_136 imX10_needKind seX10_needKind clX10 (kd3 hJ.1.1) rfl (Nat.le_of_ble_eq_true rfl) rfl dX10_tableIs_2 rfl) (by decide) (by decide) (fun v1 σ2 => ?_)
  refine P_l (fun hJ _ _ q => E_iload_n dX10_tableIs_5 rfl q) ?_
  refine P_l (pc2 := 34) (ls2 := [none, none, none]) (st2 := [.int (if p2 = 0 then (vAt (rI σ2 9) 52 p1) else (vAt (rI σ2 10) 52 p1))]) (fun hJ _ _ hq => ?_) ?_
  · skip
    refine E_if_eq 23 dX10_tableIs_6 (by decide) (fun c_6_0 => ?_) (fun c_6_0 => ?_)
    · skip
      refine E_aload_n dX10_tableIs_23 rfl ?_
      refine E_getR (b := 5) clX10 1 (by decide) flX10_19 (Or.inl ⟨_, rfl⟩) dX10_tableIs_24 (kd3 hJ.1.1) (rf3_1 hJ.1.1) (by decide) ?_
      refine E_getRN (b := 9) clX1 3 (by decide) flX10_330 (Or.inr ⟨_, rfl⟩) dX10_tableIs_27 (kd5 hJ.1.1) (rf5_3 hJ.1.1) (by decide) ?_
      refine E_iload_n dX10_tableIs_30 rfl ?_
      refine E_callS (as := [.ref 9, .int p1]) (st := []) (ok_at (σ := σ2) (a := 9) (i := p1) (f := rI σ2 9) (kd9 hJ.1.1) (by decide) rfl) (by decide) yfX10_at mlX10_193 stX10_at rfl (Nat.le_of_ble_eq_true rfl) rfl dX10_tableIs_31 ?_
      simp only [if_pos c_6_0] at hq
      exact E_less hq (rLe_at [none, none, none] [some (.ref 3), some (.int p1), some (.int p2)] trivial)
    · skip
      refine E_aload_n dX10_tableIs_9 rfl ?_
      refine E_getR (b := 5) clX10 1 (by decide) flX10_19 (Or.inl ⟨_, rfl⟩) dX10_tableIs_10 (kd3 hJ.1.1) (rf3_1 hJ.1.1) (by decide) ?_
      refine E_getRN (b := 10) clX1 4 (by decide) flX10_336 (Or.inr ⟨_, rfl⟩) dX10_tableIs_13 (kd5 hJ.1.1) (rf5_4 hJ.1.1) (by decide) ?_
      refine E_iload_n dX10_tableIs_16 rfl ?_
      refine E_callS (as := [.ref 10, .int p1]) (st := []) (ok_at (σ := σ2) (a := 10) (i := p1) (f := rI σ2 10) (kd10 hJ.1.1) (by decide) rfl) (by decide) yfX10_at mlX10_193 stX10_at rfl (Nat.le_of_ble_eq_true rfl) rfl dX10_tableIs_17 ?_
      refine E_goto 34 dX10_tableIs_20 (by decide) ?_
      simp only [if_neg c_6_0] at hq
      exact E_less hq (rLe_at [none, none, none] [some (.ref 3), some (.int p1), some (.int p2)] trivial)
  · skip
    exact P_ret (fun _ _ => E_iret rfl dX10_tableIs_34)

def f_X10_poolIs (σ : rS) (p1 : Int32) : Option ((Int32 ⊕ String) × rS) := oBx (f_X10_needPiece σ p1) fun _ σ2 => some ((.inl (vAt (rI σ2 6) 53 p1), σ2))
set_option maxRecDepth 20000 in
set_option maxHeartbeats 2000000 in
theorem ok_X10_poolIs {σ : rS} {p1 : Int32}   : rFn Sy yX10_poolIs mX10_poolIs 7 [.ref 3, .int p1] σ 1 6 (tX (fun v => .inl (some (.int v)))) (f_X10_poolIs σ p1) := by
  refine rF_of (ls := [some (.ref 3), some (.int p1)]) yfX10_poolIs rfl (Nat.le_of_ble_eq_true rfl) (fun o τ => ?_)
  unfold f_X10_poolIs
  refine P_l (fun hJ _ _ q => E_aload_n dX10_poolIs_0 rfl (E_iload_n dX10_poolIs_1 rfl q)) ?_
  refine P_callx (t2 := fun _ => none) (st2 := fun _ => []) (kc2 := 0) (ks2 := 0) (fun hJ => (ok_X10_needPiece (σ := σ) (p1 := p1) )) (fun hJ _ _ _ _ v τ1 hM q => E_callV (as := [.int p1]) (b := 3) (st := []) hM (by decide) yfX10_needPiece mlX10_298 imX10_needPiece seX10_needPiece clX10 (kd3 hJ.1.1) rfl (Nat.le_of_ble_eq_true rfl) rfl dX10_poolIs_2 q) (fun hJ _ _ _ _ E τ1 hM => E_callVx (as := [.int p1]) (b := 3) (st := []) hM (by decide) yfX10_needPiece mlX10_298 imX10_needPiece seX10_needPiece clX10 (kd3 hJ.1.1) rfl (Nat.le_of_ble_eq_true rfl) rfl dX10_poolIs_2 rfl) (by decide) (by decide) (fun v1 σ2 => ?_)
  refine P_l (fun hJ _ _ q => E_aload_n dX10_poolIs_5 rfl (E_getR (b := 5) clX10 1 (by decide) flX10_19 (Or.inl ⟨_, rfl⟩) dX10_poolIs_6 (kd3 hJ.1.1) (rf3_1 hJ.1.1) (by decide) (E_getRN (b := 6) clX1 0 (by decide) flX10_338 (Or.inr ⟨_, rfl⟩) dX10_poolIs_9 (kd5 hJ.1.1) (rf5_0 hJ.1.1) (by decide) (E_iload_n dX10_poolIs_12 rfl (E_callS (as := [.ref 6, .int p1]) (st := []) (ok_at (σ := σ2) (a := 6) (i := p1) (f := rI σ2 6) (kd6 hJ.1.1) (by decide) rfl) (by decide) yfX10_at mlX10_193 stX10_at rfl (Nat.le_of_ble_eq_true rfl) rfl dX10_poolIs_13 q))))) ?_
  exact P_ret (fun _ _ => E_iret rfl dX10_poolIs_16)

def f_X10_playerIs (σ : rS) (p1 : Int32) (p2 : Int32) : Option ((Int32 ⊕ String) × rS) := oBx (f_X10_needPlayer σ p1) fun _ σ2 => if p2 = 0 then (some ((.inl (vAt (rI σ2 20) 4 p1), σ2))) else (if p2 = 1 then (some ((.inl (vAt (rI σ2 21) 4 p1), σ2))) else (if p2 = 2 then (some ((.inl (vAt (rI σ2 22) 4 p1), σ2))) else (if p2 = 3 then (some ((.inl (vAt (rI σ2 23) 4 p1), σ2))) else (if p2 = 4 then (some ((.inl (if (v_X10_hasMelded σ2 p1) = 0 then 0 else 1), σ2))) else (if p2 = 5 then (some ((.inl (v_X1_sizeOf σ2 5 p1), σ2))) else (if p2 = 6 then ((f_X1_worthOf σ2 5 p1).bind fun v10 => some ((.inl v10, σ2))) else (if p2 = 7 then ((f_X6_placeOf σ2 p1).bind fun v12 => some ((.inl v12, σ2))) else (if p2 = 8 then (some ((.inl (vAt (rI σ2 25) 4 p1), σ2))) else (if p2 = 9 then (some ((.inl (vAt (rI σ2 27) 4 p1), σ2))) else (some ((.inr "java/lang/IllegalArgumentException", σ2))))))))))))
set_option maxRecDepth 20000 in
set_option maxHeartbeats 2000000 in
theorem ok_X10_playerIs {σ : rS} {p1 : Int32} {p2 : Int32}   : rFn Sy yX10_playerIs mX10_playerIs 7 [.ref 3, .int p1, .int p2] σ 2 12 (tX (fun v => .inl (some (.int v)))) (f_X10_playerIs σ p1 p2) := by
  refine rF_of (ls := [some (.ref 3), some (.int p1), some (.int p2)]) yfX10_playerIs rfl (Nat.le_of_ble_eq_true rfl) (fun o τ => ?_)
  unfold f_X10_playerIs
  refine P_l (fun hJ _ _ q => E_aload_n dX10_playerIs_0 rfl (E_iload_n dX10_playerIs_1 rfl q)) ?_
  refine P_callx (t2 := fun _ => none) (st2 := fun _ => []) (kc2 := 1) (ks2 := 6) (fun hJ => (ok_X10_needPlayer (σ := σ) (p1 := p1) )) (fun hJ _ _ _ _ v τ1 hM q => E_callV (as := [.int p1]) (b := 3) (st := []) hM (by decide) yfX10_needPlayer mlX10_273 imX10_needPlayer seX10_needPlayer clX10 (kd3 hJ.1.1) rfl (Nat.le_of_ble_eq_true rfl) rfl dX10_playerIs_2 q) (fun hJ _ _ _ _ E τ1 hM => E_callVx (as := [.int p1]) (b := 3) (st := []) hM (by decide) yfX10_needPlayer mlX10_273 imX10_needPlayer seX10_needPlayer clX10 (kd3 hJ.1.1) rfl (Nat.le_of_ble_eq_true rfl) rfl dX10_playerIs_2 rfl) (by decide) (by decide) (fun v1 σ2 => ?_)
  refine P_l (fun hJ _ _ q => E_iload_n dX10_playerIs_5 rfl q) ?_
  refine P_case (fun h3 => ?_) (fun h3 => ?_)
  · skip
    refine P_l (fun hJ _ _ q => E_tableIn (off := 54) 60 dX10_playerIs_6 (by rw [h3]; decide) (by rw [h3]; decide) (by rw [h3]; rfl) (by decide) q) ?_
    refine P_l (fun hJ _ _ q => E_aload_n dX10_playerIs_60 rfl (E_getR (b := 19) clX10 3 (by decide) flX10_29 (Or.inl ⟨_, rfl⟩) dX10_playerIs_61 (kd3 hJ.1.1) (rf3_3 hJ.1.1) (by decide) (E_getRN (b := 20) clX6 1 (by decide) flX10_341 (Or.inr ⟨_, rfl⟩) dX10_playerIs_64 (kd19 hJ.1.1) (rf19_1 hJ.1.1) (by decide) (E_iload_n dX10_playerIs_67 rfl (E_callS (as := [.ref 20, .int p1]) (st := []) (ok_at (σ := σ2) (a := 20) (i := p1) (f := rI σ2 20) (kd20 hJ.1.1) (by decide) rfl) (by decide) yfX10_at mlX10_193 stX10_at rfl (Nat.le_of_ble_eq_true rfl) rfl dX10_playerIs_68 q))))) ?_
    exact P_ret (fun _ _ => E_iret rfl dX10_playerIs_71)
  · skip
    refine P_case (fun h4 => ?_) (fun h4 => ?_)
    · skip
      refine P_l (fun hJ _ _ q => E_tableIn (off := 66) 72 dX10_playerIs_6 (by rw [h4]; decide) (by rw [h4]; decide) (by rw [h4]; rfl) (by decide) q) ?_
      refine P_l (fun hJ _ _ q => E_aload_n dX10_playerIs_72 rfl (E_getR (b := 19) clX10 3 (by decide) flX10_29 (Or.inl ⟨_, rfl⟩) dX10_playerIs_73 (kd3 hJ.1.1) (rf3_3 hJ.1.1) (by decide) (E_getRN (b := 21) clX6 2 (by decide) flX10_206 (Or.inr ⟨_, rfl⟩) dX10_playerIs_76 (kd19 hJ.1.1) (rf19_2 hJ.1.1) (by decide) (E_iload_n dX10_playerIs_79 rfl (E_callS (as := [.ref 21, .int p1]) (st := []) (ok_at (σ := σ2) (a := 21) (i := p1) (f := rI σ2 21) (kd21 hJ.1.1) (by decide) rfl) (by decide) yfX10_at mlX10_193 stX10_at rfl (Nat.le_of_ble_eq_true rfl) rfl dX10_playerIs_80 q))))) ?_
      exact P_ret (fun _ _ => E_iret rfl dX10_playerIs_83)
    · skip
      refine P_case (fun h5 => ?_) (fun h5 => ?_)
      · skip
        refine P_l (fun hJ _ _ q => E_tableIn (off := 78) 84 dX10_playerIs_6 (by rw [h5]; decide) (by rw [h5]; decide) (by rw [h5]; rfl) (by decide) q) ?_
        refine P_l (fun hJ _ _ q => E_aload_n dX10_playerIs_84 rfl (E_getR (b := 19) clX10 3 (by decide) flX10_29 (Or.inl ⟨_, rfl⟩) dX10_playerIs_85 (kd3 hJ.1.1) (rf3_3 hJ.1.1) (by decide) (E_getRN (b := 22) clX6 3 (by decide) flX10_344 (Or.inr ⟨_, rfl⟩) dX10_playerIs_88 (kd19 hJ.1.1) (rf19_3 hJ.1.1) (by decide) (E_iload_n dX10_playerIs_91 rfl (E_callS (as := [.ref 22, .int p1]) (st := []) (ok_at (σ := σ2) (a := 22) (i := p1) (f := rI σ2 22) (kd22 hJ.1.1) (by decide) rfl) (by decide) yfX10_at mlX10_193 stX10_at rfl (Nat.le_of_ble_eq_true rfl) rfl dX10_playerIs_92 q))))) ?_
        exact P_ret (fun _ _ => E_iret rfl dX10_playerIs_95)
      · skip
        refine P_case (fun h6 => ?_) (fun h6 => ?_)
        · skip
          refine P_l (fun hJ _ _ q => E_tableIn (off := 90) 96 dX10_playerIs_6 (by rw [h6]; decide) (by rw [h6]; decide) (by rw [h6]; rfl) (by decide) q) ?_
          refine P_l (fun hJ _ _ q => E_aload_n dX10_playerIs_96 rfl (E_getR (b := 19) clX10 3 (by decide) flX10_29 (Or.inl ⟨_, rfl⟩) dX10_playerIs_97 (kd3 hJ.1.1) (rf3_3 hJ.1.1) (by decide) (E_getRN (b := 23) clX6 4 (by decide) flX10_189 (Or.inr ⟨_, rfl⟩) dX10_playerIs_100 (kd19 hJ.1.1) (rf19_4 hJ.1.1) (by decide) (E_iload_n dX10_playerIs_103 rfl (E_callS (as := [.ref 23, .int p1]) (st := []) (ok_at (σ := σ2) (a := 23) (i := p1) (f := rI σ2 23) (kd23 hJ.1.1) (by decide) rfl) (by decide) yfX10_at mlX10_193 stX10_at rfl (Nat.le_of_ble_eq_true rfl) rfl dX10_playerIs_104 q))))) ?_
          exact P_ret (fun _ _ => E_iret rfl dX10_playerIs_107)
        · skip
          refine P_case (fun h7 => ?_) (fun h7 => ?_)
          · skip
            refine P_l (fun hJ _ _ q => E_tableIn (off := 102) 108 dX10_playerIs_6 (by rw [h7]; decide) (by rw [h7]; decide) (by rw [h7]; rfl) (by decide) q) ?_
            refine P_l (fun hJ _ _ q => E_aload_n dX10_playerIs_108 rfl (E_iload_n dX10_playerIs_109 rfl (E_callV (as := [.int p1]) (b := 3) (st := []) (ok_X10_hasMelded (σ := σ2) (p1 := p1) hJ ) (by decide) yfX10_hasMelded mlX10_209 imX10_hasMelded seX10_hasMelded clX10 (kd3 hJ.1.1) rfl (Nat.le_of_ble_eq_true rfl) rfl dX10_playerIs_110 q))) ?_
            refine P_l (pc2 := 121) (ls2 := [none, none, none]) (st2 := [.int (if (v_X10_hasMelded σ2 p1) = 0 then 0 else 1)]) (fun hJ _ _ hq => ?_) ?_
            · skip
              refine E_if_eq 120 dX10_playerIs_113 (by decide) (fun c_113_0 => ?_) (fun c_113_0 => ?_)
              · skip
                refine E_iconst (v := 0) dX10_playerIs_120 (by decide) ?_
                simp only [if_pos c_113_0] at hq
                exact E_less hq (rLe_at [none, none, none] [some (.ref 3), some (.int p1), some (.int p2)] trivial)
              · skip
                refine E_iconst (v := 1) dX10_playerIs_116 (by decide) ?_
                refine E_goto 121 dX10_playerIs_117 (by decide) ?_
                simp only [if_neg c_113_0] at hq
                exact E_less hq (rLe_at [none, none, none] [some (.ref 3), some (.int p1), some (.int p2)] trivial)
            · skip
              exact P_ret (fun _ _ => E_iret rfl dX10_playerIs_121)
          · skip
            refine P_case (fun h8 => ?_) (fun h8 => ?_)
            · skip
              refine P_l (fun hJ _ _ q => E_tableIn (off := 116) 122 dX10_playerIs_6 (by rw [h8]; decide) (by rw [h8]; decide) (by rw [h8]; rfl) (by decide) q) ?_
              refine P_l (fun hJ _ _ q => E_aload_n dX10_playerIs_122 rfl (E_getR (b := 5) clX10 1 (by decide) flX10_19 (Or.inl ⟨_, rfl⟩) dX10_playerIs_123 (kd3 hJ.1.1) (rf3_1 hJ.1.1) (by decide) (E_iload_n dX10_playerIs_126 rfl (E_callVN (as := [.int p1]) (b := 5) (st := []) (ok_X1_sizeOf (σ := σ2) (b := 5) (p := p1) hJ (Or.inl rfl)) (by decide) yfX1_sizeOf mlX10_301 imX1_sizeOf seX1_sizeOf clX1 (kd5 hJ.1.1) rfl (Nat.le_of_ble_eq_true rfl) rfl dX10_playerIs_127 q)))) ?_
              exact P_ret (fun _ _ => E_iret rfl dX10_playerIs_130)
            · skip
              refine P_case (fun h9 => ?_) (fun h9 => ?_)
              · skip
                refine P_l (fun hJ _ _ q => E_tableIn (off := 125) 131 dX10_playerIs_6 (by rw [h9]; decide) (by rw [h9]; decide) (by rw [h9]; rfl) (by decide) q) ?_
                refine P_l (fun hJ _ _ q => E_aload_n dX10_playerIs_131 rfl (E_getR (b := 5) clX10 1 (by decide) flX10_19 (Or.inl ⟨_, rfl⟩) dX10_playerIs_132 (kd3 hJ.1.1) (rf3_1 hJ.1.1) (by decide) (E_iload_n dX10_playerIs_135 rfl q))) ?_
                refine P_callr (t := fun v => some (.int v)) (st2 := fun v => .int v :: []) (fun hJ => (ok_X1_worthOf (σ := σ2) (b := 5) (p := p1) (Or.inl rfl))) (fun hJ _ _ v hM q => E_callVN (as := [.int p1]) (b := 5) (st := []) hM (by decide) yfX1_worthOf mlX10_347 imX1_worthOf seX1_worthOf clX1 (kd5 hJ.1.1) rfl (Nat.le_of_ble_eq_true rfl) rfl dX10_playerIs_136 q) (fun v10 => ?_)
                exact P_ret (fun _ _ => E_iret rfl dX10_playerIs_139)
              · skip
                refine P_case (fun h11 => ?_) (fun h11 => ?_)
                · skip
                  refine P_l (fun hJ _ _ q => E_tableIn (off := 134) 140 dX10_playerIs_6 (by rw [h11]; decide) (by rw [h11]; decide) (by rw [h11]; rfl) (by decide) q) ?_
                  refine P_l (fun hJ _ _ q => E_aload_n dX10_playerIs_140 rfl (E_getR (b := 19) clX10 3 (by decide) flX10_29 (Or.inl ⟨_, rfl⟩) dX10_playerIs_141 (kd3 hJ.1.1) (rf3_3 hJ.1.1) (by decide) (E_iload_n dX10_playerIs_144 rfl q))) ?_
                  refine P_callr (t := fun v => some (.int v)) (st2 := fun v => .int v :: []) (fun hJ => (ok_X6_placeOf (σ := σ2) (p1 := p1) )) (fun hJ _ _ v hM q => E_callVN (as := [.int p1]) (b := 19) (st := []) hM (by decide) yfX6_placeOf mlX10_350 imX6_placeOf seX6_placeOf clX6 (kd19 hJ.1.1) rfl (Nat.le_of_ble_eq_true rfl) rfl dX10_playerIs_145 q) (fun v12 => ?_)
                  exact P_ret (fun _ _ => E_iret rfl dX10_playerIs_148)
                · skip
                  refine P_case (fun h13 => ?_) (fun h13 => ?_)
                  · skip
                    refine P_l (fun hJ _ _ q => E_tableIn (off := 143) 149 dX10_playerIs_6 (by rw [h13]; decide) (by rw [h13]; decide) (by rw [h13]; rfl) (by decide) q) ?_
                    refine P_l (fun hJ _ _ q => E_aload_n dX10_playerIs_149 rfl (E_getR (b := 19) clX10 3 (by decide) flX10_29 (Or.inl ⟨_, rfl⟩) dX10_playerIs_150 (kd3 hJ.1.1) (rf3_3 hJ.1.1) (by decide) (E_getRN (b := 25) clX6 6 (by decide) flX10_308 (Or.inr ⟨_, rfl⟩) dX10_playerIs_153 (kd19 hJ.1.1) (rf19_6 hJ.1.1) (by decide) (E_iload_n dX10_playerIs_156 rfl (E_callS (as := [.ref 25, .int p1]) (st := []) (ok_at (σ := σ2) (a := 25) (i := p1) (f := rI σ2 25) (kd25 hJ.1.1) (by decide) rfl) (by decide) yfX10_at mlX10_193 stX10_at rfl (Nat.le_of_ble_eq_true rfl) rfl dX10_playerIs_157 q))))) ?_
                    exact P_ret (fun _ _ => E_iret rfl dX10_playerIs_160)
                  · skip
                    refine P_case (fun h14 => ?_) (fun h14 => ?_)
                    · skip
                      refine P_l (fun hJ _ _ q => E_tableIn (off := 155) 161 dX10_playerIs_6 (by rw [h14]; decide) (by rw [h14]; decide) (by rw [h14]; rfl) (by decide) q) ?_
                      refine P_l (fun hJ _ _ q => E_aload_n dX10_playerIs_161 rfl (E_getR (b := 19) clX10 3 (by decide) flX10_29 (Or.inl ⟨_, rfl⟩) dX10_playerIs_162 (kd3 hJ.1.1) (rf3_3 hJ.1.1) (by decide) (E_getRN (b := 27) clX6 8 (by decide) flX10_353 (Or.inr ⟨_, rfl⟩) dX10_playerIs_165 (kd19 hJ.1.1) (rf19_8 hJ.1.1) (by decide) (E_iload_n dX10_playerIs_168 rfl (E_callS (as := [.ref 27, .int p1]) (st := []) (ok_at (σ := σ2) (a := 27) (i := p1) (f := rI σ2 27) (kd27 hJ.1.1) (by decide) rfl) (by decide) yfX10_at mlX10_193 stX10_at rfl (Nat.le_of_ble_eq_true rfl) rfl dX10_playerIs_169 q))))) ?_
                      exact P_ret (fun _ _ => E_iret rfl dX10_playerIs_172)
                    · skip
                      refine P_l (fun hJ _ _ q => E_tableOut 173 dX10_playerIs_6 (by have e0 := sw_ne h3; have e1 := sw_ne h4; have e2 := sw_ne h5; have e3 := sw_ne h6; have e4 := sw_ne h7; have e5 := sw_ne h8; have e6 := sw_ne h9; have e7 := sw_ne h11; have e8 := sw_ne h13; have e9 := sw_ne h14; simp only [sw_l0, sw_l1, sw_l2, sw_l3, sw_l4, sw_l5, sw_l6, sw_l7, sw_l8, sw_l9] at *; omega) (by decide) q) ?_
                      exact P_thr (fun kc ks => xt_IllegalArgumentException rfl rfl (by decide) (Nat.le_of_ble_eq_true rfl) dX10_playerIs_173 dX10_playerIs_176 dX10_playerIs_177 dX10_playerIs_180 kc ks) (by decide) (by decide)

def f_X10_team (σ : rS) (p1 : Int32) : Option ((Int32 ⊕ String) × rS) := if (vIn p1 0 1) = 0 then (some ((.inr "java/lang/IllegalArgumentException", σ))) else ((f_X6_pointsOf σ p1).bind fun v1 => some ((.inl v1, σ)))
set_option maxRecDepth 20000 in
set_option maxHeartbeats 2000000 in
theorem ok_X10_team {σ : rS} {p1 : Int32}   : rFn Sy yX10_team mX10_team 6 [.ref 3, .int p1] σ 1 6 (tX (fun v => .inl (some (.int v)))) (f_X10_team σ p1) := by
  refine rF_of (ls := [some (.ref 3), some (.int p1)]) yfX10_team rfl (Nat.le_of_ble_eq_true rfl) (fun o τ => ?_)
  unfold f_X10_team
  refine P_l (fun hJ _ _ q => E_iload_n dX10_team_0 rfl (E_iconst (v := 0) dX10_team_1 (by decide) (E_iconst (v := 1) dX10_team_2 (by decide) (E_callS (as := [.int p1, .int 0, .int 1]) (st := []) (ok_within (σ := σ) (v := p1) (a := 0) (b := 1)) (by decide) yfX10_within mlX10_74 stX10_within rfl (Nat.le_of_ble_eq_true rfl) rfl dX10_team_3 q)))) ?_
  refine P_if (fun hJ _ _ h1 h2 => E_if_ne 17 dX10_team_6 (by decide) h2 h1) ?_ ?_
  · skip
    exact P_thr (fun kc ks => xt_IllegalArgumentException rfl rfl (by decide) (Nat.le_of_ble_eq_true rfl) dX10_team_9 dX10_team_12 dX10_team_13 dX10_team_16 kc ks) (by decide) (by decide)
  · skip
    refine P_l (fun hJ _ _ q => E_aload_n dX10_team_17 rfl (E_getR (b := 19) clX10 3 (by decide) flX10_29 (Or.inl ⟨_, rfl⟩) dX10_team_18 (kd3 hJ.1.1) (rf3_3 hJ.1.1) (by decide) (E_iload_n dX10_team_21 rfl q))) ?_
    refine P_callr (t := fun v => some (.int v)) (st2 := fun v => .int v :: []) (fun hJ => (ok_X6_pointsOf (σ := σ) (p1 := p1) )) (fun hJ _ _ v hM q => E_callVN (as := [.int p1]) (b := 19) (st := []) hM (by decide) yfX6_pointsOf mlX10_356 imX6_pointsOf seX6_pointsOf clX6 (kd19 hJ.1.1) rfl (Nat.le_of_ble_eq_true rfl) rfl dX10_team_22 q) (fun v1 => ?_)
    exact P_ret (fun _ _ => E_iret rfl dX10_team_25)

def f_X10_entry (σ : rS) (p1 : Int32) (p2 : Int32) : Option ((Int32 ⊕ String) × rS) := if (vIn p1 0 ((rI σ 35 1) - 1)) = 0 then (some ((.inr "java/lang/IndexOutOfBoundsException", σ))) else (if p2 = 0 then (some ((.inl (v_X2_sort σ (((rI σ 35 1) - 1) - p1)), σ))) else (if p2 = 1 then (some ((.inl (v_X2_who σ (((rI σ 35 1) - 1) - p1)), σ))) else (if p2 = 2 then (some ((.inl (v_X2_kind σ (((rI σ 35 1) - 1) - p1)), σ))) else (if p2 = 3 then (some ((.inl (v_X2_drawn σ (((rI σ 35 1) - 1) - p1)), σ))) else (some ((.inr "java/lang/IllegalArgumentException", σ)))))))
set_option maxRecDepth 20000 in
set_option maxHeartbeats 2000000 in
theorem ok_X10_entry {σ : rS} {p1 : Int32} {p2 : Int32}   : rFn Sy yX10_entry mX10_entry 6 [.ref 3, .int p1, .int p2] σ 1 6 (tX (fun v => .inl (some (.int v)))) (f_X10_entry σ p1 p2) := by
  refine rF_of (ls := [some (.ref 3), some (.int p1), some (.int p2), none]) yfX10_entry rfl (Nat.le_of_ble_eq_true rfl) (fun o τ => ?_)
  unfold f_X10_entry
  refine P_l (fun hJ _ _ q => E_iload_n dX10_entry_0 rfl (E_iconst (v := 0) dX10_entry_1 (by decide) (E_aload_n dX10_entry_2 rfl (E_getR (b := 35) clX10 5 (by decide) flX10_43 (Or.inl ⟨_, rfl⟩) dX10_entry_3 (kd3 hJ.1.1) (rf3_5 hJ.1.1) (by decide) (E_getIN clX2 1 (by decide) flX10_359 (Or.inl rfl) dX10_entry_6 (kd35 hJ.1.1) (E_iconst (v := 1) dX10_entry_9 (by decide) (E_isub dX10_entry_10 (E_callS (as := [.int p1, .int 0, .int ((rI σ 35 1) - 1)]) (st := []) (ok_within (σ := σ) (v := p1) (a := 0) (b := (rI σ 35 1) - 1)) (by decide) yfX10_within mlX10_74 stX10_within rfl (Nat.le_of_ble_eq_true rfl) rfl dX10_entry_11 q)))))))) ?_
  refine P_if (fun hJ _ _ h1 h2 => E_if_ne 25 dX10_entry_14 (by decide) h2 h1) ?_ ?_
  · skip
    exact P_thr (fun kc ks => xt_IndexOutOfBoundsException rfl rfl (by decide) (Nat.le_of_ble_eq_true rfl) dX10_entry_17 dX10_entry_20 dX10_entry_21 dX10_entry_24 kc ks) (by decide) (by decide)
  · skip
    refine P_l (fun hJ _ _ q => E_aload_n dX10_entry_25 rfl (E_getR (b := 35) clX10 5 (by decide) flX10_43 (Or.inl ⟨_, rfl⟩) dX10_entry_26 (kd3 hJ.1.1) (rf3_5 hJ.1.1) (by decide) (E_getIN clX2 1 (by decide) flX10_359 (Or.inl rfl) dX10_entry_29 (kd35 hJ.1.1) (E_iconst (v := 1) dX10_entry_32 (by decide) (E_isub dX10_entry_33 (E_iload_n dX10_entry_34 rfl (E_isub dX10_entry_35 (E_istore_n (ls2 := [some (.ref 3), some (.int p1), some (.int p2), some (.int (((rI σ 35 1) - 1) - p1))]) dX10_entry_36 (by decide) rfl (E_iload_n dX10_entry_37 rfl q))))))))) ?_
    refine P_case (fun h1 => ?_) (fun h1 => ?_)
    · skip
      refine P_l (fun hJ _ _ q => E_tableIn (off := 30) 68 dX10_entry_38 (by rw [h1]; decide) (by rw [h1]; decide) (by rw [h1]; rfl) (by decide) q) ?_
      refine P_l (fun hJ _ _ q => E_aload_n dX10_entry_68 rfl (E_getR (b := 35) clX10 5 (by decide) flX10_43 (Or.inl ⟨_, rfl⟩) dX10_entry_69 (kd3 hJ.1.1) (rf3_5 hJ.1.1) (by decide) (E_iload_n dX10_entry_72 rfl (E_callVN (as := [.int (((rI σ 35 1) - 1) - p1)]) (b := 35) (st := []) (ok_X2_sort (σ := σ) (p1 := ((rI σ 35 1) - 1) - p1) hJ ) (by decide) yfX2_sort mlX10_363 imX2_sort seX2_sort clX2 (kd35 hJ.1.1) rfl (Nat.le_of_ble_eq_true rfl) rfl dX10_entry_73 q)))) ?_
      exact P_ret (fun _ _ => E_iret rfl dX10_entry_76)
    · skip
      refine P_case (fun h2 => ?_) (fun h2 => ?_)
      · skip
        refine P_l (fun hJ _ _ q => E_tableIn (off := 39) 77 dX10_entry_38 (by rw [h2]; decide) (by rw [h2]; decide) (by rw [h2]; rfl) (by decide) q) ?_
        refine P_l (fun hJ _ _ q => E_aload_n dX10_entry_77 rfl (E_getR (b := 35) clX10 5 (by decide) flX10_43 (Or.inl ⟨_, rfl⟩) dX10_entry_78 (kd3 hJ.1.1) (rf3_5 hJ.1.1) (by decide) (E_iload_n dX10_entry_81 rfl (E_callVN (as := [.int (((rI σ 35 1) - 1) - p1)]) (b := 35) (st := []) (ok_X2_who (σ := σ) (p1 := ((rI σ 35 1) - 1) - p1) hJ ) (by decide) yfX2_who mlX10_366 imX2_who seX2_who clX2 (kd35 hJ.1.1) rfl (Nat.le_of_ble_eq_true rfl) rfl dX10_entry_82 q)))) ?_
        exact P_ret (fun _ _ => E_iret rfl dX10_entry_85)
      · skip
        refine P_case (fun h3 => ?_) (fun h3 => ?_)
        · skip
          refine P_l (fun hJ _ _ q => E_tableIn (off := 48) 86 dX10_entry_38 (by rw [h3]; decide) (by rw [h3]; decide) (by rw [h3]; rfl) (by decide) q) ?_
          refine P_l (fun hJ _ _ q => E_aload_n dX10_entry_86 rfl (E_getR (b := 35) clX10 5 (by decide) flX10_43 (Or.inl ⟨_, rfl⟩) dX10_entry_87 (kd3 hJ.1.1) (rf3_5 hJ.1.1) (by decide) (E_iload_n dX10_entry_90 rfl (E_callVN (as := [.int (((rI σ 35 1) - 1) - p1)]) (b := 35) (st := []) (ok_X2_kind (σ := σ) (p1 := ((rI σ 35 1) - 1) - p1) hJ ) (by decide) yfX2_kind mlX10_369 imX2_kind seX2_kind clX2 (kd35 hJ.1.1) rfl (Nat.le_of_ble_eq_true rfl) rfl dX10_entry_91 q)))) ?_
          exact P_ret (fun _ _ => E_iret rfl dX10_entry_94)
        · skip
          refine P_case (fun h4 => ?_) (fun h4 => ?_)
          · skip
            refine P_l (fun hJ _ _ q => E_tableIn (off := 57) 95 dX10_entry_38 (by rw [h4]; decide) (by rw [h4]; decide) (by rw [h4]; rfl) (by decide) q) ?_
            refine P_l (fun hJ _ _ q => E_aload_n dX10_entry_95 rfl (E_getR (b := 35) clX10 5 (by decide) flX10_43 (Or.inl ⟨_, rfl⟩) dX10_entry_96 (kd3 hJ.1.1) (rf3_5 hJ.1.1) (by decide) (E_iload_n dX10_entry_99 rfl (E_callVN (as := [.int (((rI σ 35 1) - 1) - p1)]) (b := 35) (st := []) (ok_X2_drawn (σ := σ) (p1 := ((rI σ 35 1) - 1) - p1) hJ ) (by decide) yfX2_drawn mlX10_372 imX2_drawn seX2_drawn clX2 (kd35 hJ.1.1) rfl (Nat.le_of_ble_eq_true rfl) rfl dX10_entry_100 q)))) ?_
            exact P_ret (fun _ _ => E_iret rfl dX10_entry_103)
          · skip
            refine P_l (fun hJ _ _ q => E_tableOut 104 dX10_entry_38 (by have e0 := sw_ne h1; have e1 := sw_ne h2; have e2 := sw_ne h3; have e3 := sw_ne h4; simp only [sw_l0, sw_l1, sw_l2, sw_l3] at *; omega) (by decide) q) ?_
            exact P_thr (fun kc ks => xt_IllegalArgumentException rfl rfl (by decide) (Nat.le_of_ble_eq_true rfl) dX10_entry_104 dX10_entry_107 dX10_entry_108 dX10_entry_111 kc ks) (by decide) (by decide)

def f_X10_sum (σ : rS) (p1 : Int32) : Option ((Int32 ⊕ String) × rS) := if p1 = 0 then (some ((.inl (rI σ 3 8), σ))) else (if p1 = 1 then (some ((.inl (rI σ 5 7), σ))) else (if p1 = 2 then (some ((.inl (rI σ 5 8), σ))) else (if p1 = 3 then (some ((.inl (rI σ 5 9), σ))) else (if p1 = 4 then (some ((.inl (rI σ 5 10), σ))) else (if p1 = 5 then (some ((.inl (rI σ 5 6), σ))) else (if p1 = 6 then (some ((.inl (rI σ 3 9), σ))) else (if p1 = 7 then (some ((.inl (rI σ 35 1), σ))) else (if p1 = 8 then (some ((.inl (rI σ 3 10), σ))) else (if p1 = 9 then (some ((.inl (rI σ 3 11), σ))) else (if p1 = 10 then (some ((.inl (rI σ 31 1), σ))) else (if p1 = 11 then (some ((.inl (rI σ 5 11), σ))) else (some ((.inr "java/lang/IllegalArgumentException", σ))))))))))))))
set_option maxRecDepth 20000 in
set_option maxHeartbeats 2000000 in
theorem ok_X10_sum {σ : rS} {p1 : Int32}   : rFn Sy yX10_sum mX10_sum 6 [.ref 3, .int p1] σ 1 6 (tX (fun v => .inl (some (.int v)))) (f_X10_sum σ p1) := by
  refine rF_of (ls := [some (.ref 3), some (.int p1)]) yfX10_sum rfl (Nat.le_of_ble_eq_true rfl) (fun o τ => ?_)
  unfold f_X10_sum
  refine P_l (fun hJ _ _ q => E_iload_n dX10_sum_0 rfl q) ?_
  refine P_case (fun h1 => ?_) (fun h1 => ?_)
  · skip
    refine P_l (fun hJ _ _ q => E_tableIn (off := 63) 64 dX10_sum_1 (by rw [h1]; decide) (by rw [h1]; decide) (by rw [h1]; rfl) (by decide) q) ?_
    refine P_l (fun hJ _ _ q => E_aload_n dX10_sum_64 rfl (E_getI clX10 8 (by decide) flX10_61 (Or.inl rfl) dX10_sum_65 (kd3 hJ.1.1) q)) ?_
    exact P_ret (fun _ _ => E_iret rfl dX10_sum_68)
  · skip
    refine P_case (fun h2 => ?_) (fun h2 => ?_)
    · skip
      refine P_l (fun hJ _ _ q => E_tableIn (off := 68) 69 dX10_sum_1 (by rw [h2]; decide) (by rw [h2]; decide) (by rw [h2]; rfl) (by decide) q) ?_
      refine P_l (fun hJ _ _ q => E_aload_n dX10_sum_69 rfl (E_getR (b := 5) clX10 1 (by decide) flX10_19 (Or.inl ⟨_, rfl⟩) dX10_sum_70 (kd3 hJ.1.1) (rf3_1 hJ.1.1) (by decide) (E_getIN clX1 7 (by decide) flX10_133 (Or.inl rfl) dX10_sum_73 (kd5 hJ.1.1) q))) ?_
      exact P_ret (fun _ _ => E_iret rfl dX10_sum_76)
    · skip
      refine P_case (fun h3 => ?_) (fun h3 => ?_)
      · skip
        refine P_l (fun hJ _ _ q => E_tableIn (off := 76) 77 dX10_sum_1 (by rw [h3]; decide) (by rw [h3]; decide) (by rw [h3]; rfl) (by decide) q) ?_
        refine P_l (fun hJ _ _ q => E_aload_n dX10_sum_77 rfl (E_getR (b := 5) clX10 1 (by decide) flX10_19 (Or.inl ⟨_, rfl⟩) dX10_sum_78 (kd3 hJ.1.1) (rf3_1 hJ.1.1) (by decide) (E_getIN clX1 8 (by decide) flX10_261 (Or.inl rfl) dX10_sum_81 (kd5 hJ.1.1) q))) ?_
        exact P_ret (fun _ _ => E_iret rfl dX10_sum_84)
      · skip
        refine P_case (fun h4 => ?_) (fun h4 => ?_)
        · skip
          refine P_l (fun hJ _ _ q => E_tableIn (off := 84) 85 dX10_sum_1 (by rw [h4]; decide) (by rw [h4]; decide) (by rw [h4]; rfl) (by decide) q) ?_
          refine P_l (fun hJ _ _ q => E_aload_n dX10_sum_85 rfl (E_getR (b := 5) clX10 1 (by decide) flX10_19 (Or.inl ⟨_, rfl⟩) dX10_sum_86 (kd3 hJ.1.1) (rf3_1 hJ.1.1) (by decide) (E_getIN clX1 9 (by decide) flX10_156 (Or.inl rfl) dX10_sum_89 (kd5 hJ.1.1) q))) ?_
          exact P_ret (fun _ _ => E_iret rfl dX10_sum_92)
        · skip
          refine P_case (fun h5 => ?_) (fun h5 => ?_)
          · skip
            refine P_l (fun hJ _ _ q => E_tableIn (off := 92) 93 dX10_sum_1 (by rw [h5]; decide) (by rw [h5]; decide) (by rw [h5]; rfl) (by decide) q) ?_
            refine P_l (fun hJ _ _ q => E_aload_n dX10_sum_93 rfl (E_getR (b := 5) clX10 1 (by decide) flX10_19 (Or.inl ⟨_, rfl⟩) dX10_sum_94 (kd3 hJ.1.1) (rf3_1 hJ.1.1) (by decide) (E_getIN clX1 10 (by decide) flX10_165 (Or.inl rfl) dX10_sum_97 (kd5 hJ.1.1) q))) ?_
            exact P_ret (fun _ _ => E_iret rfl dX10_sum_100)
          · skip
            refine P_case (fun h6 => ?_) (fun h6 => ?_)
            · skip
              refine P_l (fun hJ _ _ q => E_tableIn (off := 100) 101 dX10_sum_1 (by rw [h6]; decide) (by rw [h6]; decide) (by rw [h6]; rfl) (by decide) q) ?_
              refine P_l (fun hJ _ _ q => E_aload_n dX10_sum_101 rfl (E_getR (b := 5) clX10 1 (by decide) flX10_19 (Or.inl ⟨_, rfl⟩) dX10_sum_102 (kd3 hJ.1.1) (rf3_1 hJ.1.1) (by decide) (E_getIN clX1 6 (by decide) flX10_174 (Or.inl rfl) dX10_sum_105 (kd5 hJ.1.1) q))) ?_
              exact P_ret (fun _ _ => E_iret rfl dX10_sum_108)
            · skip
              refine P_case (fun h7 => ?_) (fun h7 => ?_)
              · skip
                refine P_l (fun hJ _ _ q => E_tableIn (off := 108) 109 dX10_sum_1 (by rw [h7]; decide) (by rw [h7]; decide) (by rw [h7]; rfl) (by decide) q) ?_
                refine P_l (fun hJ _ _ q => E_aload_n dX10_sum_109 rfl (E_getI clX10 9 (by decide) flX10_130 (Or.inl rfl) dX10_sum_110 (kd3 hJ.1.1) q)) ?_
                exact P_ret (fun _ _ => E_iret rfl dX10_sum_113)
              · skip
                refine P_case (fun h8 => ?_) (fun h8 => ?_)
                · skip
                  refine P_l (fun hJ _ _ q => E_tableIn (off := 113) 114 dX10_sum_1 (by rw [h8]; decide) (by rw [h8]; decide) (by rw [h8]; rfl) (by decide) q) ?_
                  refine P_l (fun hJ _ _ q => E_aload_n dX10_sum_114 rfl (E_getR (b := 35) clX10 5 (by decide) flX10_43 (Or.inl ⟨_, rfl⟩) dX10_sum_115 (kd3 hJ.1.1) (rf3_5 hJ.1.1) (by decide) (E_getIN clX2 1 (by decide) flX10_359 (Or.inl rfl) dX10_sum_118 (kd35 hJ.1.1) q))) ?_
                  exact P_ret (fun _ _ => E_iret rfl dX10_sum_121)
                · skip
                  refine P_case (fun h9 => ?_) (fun h9 => ?_)
                  · skip
                    refine P_l (fun hJ _ _ q => E_tableIn (off := 121) 122 dX10_sum_1 (by rw [h9]; decide) (by rw [h9]; decide) (by rw [h9]; rfl) (by decide) q) ?_
                    refine P_l (fun hJ _ _ q => E_aload_n dX10_sum_122 rfl (E_getI clX10 10 (by decide) flX10_394 (Or.inl rfl) dX10_sum_123 (kd3 hJ.1.1) q)) ?_
                    exact P_ret (fun _ _ => E_iret rfl dX10_sum_126)
                  · skip
                    refine P_case (fun h10 => ?_) (fun h10 => ?_)
                    · skip
                      refine P_l (fun hJ _ _ q => E_tableIn (off := 126) 127 dX10_sum_1 (by rw [h10]; decide) (by rw [h10]; decide) (by rw [h10]; rfl) (by decide) q) ?_
                      refine P_l (fun hJ _ _ q => E_aload_n dX10_sum_127 rfl (E_getI clX10 11 (by decide) flX10_65 (Or.inl rfl) dX10_sum_128 (kd3 hJ.1.1) q)) ?_
                      exact P_ret (fun _ _ => E_iret rfl dX10_sum_131)
                    · skip
                      refine P_case (fun h11 => ?_) (fun h11 => ?_)
                      · skip
                        refine P_l (fun hJ _ _ q => E_tableIn (off := 131) 132 dX10_sum_1 (by rw [h11]; decide) (by rw [h11]; decide) (by rw [h11]; rfl) (by decide) q) ?_
                        refine P_l (fun hJ _ _ q => E_aload_n dX10_sum_132 rfl (E_getR (b := 31) clX10 4 (by decide) flX10_36 (Or.inl ⟨_, rfl⟩) dX10_sum_133 (kd3 hJ.1.1) (rf3_4 hJ.1.1) (by decide) (E_getIN clX7 1 (by decide) flX10_222 (Or.inl rfl) dX10_sum_136 (kd31 hJ.1.1) q))) ?_
                        exact P_ret (fun _ _ => E_iret rfl dX10_sum_139)
                      · skip
                        refine P_case (fun h12 => ?_) (fun h12 => ?_)
                        · skip
                          refine P_l (fun hJ _ _ q => E_tableIn (off := 139) 140 dX10_sum_1 (by rw [h12]; decide) (by rw [h12]; decide) (by rw [h12]; rfl) (by decide) q) ?_
                          refine P_l (fun hJ _ _ q => E_aload_n dX10_sum_140 rfl (E_getR (b := 5) clX10 1 (by decide) flX10_19 (Or.inl ⟨_, rfl⟩) dX10_sum_141 (kd3 hJ.1.1) (rf3_1 hJ.1.1) (by decide) (E_getIN clX1 11 (by decide) flX10_397 (Or.inl rfl) dX10_sum_144 (kd5 hJ.1.1) q))) ?_
                          exact P_ret (fun _ _ => E_iret rfl dX10_sum_147)
                        · skip
                          refine P_l (fun hJ _ _ q => E_tableOut 148 dX10_sum_1 (by have e0 := sw_ne h1; have e1 := sw_ne h2; have e2 := sw_ne h3; have e3 := sw_ne h4; have e4 := sw_ne h5; have e5 := sw_ne h6; have e6 := sw_ne h7; have e7 := sw_ne h8; have e8 := sw_ne h9; have e9 := sw_ne h10; have e10 := sw_ne h11; have e11 := sw_ne h12; simp only [sw_l0, sw_l1, sw_l2, sw_l3, sw_l4, sw_l5, sw_l6, sw_l7, sw_l8, sw_l9, sw_l10, sw_l11] at *; omega) (by decide) q) ?_
                          exact P_thr (fun kc ks => xt_IllegalArgumentException rfl rfl (by decide) (Nat.le_of_ble_eq_true rfl) dX10_sum_148 dX10_sum_151 dX10_sum_152 dX10_sum_155 kc ks) (by decide) (by decide)

