def b_X10_endRound_4 (p1 : Int32) (s3 : Int32 × Int32 × rS) : Option (((Unit × rS) ⊕ (Int32 × rS)) ⊕ (Int32 × Int32 × rS)) := if (rI s3.2.2 19 0) ≤ s3.2.1 then (some (.inl (.inr ((s3.1, s3.2.2))))) else (if s3.2.1 = p1 then (some (.inr ((s3.1, s3.2.1 + 1, s3.2.2)))) else ((f_X1_worthOf s3.2.2 5 s3.2.1).bind fun v4 => oLet (rowI s3.2.2 22 (vSet (rI s3.2.2 22) 4 s3.2.1 ((vAt (rI s3.2.2 22) 4 s3.2.1) - v4))) fun σ5 => some (.inr ((s3.1 + v4, s3.2.1 + 1, σ5)))))
def f_X10_endRound (σ : rS) (p1 : Int32) : Option (Unit × rS) := oJoin (oLoop (b_X10_endRound_4 p1) oFuel ((0, 0, σ))) fun j2 => oLet (rowI j2.2 22 (vSet (rI j2.2 22) 4 p1 ((vAt (rI j2.2 22) 4 p1) + j2.1))) fun σ6 => oLet (rowI σ6 27 (vSet (rI σ6 27) 4 p1 ((vAt (rI σ6 27) 4 p1) + 1))) fun σ7 => oB (f_X6_climb σ7 p1) fun _ σ9 => oLet (wI σ9 3 8 ((-1))) fun σ10 => oLet (wI σ10 3 11 p1) fun σ11 => oLet (wI σ11 3 10 ((rI σ11 3 10) + 1)) fun σ12 => some (((), σ12))
set_option maxRecDepth 20000 in
set_option maxHeartbeats 2000000 in
theorem ok_X10_endRound {σ : rS} {p1 : Int32}   : rFn Sy yX10_endRound mX10_endRound 3 [.ref 3, .int p1] σ 0 0 (fun _ => .inl none) (f_X10_endRound σ p1) := by
  refine rF_of (ls := [some (.ref 3), some (.int p1), none, none, none]) yfX10_endRound rfl (Nat.le_of_ble_eq_true rfl) (fun o τ => ?_)
  unfold f_X10_endRound
  refine P_l (fun hJ _ _ q => E_iconst (v := 0) dX10_endRound_0 (by decide) (E_istore_n (ls2 := [some (.ref 3), some (.int p1), some (.int 0), none, none]) dX10_endRound_1 (by decide) rfl (E_iconst (v := 0) dX10_endRound_2 (by decide) (E_istore_n (ls2 := [some (.ref 3), some (.int p1), some (.int 0), some (.int 0), none]) dX10_endRound_3 (by decide) rfl q)))) ?_
  refine P_join (pc2 := 66) (fun j2 => [some (.ref 3), some (.int p1), some (.int j2.1), none, none]) (fun j2 => []) (fun j2 => j2.2) ?_ (fun j2 => ?_)
  · skip
    refine P_loop (fun s3 => [some (.ref 3), some (.int p1), some (.int s3.1), some (.int s3.2.1), none]) (fun s3 => s3.2.2) (fun s3 => ?_) _ ((0, 0, σ))
    unfold b_X10_endRound_4
    refine P_l (fun hJ _ _ q => E_iload_n dX10_endRound_4 rfl (E_aload_n dX10_endRound_5 rfl (E_getR (b := 19) clX10 3 (by decide) flX10_29 (Or.inl ⟨_, rfl⟩) dX10_endRound_6 (kd3 hJ.1.1) (rf3_3 hJ.1.1) (by decide) (E_getIN clX6 0 (by decide) flX10_111 (Or.inl rfl) dX10_endRound_9 (kd19 hJ.1.1) q)))) ?_
    refine P_if (fun hJ _ _ h1 h2 => E_icmp_ge 66 dX10_endRound_12 (by decide) h1 h2) ?_ ?_
    · skip
      refine P_less [some (.ref 3), some (.int p1), some (.int s3.1), none, none] (And.intro rfl (And.intro rfl (And.intro rfl trivial))) ?_
      exact P_inl (P_back ((s3.1, s3.2.2)))
    · skip
      refine P_l (fun hJ _ _ q => E_iload_n dX10_endRound_15 rfl (E_iload_n dX10_endRound_16 rfl q)) ?_
      refine P_if (fun hJ _ _ h1 h2 => E_icmp_eq 60 dX10_endRound_17 (by decide) h1 h2) ?_ ?_
      · skip
        refine P_l (fun hJ _ _ q => E_iinc (v := 1) (ls2 := [some (.ref 3), some (.int p1), some (.int s3.1), some (.int (s3.2.1 + 1)), none]) dX10_endRound_60 rfl (by decide) (by decide) rfl (E_goto 4 dX10_endRound_63 (by decide) q)) ?_
        exact P_back ((s3.1, s3.2.1 + 1, s3.2.2))
      · skip
        refine P_l (fun hJ _ _ q => E_aload_n dX10_endRound_20 rfl (E_getR (b := 5) clX10 1 (by decide) flX10_19 (Or.inl ⟨_, rfl⟩) dX10_endRound_21 (kd3 hJ.1.1) (rf3_1 hJ.1.1) (by decide) (E_iload_n dX10_endRound_24 rfl q))) ?_
        refine P_callr (t := fun v => some (.int v)) (st2 := fun v => .int v :: []) (fun hJ => (ok_X1_worthOf (σ := s3.2.2) (b := 5) (p := s3.2.1) (Or.inl rfl))) (fun hJ _ _ v hM q => E_callVN (as := [.int s3.2.1]) (b := 5) (st := []) hM (by decide) yfX1_worthOf mlX10_347 imX1_worthOf seX1_worthOf clX1 (kd5 hJ.1.1) rfl (Nat.le_of_ble_eq_true rfl) rfl dX10_endRound_25 q) (fun v4 => ?_)
        refine P_l (fun hJ _ _ q => E_istore (ls2 := [some (.ref 3), some (.int p1), some (.int s3.1), some (.int s3.2.1), some (.int v4)]) dX10_endRound_28 (by decide) rfl (E_aload_n dX10_endRound_30 rfl (E_getR (b := 19) clX10 3 (by decide) flX10_29 (Or.inl ⟨_, rfl⟩) dX10_endRound_31 (kd3 hJ.1.1) (rf3_3 hJ.1.1) (by decide) (E_getRN (b := 22) clX6 3 (by decide) flX10_344 (Or.inr ⟨_, rfl⟩) dX10_endRound_34 (kd19 hJ.1.1) (rf19_3 hJ.1.1) (by decide) (E_iload_n dX10_endRound_37 rfl (E_aload_n dX10_endRound_38 rfl (E_getR (b := 19) clX10 3 (by decide) flX10_29 (Or.inl ⟨_, rfl⟩) dX10_endRound_39 (kd3 hJ.1.1) (rf3_3 hJ.1.1) (by decide) (E_getRN (b := 22) clX6 3 (by decide) flX10_344 (Or.inr ⟨_, rfl⟩) dX10_endRound_42 (kd19 hJ.1.1) (rf19_3 hJ.1.1) (by decide) (E_iload_n dX10_endRound_45 rfl (E_callS (as := [.ref 22, .int s3.2.1]) (st := [.int s3.2.1, .ref 22]) (ok_at (σ := s3.2.2) (a := 22) (i := s3.2.1) (f := rI s3.2.2 22) (kd22 hJ.1.1) (by decide) rfl) (by decide) yfX10_at mlX10_193 stX10_at rfl (Nat.le_of_ble_eq_true rfl) rfl dX10_endRound_46 (E_iload dX10_endRound_49 rfl (E_isub dX10_endRound_51 q)))))))))))) ?_
        refine P_w (fun hJ _ _ q => E_callS (as := [.ref 22, .int s3.2.1, .int ((vAt (rI s3.2.2 22) 4 s3.2.1) - v4)]) (st := []) (ok_set (σ := s3.2.2) (a := 22) (i := s3.2.1) (x := (vAt (rI s3.2.2 22) 4 s3.2.1) - v4) (f := rI s3.2.2 22) (kd22 hJ.1.1) (by decide) (by decide) rfl) (by decide) yfX10_set mlX10_202 stX10_set rfl (Nat.le_of_ble_eq_true rfl) rfl dX10_endRound_52 q) (fun hJ => Sy_rowI hJ.1) rfl rfl rfl (fun σ5 hσ5 => ?_)
        refine P_l (fun hJ _ _ q => E_iload_n dX10_endRound_55 rfl (E_iload dX10_endRound_56 rfl (E_iadd dX10_endRound_58 (E_istore_n (ls2 := [some (.ref 3), some (.int p1), some (.int (s3.1 + v4)), some (.int s3.2.1), some (.int v4)]) dX10_endRound_59 (by decide) rfl (E_iinc (v := 1) (ls2 := [some (.ref 3), some (.int p1), some (.int (s3.1 + v4)), some (.int (s3.2.1 + 1)), some (.int v4)]) dX10_endRound_60 rfl (by decide) (by decide) rfl (E_goto 4 dX10_endRound_63 (by decide) q)))))) ?_
        refine P_less [some (.ref 3), some (.int p1), some (.int (s3.1 + v4)), some (.int (s3.2.1 + 1)), none] (And.intro rfl (And.intro rfl (And.intro rfl (And.intro rfl trivial)))) ?_
        exact P_back ((s3.1 + v4, s3.2.1 + 1, σ5))
  · skip
    refine P_l (fun hJ _ _ q => E_aload_n dX10_endRound_66 rfl (E_getR (b := 19) clX10 3 (by decide) flX10_29 (Or.inl ⟨_, rfl⟩) dX10_endRound_67 (kd3 hJ.1.1) (rf3_3 hJ.1.1) (by decide) (E_getRN (b := 22) clX6 3 (by decide) flX10_344 (Or.inr ⟨_, rfl⟩) dX10_endRound_70 (kd19 hJ.1.1) (rf19_3 hJ.1.1) (by decide) (E_iload_n dX10_endRound_73 rfl (E_aload_n dX10_endRound_74 rfl (E_getR (b := 19) clX10 3 (by decide) flX10_29 (Or.inl ⟨_, rfl⟩) dX10_endRound_75 (kd3 hJ.1.1) (rf3_3 hJ.1.1) (by decide) (E_getRN (b := 22) clX6 3 (by decide) flX10_344 (Or.inr ⟨_, rfl⟩) dX10_endRound_78 (kd19 hJ.1.1) (rf19_3 hJ.1.1) (by decide) (E_iload_n dX10_endRound_81 rfl (E_callS (as := [.ref 22, .int p1]) (st := [.int p1, .ref 22]) (ok_at (σ := j2.2) (a := 22) (i := p1) (f := rI j2.2 22) (kd22 hJ.1.1) (by decide) rfl) (by decide) yfX10_at mlX10_193 stX10_at rfl (Nat.le_of_ble_eq_true rfl) rfl dX10_endRound_82 (E_iload_n dX10_endRound_85 rfl (E_iadd dX10_endRound_86 q))))))))))) ?_
    refine P_w (fun hJ _ _ q => E_callS (as := [.ref 22, .int p1, .int ((vAt (rI j2.2 22) 4 p1) + j2.1)]) (st := []) (ok_set (σ := j2.2) (a := 22) (i := p1) (x := (vAt (rI j2.2 22) 4 p1) + j2.1) (f := rI j2.2 22) (kd22 hJ.1.1) (by decide) (by decide) rfl) (by decide) yfX10_set mlX10_202 stX10_set rfl (Nat.le_of_ble_eq_true rfl) rfl dX10_endRound_87 q) (fun hJ => Sy_rowI hJ.1) rfl rfl rfl (fun σ6 hσ6 => ?_)
    refine P_l (fun hJ _ _ q => E_aload_n dX10_endRound_90 rfl (E_getR (b := 19) clX10 3 (by decide) flX10_29 (Or.inl ⟨_, rfl⟩) dX10_endRound_91 (kd3 hJ.1.1) (rf3_3 hJ.1.1) (by decide) (E_getRN (b := 27) clX6 8 (by decide) flX10_353 (Or.inr ⟨_, rfl⟩) dX10_endRound_94 (kd19 hJ.1.1) (rf19_8 hJ.1.1) (by decide) (E_iload_n dX10_endRound_97 rfl (E_aload_n dX10_endRound_98 rfl (E_getR (b := 19) clX10 3 (by decide) flX10_29 (Or.inl ⟨_, rfl⟩) dX10_endRound_99 (kd3 hJ.1.1) (rf3_3 hJ.1.1) (by decide) (E_getRN (b := 27) clX6 8 (by decide) flX10_353 (Or.inr ⟨_, rfl⟩) dX10_endRound_102 (kd19 hJ.1.1) (rf19_8 hJ.1.1) (by decide) (E_iload_n dX10_endRound_105 rfl (E_callS (as := [.ref 27, .int p1]) (st := [.int p1, .ref 27]) (ok_at (σ := σ6) (a := 27) (i := p1) (f := rI σ6 27) (kd27 hJ.1.1) (by decide) rfl) (by decide) yfX10_at mlX10_193 stX10_at rfl (Nat.le_of_ble_eq_true rfl) rfl dX10_endRound_106 (E_iconst (v := 1) dX10_endRound_109 (by decide) (E_iadd dX10_endRound_110 q))))))))))) ?_
    refine P_w (fun hJ _ _ q => E_callS (as := [.ref 27, .int p1, .int ((vAt (rI σ6 27) 4 p1) + 1)]) (st := []) (ok_set (σ := σ6) (a := 27) (i := p1) (x := (vAt (rI σ6 27) 4 p1) + 1) (f := rI σ6 27) (kd27 hJ.1.1) (by decide) (by decide) rfl) (by decide) yfX10_set mlX10_202 stX10_set rfl (Nat.le_of_ble_eq_true rfl) rfl dX10_endRound_111 q) (fun hJ => Sy_rowI hJ.1) rfl rfl rfl (fun σ7 hσ7 => ?_)
    refine P_l (fun hJ _ _ q => E_aload_n dX10_endRound_114 rfl (E_getR (b := 19) clX10 3 (by decide) flX10_29 (Or.inl ⟨_, rfl⟩) dX10_endRound_115 (kd3 hJ.1.1) (rf3_3 hJ.1.1) (by decide) (E_iload_n dX10_endRound_118 rfl q))) ?_
    refine P_call (t := fun _ => none) (st2 := fun _ => []) (kc2 := 0) (ks2 := 0) (fun hJ => (ok_X6_climb (σ := σ7) (p1 := p1) )) (fun hJ _ _ _ _ v τ1 hM q => E_callVN (as := [.int p1]) (b := 19) (st := []) hM (by decide) yfX6_climb mlX10_448 imX6_climb seX6_climb clX6 (kd19 hJ.1.1) rfl (Nat.le_of_ble_eq_true rfl) rfl dX10_endRound_119 q) (by decide) (by decide) (fun v8 σ9 => ?_)
    refine P_l (fun hJ _ _ q => E_aload_n dX10_endRound_122 rfl (E_iconst (v := (-1)) dX10_endRound_123 (by decide) q)) ?_
    refine P_w (fun hJ _ _ q => E_putI clX10 8 (by decide) flX10_61 (Or.inl rfl) rfl dX10_endRound_124 (kd3 hJ.1.1) q) (fun hJ => Sy_wI hJ.1) rfl rfl rfl (fun σ10 hσ10 => ?_)
    refine P_l (fun hJ _ _ q => E_aload_n dX10_endRound_127 rfl (E_iload_n dX10_endRound_128 rfl q)) ?_
    refine P_w (fun hJ _ _ q => E_putI clX10 11 (by decide) flX10_65 (Or.inl rfl) rfl dX10_endRound_129 (kd3 hJ.1.1) q) (fun hJ => Sy_wI hJ.1) rfl rfl rfl (fun σ11 hσ11 => ?_)
    refine P_l (fun hJ _ _ q => E_aload_n dX10_endRound_132 rfl (E_dup dX10_endRound_133 rfl (E_getI clX10 10 (by decide) flX10_394 (Or.inl rfl) dX10_endRound_134 (kd3 hJ.1.1) (E_iconst (v := 1) dX10_endRound_137 (by decide) (E_iadd dX10_endRound_138 q))))) ?_
    refine P_w (fun hJ _ _ q => E_putI clX10 10 (by decide) flX10_394 (Or.inl rfl) rfl dX10_endRound_139 (kd3 hJ.1.1) q) (fun hJ => Sy_wI hJ.1) rfl rfl rfl (fun σ12 hσ12 => ?_)
    exact P_ret (fun _ _ => E_vret rfl dX10_endRound_142)

def f_X10_passOn (σ : rS) : Option (Unit × rS) := oLet (wI σ 3 8 ((if (rI σ 19 0) ≤ ((rI σ 3 8) + 1) then 0 else ((rI σ 3 8) + 1) : Int32))) fun σ1 => some (((), σ1))
set_option maxRecDepth 20000 in
set_option maxHeartbeats 2000000 in
theorem ok_X10_passOn {σ : rS}   : rFn Sy yX10_passOn mX10_passOn 0 [.ref 3] σ 0 0 (fun _ => .inl none) (f_X10_passOn σ) := by
  refine rF_of (ls := [some (.ref 3)]) yfX10_passOn rfl (Nat.le_of_ble_eq_true rfl) (fun o τ => ?_)
  unfold f_X10_passOn
  refine P_l (fun hJ _ _ q => E_aload_n dX10_passOn_0 rfl (E_aload_n dX10_passOn_1 rfl (E_getI clX10 8 (by decide) flX10_61 (Or.inl rfl) dX10_passOn_2 (kd3 hJ.1.1) (E_iconst (v := 1) dX10_passOn_5 (by decide) (E_iadd dX10_passOn_6 (E_aload_n dX10_passOn_7 rfl (E_getR (b := 19) clX10 3 (by decide) flX10_29 (Or.inl ⟨_, rfl⟩) dX10_passOn_8 (kd3 hJ.1.1) (rf3_3 hJ.1.1) (by decide) (E_getIN clX6 0 (by decide) flX10_111 (Or.inl rfl) dX10_passOn_11 (kd19 hJ.1.1) q)))))))) ?_
  refine P_l (pc2 := 27) (ls2 := [none]) (st2 := [.int ((if (rI σ 19 0) ≤ ((rI σ 3 8) + 1) then 0 else ((rI σ 3 8) + 1) : Int32)), .ref 3]) (fun hJ _ _ hq => ?_) ?_
  · skip
    refine E_icmp_ge 26 dX10_passOn_14 (by decide) (fun c_14_0 => ?_) (fun c_14_0 => ?_)
    · skip
      refine E_iconst (v := 0) dX10_passOn_26 (by decide) ?_
      simp only [if_pos c_14_0] at hq
      exact E_less (ls2 := [none]) hq (rLe_at [none] [some (.ref 3)] trivial)
    · skip
      refine E_aload_n dX10_passOn_17 rfl ?_
      refine E_getI clX10 8 (by decide) flX10_61 (Or.inl rfl) dX10_passOn_18 (kd3 hJ.1.1) ?_
      refine E_iconst (v := 1) dX10_passOn_21 (by decide) ?_
      refine E_iadd dX10_passOn_22 ?_
      refine E_goto 27 dX10_passOn_23 (by decide) ?_
      simp only [if_neg c_14_0] at hq
      exact E_less (ls2 := [none]) hq (rLe_at [none] [some (.ref 3)] trivial)
  · skip
    refine P_w (fun hJ _ _ q => E_putI clX10 8 (by decide) flX10_61 (Or.inl rfl) rfl dX10_passOn_27 (kd3 hJ.1.1) q) (fun hJ => Sy_wI hJ.1) rfl rfl rfl (fun σ1 hσ1 => ?_)
    exact P_ret (fun _ _ => E_vret rfl dX10_passOn_30)

def f_X10_endByLaying (σ : rS) : Option (Unit × rS) := oB (f_X2_add σ 5 (rI σ 3 8) ((-1)) 0) fun _ σ2 => oLet (rowI σ2 24 (vSet (rI σ2 24) 4 (rI σ 3 8) 1)) fun σ3 => oB (f_X1_settle σ3 5) fun _ σ5 => oLet (wI σ5 3 9 0) fun σ6 => if (v_X1_sizeOf σ6 5 (rI σ 3 8)) = 0 then (oB (f_X10_endRound σ6 (rI σ 3 8)) fun _ σ8 => some (((), σ8))) else (oB (f_X10_passOn σ6) fun _ σ10 => some (((), σ10)))
set_option maxRecDepth 20000 in
set_option maxHeartbeats 2000000 in
theorem ok_X10_endByLaying {σ : rS}   : rFn Sy yX10_endByLaying mX10_endByLaying 4 [.ref 3] σ 0 0 (fun _ => .inl none) (f_X10_endByLaying σ) := by
  refine rF_of (ls := [some (.ref 3), none]) yfX10_endByLaying rfl (Nat.le_of_ble_eq_true rfl) (fun o τ => ?_)
  unfold f_X10_endByLaying
  refine P_l (fun hJ _ _ q => E_aload_n dX10_endByLaying_0 rfl (E_getI clX10 8 (by decide) flX10_61 (Or.inl rfl) dX10_endByLaying_1 (kd3 hJ.1.1) (E_istore_n (ls2 := [some (.ref 3), some (.int (rI σ 3 8))]) dX10_endByLaying_4 (by decide) rfl (E_aload_n dX10_endByLaying_5 rfl (E_getR (b := 35) clX10 5 (by decide) flX10_43 (Or.inl ⟨_, rfl⟩) dX10_endByLaying_6 (kd3 hJ.1.1) (rf3_5 hJ.1.1) (by decide) (E_iconst (v := 5) dX10_endByLaying_9 (by decide) (E_iload_n dX10_endByLaying_10 rfl (E_iconst (v := (-1)) dX10_endByLaying_11 (by decide) (E_iconst (v := 0) dX10_endByLaying_12 (by decide) q))))))))) ?_
  refine P_call (t := fun _ => none) (st2 := fun _ => []) (kc2 := 0) (ks2 := 0) (fun hJ => (ok_X2_add (σ := σ) (p1 := 5) (p2 := rI σ 3 8) (p3 := (-1)) (p4 := 0) )) (fun hJ _ _ _ _ v τ1 hM q => E_callVN (as := [.int 5, .int (rI σ 3 8), .int ((-1)), .int 0]) (b := 35) (st := []) hM (by decide) yfX2_add mlX10_413 imX2_add seX2_add clX2 (kd35 hJ.1.1) rfl (Nat.le_of_ble_eq_true rfl) rfl dX10_endByLaying_13 q) (by decide) (by decide) (fun v1 σ2 => ?_)
  refine P_l (fun hJ _ _ q => E_aload_n dX10_endByLaying_16 rfl (E_getR (b := 19) clX10 3 (by decide) flX10_29 (Or.inl ⟨_, rfl⟩) dX10_endByLaying_17 (kd3 hJ.1.1) (rf3_3 hJ.1.1) (by decide) (E_getRN (b := 24) clX6 5 (by decide) flX10_401 (Or.inr ⟨_, rfl⟩) dX10_endByLaying_20 (kd19 hJ.1.1) (rf19_5 hJ.1.1) (by decide) (E_iload_n dX10_endByLaying_23 rfl (E_iconst (v := 1) dX10_endByLaying_24 (by decide) q))))) ?_
  refine P_w (fun hJ _ _ q => E_callS (as := [.ref 24, .int (rI σ 3 8), .int 1]) (st := []) (ok_set (σ := σ2) (a := 24) (i := rI σ 3 8) (x := 1) (f := rI σ2 24) (kd24 hJ.1.1) (by decide) (by decide) rfl) (by decide) yfX10_set mlX10_202 stX10_set rfl (Nat.le_of_ble_eq_true rfl) rfl dX10_endByLaying_25 q) (fun hJ => Sy_rowI hJ.1) rfl rfl rfl (fun σ3 hσ3 => ?_)
  refine P_l (fun hJ _ _ q => E_aload_n dX10_endByLaying_28 rfl (E_getR (b := 5) clX10 1 (by decide) flX10_19 (Or.inl ⟨_, rfl⟩) dX10_endByLaying_29 (kd3 hJ.1.1) (rf3_1 hJ.1.1) (by decide) q)) ?_
  refine P_call (t := fun _ => none) (st2 := fun _ => []) (kc2 := 0) (ks2 := 0) (fun hJ => (ok_X1_settle (σ := σ3) (b := 5) (Or.inl rfl))) (fun hJ _ _ _ _ v τ1 hM q => E_callVN (as := []) (b := 5) (st := []) hM (by decide) yfX1_settle mlX10_423 imX1_settle seX1_settle clX1 (kd5 hJ.1.1) rfl (Nat.le_of_ble_eq_true rfl) rfl dX10_endByLaying_32 q) (by decide) (by decide) (fun v4 σ5 => ?_)
  refine P_l (fun hJ _ _ q => E_aload_n dX10_endByLaying_35 rfl (E_iconst (v := 0) dX10_endByLaying_36 (by decide) q)) ?_
  refine P_w (fun hJ _ _ q => E_putI clX10 9 (by decide) flX10_130 (Or.inl rfl) rfl dX10_endByLaying_37 (kd3 hJ.1.1) q) (fun hJ => Sy_wI hJ.1) rfl rfl rfl (fun σ6 hσ6 => ?_)
  refine P_l (fun hJ _ _ q => E_aload_n dX10_endByLaying_40 rfl (E_getR (b := 5) clX10 1 (by decide) flX10_19 (Or.inl ⟨_, rfl⟩) dX10_endByLaying_41 (kd3 hJ.1.1) (rf3_1 hJ.1.1) (by decide) (E_iload_n dX10_endByLaying_44 rfl (E_callVN (as := [.int (rI σ 3 8)]) (b := 5) (st := []) (ok_X1_sizeOf (σ := σ6) (b := 5) (p := rI σ 3 8) hJ (Or.inl rfl)) (by decide) yfX1_sizeOf mlX10_301 imX1_sizeOf seX1_sizeOf clX1 (kd5 hJ.1.1) rfl (Nat.le_of_ble_eq_true rfl) rfl dX10_endByLaying_45 q)))) ?_
  refine P_if (fun hJ _ _ h1 h2 => E_if_ne 59 dX10_endByLaying_48 (by decide) h2 h1) ?_ ?_
  · skip
    refine P_l (fun hJ _ _ q => E_aload_n dX10_endByLaying_51 rfl (E_iload_n dX10_endByLaying_52 rfl q)) ?_
    refine P_call (t := fun _ => none) (st2 := fun _ => []) (kc2 := 0) (ks2 := 0) (fun hJ => (ok_X10_endRound (σ := σ6) (p1 := rI σ 3 8) )) (fun hJ _ _ _ _ v τ1 hM q => E_callV (as := [.int (rI σ 3 8)]) (b := 3) (st := []) hM (by decide) yfX10_endRound mlX10_426 imX10_endRound seX10_endRound clX10 (kd3 hJ.1.1) rfl (Nat.le_of_ble_eq_true rfl) rfl dX10_endByLaying_53 q) (by decide) (by decide) (fun v7 σ8 => ?_)
    refine P_l (fun hJ _ _ q => E_goto 63 dX10_endByLaying_56 (by decide) q) ?_
    exact P_ret (fun _ _ => E_vret rfl dX10_endByLaying_63)
  · skip
    refine P_l (fun hJ _ _ q => E_aload_n dX10_endByLaying_59 rfl q) ?_
    refine P_call (t := fun _ => none) (st2 := fun _ => []) (kc2 := 0) (ks2 := 0) (fun hJ => (ok_X10_passOn (σ := σ6)  )) (fun hJ _ _ _ _ v τ1 hM q => E_callV (as := []) (b := 3) (st := []) hM (by decide) yfX10_passOn mlX10_429 imX10_passOn seX10_passOn clX10 (kd3 hJ.1.1) rfl (Nat.le_of_ble_eq_true rfl) rfl dX10_endByLaying_60 q) (by decide) (by decide) (fun v9 σ10 => ?_)
    exact P_ret (fun _ _ => E_vret rfl dX10_endByLaying_63)

def f_X10_end (σ : rS) : Option ((Int32 ⊕ String) × rS) := oB (f_X10_mayEnd σ) fun v1 σ2 => if v1 = 0 then (some ((.inr "java/lang/IllegalStateException", σ2))) else (oB (f_X10_endByLaying σ2) fun _ σ4 => some ((.inl (rI σ4 3 8), σ4)))
set_option maxRecDepth 20000 in
set_option maxHeartbeats 2000000 in
theorem ok_X10_end {σ : rS}   : rFn Sy yX10_end mX10_end 6 [.ref 3] σ 1 6 (tX (fun v => .inl (some (.int v)))) (f_X10_end σ) := by
  refine rF_of (ls := [some (.ref 3)]) yfX10_end rfl (Nat.le_of_ble_eq_true rfl) (fun o τ => ?_)
  unfold f_X10_end
  refine P_l (fun hJ _ _ q => E_aload_n dX10_end_0 rfl q) ?_
  refine P_call (t := fun v => some (.int v)) (st2 := fun v => .int v :: []) (kc2 := 1) (ks2 := 6) (fun hJ => (ok_X10_mayEnd (σ := σ)  )) (fun hJ _ _ _ _ v τ1 hM q => E_callV (as := []) (b := 3) (st := []) hM (by decide) yfX10_mayEnd mlX10_177 imX10_mayEnd seX10_mayEnd clX10 (kd3 hJ.1.1) rfl (Nat.le_of_ble_eq_true rfl) rfl dX10_end_1 q) (by decide) (by decide) (fun v1 σ2 => ?_)
  refine P_if (fun hJ _ _ h1 h2 => E_if_ne 15 dX10_end_4 (by decide) h2 h1) ?_ ?_
  · skip
    exact P_thr (fun kc ks => xt_IllegalStateException (M := mX10_end) (pc := 7) rfl rfl (by decide) (Nat.le_of_ble_eq_true rfl) dX10_end_7 dX10_end_10 dX10_end_11 dX10_end_14 kc ks) (by decide) (by decide)
  · skip
    refine P_l (fun hJ _ _ q => E_aload_n dX10_end_15 rfl q) ?_
    refine P_call (t := fun _ => none) (st2 := fun _ => []) (kc2 := 1) (ks2 := 6) (fun hJ => (ok_X10_endByLaying (σ := σ2)  )) (fun hJ _ _ _ _ v τ1 hM q => E_callV (as := []) (b := 3) (st := []) hM (by decide) yfX10_endByLaying mlX10_180 imX10_endByLaying seX10_endByLaying clX10 (kd3 hJ.1.1) rfl (Nat.le_of_ble_eq_true rfl) rfl dX10_end_16 q) (by decide) (by decide) (fun v3 σ4 => ?_)
    refine P_l (fun hJ _ _ q => E_aload_n dX10_end_19 rfl (E_getI clX10 8 (by decide) flX10_61 (Or.inl rfl) dX10_end_20 (kd3 hJ.1.1) q)) ?_
    exact P_ret (fun _ _ => E_iret rfl dX10_end_23)

def f_X10_needRound (σ : rS) : Option ((Unit ⊕ String) × rS) := if (v_X10_isOn σ) = 0 then (some ((.inr "java/lang/IllegalStateException", σ))) else (some ((.inl (()), σ)))
set_option maxRecDepth 20000 in
set_option maxHeartbeats 2000000 in
theorem ok_X10_needRound {σ : rS}   : rFn Sy yX10_needRound mX10_needRound 6 [.ref 3] σ 1 6 (tX (fun _ => .inl none)) (f_X10_needRound σ) := by
  refine rF_of (ls := [some (.ref 3)]) yfX10_needRound rfl (Nat.le_of_ble_eq_true rfl) (fun o τ => ?_)
  unfold f_X10_needRound
  refine P_l (fun hJ _ _ q => E_aload_n dX10_needRound_0 rfl (E_callV (as := []) (b := 3) (st := []) (ok_X10_isOn (σ := σ)  hJ ) (by decide) yfX10_isOn mlX10_81 imX10_isOn seX10_isOn clX10 (kd3 hJ.1.1) rfl (Nat.le_of_ble_eq_true rfl) rfl dX10_needRound_1 q)) ?_
  refine P_if (fun hJ _ _ h1 h2 => E_if_ne 15 dX10_needRound_4 (by decide) h2 h1) ?_ ?_
  · skip
    exact P_thr (fun kc ks => xt_IllegalStateException (M := mX10_needRound) (pc := 7) rfl rfl (by decide) (Nat.le_of_ble_eq_true rfl) dX10_needRound_7 dX10_needRound_10 dX10_needRound_11 dX10_needRound_14 kc ks) (by decide) (by decide)
  · skip
    exact P_ret (fun _ _ => E_vret rfl dX10_needRound_15)

def f_X10_findAlone (σ : rS) : Option (Int64 × rS) := if (rI σ 3 16) = (rI σ 5 12) then (some ((rL σ 3 17, σ))) else (oB (f_X10_takeTable σ) fun _ σ2 => oB (f_X9_go σ2 3 ((rI σ2 4 0) + 1)) fun v3 σ4 => oJoin (if v3 ≤ 0 then (some (.inr (0 : Int64))) else (if inB 0 ((rK σ4 (rR σ4 (rR σ4 37 5) 0)).2) then (some (.inr (rL σ4 (rR σ4 (rR σ4 37 5) 1) (0 : Int32).toNatClampNeg))) else none)) fun j5 => oLet (wL σ4 3 17 j5) fun σ7 => oLet (wI σ7 3 16 (rI σ7 5 12)) fun σ8 => some ((rL σ8 3 17, σ8)))
set_option maxRecDepth 20000 in
set_option maxHeartbeats 2000000 in
theorem ok_X10_findAlone {σ : rS}   : rFn Sy yX10_findAlone mX10_findAlone 5 [.ref 3] σ 0 0 (fun v => .inl (some (.long v))) (f_X10_findAlone σ) := by
  refine rF_of (ls := [some (.ref 3)]) yfX10_findAlone rfl (Nat.le_of_ble_eq_true rfl) (fun o τ => ?_)
  unfold f_X10_findAlone
  refine P_l (fun hJ _ _ q => E_aload_n dX10_findAlone_0 rfl (E_getI clX10 16 (by decide) flX10_71 (Or.inl rfl) dX10_findAlone_1 (kd3 hJ.1.1) (E_aload_n dX10_findAlone_4 rfl (E_getR (b := 5) clX10 1 (by decide) flX10_19 (Or.inl ⟨_, rfl⟩) dX10_findAlone_5 (kd3 hJ.1.1) (rf3_1 hJ.1.1) (by decide) (E_getIN clX1 12 (by decide) flX10_460 (Or.inl rfl) dX10_findAlone_8 (kd5 hJ.1.1) q))))) ?_
  refine P_if (fun hJ _ _ h1 h2 => E_icmp_eq 73 dX10_findAlone_11 (by decide) h1 h2) ?_ ?_
  · skip
    refine P_l (fun hJ _ _ q => E_aload_n dX10_findAlone_73 rfl (E_getL clX10 17 (by decide) flX10_476 rfl dX10_findAlone_74 (kd3 hJ.1.1) q)) ?_
    exact P_ret (fun _ _ => E_lret rfl dX10_findAlone_77)
  · skip
    refine P_l (fun hJ _ _ q => E_aload_n dX10_findAlone_14 rfl q) ?_
    refine P_call (t := fun _ => none) (st2 := fun _ => []) (kc2 := 0) (ks2 := 0) (fun hJ => (ok_X10_takeTable (σ := σ)  )) (fun hJ _ _ _ _ v τ1 hM q => E_callV (as := []) (b := 3) (st := []) hM (by decide) yfX10_takeTable mlX10_242 imX10_takeTable seX10_takeTable clX10 (kd3 hJ.1.1) rfl (Nat.le_of_ble_eq_true rfl) rfl dX10_findAlone_15 q) (by decide) (by decide) (fun v1 σ2 => ?_)
    refine P_l (fun hJ _ _ q => E_aload_n dX10_findAlone_18 rfl (E_aload_n dX10_findAlone_19 rfl (E_getR (b := 37) clX10 6 (by decide) flX10_50 (Or.inl ⟨_, rfl⟩) dX10_findAlone_20 (kd3 hJ.1.1) (rf3_6 hJ.1.1) (by decide) (E_aload_n dX10_findAlone_23 rfl (E_getR (b := 4) clX10 0 (by decide) flX10_12 (Or.inl ⟨_, rfl⟩) dX10_findAlone_24 (kd3 hJ.1.1) (rf3_0 hJ.1.1) (by decide) (E_iconst (v := 3) dX10_findAlone_27 (by decide) (E_aload_n dX10_findAlone_28 rfl (E_getR (b := 4) clX10 0 (by decide) flX10_12 (Or.inl ⟨_, rfl⟩) dX10_findAlone_29 (kd3 hJ.1.1) (rf3_0 hJ.1.1) (by decide) (E_getIN clX5 0 (by decide) flX10_88 (Or.inl rfl) dX10_findAlone_32 (kd4 hJ.1.1) (E_iconst (v := 1) dX10_findAlone_35 (by decide) (E_iadd dX10_findAlone_36 q))))))))))) ?_
    refine P_call (t := fun v => some (.int v)) (st2 := fun v => .int v :: [.ref 3]) (kc2 := 0) (ks2 := 0) (fun hJ => (ok_X9_go (σ := σ2) (p2 := 3) (p3 := (rI σ2 4 0) + 1) )) (fun hJ _ _ _ _ v τ1 hM q => E_callVN (as := [.ref 4, .int 3, .int ((rI σ2 4 0) + 1)]) (b := 37) (st := [.ref 3]) hM (by decide) yfX9_go mlX10_245 imX9_go seX9_go clX9 (kd37 hJ.1.1) rfl (Nat.le_of_ble_eq_true rfl) rfl dX10_findAlone_37 q) (by decide) (by decide) (fun v3 σ4 => ?_)
    refine P_join (pc2 := 59) (fun j5 => [some (.ref 3)]) (fun j5 => [.long j5, .ref 3]) (fun _ => σ4) ?_ (fun j5 => ?_)
    · skip
      refine P_if (fun hJ _ _ h1 h2 => E_if_le 58 dX10_findAlone_40 (by decide) h1 h2) ?_ ?_
      · skip
        refine P_l (fun hJ _ _ q => E_lconst (v := 0) dX10_findAlone_58 (by decide) q) ?_
        exact P_back (0 : Int64)
      · skip
        refine P_l (fun hJ _ _ q => E_aload_n dX10_findAlone_43 rfl (E_getR (b := 37) clX10 6 (by decide) flX10_50 (Or.inl ⟨_, rfl⟩) dX10_findAlone_44 (kd3 hJ.1.1) (rf3_6 hJ.1.1) (by decide) (E_getRN (b := rR σ4 37 5) clX9 5 (by decide) flX10_463 (Or.inl ⟨_, rfl⟩) dX10_findAlone_47 (kd37 hJ.1.1) rfl (Nat.pos_iff_ne_zero.mp (Nat.lt_of_lt_of_le (by decide : 0 < 3) (Sy_here hJ.1).2)) (E_getRN (b := rR σ4 (rR σ4 37 5) 1) clX3 1 (by decide) flX10_467 (Or.inr ⟨_, rfl⟩) dX10_findAlone_50 (Sy_here hJ.1).1 rfl (Nat.pos_iff_ne_zero.mp (Nat.lt_of_lt_of_le (by decide : 0 < 3) (Sy_here1 hJ.1).2)) (E_iconst (v := 0) dX10_findAlone_53 (by decide) q))))) ?_
        refine P_g (fun g6 => ?_)
        refine P_l (fun hJ _ _ q => E_lald dX10_findAlone_54 (Sy_here1 hJ.1).1 (inB_vp g6) (E_goto 59 dX10_findAlone_55 (by decide) q)) ?_
        exact P_back (rL σ4 (rR σ4 (rR σ4 37 5) 1) (0 : Int32).toNatClampNeg)
    · skip
      refine P_w (fun hJ _ _ q => E_putL clX10 17 (by decide) flX10_476 rfl rfl dX10_findAlone_59 (kd3 hJ.1.1) q) (fun hJ => Sy_wL hJ.1) rfl rfl rfl (fun σ7 hσ7 => ?_)
      refine P_l (fun hJ _ _ q => E_aload_n dX10_findAlone_62 rfl (E_aload_n dX10_findAlone_63 rfl (E_getR (b := 5) clX10 1 (by decide) flX10_19 (Or.inl ⟨_, rfl⟩) dX10_findAlone_64 (kd3 hJ.1.1) (rf3_1 hJ.1.1) (by decide) (E_getIN clX1 12 (by decide) flX10_460 (Or.inl rfl) dX10_findAlone_67 (kd5 hJ.1.1) q)))) ?_
      refine P_w (fun hJ _ _ q => E_putI clX10 16 (by decide) flX10_71 (Or.inl rfl) rfl dX10_findAlone_70 (kd3 hJ.1.1) q) (fun hJ => Sy_wI hJ.1) rfl rfl rfl (fun σ8 hσ8 => ?_)
      refine P_l (fun hJ _ _ q => E_aload_n dX10_findAlone_73 rfl (E_getL clX10 17 (by decide) flX10_476 rfl dX10_findAlone_74 (kd3 hJ.1.1) q)) ?_
      exact P_ret (fun _ _ => E_lret rfl dX10_findAlone_77)

def f_X10_endByDrawing (σ : rS) (p1 : Int32) : Option (Int32 × rS) := oLet ((if (rI σ 5 6) ≤ 0 then 0 else 1 : Int32) : Int32) fun x1 => oB (f_X1_undoAll σ 5 (rI σ 3 8)) fun _ σ3 => oJoin (if (if x1 = 0 then (if (v_X10_hasMelded σ3 (rI σ 3 8)) = 0 then true else false) else true) = true then (some (.inr σ3)) else (oB (f_X10_findAlone σ3) fun v5 σ6 => oB (f_X6_pass σ6 (rI σ 3 8) v5) fun _ σ8 => some (.inr σ8))) fun j4 => oB (f_X1_drawUpTo j4 5 (rI σ 3 8) ((if x1 = 0 then 1 else (rI j4 4 4) : Int32))) fun v9 σ10 => oB (f_X6_freshen σ10 (rI σ 3 8) v9) fun _ σ12 => oB (f_X2_add σ12 p1 (rI σ 3 8) ((-1)) v9) fun _ σ14 => oLet (wI σ14 3 9 ((if v9 = 0 then ((rI σ14 3 9) + 1) else 0 : Int32))) fun σ15 => if (rI σ15 3 9) < (rI σ15 19 0) then (oB (f_X10_passOn σ15) fun _ σ17 => some ((v9, σ17))) else ((f_X1_lightest σ15 5 (rI σ15 19 0)).bind fun v18 => oB (f_X10_endRound σ15 v18) fun _ σ20 => some ((v9, σ20)))
set_option maxRecDepth 20000 in
set_option maxHeartbeats 2000000 in
theorem ok_X10_endByDrawing {σ : rS} {p1 : Int32}   : rFn Sy yX10_endByDrawing mX10_endByDrawing 6 [.ref 3, .int p1] σ 0 0 (fun v => .inl (some (.int v))) (f_X10_endByDrawing σ p1) := by
  refine rF_of (ls := [some (.ref 3), some (.int p1), none, none, none]) yfX10_endByDrawing rfl (Nat.le_of_ble_eq_true rfl) (fun o τ => ?_)
  unfold f_X10_endByDrawing
  refine P_l (fun hJ _ _ q => E_aload_n dX10_endByDrawing_0 rfl (E_getI clX10 8 (by decide) flX10_61 (Or.inl rfl) dX10_endByDrawing_1 (kd3 hJ.1.1) (E_istore_n (ls2 := [some (.ref 3), some (.int p1), some (.int (rI σ 3 8)), none, none]) dX10_endByDrawing_4 (by decide) rfl (E_aload_n dX10_endByDrawing_5 rfl (E_getR (b := 5) clX10 1 (by decide) flX10_19 (Or.inl ⟨_, rfl⟩) dX10_endByDrawing_6 (kd3 hJ.1.1) (rf3_1 hJ.1.1) (by decide) (E_getIN clX1 6 (by decide) flX10_174 (Or.inl rfl) dX10_endByDrawing_9 (kd5 hJ.1.1) q)))))) ?_
  refine P_l (pc2 := 20) (ls2 := [some (.ref 3), some (.int p1), some (.int (rI σ 3 8)), none, none]) (st2 := [.int ((if (rI σ 5 6) ≤ 0 then 0 else 1 : Int32))]) (fun hJ _ _ hq => ?_) ?_
  · skip
    refine E_if_le 19 dX10_endByDrawing_12 (by decide) (fun c_12_0 => ?_) (fun c_12_0 => ?_)
    · skip
      refine E_iconst (v := 0) dX10_endByDrawing_19 (by decide) ?_
      simp only [if_pos c_12_0] at hq
      exact hq
    · skip
      refine E_iconst (v := 1) dX10_endByDrawing_15 (by decide) ?_
      refine E_goto 20 dX10_endByDrawing_16 (by decide) ?_
      simp only [if_neg c_12_0] at hq
      exact hq
  · skip
    refine P_l (fun hJ _ _ q => E_istore_n (ls2 := [some (.ref 3), some (.int p1), some (.int (rI σ 3 8)), some (.int ((if (rI σ 5 6) ≤ 0 then 0 else 1 : Int32))), none]) dX10_endByDrawing_20 (by decide) rfl q) ?_
    refine P_v ((if (rI σ 5 6) ≤ 0 then 0 else 1 : Int32)) (fun x => [some (.ref 3), some (.int p1), some (.int (rI σ 3 8)), some (.int x), none]) (fun x1 => ?_)
    refine P_l (fun hJ _ _ q => E_aload_n dX10_endByDrawing_21 rfl (E_getR (b := 5) clX10 1 (by decide) flX10_19 (Or.inl ⟨_, rfl⟩) dX10_endByDrawing_22 (kd3 hJ.1.1) (rf3_1 hJ.1.1) (by decide) (E_iload_n dX10_endByDrawing_25 rfl q))) ?_
    refine P_call (t := fun _ => none) (st2 := fun _ => []) (kc2 := 0) (ks2 := 0) (fun hJ => (ok_X1_undoAll (σ := σ) (b := 5) (p := rI σ 3 8) (Or.inl rfl))) (fun hJ _ _ _ _ v τ1 hM q => E_callVN (as := [.int (rI σ 3 8)]) (b := 5) (st := []) hM (by decide) yfX1_undoAll mlX10_432 imX1_undoAll seX1_undoAll clX1 (kd5 hJ.1.1) rfl (Nat.le_of_ble_eq_true rfl) rfl dX10_endByDrawing_26 q) (by decide) (by decide) (fun v2 σ3 => ?_)
    refine P_l (fun hJ _ _ q => E_iload_n dX10_endByDrawing_29 rfl q) ?_
    refine P_join (pc2 := 53) (fun j4 => [some (.ref 3), some (.int p1), some (.int (rI σ 3 8)), some (.int x1), none]) (fun j4 => []) (fun j4 => j4) ?_ (fun j4 => ?_)
    · skip
      refine P_if (c := (if x1 = 0 then (if (v_X10_hasMelded σ3 (rI σ 3 8)) = 0 then true else false) else true) = true) (pc1 := 53) (ls1 := [some (.ref 3), some (.int p1), some (.int (rI σ 3 8)), some (.int x1), none]) (st1 := []) (pc2 := 41) (ls2 := [some (.ref 3), some (.int p1), some (.int (rI σ 3 8)), some (.int x1), none]) (st2 := []) (fun hJ _ _ hX hY => ?_) ?_ ?_
      · skip
        refine E_if_ne 53 dX10_endByDrawing_30 (by decide) (fun c_30_0 => ?_) (fun c_30_0 => ?_)
        · skip
          exact hX (by simp only [if_neg c_30_0])
        · skip
          refine E_aload_n dX10_endByDrawing_33 rfl ?_
          refine E_iload_n dX10_endByDrawing_34 rfl ?_
          refine E_callV (as := [.int (rI σ 3 8)]) (b := 3) (st := []) (ok_X10_hasMelded (σ := σ3) (p1 := rI σ 3 8) hJ ) (by decide) yfX10_hasMelded mlX10_209 imX10_hasMelded seX10_hasMelded clX10 (kd3 hJ.1.1) rfl (Nat.le_of_ble_eq_true rfl) rfl dX10_endByDrawing_35 ?_
          refine E_if_eq 53 dX10_endByDrawing_38 (by decide) (fun c_38_1 => ?_) (fun c_38_1 => ?_)
          · skip
            exact hX (by simp only [if_pos c_30_0, if_pos c_38_1])
          · skip
            exact hY (by simp only [if_pos c_30_0, if_neg c_38_1]; exact Bool.false_ne_true)
      · skip
        exact P_back σ3
      · skip
        refine P_l (fun hJ _ _ q => E_aload_n dX10_endByDrawing_41 rfl (E_getR (b := 19) clX10 3 (by decide) flX10_29 (Or.inl ⟨_, rfl⟩) dX10_endByDrawing_42 (kd3 hJ.1.1) (rf3_3 hJ.1.1) (by decide) (E_iload_n dX10_endByDrawing_45 rfl (E_aload_n dX10_endByDrawing_46 rfl q)))) ?_
        refine P_call (t := fun v => some (.long v)) (st2 := fun v => .long v :: [.int (rI σ 3 8), .ref 19]) (kc2 := 0) (ks2 := 0) (fun hJ => (ok_X10_findAlone (σ := σ3)  )) (fun hJ _ _ _ _ v τ1 hM q => E_callV (as := []) (b := 3) (st := [.int (rI σ 3 8), .ref 19]) hM (by decide) yfX10_findAlone mlX10_290 imX10_findAlone seX10_findAlone clX10 (kd3 hJ.1.1) rfl (Nat.le_of_ble_eq_true rfl) rfl dX10_endByDrawing_47 q) (by decide) (by decide) (fun v5 σ6 => ?_)
        refine P_call (t := fun _ => none) (st2 := fun _ => []) (kc2 := 0) (ks2 := 0) (fun hJ => (ok_X6_pass (σ := σ6) (p1 := rI σ 3 8) (p2 := v5) )) (fun hJ _ _ _ _ v τ1 hM q => E_callVN (as := [.int (rI σ 3 8), .long v5]) (b := 19) (st := []) hM (by decide) yfX6_pass mlX10_435 imX6_pass seX6_pass clX6 (kd19 hJ.1.1) rfl (Nat.le_of_ble_eq_true rfl) rfl dX10_endByDrawing_50 q) (by decide) (by decide) (fun v7 σ8 => ?_)
        exact P_back σ8
    · skip
      refine P_l (fun hJ _ _ q => E_aload_n dX10_endByDrawing_53 rfl (E_getR (b := 5) clX10 1 (by decide) flX10_19 (Or.inl ⟨_, rfl⟩) dX10_endByDrawing_54 (kd3 hJ.1.1) (rf3_1 hJ.1.1) (by decide) (E_iload_n dX10_endByDrawing_57 rfl (E_iload_n dX10_endByDrawing_58 rfl q)))) ?_
      refine P_l (pc2 := 73) (ls2 := [some (.ref 3), some (.int p1), some (.int (rI σ 3 8)), none, none]) (st2 := [.int ((if x1 = 0 then 1 else (rI j4 4 4) : Int32)), .int (rI σ 3 8), .ref 5]) (fun hJ _ _ hq => ?_) ?_
      · skip
        refine E_if_eq 72 dX10_endByDrawing_59 (by decide) (fun c_59_0 => ?_) (fun c_59_0 => ?_)
        · skip
          refine E_iconst (v := 1) dX10_endByDrawing_72 (by decide) ?_
          simp only [if_pos c_59_0] at hq
          exact E_less (ls2 := [some (.ref 3), some (.int p1), some (.int (rI σ 3 8)), none, none]) hq (rLe_at [some (.ref 3), some (.int p1), some (.int (rI σ 3 8)), none, none] [some (.ref 3), some (.int p1), some (.int (rI σ 3 8)), some (.int x1), none] (And.intro rfl (And.intro rfl (And.intro rfl trivial))))
        · skip
          refine E_aload_n dX10_endByDrawing_62 rfl ?_
          refine E_getR (b := 4) clX10 0 (by decide) flX10_12 (Or.inl ⟨_, rfl⟩) dX10_endByDrawing_63 (kd3 hJ.1.1) (rf3_0 hJ.1.1) (by decide) ?_
          refine E_getIN clX5 4 (by decide) flX10_100 (Or.inl rfl) dX10_endByDrawing_66 (kd4 hJ.1.1) ?_
          refine E_goto 73 dX10_endByDrawing_69 (by decide) ?_
          simp only [if_neg c_59_0] at hq
          exact E_less (ls2 := [some (.ref 3), some (.int p1), some (.int (rI σ 3 8)), none, none]) hq (rLe_at [some (.ref 3), some (.int p1), some (.int (rI σ 3 8)), none, none] [some (.ref 3), some (.int p1), some (.int (rI σ 3 8)), some (.int x1), none] (And.intro rfl (And.intro rfl (And.intro rfl trivial))))
      · skip
        refine P_call (t := fun v => some (.int v)) (st2 := fun v => .int v :: []) (kc2 := 0) (ks2 := 0) (fun hJ => (ok_X1_drawUpTo (σ := j4) (b := 5) (p := rI σ 3 8) (m := (if x1 = 0 then 1 else (rI j4 4 4) : Int32)) (Or.inl rfl))) (fun hJ _ _ _ _ v τ1 hM q => E_callVN (as := [.int (rI σ 3 8), .int ((if x1 = 0 then 1 else (rI j4 4 4) : Int32))]) (b := 5) (st := []) hM (by decide) yfX1_drawUpTo mlX10_439 imX1_drawUpTo seX1_drawUpTo clX1 (kd5 hJ.1.1) rfl (Nat.le_of_ble_eq_true rfl) rfl dX10_endByDrawing_73 q) (by decide) (by decide) (fun v9 σ10 => ?_)
        refine P_l (fun hJ _ _ q => E_istore (ls2 := [some (.ref 3), some (.int p1), some (.int (rI σ 3 8)), none, some (.int v9)]) dX10_endByDrawing_76 (by decide) rfl (E_aload_n dX10_endByDrawing_78 rfl (E_getR (b := 19) clX10 3 (by decide) flX10_29 (Or.inl ⟨_, rfl⟩) dX10_endByDrawing_79 (kd3 hJ.1.1) (rf3_3 hJ.1.1) (by decide) (E_iload_n dX10_endByDrawing_82 rfl (E_iload dX10_endByDrawing_83 rfl q))))) ?_
        refine P_call (t := fun _ => none) (st2 := fun _ => []) (kc2 := 0) (ks2 := 0) (fun hJ => (ok_X6_freshen (σ := σ10) (p1 := rI σ 3 8) (p2 := v9) )) (fun hJ _ _ _ _ v τ1 hM q => E_callVN (as := [.int (rI σ 3 8), .int v9]) (b := 19) (st := []) hM (by decide) yfX6_freshen mlX10_442 imX6_freshen seX6_freshen clX6 (kd19 hJ.1.1) rfl (Nat.le_of_ble_eq_true rfl) rfl dX10_endByDrawing_85 q) (by decide) (by decide) (fun v11 σ12 => ?_)
        refine P_l (fun hJ _ _ q => E_aload_n dX10_endByDrawing_88 rfl (E_getR (b := 35) clX10 5 (by decide) flX10_43 (Or.inl ⟨_, rfl⟩) dX10_endByDrawing_89 (kd3 hJ.1.1) (rf3_5 hJ.1.1) (by decide) (E_iload_n dX10_endByDrawing_92 rfl (E_iload_n dX10_endByDrawing_93 rfl (E_iconst (v := (-1)) dX10_endByDrawing_94 (by decide) (E_iload dX10_endByDrawing_95 rfl q)))))) ?_
        refine P_call (t := fun _ => none) (st2 := fun _ => []) (kc2 := 0) (ks2 := 0) (fun hJ => (ok_X2_add (σ := σ12) (p1 := p1) (p2 := rI σ 3 8) (p3 := (-1)) (p4 := v9) )) (fun hJ _ _ _ _ v τ1 hM q => E_callVN (as := [.int p1, .int (rI σ 3 8), .int ((-1)), .int v9]) (b := 35) (st := []) hM (by decide) yfX2_add mlX10_413 imX2_add seX2_add clX2 (kd35 hJ.1.1) rfl (Nat.le_of_ble_eq_true rfl) rfl dX10_endByDrawing_97 q) (by decide) (by decide) (fun v13 σ14 => ?_)
        refine P_l (fun hJ _ _ q => E_aload_n dX10_endByDrawing_100 rfl (E_iload dX10_endByDrawing_101 rfl q)) ?_
        refine P_l (pc2 := 116) (ls2 := [some (.ref 3), none, none, none, some (.int v9)]) (st2 := [.int ((if v9 = 0 then ((rI σ14 3 9) + 1) else 0 : Int32)), .ref 3]) (fun hJ _ _ hq => ?_) ?_
        · skip
          refine E_if_ne 115 dX10_endByDrawing_103 (by decide) (fun c_103_0 => ?_) (fun c_103_0 => ?_)
          · skip
            refine E_iconst (v := 0) dX10_endByDrawing_115 (by decide) ?_
            simp only [if_neg c_103_0] at hq
            exact E_less (ls2 := [some (.ref 3), none, none, none, some (.int v9)]) hq (rLe_at [some (.ref 3), none, none, none, some (.int v9)] [some (.ref 3), some (.int p1), some (.int (rI σ 3 8)), none, some (.int v9)] (And.intro rfl (And.intro rfl trivial)))
          · skip
            refine E_aload_n dX10_endByDrawing_106 rfl ?_
            refine E_getI clX10 9 (by decide) flX10_130 (Or.inl rfl) dX10_endByDrawing_107 (kd3 hJ.1.1) ?_
            refine E_iconst (v := 1) dX10_endByDrawing_110 (by decide) ?_
            refine E_iadd dX10_endByDrawing_111 ?_
            refine E_goto 116 dX10_endByDrawing_112 (by decide) ?_
            simp only [if_pos c_103_0] at hq
            exact E_less (ls2 := [some (.ref 3), none, none, none, some (.int v9)]) hq (rLe_at [some (.ref 3), none, none, none, some (.int v9)] [some (.ref 3), some (.int p1), some (.int (rI σ 3 8)), none, some (.int v9)] (And.intro rfl (And.intro rfl trivial)))
        · skip
          refine P_w (fun hJ _ _ q => E_putI clX10 9 (by decide) flX10_130 (Or.inl rfl) rfl dX10_endByDrawing_116 (kd3 hJ.1.1) q) (fun hJ => Sy_wI hJ.1) rfl rfl rfl (fun σ15 hσ15 => ?_)
          refine P_l (fun hJ _ _ q => E_aload_n dX10_endByDrawing_119 rfl (E_getI clX10 9 (by decide) flX10_130 (Or.inl rfl) dX10_endByDrawing_120 (kd3 hJ.1.1) (E_aload_n dX10_endByDrawing_123 rfl (E_getR (b := 19) clX10 3 (by decide) flX10_29 (Or.inl ⟨_, rfl⟩) dX10_endByDrawing_124 (kd3 hJ.1.1) (rf3_3 hJ.1.1) (by decide) (E_getIN clX6 0 (by decide) flX10_111 (Or.inl rfl) dX10_endByDrawing_127 (kd19 hJ.1.1) q))))) ?_
          refine P_if (fun hJ _ _ h1 h2 => E_icmp_lt 154 dX10_endByDrawing_130 (by decide) h1 h2) ?_ ?_
          · skip
            refine P_l (fun hJ _ _ q => E_aload_n dX10_endByDrawing_154 rfl q) ?_
            refine P_call (t := fun _ => none) (st2 := fun _ => []) (kc2 := 0) (ks2 := 0) (fun hJ => (ok_X10_passOn (σ := σ15)  )) (fun hJ _ _ _ _ v τ1 hM q => E_callV (as := []) (b := 3) (st := []) hM (by decide) yfX10_passOn mlX10_429 imX10_passOn seX10_passOn clX10 (kd3 hJ.1.1) rfl (Nat.le_of_ble_eq_true rfl) rfl dX10_endByDrawing_155 q) (by decide) (by decide) (fun v16 σ17 => ?_)
            refine P_l (fun hJ _ _ q => E_iload dX10_endByDrawing_158 rfl q) ?_
            exact P_ret (fun _ _ => E_iret rfl dX10_endByDrawing_160)
          · skip
            refine P_l (fun hJ _ _ q => E_aload_n dX10_endByDrawing_133 rfl (E_aload_n dX10_endByDrawing_134 rfl (E_getR (b := 5) clX10 1 (by decide) flX10_19 (Or.inl ⟨_, rfl⟩) dX10_endByDrawing_135 (kd3 hJ.1.1) (rf3_1 hJ.1.1) (by decide) (E_aload_n dX10_endByDrawing_138 rfl (E_getR (b := 19) clX10 3 (by decide) flX10_29 (Or.inl ⟨_, rfl⟩) dX10_endByDrawing_139 (kd3 hJ.1.1) (rf3_3 hJ.1.1) (by decide) (E_getIN clX6 0 (by decide) flX10_111 (Or.inl rfl) dX10_endByDrawing_142 (kd19 hJ.1.1) q)))))) ?_
            refine P_callr (t := fun v => some (.int v)) (st2 := fun v => .int v :: [.ref 3]) (fun hJ => (ok_X1_lightest (σ := σ15) (b := 5) (n := rI σ15 19 0) (Or.inl rfl))) (fun hJ _ _ v hM q => E_callVN (as := [.int (rI σ15 19 0)]) (b := 5) (st := [.ref 3]) hM (by decide) yfX1_lightest mlX10_445 imX1_lightest seX1_lightest clX1 (kd5 hJ.1.1) rfl (Nat.le_of_ble_eq_true rfl) rfl dX10_endByDrawing_145 q) (fun v18 => ?_)
            refine P_call (t := fun _ => none) (st2 := fun _ => []) (kc2 := 0) (ks2 := 0) (fun hJ => (ok_X10_endRound (σ := σ15) (p1 := v18) )) (fun hJ _ _ _ _ v τ1 hM q => E_callV (as := [.int v18]) (b := 3) (st := []) hM (by decide) yfX10_endRound mlX10_426 imX10_endRound seX10_endRound clX10 (kd3 hJ.1.1) rfl (Nat.le_of_ble_eq_true rfl) rfl dX10_endByDrawing_148 q) (by decide) (by decide) (fun v19 σ20 => ?_)
            refine P_l (fun hJ _ _ q => E_goto 158 dX10_endByDrawing_151 (by decide) (E_iload dX10_endByDrawing_158 rfl q)) ?_
            exact P_ret (fun _ _ => E_iret rfl dX10_endByDrawing_160)

