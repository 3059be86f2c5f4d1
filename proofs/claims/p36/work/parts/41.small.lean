def f_X6_add (σ : rS) (p1 : Int32) (p2 : Int32) : Option (Int32 × rS) := oLet (rowI σ 20 (vSet (rI σ 20) 4 (rI σ 19 0) p1)) fun σ1 => oLet (rowI σ1 21 (vSet (rI σ1 21) 4 (rI σ 19 0) p2)) fun σ2 => oLet (rowI σ2 28 (vSet (rI σ2 28) 4 (rI σ 19 0) (rI σ 19 0))) fun σ3 => oLet (wI σ3 19 0 ((rI σ3 19 0) + 1)) fun σ4 => some ((rI σ 19 0, σ4))
set_option maxRecDepth 20000 in
set_option maxHeartbeats 2000000 in
theorem ok_X6_add {σ : rS} {p1 : Int32} {p2 : Int32}   : rFn Sy yX6_add mX6_add 1 [.ref 19, .int p1, .int p2] σ 0 0 (fun v => .inl (some (.int v))) (f_X6_add σ p1 p2) := by
  refine rF_of (ls := [some (.ref 19), some (.int p1), some (.int p2), none]) yfX6_add rfl (Nat.le_of_ble_eq_true rfl) (fun o τ => ?_)
  unfold f_X6_add
  refine P_l (fun hJ _ _ q => E_aload_n dX6_add_0 rfl (E_getI clX6 0 (by decide) flX6_46 (Or.inl rfl) dX6_add_1 (kd19 hJ.1.1) (E_istore_n (ls2 := [some (.ref 19), some (.int p1), some (.int p2), some (.int (rI σ 19 0))]) dX6_add_4 (by decide) rfl (E_aload_n dX6_add_5 rfl (E_getR (b := 20) clX6 1 (by decide) flX6_9 (Or.inr ⟨_, rfl⟩) dX6_add_6 (kd19 hJ.1.1) (rf19_1 hJ.1.1) (by decide) (E_iload_n dX6_add_9 rfl (E_iload_n dX6_add_10 rfl q))))))) ?_
  refine P_w (fun hJ _ _ q => E_callSN (as := [.ref 20, .int (rI σ 19 0), .int p1]) (st := []) (ok_set (σ := σ) (a := 20) (i := rI σ 19 0) (x := p1) (f := rI σ 20) (kd20 hJ.1.1) (by decide) (by decide) rfl) (by decide) yfX10_set mlX6_50 stX10_set rfl (Nat.le_of_ble_eq_true rfl) rfl dX6_add_11 q) (fun hJ => Sy_rowI hJ.1) rfl rfl rfl (fun σ1 hσ1 => ?_)
  refine P_l (fun hJ _ _ q => E_aload_n dX6_add_14 rfl (E_getR (b := 21) clX6 2 (by decide) flX6_15 (Or.inr ⟨_, rfl⟩) dX6_add_15 (kd19 hJ.1.1) (rf19_2 hJ.1.1) (by decide) (E_iload_n dX6_add_18 rfl (E_iload_n dX6_add_19 rfl q)))) ?_
  refine P_w (fun hJ _ _ q => E_callSN (as := [.ref 21, .int (rI σ 19 0), .int p2]) (st := []) (ok_set (σ := σ1) (a := 21) (i := rI σ 19 0) (x := p2) (f := rI σ1 21) (kd21 hJ.1.1) (by decide) (by decide) rfl) (by decide) yfX10_set mlX6_50 stX10_set rfl (Nat.le_of_ble_eq_true rfl) rfl dX6_add_20 q) (fun hJ => Sy_rowI hJ.1) rfl rfl rfl (fun σ2 hσ2 => ?_)
  refine P_l (fun hJ _ _ q => E_aload_n dX6_add_23 rfl (E_getR (b := 28) clX6 9 (by decide) flX6_36 (Or.inr ⟨_, rfl⟩) dX6_add_24 (kd19 hJ.1.1) (rf19_9 hJ.1.1) (by decide) (E_iload_n dX6_add_27 rfl (E_iload_n dX6_add_28 rfl q)))) ?_
  refine P_w (fun hJ _ _ q => E_callSN (as := [.ref 28, .int (rI σ 19 0), .int (rI σ 19 0)]) (st := []) (ok_set (σ := σ2) (a := 28) (i := rI σ 19 0) (x := rI σ 19 0) (f := rI σ2 28) (kd28 hJ.1.1) (by decide) (by decide) rfl) (by decide) yfX10_set mlX6_50 stX10_set rfl (Nat.le_of_ble_eq_true rfl) rfl dX6_add_29 q) (fun hJ => Sy_rowI hJ.1) rfl rfl rfl (fun σ3 hσ3 => ?_)
  refine P_l (fun hJ _ _ q => E_aload_n dX6_add_32 rfl (E_dup dX6_add_33 rfl (E_getI clX6 0 (by decide) flX6_46 (Or.inl rfl) dX6_add_34 (kd19 hJ.1.1) (E_iconst (v := 1) dX6_add_37 (by decide) (E_iadd dX6_add_38 q))))) ?_
  refine P_w (fun hJ _ _ q => E_putI clX6 0 (by decide) flX6_46 (Or.inl rfl) rfl dX6_add_39 (kd19 hJ.1.1) q) (fun hJ => Sy_wI hJ.1) rfl rfl rfl (fun σ4 hσ4 => ?_)
  refine P_l (fun hJ _ _ q => E_iload_n dX6_add_42 rfl q) ?_
  exact P_ret (fun _ _ => E_iret rfl dX6_add_43)

def b_X6_startRound_2 (p1 : Int32) (s3 : Int32 × rS) : Option (((Unit × rS) ⊕ (rS)) ⊕ (Int32 × rS)) := if (rI s3.2 19 0) ≤ s3.1 then (some (.inl (.inr s3.2))) else (oLet (rowI s3.2 23 (vSet (rI s3.2 23) 4 s3.1 p1)) fun σ4 => some (.inr ((s3.1 + 1, σ4))))
def f_X6_startRound (σ : rS) (p1 : Int32) : Option (Unit × rS) := oJoin (oLoop (b_X6_startRound_2 p1) oFuel ((0, σ))) fun j2 => oLet (rowI j2 24 (vFill (rI j2 24) 4 0)) fun σ5 => oLet (rowI σ5 25 (vFill (rI σ5 25) 4 0)) fun σ6 => oLet (rowI σ6 26 (vFill (rI σ6 26) 4 0)) fun σ7 => oLet (rowL σ7 29 (vFill (rL σ7 29) 4 (0 : Int64))) fun σ8 => oLet (rowI σ8 30 (vFill (rI σ8 30) 208 0)) fun σ9 => some (((), σ9))
set_option maxRecDepth 20000 in
set_option maxHeartbeats 2000000 in
theorem ok_X6_startRound {σ : rS} {p1 : Int32}   : rFn Sy yX6_startRound mX6_startRound 1 [.ref 19, .int p1] σ 0 0 (fun _ => .inl none) (f_X6_startRound σ p1) := by
  refine rF_of (ls := [some (.ref 19), some (.int p1), none]) yfX6_startRound rfl (Nat.le_of_ble_eq_true rfl) (fun o τ => ?_)
  unfold f_X6_startRound
  refine P_l (fun hJ _ _ q => E_iconst (v := 0) dX6_startRound_0 (by decide) (E_istore_n (ls2 := [some (.ref 19), some (.int p1), some (.int 0)]) dX6_startRound_1 (by decide) rfl q)) ?_
  refine P_join (pc2 := 25) (fun j2 => [some (.ref 19), none, none]) (fun j2 => []) (fun j2 => j2) ?_ (fun j2 => ?_)
  · skip
    refine P_loop (fun s3 => [some (.ref 19), some (.int p1), some (.int s3.1)]) (fun s3 => s3.2) (fun s3 => ?_) _ ((0, σ))
    unfold b_X6_startRound_2
    refine P_l (fun hJ _ _ q => E_iload_n dX6_startRound_2 rfl (E_aload_n dX6_startRound_3 rfl (E_getI clX6 0 (by decide) flX6_46 (Or.inl rfl) dX6_startRound_4 (kd19 hJ.1.1) q))) ?_
    refine P_if (fun hJ _ _ h1 h2 => E_icmp_ge 25 dX6_startRound_7 (by decide) h1 h2) ?_ ?_
    · skip
      refine P_less [some (.ref 19), none, none] (And.intro rfl trivial) ?_
      exact P_inl (P_back s3.2)
    · skip
      refine P_l (fun hJ _ _ q => E_aload_n dX6_startRound_10 rfl (E_getR (b := 23) clX6 4 (by decide) flX6_21 (Or.inr ⟨_, rfl⟩) dX6_startRound_11 (kd19 hJ.1.1) (rf19_4 hJ.1.1) (by decide) (E_iload_n dX6_startRound_14 rfl (E_iload_n dX6_startRound_15 rfl q)))) ?_
      refine P_w (fun hJ _ _ q => E_callSN (as := [.ref 23, .int s3.1, .int p1]) (st := []) (ok_set (σ := s3.2) (a := 23) (i := s3.1) (x := p1) (f := rI s3.2 23) (kd23 hJ.1.1) (by decide) (by decide) rfl) (by decide) yfX10_set mlX6_50 stX10_set rfl (Nat.le_of_ble_eq_true rfl) rfl dX6_startRound_16 q) (fun hJ => Sy_rowI hJ.1) rfl rfl rfl (fun σ4 hσ4 => ?_)
      refine P_l (fun hJ _ _ q => E_iinc (v := 1) (ls2 := [some (.ref 19), some (.int p1), some (.int (s3.1 + 1))]) dX6_startRound_19 rfl (by decide) (by decide) rfl (E_goto 2 dX6_startRound_22 (by decide) q)) ?_
      exact P_back ((s3.1 + 1, σ4))
  · skip
    refine P_l (fun hJ _ _ q => E_aload_n dX6_startRound_25 rfl (E_getR (b := 24) clX6 5 (by decide) flX6_24 (Or.inr ⟨_, rfl⟩) dX6_startRound_26 (kd19 hJ.1.1) (rf19_5 hJ.1.1) (by decide) (E_iconst (v := 0) dX6_startRound_29 (by decide) q))) ?_
    refine P_w (fun hJ _ _ q => E_callS (as := [.ref 24, .int 0]) (st := []) (ok_fillI (σ := j2) (a := 24) (v := 0) (f := rI j2 24) (kd24 hJ.1.1) (by decide) (by decide) rfl) (by decide) yfJ7_fill_53178 mlX6_54 stJ7_fill_53178 rfl (Nat.le_of_ble_eq_true rfl) rfl dX6_startRound_30 q) (fun hJ => Sy_rowI hJ.1) rfl rfl rfl (fun σ5 hσ5 => ?_)
    refine P_l (fun hJ _ _ q => E_aload_n dX6_startRound_33 rfl (E_getR (b := 25) clX6 6 (by decide) flX6_27 (Or.inr ⟨_, rfl⟩) dX6_startRound_34 (kd19 hJ.1.1) (rf19_6 hJ.1.1) (by decide) (E_iconst (v := 0) dX6_startRound_37 (by decide) q))) ?_
    refine P_w (fun hJ _ _ q => E_callS (as := [.ref 25, .int 0]) (st := []) (ok_fillI (σ := σ5) (a := 25) (v := 0) (f := rI σ5 25) (kd25 hJ.1.1) (by decide) (by decide) rfl) (by decide) yfJ7_fill_53178 mlX6_54 stJ7_fill_53178 rfl (Nat.le_of_ble_eq_true rfl) rfl dX6_startRound_38 q) (fun hJ => Sy_rowI hJ.1) rfl rfl rfl (fun σ6 hσ6 => ?_)
    refine P_l (fun hJ _ _ q => E_aload_n dX6_startRound_41 rfl (E_getR (b := 26) clX6 7 (by decide) flX6_30 (Or.inr ⟨_, rfl⟩) dX6_startRound_42 (kd19 hJ.1.1) (rf19_7 hJ.1.1) (by decide) (E_iconst (v := 0) dX6_startRound_45 (by decide) q))) ?_
    refine P_w (fun hJ _ _ q => E_callS (as := [.ref 26, .int 0]) (st := []) (ok_fillI (σ := σ6) (a := 26) (v := 0) (f := rI σ6 26) (kd26 hJ.1.1) (by decide) (by decide) rfl) (by decide) yfJ7_fill_53178 mlX6_54 stJ7_fill_53178 rfl (Nat.le_of_ble_eq_true rfl) rfl dX6_startRound_46 q) (fun hJ => Sy_rowI hJ.1) rfl rfl rfl (fun σ7 hσ7 => ?_)
    refine P_l (fun hJ _ _ q => E_aload_n dX6_startRound_49 rfl (E_getR (b := 29) clX6 10 (by decide) flX6_39 (Or.inr ⟨_, rfl⟩) dX6_startRound_50 (kd19 hJ.1.1) (rf19_10 hJ.1.1) (by decide) (E_lconst (v := 0) dX6_startRound_53 (by decide) q))) ?_
    refine P_w (fun hJ _ _ q => E_callS (as := [.ref 29, .long (0 : Int64)]) (st := []) (ok_fillL (σ := σ7) (a := 29) (v := (0 : Int64)) (f := rL σ7 29) (kd29 hJ.1.1) (by decide) (by decide) rfl) (by decide) yfJ7_fill_d0a16 mlX6_60 stJ7_fill_d0a16 rfl (Nat.le_of_ble_eq_true rfl) rfl dX6_startRound_54 q) (fun hJ => Sy_rowL hJ.1) rfl rfl rfl (fun σ8 hσ8 => ?_)
    refine P_l (fun hJ _ _ q => E_aload_n dX6_startRound_57 rfl (E_getR (b := 30) clX6 11 (by decide) flX6_43 (Or.inr ⟨_, rfl⟩) dX6_startRound_58 (kd19 hJ.1.1) (rf19_11 hJ.1.1) (by decide) (E_iconst (v := 0) dX6_startRound_61 (by decide) q))) ?_
    refine P_w (fun hJ _ _ q => E_callS (as := [.ref 30, .int 0]) (st := []) (ok_fillI (σ := σ8) (a := 30) (v := 0) (f := rI σ8 30) (kd30 hJ.1.1) (by decide) (by decide) rfl) (by decide) yfJ7_fill_53178 mlX6_54 stJ7_fill_53178 rfl (Nat.le_of_ble_eq_true rfl) rfl dX6_startRound_62 q) (fun hJ => Sy_rowI hJ.1) rfl rfl rfl (fun σ9 hσ9 => ?_)
    exact P_ret (fun _ _ => E_vret rfl dX6_startRound_65)

def b_X6_placeOf_2 (σ : rS) (p1 : Int32) (s1 : Int32) : Option (Int32 ⊕ (Int32)) := if (rI σ 19 0) ≤ s1 then (some (.inl ((-1)))) else (if (vAt (rI σ 28) 4 s1) = p1 then (some (.inl s1)) else (some (.inr (s1 + 1))))
def f_X6_placeOf (σ : rS) (p1 : Int32) : Option Int32 := oLoop (b_X6_placeOf_2 σ p1) oFuel 0
set_option maxRecDepth 20000 in
set_option maxHeartbeats 2000000 in
theorem ok_X6_placeOf {σ : rS} {p1 : Int32}   : rFr Sy yX6_placeOf mX6_placeOf 1 [.ref 19, .int p1] σ (fun v => some (.int v)) (f_X6_placeOf σ p1) := by
  refine rFr_of (ls := [some (.ref 19), some (.int p1), none]) yfX6_placeOf rfl (Nat.le_of_ble_eq_true rfl) (fun o τ => ?_)
  unfold f_X6_placeOf
  refine P_l (fun hJ _ _ q => E_iconst (v := 0) dX6_placeOf_0 (by decide) (E_istore_n (ls2 := [some (.ref 19), some (.int p1), some (.int 0)]) dX6_placeOf_1 (by decide) rfl q)) ?_
  refine P_loop (fun s1 => [some (.ref 19), some (.int p1), some (.int s1)]) (fun _ => σ) (fun s1 => ?_) _ 0
  unfold b_X6_placeOf_2
  refine P_l (fun hJ _ _ q => E_iload_n dX6_placeOf_2 rfl (E_aload_n dX6_placeOf_3 rfl (E_getI clX6 0 (by decide) flX6_46 (Or.inl rfl) dX6_placeOf_4 (kd19 hJ.1.1) q))) ?_
  refine P_if (fun hJ _ _ h1 h2 => E_icmp_ge 30 dX6_placeOf_7 (by decide) h1 h2) ?_ ?_
  · skip
    refine P_l (fun hJ _ _ q => E_iconst (v := (-1)) dX6_placeOf_30 (by decide) q) ?_
    exact P_inl (P_retr (fun _ _ => E_iret rfl dX6_placeOf_31))
  · skip
    refine P_l (fun hJ _ _ q => E_aload_n dX6_placeOf_10 rfl (E_getR (b := 28) clX6 9 (by decide) flX6_36 (Or.inr ⟨_, rfl⟩) dX6_placeOf_11 (kd19 hJ.1.1) (rf19_9 hJ.1.1) (by decide) (E_iload_n dX6_placeOf_14 rfl (E_callSN (as := [.ref 28, .int s1]) (st := []) (ok_at (σ := σ) (a := 28) (i := s1) (f := rI σ 28) (kd28 hJ.1.1) (by decide) rfl) (by decide) yfX10_at mlX6_63 stX10_at rfl (Nat.le_of_ble_eq_true rfl) rfl dX6_placeOf_15 (E_iload_n dX6_placeOf_18 rfl q))))) ?_
    refine P_if (fun hJ _ _ h1 h2 => E_icmp_ne 24 dX6_placeOf_19 (by decide) h2 h1) ?_ ?_
    · skip
      refine P_l (fun hJ _ _ q => E_iload_n dX6_placeOf_22 rfl q) ?_
      exact P_inl (P_retr (fun _ _ => E_iret rfl dX6_placeOf_23))
    · skip
      refine P_l (fun hJ _ _ q => E_iinc (v := 1) (ls2 := [some (.ref 19), some (.int p1), some (.int (s1 + 1))]) dX6_placeOf_24 rfl (by decide) (by decide) rfl (E_goto 2 dX6_placeOf_27 (by decide) q)) ?_
      exact P_back (s1 + 1)

def f_X6_climb (σ : rS) (p1 : Int32) : Option (Unit × rS) := (f_X6_placeOf σ p1).bind fun v1 => if v1 ≤ 0 then (some (((), σ))) else (oLet (rowI σ 28 (vSet (rI σ 28) 4 v1 (vAt (rI σ 28) 4 (v1 - 1)))) fun σ2 => oLet (rowI σ2 28 (vSet (rI σ2 28) 4 (v1 - 1) p1)) fun σ3 => some (((), σ3)))
set_option maxRecDepth 20000 in
set_option maxHeartbeats 2000000 in
theorem ok_X6_climb {σ : rS} {p1 : Int32}   : rFn Sy yX6_climb mX6_climb 2 [.ref 19, .int p1] σ 0 0 (fun _ => .inl none) (f_X6_climb σ p1) := by
  refine rF_of (ls := [some (.ref 19), some (.int p1), none]) yfX6_climb rfl (Nat.le_of_ble_eq_true rfl) (fun o τ => ?_)
  unfold f_X6_climb
  refine P_l (fun hJ _ _ q => E_aload_n dX6_climb_0 rfl (E_iload_n dX6_climb_1 rfl q)) ?_
  refine P_callr (t := fun v => some (.int v)) (st2 := fun v => .int v :: []) (fun hJ => (ok_X6_placeOf (σ := σ) (p1 := p1) )) (fun hJ _ _ v hM q => E_callV (as := [.int p1]) (b := 19) (st := []) hM (by decide) yfX6_placeOf mlX6_67 imX6_placeOf seX6_placeOf clX6 (kd19 hJ.1.1) rfl (Nat.le_of_ble_eq_true rfl) rfl dX6_climb_2 q) (fun v1 => ?_)
  refine P_l (fun hJ _ _ q => E_istore_n (ls2 := [some (.ref 19), some (.int p1), some (.int v1)]) dX6_climb_5 (by decide) rfl (E_iload_n dX6_climb_6 rfl q)) ?_
  refine P_if (fun hJ _ _ h1 h2 => E_if_le 39 dX6_climb_7 (by decide) h1 h2) ?_ ?_
  · skip
    exact P_ret (fun _ _ => E_vret rfl dX6_climb_39)
  · skip
    refine P_l (fun hJ _ _ q => E_aload_n dX6_climb_10 rfl (E_getR (b := 28) clX6 9 (by decide) flX6_36 (Or.inr ⟨_, rfl⟩) dX6_climb_11 (kd19 hJ.1.1) (rf19_9 hJ.1.1) (by decide) (E_iload_n dX6_climb_14 rfl (E_aload_n dX6_climb_15 rfl (E_getR (b := 28) clX6 9 (by decide) flX6_36 (Or.inr ⟨_, rfl⟩) dX6_climb_16 (kd19 hJ.1.1) (rf19_9 hJ.1.1) (by decide) (E_iload_n dX6_climb_19 rfl (E_iconst (v := 1) dX6_climb_20 (by decide) (E_isub dX6_climb_21 (E_callSN (as := [.ref 28, .int (v1 - 1)]) (st := [.int v1, .ref 28]) (ok_at (σ := σ) (a := 28) (i := v1 - 1) (f := rI σ 28) (kd28 hJ.1.1) (by decide) rfl) (by decide) yfX10_at mlX6_63 stX10_at rfl (Nat.le_of_ble_eq_true rfl) rfl dX6_climb_22 q))))))))) ?_
    refine P_w (fun hJ _ _ q => E_callSN (as := [.ref 28, .int v1, .int (vAt (rI σ 28) 4 (v1 - 1))]) (st := []) (ok_set (σ := σ) (a := 28) (i := v1) (x := vAt (rI σ 28) 4 (v1 - 1)) (f := rI σ 28) (kd28 hJ.1.1) (by decide) (by decide) rfl) (by decide) yfX10_set mlX6_50 stX10_set rfl (Nat.le_of_ble_eq_true rfl) rfl dX6_climb_25 q) (fun hJ => Sy_rowI hJ.1) rfl rfl rfl (fun σ2 hσ2 => ?_)
    refine P_l (fun hJ _ _ q => E_aload_n dX6_climb_28 rfl (E_getR (b := 28) clX6 9 (by decide) flX6_36 (Or.inr ⟨_, rfl⟩) dX6_climb_29 (kd19 hJ.1.1) (rf19_9 hJ.1.1) (by decide) (E_iload_n dX6_climb_32 rfl (E_iconst (v := 1) dX6_climb_33 (by decide) (E_isub dX6_climb_34 (E_iload_n dX6_climb_35 rfl q)))))) ?_
    refine P_w (fun hJ _ _ q => E_callSN (as := [.ref 28, .int (v1 - 1), .int p1]) (st := []) (ok_set (σ := σ2) (a := 28) (i := v1 - 1) (x := p1) (f := rI σ2 28) (kd28 hJ.1.1) (by decide) (by decide) rfl) (by decide) yfX10_set mlX6_50 stX10_set rfl (Nat.le_of_ble_eq_true rfl) rfl dX6_climb_36 q) (fun hJ => Sy_rowI hJ.1) rfl rfl rfl (fun σ3 hσ3 => ?_)
    exact P_ret (fun _ _ => E_vret rfl dX6_climb_39)

def f_X6_pass (σ : rS) (p1 : Int32) (p2 : Int64) : Option (Unit × rS) := if (if p1 < 0 then true else (if 4 ≤ p1 then true else false)) = true then (some (((), σ))) else (if inB p1 4 then (oLet (wL σ 29 (p1 : Int32).toNatClampNeg p2) fun σ2 => oLet (wI σ2 25 (p1 : Int32).toNatClampNeg 0) fun σ3 => oLet (wI σ3 26 (p1 : Int32).toNatClampNeg 1) fun σ4 => some (((), σ4))) else none)
set_option maxRecDepth 20000 in
set_option maxHeartbeats 2000000 in
theorem ok_X6_pass {σ : rS} {p1 : Int32} {p2 : Int64}   : rFn Sy yX6_pass mX6_pass 0 [.ref 19, .int p1, .long p2] σ 0 0 (fun _ => .inl none) (f_X6_pass σ p1 p2) := by
  refine rF_of (ls := [some (.ref 19), some (.int p1), some (.long p2), none]) yfX6_pass rfl (Nat.le_of_ble_eq_true rfl) (fun o τ => ?_)
  unfold f_X6_pass
  refine P_l (fun hJ _ _ q => E_iload_n dX6_pass_0 rfl q) ?_
  refine P_if (c := (if p1 < 0 then true else (if 4 ≤ p1 then true else false)) = true) (pc1 := 30) (ls1 := [some (.ref 19), some (.int p1), some (.long p2), none]) (st1 := []) (pc2 := 9) (ls2 := [some (.ref 19), some (.int p1), some (.long p2), none]) (st2 := []) (fun hJ _ _ hX hY => ?_) ?_ ?_
  · skip
    refine E_if_lt 30 dX6_pass_1 (by decide) (fun c_1_0 => ?_) (fun c_1_0 => ?_)
    · skip
      exact hX (by simp only [if_pos c_1_0])
    · skip
      refine E_iload_n dX6_pass_4 rfl ?_
      refine E_iconst (v := 4) dX6_pass_5 (by decide) ?_
      refine E_icmp_ge 30 dX6_pass_6 (by decide) (fun c_6_1 => ?_) (fun c_6_1 => ?_)
      · skip
        exact hX (by simp only [if_neg c_1_0, if_pos c_6_1])
      · skip
        exact hY (by simp only [if_neg c_1_0, if_neg c_6_1]; exact Bool.false_ne_true)
  · skip
    exact P_ret (fun _ _ => E_vret rfl dX6_pass_30)
  · skip
    refine P_l (fun hJ _ _ q => E_aload_n dX6_pass_9 rfl (E_getR (b := 29) clX6 10 (by decide) flX6_39 (Or.inr ⟨_, rfl⟩) dX6_pass_10 (kd19 hJ.1.1) (rf19_10 hJ.1.1) (by decide) (E_iload_n dX6_pass_13 rfl (E_lload_n dX6_pass_14 rfl q)))) ?_
    refine P_g (fun g1 => ?_)
    refine P_w (fun hJ _ _ q => E_last dX6_pass_15 (kd29 hJ.1.1) (inB_vp g1) q) (fun hJ => Sy_wL hJ.1) rfl rfl rfl (fun σ2 hσ2 => ?_)
    refine P_l (fun hJ _ _ q => E_aload_n dX6_pass_16 rfl (E_getR (b := 25) clX6 6 (by decide) flX6_27 (Or.inr ⟨_, rfl⟩) dX6_pass_17 (kd19 hJ.1.1) (rf19_6 hJ.1.1) (by decide) (E_iload_n dX6_pass_20 rfl (E_iconst (v := 0) dX6_pass_21 (by decide) q)))) ?_
    refine P_w (fun hJ _ _ q => E_iast dX6_pass_22 (kd25 hJ.1.1) (by decide) (inB_vp g1) q) (fun hJ => Sy_wI hJ.1) rfl rfl rfl (fun σ3 hσ3 => ?_)
    refine P_l (fun hJ _ _ q => E_aload_n dX6_pass_23 rfl (E_getR (b := 26) clX6 7 (by decide) flX6_30 (Or.inr ⟨_, rfl⟩) dX6_pass_24 (kd19 hJ.1.1) (rf19_7 hJ.1.1) (by decide) (E_iload_n dX6_pass_27 rfl (E_iconst (v := 1) dX6_pass_28 (by decide) q)))) ?_
    refine P_w (fun hJ _ _ q => E_iast dX6_pass_29 (kd26 hJ.1.1) (by decide) (inB_vp g1) q) (fun hJ => Sy_wI hJ.1) rfl rfl rfl (fun σ4 hσ4 => ?_)
    exact P_ret (fun _ _ => E_vret rfl dX6_pass_30)

def f_X6_freshen (σ : rS) (p1 : Int32) (p2 : Int32) : Option (Unit × rS) := if (vAt (rI σ 26) 4 p1) = 1 then (oLet (rowI σ 25 (vSet (rI σ 25) 4 p1 ((vAt (rI σ 25) 4 p1) + p2))) fun σ1 => some (((), σ1))) else (some (((), σ)))
set_option maxRecDepth 20000 in
set_option maxHeartbeats 2000000 in
theorem ok_X6_freshen {σ : rS} {p1 : Int32} {p2 : Int32}   : rFn Sy yX6_freshen mX6_freshen 1 [.ref 19, .int p1, .int p2] σ 0 0 (fun _ => .inl none) (f_X6_freshen σ p1 p2) := by
  refine rF_of (ls := [some (.ref 19), some (.int p1), some (.int p2)]) yfX6_freshen rfl (Nat.le_of_ble_eq_true rfl) (fun o τ => ?_)
  unfold f_X6_freshen
  refine P_l (fun hJ _ _ q => E_aload_n dX6_freshen_0 rfl (E_getR (b := 26) clX6 7 (by decide) flX6_30 (Or.inr ⟨_, rfl⟩) dX6_freshen_1 (kd19 hJ.1.1) (rf19_7 hJ.1.1) (by decide) (E_iload_n dX6_freshen_4 rfl (E_callSN (as := [.ref 26, .int p1]) (st := []) (ok_at (σ := σ) (a := 26) (i := p1) (f := rI σ 26) (kd26 hJ.1.1) (by decide) rfl) (by decide) yfX10_at mlX6_63 stX10_at rfl (Nat.le_of_ble_eq_true rfl) rfl dX6_freshen_5 (E_iconst (v := 1) dX6_freshen_8 (by decide) q))))) ?_
  refine P_if (fun hJ _ _ h1 h2 => E_icmp_ne 30 dX6_freshen_9 (by decide) h2 h1) ?_ ?_
  · skip
    refine P_l (fun hJ _ _ q => E_aload_n dX6_freshen_12 rfl (E_getR (b := 25) clX6 6 (by decide) flX6_27 (Or.inr ⟨_, rfl⟩) dX6_freshen_13 (kd19 hJ.1.1) (rf19_6 hJ.1.1) (by decide) (E_iload_n dX6_freshen_16 rfl (E_aload_n dX6_freshen_17 rfl (E_getR (b := 25) clX6 6 (by decide) flX6_27 (Or.inr ⟨_, rfl⟩) dX6_freshen_18 (kd19 hJ.1.1) (rf19_6 hJ.1.1) (by decide) (E_iload_n dX6_freshen_21 rfl (E_callSN (as := [.ref 25, .int p1]) (st := [.int p1, .ref 25]) (ok_at (σ := σ) (a := 25) (i := p1) (f := rI σ 25) (kd25 hJ.1.1) (by decide) rfl) (by decide) yfX10_at mlX6_63 stX10_at rfl (Nat.le_of_ble_eq_true rfl) rfl dX6_freshen_22 (E_iload_n dX6_freshen_25 rfl (E_iadd dX6_freshen_26 q))))))))) ?_
    refine P_w (fun hJ _ _ q => E_callSN (as := [.ref 25, .int p1, .int ((vAt (rI σ 25) 4 p1) + p2)]) (st := []) (ok_set (σ := σ) (a := 25) (i := p1) (x := (vAt (rI σ 25) 4 p1) + p2) (f := rI σ 25) (kd25 hJ.1.1) (by decide) (by decide) rfl) (by decide) yfX10_set mlX6_50 stX10_set rfl (Nat.le_of_ble_eq_true rfl) rfl dX6_freshen_27 q) (fun hJ => Sy_rowI hJ.1) rfl rfl rfl (fun σ1 hσ1 => ?_)
    exact P_ret (fun _ _ => E_vret rfl dX6_freshen_30)
  · skip
    exact P_ret (fun _ _ => E_vret rfl dX6_freshen_30)

def f_X6_passedBy (σ : rS) (p1 : Int32) : Option Int64 := if (if p1 < 0 then true else (if 4 ≤ p1 then true else false)) = true then (some (0 : Int64)) else (if inB p1 4 then (some (rL σ 29 (p1 : Int32).toNatClampNeg)) else none)
set_option maxRecDepth 20000 in
set_option maxHeartbeats 2000000 in
theorem ok_X6_passedBy {σ : rS} {p1 : Int32}   : rFr Sy yX6_passedBy mX6_passedBy 0 [.ref 19, .int p1] σ (fun v => some (.long v)) (f_X6_passedBy σ p1) := by
  refine rFr_of (ls := [some (.ref 19), some (.int p1)]) yfX6_passedBy rfl (Nat.le_of_ble_eq_true rfl) (fun o τ => ?_)
  unfold f_X6_passedBy
  refine P_l (fun hJ _ _ q => E_iload_n dX6_passedBy_0 rfl q) ?_
  refine P_if (c := (if p1 < 0 then true else (if 4 ≤ p1 then true else false)) = true) (pc1 := 18) (ls1 := [some (.ref 19), some (.int p1)]) (st1 := []) (pc2 := 9) (ls2 := [some (.ref 19), some (.int p1)]) (st2 := []) (fun hJ _ _ hX hY => ?_) ?_ ?_
  · skip
    refine E_if_lt 18 dX6_passedBy_1 (by decide) (fun c_1_0 => ?_) (fun c_1_0 => ?_)
    · skip
      exact hX (by simp only [if_pos c_1_0])
    · skip
      refine E_iload_n dX6_passedBy_4 rfl ?_
      refine E_iconst (v := 4) dX6_passedBy_5 (by decide) ?_
      refine E_icmp_ge 18 dX6_passedBy_6 (by decide) (fun c_6_1 => ?_) (fun c_6_1 => ?_)
      · skip
        exact hX (by simp only [if_neg c_1_0, if_pos c_6_1])
      · skip
        exact hY (by simp only [if_neg c_1_0, if_neg c_6_1]; exact Bool.false_ne_true)
  · skip
    refine P_l (fun hJ _ _ q => E_lconst (v := 0) dX6_passedBy_18 (by decide) q) ?_
    exact P_retr (fun _ _ => E_lret rfl dX6_passedBy_19)
  · skip
    refine P_l (fun hJ _ _ q => E_aload_n dX6_passedBy_9 rfl (E_getR (b := 29) clX6 10 (by decide) flX6_39 (Or.inr ⟨_, rfl⟩) dX6_passedBy_10 (kd19 hJ.1.1) (rf19_10 hJ.1.1) (by decide) (E_iload_n dX6_passedBy_13 rfl q))) ?_
    refine P_g (fun g1 => ?_)
    refine P_l (fun hJ _ _ q => E_lald dX6_passedBy_14 (kd29 hJ.1.1) (inB_vp g1) (E_goto 19 dX6_passedBy_15 (by decide) q)) ?_
    exact P_retr (fun _ _ => E_lret rfl dX6_passedBy_19)

def b_X6_claimed_4 (σ : rS) (p1 : Int32) (s1 : Int32 × Int32) : Option (Int32 ⊕ (Int32 × Int32)) := if (rI σ 19 0) ≤ s1.2 then (some (.inl s1.1)) else (oLet (s1.1 + (vAt (rI σ 30) 208 ((s1.2 * 52) + p1)) : Int32) fun x2 => some (.inr ((x2, s1.2 + 1))))
def f_X6_claimed (σ : rS) (p1 : Int32) : Option Int32 := oLoop (b_X6_claimed_4 σ p1) oFuel ((0, 0))
set_option maxRecDepth 20000 in
set_option maxHeartbeats 2000000 in
theorem ok_X6_claimed {σ : rS} {p1 : Int32}   : rFr Sy yX6_claimed mX6_claimed 1 [.ref 19, .int p1] σ (fun v => some (.int v)) (f_X6_claimed σ p1) := by
  refine rFr_of (ls := [some (.ref 19), some (.int p1), none, none]) yfX6_claimed rfl (Nat.le_of_ble_eq_true rfl) (fun o τ => ?_)
  unfold f_X6_claimed
  refine P_l (fun hJ _ _ q => E_iconst (v := 0) dX6_claimed_0 (by decide) (E_istore_n (ls2 := [some (.ref 19), some (.int p1), some (.int 0), none]) dX6_claimed_1 (by decide) rfl (E_iconst (v := 0) dX6_claimed_2 (by decide) (E_istore_n (ls2 := [some (.ref 19), some (.int p1), some (.int 0), some (.int 0)]) dX6_claimed_3 (by decide) rfl q)))) ?_
  refine P_loop (fun s1 => [some (.ref 19), some (.int p1), some (.int s1.1), some (.int s1.2)]) (fun _ => σ) (fun s1 => ?_) _ ((0, 0))
  unfold b_X6_claimed_4
  refine P_l (fun hJ _ _ q => E_iload_n dX6_claimed_4 rfl (E_aload_n dX6_claimed_5 rfl (E_getI clX6 0 (by decide) flX6_46 (Or.inl rfl) dX6_claimed_6 (kd19 hJ.1.1) q))) ?_
  refine P_if (fun hJ _ _ h1 h2 => E_icmp_ge 34 dX6_claimed_9 (by decide) h1 h2) ?_ ?_
  · skip
    refine P_l (fun hJ _ _ q => E_iload_n dX6_claimed_34 rfl q) ?_
    exact P_inl (P_retr (fun _ _ => E_iret rfl dX6_claimed_35))
  · skip
    refine P_l (fun hJ _ _ q => E_iload_n dX6_claimed_12 rfl (E_aload_n dX6_claimed_13 rfl (E_getR (b := 30) clX6 11 (by decide) flX6_43 (Or.inr ⟨_, rfl⟩) dX6_claimed_14 (kd19 hJ.1.1) (rf19_11 hJ.1.1) (by decide) (E_iload_n dX6_claimed_17 rfl (E_bipush (v := 52) dX6_claimed_18 (by decide) (E_imul dX6_claimed_20 (E_iload_n dX6_claimed_21 rfl (E_iadd dX6_claimed_22 (E_callSN (as := [.ref 30, .int ((s1.2 * 52) + p1)]) (st := [.int s1.1]) (ok_at (σ := σ) (a := 30) (i := (s1.2 * 52) + p1) (f := rI σ 30) (kd30 hJ.1.1) (by decide) rfl) (by decide) yfX10_at mlX6_63 stX10_at rfl (Nat.le_of_ble_eq_true rfl) rfl dX6_claimed_23 (E_iadd dX6_claimed_26 (E_istore_n (ls2 := [some (.ref 19), some (.int p1), some (.int (s1.1 + (vAt (rI σ 30) 208 ((s1.2 * 52) + p1)))), some (.int s1.2)]) dX6_claimed_27 (by decide) rfl q))))))))))) ?_
    refine P_v (s1.1 + (vAt (rI σ 30) 208 ((s1.2 * 52) + p1))) (fun x => [some (.ref 19), some (.int p1), some (.int x), some (.int s1.2)]) (fun x2 => ?_)
    refine P_l (fun hJ _ _ q => E_iinc (v := 1) (ls2 := [some (.ref 19), some (.int p1), some (.int x2), some (.int (s1.2 + 1))]) dX6_claimed_28 rfl (by decide) (by decide) rfl (E_goto 4 dX6_claimed_31 (by decide) q)) ?_
    exact P_back ((x2, s1.2 + 1))

def b_X6_pointsOf_4 (σ : rS) (p1 : Int32) (s1 : Int32 × Int32) : Option (Int32 ⊕ (Int32 × Int32)) := if (rI σ 19 0) ≤ s1.2 then (some (.inl s1.1)) else (oLet ((if (vAt (rI σ 20) 4 s1.2) = p1 then (s1.1 + (vAt (rI σ 22) 4 s1.2)) else s1.1 : Int32) : Int32) fun x2 => some (.inr ((x2, s1.2 + 1))))
def f_X6_pointsOf (σ : rS) (p1 : Int32) : Option Int32 := oLoop (b_X6_pointsOf_4 σ p1) oFuel ((0, 0))
set_option maxRecDepth 20000 in
set_option maxHeartbeats 2000000 in
theorem ok_X6_pointsOf {σ : rS} {p1 : Int32}   : rFr Sy yX6_pointsOf mX6_pointsOf 1 [.ref 19, .int p1] σ (fun v => some (.int v)) (f_X6_pointsOf σ p1) := by
  refine rFr_of (ls := [some (.ref 19), some (.int p1), none, none]) yfX6_pointsOf rfl (Nat.le_of_ble_eq_true rfl) (fun o τ => ?_)
  unfold f_X6_pointsOf
  refine P_l (fun hJ _ _ q => E_iconst (v := 0) dX6_pointsOf_0 (by decide) (E_istore_n (ls2 := [some (.ref 19), some (.int p1), some (.int 0), none]) dX6_pointsOf_1 (by decide) rfl (E_iconst (v := 0) dX6_pointsOf_2 (by decide) (E_istore_n (ls2 := [some (.ref 19), some (.int p1), some (.int 0), some (.int 0)]) dX6_pointsOf_3 (by decide) rfl q)))) ?_
  refine P_loop (fun s1 => [some (.ref 19), some (.int p1), some (.int s1.1), some (.int s1.2)]) (fun _ => σ) (fun s1 => ?_) _ ((0, 0))
  unfold b_X6_pointsOf_4
  refine P_l (fun hJ _ _ q => E_iload_n dX6_pointsOf_4 rfl (E_aload_n dX6_pointsOf_5 rfl (E_getI clX6 0 (by decide) flX6_46 (Or.inl rfl) dX6_pointsOf_6 (kd19 hJ.1.1) q))) ?_
  refine P_if (fun hJ _ _ h1 h2 => E_icmp_ge 41 dX6_pointsOf_9 (by decide) h1 h2) ?_ ?_
  · skip
    refine P_l (fun hJ _ _ q => E_iload_n dX6_pointsOf_41 rfl q) ?_
    exact P_inl (P_retr (fun _ _ => E_iret rfl dX6_pointsOf_42))
  · skip
    refine P_l (fun hJ _ _ q => E_aload_n dX6_pointsOf_12 rfl (E_getR (b := 20) clX6 1 (by decide) flX6_9 (Or.inr ⟨_, rfl⟩) dX6_pointsOf_13 (kd19 hJ.1.1) (rf19_1 hJ.1.1) (by decide) (E_iload_n dX6_pointsOf_16 rfl (E_callSN (as := [.ref 20, .int s1.2]) (st := []) (ok_at (σ := σ) (a := 20) (i := s1.2) (f := rI σ 20) (kd20 hJ.1.1) (by decide) rfl) (by decide) yfX10_at mlX6_63 stX10_at rfl (Nat.le_of_ble_eq_true rfl) rfl dX6_pointsOf_17 (E_iload_n dX6_pointsOf_20 rfl q))))) ?_
    refine P_l (pc2 := 35) (ls2 := [some (.ref 19), some (.int p1), some (.int ((if (vAt (rI σ 20) 4 s1.2) = p1 then (s1.1 + (vAt (rI σ 22) 4 s1.2)) else s1.1 : Int32))), some (.int s1.2)]) (st2 := []) (fun hJ _ _ hq => ?_) ?_
    · skip
      refine E_icmp_ne 35 dX6_pointsOf_21 (by decide) (fun c_21_0 => ?_) (fun c_21_0 => ?_)
      · skip
        simp only [if_neg c_21_0] at hq
        exact hq
      · skip
        refine E_iload_n dX6_pointsOf_24 rfl ?_
        refine E_aload_n dX6_pointsOf_25 rfl ?_
        refine E_getR (b := 22) clX6 3 (by decide) flX6_18 (Or.inr ⟨_, rfl⟩) dX6_pointsOf_26 (kd19 hJ.1.1) (rf19_3 hJ.1.1) (by decide) ?_
        refine E_iload_n dX6_pointsOf_29 rfl ?_
        refine E_callSN (as := [.ref 22, .int s1.2]) (st := [.int s1.1]) (ok_at (σ := σ) (a := 22) (i := s1.2) (f := rI σ 22) (kd22 hJ.1.1) (by decide) rfl) (by decide) yfX10_at mlX6_63 stX10_at rfl (Nat.le_of_ble_eq_true rfl) rfl dX6_pointsOf_30 ?_
        refine E_iadd dX6_pointsOf_33 ?_
        refine E_istore_n (ls2 := [some (.ref 19), some (.int p1), some (.int (s1.1 + (vAt (rI σ 22) 4 s1.2))), some (.int s1.2)]) dX6_pointsOf_34 (by decide) rfl ?_
        simp only [if_pos c_21_0] at hq
        exact hq
    · skip
      refine P_v ((if (vAt (rI σ 20) 4 s1.2) = p1 then (s1.1 + (vAt (rI σ 22) 4 s1.2)) else s1.1 : Int32)) (fun x => [some (.ref 19), some (.int p1), some (.int x), some (.int s1.2)]) (fun x2 => ?_)
      refine P_l (fun hJ _ _ q => E_iinc (v := 1) (ls2 := [some (.ref 19), some (.int p1), some (.int x2), some (.int (s1.2 + 1))]) dX6_pointsOf_35 rfl (by decide) (by decide) rfl (E_goto 4 dX6_pointsOf_38 (by decide) q)) ?_
      exact P_back ((x2, s1.2 + 1))

def f_X2_clear (σ : rS) : Option (Unit × rS) := oLet (wI σ 35 1 0) fun σ1 => oLet (wI σ1 35 2 0) fun σ2 => some (((), σ2))
set_option maxRecDepth 20000 in
set_option maxHeartbeats 2000000 in
theorem ok_X2_clear {σ : rS}   : rFn Sy yX2_clear mX2_clear 0 [.ref 35] σ 0 0 (fun _ => .inl none) (f_X2_clear σ) := by
  refine rF_of (ls := [some (.ref 35)]) yfX2_clear rfl (Nat.le_of_ble_eq_true rfl) (fun o τ => ?_)
  unfold f_X2_clear
  refine P_l (fun hJ _ _ q => E_aload_n dX2_clear_0 rfl (E_iconst (v := 0) dX2_clear_1 (by decide) q)) ?_
  refine P_w (fun hJ _ _ q => E_putI clX2 1 (by decide) flX2_13 (Or.inl rfl) rfl dX2_clear_2 (kd35 hJ.1.1) q) (fun hJ => Sy_wI hJ.1) rfl rfl rfl (fun σ1 hσ1 => ?_)
  refine P_l (fun hJ _ _ q => E_aload_n dX2_clear_5 rfl (E_iconst (v := 0) dX2_clear_6 (by decide) q)) ?_
  refine P_w (fun hJ _ _ q => E_putI clX2 2 (by decide) flX2_17 (Or.inr ⟨rfl, (by decide)⟩) rfl dX2_clear_7 (kd35 hJ.1.1) q) (fun hJ => Sy_wI hJ.1) rfl rfl rfl (fun σ2 hσ2 => ?_)
  exact P_ret (fun _ _ => E_vret rfl dX2_clear_10)

def f_X2_startRound (σ : rS) (p1 : Int32) (p2 : Int32) (p3 : Int32) : Option (Unit × rS) := oLet (wI σ 35 1 0) fun σ1 => oLet (wI σ1 35 2 1) fun σ2 => oLet (wI σ2 35 3 p1) fun σ3 => oLet (wI σ3 35 4 p2) fun σ4 => oLet (wI σ4 35 5 p3) fun σ5 => some (((), σ5))
set_option maxRecDepth 20000 in
set_option maxHeartbeats 2000000 in
theorem ok_X2_startRound {σ : rS} {p1 : Int32} {p2 : Int32} {p3 : Int32}   : rFn Sy yX2_startRound mX2_startRound 0 [.ref 35, .int p1, .int p2, .int p3] σ 0 0 (fun _ => .inl none) (f_X2_startRound σ p1 p2 p3) := by
  refine rF_of (ls := [some (.ref 35), some (.int p1), some (.int p2), some (.int p3)]) yfX2_startRound rfl (Nat.le_of_ble_eq_true rfl) (fun o τ => ?_)
  unfold f_X2_startRound
  refine P_l (fun hJ _ _ q => E_aload_n dX2_startRound_0 rfl (E_iconst (v := 0) dX2_startRound_1 (by decide) q)) ?_
  refine P_w (fun hJ _ _ q => E_putI clX2 1 (by decide) flX2_13 (Or.inl rfl) rfl dX2_startRound_2 (kd35 hJ.1.1) q) (fun hJ => Sy_wI hJ.1) rfl rfl rfl (fun σ1 hσ1 => ?_)
  refine P_l (fun hJ _ _ q => E_aload_n dX2_startRound_5 rfl (E_iconst (v := 1) dX2_startRound_6 (by decide) q)) ?_
  refine P_w (fun hJ _ _ q => E_putI clX2 2 (by decide) flX2_17 (Or.inr ⟨rfl, (by decide)⟩) rfl dX2_startRound_7 (kd35 hJ.1.1) q) (fun hJ => Sy_wI hJ.1) rfl rfl rfl (fun σ2 hσ2 => ?_)
  refine P_l (fun hJ _ _ q => E_aload_n dX2_startRound_10 rfl (E_iload_n dX2_startRound_11 rfl q)) ?_
  refine P_w (fun hJ _ _ q => E_putI clX2 3 (by decide) flX2_21 (Or.inl rfl) rfl dX2_startRound_12 (kd35 hJ.1.1) q) (fun hJ => Sy_wI hJ.1) rfl rfl rfl (fun σ3 hσ3 => ?_)
  refine P_l (fun hJ _ _ q => E_aload_n dX2_startRound_15 rfl (E_iload_n dX2_startRound_16 rfl q)) ?_
  refine P_w (fun hJ _ _ q => E_putI clX2 4 (by decide) flX2_24 (Or.inl rfl) rfl dX2_startRound_17 (kd35 hJ.1.1) q) (fun hJ => Sy_wI hJ.1) rfl rfl rfl (fun σ4 hσ4 => ?_)
  refine P_l (fun hJ _ _ q => E_aload_n dX2_startRound_20 rfl (E_iload_n dX2_startRound_21 rfl q)) ?_
  refine P_w (fun hJ _ _ q => E_putI clX2 5 (by decide) flX2_27 (Or.inl rfl) rfl dX2_startRound_22 (kd35 hJ.1.1) q) (fun hJ => Sy_wI hJ.1) rfl rfl rfl (fun σ5 hσ5 => ?_)
  exact P_ret (fun _ _ => E_vret rfl dX2_startRound_25)

def f_X2_add (σ : rS) (p1 : Int32) (p2 : Int32) (p3 : Int32) (p4 : Int32) : Option (Unit × rS) := if 1024 ≤ (rI σ 35 1) then (some (((), σ))) else (if inB (rI σ 35 1) 1024 then (oLet (wI σ 36 (rI σ 35 1 : Int32).toNatClampNeg (((p1 ||| (p2 <<< ((3 : Int32) &&& 31))) ||| ((p3 + 1) <<< ((5 : Int32) &&& 31))) ||| (p4 <<< ((11 : Int32) &&& 31)))) fun σ2 => oLet (wI σ2 35 1 ((rI σ2 35 1) + 1)) fun σ3 => some (((), σ3))) else none)
set_option maxRecDepth 20000 in
set_option maxHeartbeats 2000000 in
theorem ok_X2_add {σ : rS} {p1 : Int32} {p2 : Int32} {p3 : Int32} {p4 : Int32}   : rFn Sy yX2_add mX2_add 0 [.ref 35, .int p1, .int p2, .int p3, .int p4] σ 0 0 (fun _ => .inl none) (f_X2_add σ p1 p2 p3 p4) := by
  refine rF_of (ls := [some (.ref 35), some (.int p1), some (.int p2), some (.int p3), some (.int p4)]) yfX2_add rfl (Nat.le_of_ble_eq_true rfl) (fun o τ => ?_)
  unfold f_X2_add
  refine P_l (fun hJ _ _ q => E_aload_n dX2_add_0 rfl (E_getI clX2 1 (by decide) flX2_13 (Or.inl rfl) dX2_add_1 (kd35 hJ.1.1) (E_sipush (v := 1024) dX2_add_4 (by decide) q))) ?_
  refine P_if (fun hJ _ _ h1 h2 => E_icmp_ge 46 dX2_add_7 (by decide) h1 h2) ?_ ?_
  · skip
    exact P_ret (fun _ _ => E_vret rfl dX2_add_46)
  · skip
    refine P_l (fun hJ _ _ q => E_aload_n dX2_add_10 rfl (E_getR (b := 36) clX2 0 (by decide) flX2_9 (Or.inr ⟨_, rfl⟩) dX2_add_11 (kd35 hJ.1.1) (rf35_0 hJ.1.1) (by decide) (E_aload_n dX2_add_14 rfl (E_getI clX2 1 (by decide) flX2_13 (Or.inl rfl) dX2_add_15 (kd35 hJ.1.1) (E_iload_n dX2_add_18 rfl (E_iload_n dX2_add_19 rfl (E_iconst (v := 3) dX2_add_20 (by decide) (E_ishl dX2_add_21 (E_ior dX2_add_22 (E_iload_n dX2_add_23 rfl (E_iconst (v := 1) dX2_add_24 (by decide) (E_iadd dX2_add_25 (E_iconst (v := 5) dX2_add_26 (by decide) (E_ishl dX2_add_27 q)))))))))))))) ?_
    refine P_l (fun hJ _ _ q => E_ior dX2_add_28 (E_iload dX2_add_29 rfl (E_bipush (v := 11) dX2_add_31 (by decide) (E_ishl dX2_add_33 (E_ior dX2_add_34 q))))) ?_
    refine P_g (fun g1 => ?_)
    refine P_w (fun hJ _ _ q => E_iast dX2_add_35 (kd36 hJ.1.1) (by decide) (inB_vp g1) q) (fun hJ => Sy_wI hJ.1) rfl rfl rfl (fun σ2 hσ2 => ?_)
    refine P_l (fun hJ _ _ q => E_aload_n dX2_add_36 rfl (E_dup dX2_add_37 rfl (E_getI clX2 1 (by decide) flX2_13 (Or.inl rfl) dX2_add_38 (kd35 hJ.1.1) (E_iconst (v := 1) dX2_add_41 (by decide) (E_iadd dX2_add_42 q))))) ?_
    refine P_w (fun hJ _ _ q => E_putI clX2 1 (by decide) flX2_13 (Or.inl rfl) rfl dX2_add_43 (kd35 hJ.1.1) q) (fun hJ => Sy_wI hJ.1) rfl rfl rfl (fun σ3 hσ3 => ?_)
    exact P_ret (fun _ _ => E_vret rfl dX2_add_46)

def v_X2_sort (σ : rS) (p1 : Int32) : Int32 := (vAt (rI σ 36) 1024 p1) &&& 7
set_option maxRecDepth 20000 in
theorem ok_X2_sort {σ : rS} {p1 : Int32}  (hJ : J Sy σ)  : rMet yX2_sort mX2_sort 1 [.ref 35, .int p1] σ 0 0 (some (.int (v_X2_sort σ p1))) σ := by
  refine rMet_of (ls := [some (.ref 35), some (.int p1)]) yfX2_sort rfl (Nat.le_of_ble_eq_true rfl) ?_
  refine E_aload_n dX2_sort_0 rfl ?_
  refine E_getR (b := 36) clX2 0 (by decide) flX2_9 (Or.inr ⟨_, rfl⟩) dX2_sort_1 (kd35 hJ.1.1) (rf35_0 hJ.1.1) (by decide) ?_
  refine E_iload_n dX2_sort_4 rfl ?_
  refine E_callSN (as := [.ref 36, .int p1]) (st := []) (ok_at (σ := σ) (a := 36) (i := p1) (f := rI σ 36) (kd36 hJ.1.1) (by decide) rfl) (by decide) yfX10_at mlX2_30 stX10_at rfl (Nat.le_of_ble_eq_true rfl) rfl dX2_sort_5 ?_
  refine E_bipush (v := 7) dX2_sort_8 (by decide) ?_
  refine E_iand dX2_sort_10 ?_
  exact E_iretE rfl dX2_sort_11 rfl rfl

def v_X2_who (σ : rS) (p1 : Int32) : Int32 := ((vAt (rI σ 36) 1024 p1) >>> ((3 : Int32) &&& 31)) &&& 3
set_option maxRecDepth 20000 in
theorem ok_X2_who {σ : rS} {p1 : Int32}  (hJ : J Sy σ)  : rMet yX2_who mX2_who 1 [.ref 35, .int p1] σ 0 0 (some (.int (v_X2_who σ p1))) σ := by
  refine rMet_of (ls := [some (.ref 35), some (.int p1)]) yfX2_who rfl (Nat.le_of_ble_eq_true rfl) ?_
  refine E_aload_n dX2_who_0 rfl ?_
  refine E_getR (b := 36) clX2 0 (by decide) flX2_9 (Or.inr ⟨_, rfl⟩) dX2_who_1 (kd35 hJ.1.1) (rf35_0 hJ.1.1) (by decide) ?_
  refine E_iload_n dX2_who_4 rfl ?_
  refine E_callSN (as := [.ref 36, .int p1]) (st := []) (ok_at (σ := σ) (a := 36) (i := p1) (f := rI σ 36) (kd36 hJ.1.1) (by decide) rfl) (by decide) yfX10_at mlX2_30 stX10_at rfl (Nat.le_of_ble_eq_true rfl) rfl dX2_who_5 ?_
  refine E_iconst (v := 3) dX2_who_8 (by decide) ?_
  refine E_ishr dX2_who_9 ?_
  refine E_iconst (v := 3) dX2_who_10 (by decide) ?_
  refine E_iand dX2_who_11 ?_
  exact E_iretE rfl dX2_who_12 rfl rfl

def v_X2_kind (σ : rS) (p1 : Int32) : Int32 := (((vAt (rI σ 36) 1024 p1) >>> ((5 : Int32) &&& 31)) &&& 63) - 1
set_option maxRecDepth 20000 in
theorem ok_X2_kind {σ : rS} {p1 : Int32}  (hJ : J Sy σ)  : rMet yX2_kind mX2_kind 1 [.ref 35, .int p1] σ 0 0 (some (.int (v_X2_kind σ p1))) σ := by
  refine rMet_of (ls := [some (.ref 35), some (.int p1)]) yfX2_kind rfl (Nat.le_of_ble_eq_true rfl) ?_
  refine E_aload_n dX2_kind_0 rfl ?_
  refine E_getR (b := 36) clX2 0 (by decide) flX2_9 (Or.inr ⟨_, rfl⟩) dX2_kind_1 (kd35 hJ.1.1) (rf35_0 hJ.1.1) (by decide) ?_
  refine E_iload_n dX2_kind_4 rfl ?_
  refine E_callSN (as := [.ref 36, .int p1]) (st := []) (ok_at (σ := σ) (a := 36) (i := p1) (f := rI σ 36) (kd36 hJ.1.1) (by decide) rfl) (by decide) yfX10_at mlX2_30 stX10_at rfl (Nat.le_of_ble_eq_true rfl) rfl dX2_kind_5 ?_
  refine E_iconst (v := 5) dX2_kind_8 (by decide) ?_
  refine E_ishr dX2_kind_9 ?_
  refine E_bipush (v := 63) dX2_kind_10 (by decide) ?_
  refine E_iand dX2_kind_12 ?_
  refine E_iconst (v := 1) dX2_kind_13 (by decide) ?_
  refine E_isub dX2_kind_14 ?_
  exact E_iretE rfl dX2_kind_15 rfl rfl

def v_X2_drawn (σ : rS) (p1 : Int32) : Int32 := (vAt (rI σ 36) 1024 p1) >>> ((11 : Int32) &&& 31)
set_option maxRecDepth 20000 in
theorem ok_X2_drawn {σ : rS} {p1 : Int32}  (hJ : J Sy σ)  : rMet yX2_drawn mX2_drawn 1 [.ref 35, .int p1] σ 0 0 (some (.int (v_X2_drawn σ p1))) σ := by
  refine rMet_of (ls := [some (.ref 35), some (.int p1)]) yfX2_drawn rfl (Nat.le_of_ble_eq_true rfl) ?_
  refine E_aload_n dX2_drawn_0 rfl ?_
  refine E_getR (b := 36) clX2 0 (by decide) flX2_9 (Or.inr ⟨_, rfl⟩) dX2_drawn_1 (kd35 hJ.1.1) (rf35_0 hJ.1.1) (by decide) ?_
  refine E_iload_n dX2_drawn_4 rfl ?_
  refine E_callSN (as := [.ref 36, .int p1]) (st := []) (ok_at (σ := σ) (a := 36) (i := p1) (f := rI σ 36) (kd36 hJ.1.1) (by decide) rfl) (by decide) yfX10_at mlX2_30 stX10_at rfl (Nat.le_of_ble_eq_true rfl) rfl dX2_drawn_5 ?_
  refine E_bipush (v := 11) dX2_drawn_8 (by decide) ?_
  refine E_ishr dX2_drawn_10 ?_
  exact E_iretE rfl dX2_drawn_11 rfl rfl

def f_X7_write (σ : rS) (p1 : Int32) : Option (Int32 × rS) := if (rI σ 31 1) < 40 then (if inB (rI σ 31 1) 40 then (oLet (wI σ 32 (rI σ 31 1 : Int32).toNatClampNeg p1) fun σ2 => oLet (wI σ2 31 1 ((rI σ2 31 1) + 1)) fun σ3 => some ((1, σ3))) else none) else (some ((0, σ)))
set_option maxRecDepth 20000 in
set_option maxHeartbeats 2000000 in
theorem ok_X7_write {σ : rS} {p1 : Int32}   : rFn Sy yX7_write mX7_write 0 [.ref 31, .int p1] σ 0 0 (fun v => .inl (some (.int v))) (f_X7_write σ p1) := by
  refine rF_of (ls := [some (.ref 31), some (.int p1)]) yfX7_write rfl (Nat.le_of_ble_eq_true rfl) (fun o τ => ?_)
  unfold f_X7_write
  refine P_l (fun hJ _ _ q => E_aload_n dX7_write_0 rfl (E_getI clX7 1 (by decide) flX7_21 (Or.inl rfl) dX7_write_1 (kd31 hJ.1.1) (E_bipush (v := 40) dX7_write_4 (by decide) q))) ?_
  refine P_if (fun hJ _ _ h1 h2 => E_icmp_lt 11 dX7_write_6 (by decide) h1 h2) ?_ ?_
  · skip
    refine P_l (fun hJ _ _ q => E_aload_n dX7_write_11 rfl (E_getR (b := 32) clX7 0 (by decide) flX7_11 (Or.inr ⟨_, rfl⟩) dX7_write_12 (kd31 hJ.1.1) (rf31_0 hJ.1.1) (by decide) (E_aload_n dX7_write_15 rfl (E_getI clX7 1 (by decide) flX7_21 (Or.inl rfl) dX7_write_16 (kd31 hJ.1.1) (E_iload_n dX7_write_19 rfl q))))) ?_
    refine P_g (fun g1 => ?_)
    refine P_w (fun hJ _ _ q => E_iast dX7_write_20 (kd32 hJ.1.1) (by decide) (inB_vp g1) q) (fun hJ => Sy_wI hJ.1) rfl rfl rfl (fun σ2 hσ2 => ?_)
    refine P_l (fun hJ _ _ q => E_aload_n dX7_write_21 rfl (E_dup dX7_write_22 rfl (E_getI clX7 1 (by decide) flX7_21 (Or.inl rfl) dX7_write_23 (kd31 hJ.1.1) (E_iconst (v := 1) dX7_write_26 (by decide) (E_iadd dX7_write_27 q))))) ?_
    refine P_w (fun hJ _ _ q => E_putI clX7 1 (by decide) flX7_21 (Or.inl rfl) rfl dX7_write_28 (kd31 hJ.1.1) q) (fun hJ => Sy_wI hJ.1) rfl rfl rfl (fun σ3 hσ3 => ?_)
    refine P_l (fun hJ _ _ q => E_iconst (v := 1) dX7_write_31 (by decide) q) ?_
    exact P_ret (fun _ _ => E_zret01 rfl (by decide) dX7_write_32)
  · skip
    refine P_l (fun hJ _ _ q => E_iconst (v := 0) dX7_write_9 (by decide) q) ?_
    exact P_ret (fun _ _ => E_zret01 rfl (by decide) dX7_write_10)

def f_X7_sortOf (σ : rS) (p1 : Int32) : Option Int32 := if p1 = 101 then (some 5) else (if p1 = 102 then (some ((-1))) else (if p1 = 103 then (some ((-1))) else (if p1 = 104 then (some ((-1))) else (if p1 = 105 then (some ((-1))) else (if p1 = 106 then (some 2) else (if p1 = 107 then (some ((-1))) else (if p1 = 108 then (some 1) else (if p1 = 109 then (some ((-1))) else (if p1 = 110 then (some ((-1))) else (if p1 = 111 then (some ((-1))) else (if p1 = 112 then (some ((-1))) else (if p1 = 113 then (some ((-1))) else (if p1 = 114 then (some ((-1))) else (if p1 = 115 then (some 3) else (if p1 = 116 then (some 4) else (if p1 = 117 then (some ((-1))) else (if p1 = 118 then (some ((-1))) else (if p1 = 119 then (some 6) else (some ((-1)))))))))))))))))))))
set_option maxRecDepth 20000 in
set_option maxHeartbeats 2000000 in
theorem ok_X7_sortOf {σ : rS} {p1 : Int32}   : rFr Sy yX7_sortOf mX7_sortOf 0 [.int p1] σ (fun v => some (.int v)) (f_X7_sortOf σ p1) := by
  refine rFr_of (ls := [some (.int p1)]) yfX7_sortOf rfl (Nat.le_of_ble_eq_true rfl) (fun o τ => ?_)
  unfold f_X7_sortOf
  refine P_l (fun hJ _ _ q => E_iload_n dX7_sortOf_0 rfl q) ?_
  refine P_case (fun h1 => ?_) (fun h1 => ?_)
  · skip
    refine P_l (fun hJ _ _ q => E_tableIn (off := 99) 100 dX7_sortOf_1 (by rw [h1]; decide) (by rw [h1]; decide) (by rw [h1]; rfl) (by decide) q) ?_
    refine P_l (fun hJ _ _ q => E_iconst (v := 5) dX7_sortOf_100 (by decide) q) ?_
    exact P_retr (fun _ _ => E_iret rfl dX7_sortOf_101)
  · skip
    refine P_case (fun h2 => ?_) (fun h2 => ?_)
    · skip
      refine P_l (fun hJ _ _ q => E_tableIn (off := 104) 105 dX7_sortOf_1 (by rw [h2]; decide) (by rw [h2]; decide) (by rw [h2]; rfl) (by decide) q) ?_
      refine P_l (fun hJ _ _ q => E_iconst (v := (-1)) dX7_sortOf_105 (by decide) q) ?_
      exact P_retr (fun _ _ => E_iret rfl dX7_sortOf_106)
    · skip
      refine P_case (fun h3 => ?_) (fun h3 => ?_)
      · skip
        refine P_l (fun hJ _ _ q => E_tableIn (off := 104) 105 dX7_sortOf_1 (by rw [h3]; decide) (by rw [h3]; decide) (by rw [h3]; rfl) (by decide) q) ?_
        refine P_l (fun hJ _ _ q => E_iconst (v := (-1)) dX7_sortOf_105 (by decide) q) ?_
        exact P_retr (fun _ _ => E_iret rfl dX7_sortOf_106)
      · skip
        refine P_case (fun h4 => ?_) (fun h4 => ?_)
        · skip
          refine P_l (fun hJ _ _ q => E_tableIn (off := 104) 105 dX7_sortOf_1 (by rw [h4]; decide) (by rw [h4]; decide) (by rw [h4]; rfl) (by decide) q) ?_
          refine P_l (fun hJ _ _ q => E_iconst (v := (-1)) dX7_sortOf_105 (by decide) q) ?_
          exact P_retr (fun _ _ => E_iret rfl dX7_sortOf_106)
        · skip
          refine P_case (fun h5 => ?_) (fun h5 => ?_)
          · skip
            refine P_l (fun hJ _ _ q => E_tableIn (off := 104) 105 dX7_sortOf_1 (by rw [h5]; decide) (by rw [h5]; decide) (by rw [h5]; rfl) (by decide) q) ?_
            refine P_l (fun hJ _ _ q => E_iconst (v := (-1)) dX7_sortOf_105 (by decide) q) ?_
            exact P_retr (fun _ _ => E_iret rfl dX7_sortOf_106)
          · skip
            refine P_case (fun h6 => ?_) (fun h6 => ?_)
            · skip
              refine P_l (fun hJ _ _ q => E_tableIn (off := 93) 94 dX7_sortOf_1 (by rw [h6]; decide) (by rw [h6]; decide) (by rw [h6]; rfl) (by decide) q) ?_
              refine P_l (fun hJ _ _ q => E_iconst (v := 2) dX7_sortOf_94 (by decide) q) ?_
              exact P_retr (fun _ _ => E_iret rfl dX7_sortOf_95)
            · skip
              refine P_case (fun h7 => ?_) (fun h7 => ?_)
              · skip
                refine P_l (fun hJ _ _ q => E_tableIn (off := 104) 105 dX7_sortOf_1 (by rw [h7]; decide) (by rw [h7]; decide) (by rw [h7]; rfl) (by decide) q) ?_
                refine P_l (fun hJ _ _ q => E_iconst (v := (-1)) dX7_sortOf_105 (by decide) q) ?_
                exact P_retr (fun _ _ => E_iret rfl dX7_sortOf_106)
              · skip
                refine P_case (fun h8 => ?_) (fun h8 => ?_)
                · skip
                  refine P_l (fun hJ _ _ q => E_tableIn (off := 91) 92 dX7_sortOf_1 (by rw [h8]; decide) (by rw [h8]; decide) (by rw [h8]; rfl) (by decide) q) ?_
                  refine P_l (fun hJ _ _ q => E_iconst (v := 1) dX7_sortOf_92 (by decide) q) ?_
                  exact P_retr (fun _ _ => E_iret rfl dX7_sortOf_93)
                · skip
                  refine P_case (fun h9 => ?_) (fun h9 => ?_)
                  · skip
                    refine P_l (fun hJ _ _ q => E_tableIn (off := 104) 105 dX7_sortOf_1 (by rw [h9]; decide) (by rw [h9]; decide) (by rw [h9]; rfl) (by decide) q) ?_
                    refine P_l (fun hJ _ _ q => E_iconst (v := (-1)) dX7_sortOf_105 (by decide) q) ?_
                    exact P_retr (fun _ _ => E_iret rfl dX7_sortOf_106)
                  · skip
                    refine P_case (fun h10 => ?_) (fun h10 => ?_)
                    · skip
                      refine P_l (fun hJ _ _ q => E_tableIn (off := 104) 105 dX7_sortOf_1 (by rw [h10]; decide) (by rw [h10]; decide) (by rw [h10]; rfl) (by decide) q) ?_
                      refine P_l (fun hJ _ _ q => E_iconst (v := (-1)) dX7_sortOf_105 (by decide) q) ?_
                      exact P_retr (fun _ _ => E_iret rfl dX7_sortOf_106)
                    · skip
                      refine P_case (fun h11 => ?_) (fun h11 => ?_)
                      · skip
                        refine P_l (fun hJ _ _ q => E_tableIn (off := 104) 105 dX7_sortOf_1 (by rw [h11]; decide) (by rw [h11]; decide) (by rw [h11]; rfl) (by decide) q) ?_
                        refine P_l (fun hJ _ _ q => E_iconst (v := (-1)) dX7_sortOf_105 (by decide) q) ?_
                        exact P_retr (fun _ _ => E_iret rfl dX7_sortOf_106)
                      · skip
                        refine P_case (fun h12 => ?_) (fun h12 => ?_)
                        · skip
                          refine P_l (fun hJ _ _ q => E_tableIn (off := 104) 105 dX7_sortOf_1 (by rw [h12]; decide) (by rw [h12]; decide) (by rw [h12]; rfl) (by decide) q) ?_
                          refine P_l (fun hJ _ _ q => E_iconst (v := (-1)) dX7_sortOf_105 (by decide) q) ?_
                          exact P_retr (fun _ _ => E_iret rfl dX7_sortOf_106)
                        · skip
                          refine P_case (fun h13 => ?_) (fun h13 => ?_)
                          · skip
                            refine P_l (fun hJ _ _ q => E_tableIn (off := 104) 105 dX7_sortOf_1 (by rw [h13]; decide) (by rw [h13]; decide) (by rw [h13]; rfl) (by decide) q) ?_
                            refine P_l (fun hJ _ _ q => E_iconst (v := (-1)) dX7_sortOf_105 (by decide) q) ?_
                            exact P_retr (fun _ _ => E_iret rfl dX7_sortOf_106)
                          · skip
                            refine P_case (fun h14 => ?_) (fun h14 => ?_)
                            · skip
                              refine P_l (fun hJ _ _ q => E_tableIn (off := 104) 105 dX7_sortOf_1 (by rw [h14]; decide) (by rw [h14]; decide) (by rw [h14]; rfl) (by decide) q) ?_
                              refine P_l (fun hJ _ _ q => E_iconst (v := (-1)) dX7_sortOf_105 (by decide) q) ?_
                              exact P_retr (fun _ _ => E_iret rfl dX7_sortOf_106)
                            · skip
                              refine P_case (fun h15 => ?_) (fun h15 => ?_)
                              · skip
                                refine P_l (fun hJ _ _ q => E_tableIn (off := 95) 96 dX7_sortOf_1 (by rw [h15]; decide) (by rw [h15]; decide) (by rw [h15]; rfl) (by decide) q) ?_
                                refine P_l (fun hJ _ _ q => E_iconst (v := 3) dX7_sortOf_96 (by decide) q) ?_
                                exact P_retr (fun _ _ => E_iret rfl dX7_sortOf_97)
                              · skip
                                refine P_case (fun h16 => ?_) (fun h16 => ?_)
                                · skip
                                  refine P_l (fun hJ _ _ q => E_tableIn (off := 97) 98 dX7_sortOf_1 (by rw [h16]; decide) (by rw [h16]; decide) (by rw [h16]; rfl) (by decide) q) ?_
                                  refine P_l (fun hJ _ _ q => E_iconst (v := 4) dX7_sortOf_98 (by decide) q) ?_
                                  exact P_retr (fun _ _ => E_iret rfl dX7_sortOf_99)
                                · skip
                                  refine P_case (fun h17 => ?_) (fun h17 => ?_)
                                  · skip
                                    refine P_l (fun hJ _ _ q => E_tableIn (off := 104) 105 dX7_sortOf_1 (by rw [h17]; decide) (by rw [h17]; decide) (by rw [h17]; rfl) (by decide) q) ?_
                                    refine P_l (fun hJ _ _ q => E_iconst (v := (-1)) dX7_sortOf_105 (by decide) q) ?_
                                    exact P_retr (fun _ _ => E_iret rfl dX7_sortOf_106)
                                  · skip
                                    refine P_case (fun h18 => ?_) (fun h18 => ?_)
                                    · skip
                                      refine P_l (fun hJ _ _ q => E_tableIn (off := 104) 105 dX7_sortOf_1 (by rw [h18]; decide) (by rw [h18]; decide) (by rw [h18]; rfl) (by decide) q) ?_
                                      refine P_l (fun hJ _ _ q => E_iconst (v := (-1)) dX7_sortOf_105 (by decide) q) ?_
                                      exact P_retr (fun _ _ => E_iret rfl dX7_sortOf_106)
                                    · skip
                                      refine P_case (fun h19 => ?_) (fun h19 => ?_)
                                      · skip
                                        refine P_l (fun hJ _ _ q => E_tableIn (off := 101) 102 dX7_sortOf_1 (by rw [h19]; decide) (by rw [h19]; decide) (by rw [h19]; rfl) (by decide) q) ?_
                                        refine P_l (fun hJ _ _ q => E_bipush (v := 6) dX7_sortOf_102 (by decide) q) ?_
                                        exact P_retr (fun _ _ => E_iret rfl dX7_sortOf_104)
                                      · skip
                                        refine P_l (fun hJ _ _ q => E_tableOut 105 dX7_sortOf_1 (by have e0 := sw_ne h1; have e1 := sw_ne h2; have e2 := sw_ne h3; have e3 := sw_ne h4; have e4 := sw_ne h5; have e5 := sw_ne h6; have e6 := sw_ne h7; have e7 := sw_ne h8; have e8 := sw_ne h9; have e9 := sw_ne h10; have e10 := sw_ne h11; have e11 := sw_ne h12; have e12 := sw_ne h13; have e13 := sw_ne h14; have e14 := sw_ne h15; have e15 := sw_ne h16; have e16 := sw_ne h17; have e17 := sw_ne h18; have e18 := sw_ne h19; simp only [sw_l101, sw_l102, sw_l103, sw_l104, sw_l105, sw_l106, sw_l107, sw_l108, sw_l109, sw_l110, sw_l111, sw_l112, sw_l113, sw_l114, sw_l115, sw_l116, sw_l117, sw_l118, sw_l119] at *; omega) (by decide) q) ?_
                                        refine P_l (fun hJ _ _ q => E_iconst (v := (-1)) dX7_sortOf_105 (by decide) q) ?_
                                        exact P_retr (fun _ _ => E_iret rfl dX7_sortOf_106)

def v_X7_isDigit (σ : rS) (p1 : Int32) : Int32 := if (rI σ 31 1) ≤ p1 then 0 else (if (vIn (vAt (rI σ 32) 40 p1) 48 57) = 0 then 0 else 1)
set_option maxRecDepth 20000 in
theorem ok_X7_isDigit {σ : rS} {p1 : Int32}  (hJ : J Sy σ)  : rMet yX7_isDigit mX7_isDigit 1 [.ref 31, .int p1] σ 0 0 (some (.int (v_X7_isDigit σ p1))) σ := by
  refine rMet_of (ls := [some (.ref 31), some (.int p1)]) yfX7_isDigit rfl (Nat.le_of_ble_eq_true rfl) ?_
  refine E_iload_n dX7_isDigit_0 rfl ?_
  refine E_aload_n dX7_isDigit_1 rfl ?_
  refine E_getI clX7 1 (by decide) flX7_21 (Or.inl rfl) dX7_isDigit_2 (kd31 hJ.1.1) ?_
  refine E_icmp_ge 30 dX7_isDigit_5 (by decide) (fun c_5_0 => ?_) (fun c_5_0 => ?_)
  · skip
    refine E_iconst (v := 0) dX7_isDigit_30 (by decide) ?_
    exact E_zretE rfl dX7_isDigit_31 (by decide) (by unfold v_X7_isDigit; simp only [if_pos c_5_0]) rfl
  · skip
    refine E_aload_n dX7_isDigit_8 rfl ?_
    refine E_getR (b := 32) clX7 0 (by decide) flX7_11 (Or.inr ⟨_, rfl⟩) dX7_isDigit_9 (kd31 hJ.1.1) (rf31_0 hJ.1.1) (by decide) ?_
    refine E_iload_n dX7_isDigit_12 rfl ?_
    refine E_callSN (as := [.ref 32, .int p1]) (st := []) (ok_at (σ := σ) (a := 32) (i := p1) (f := rI σ 32) (kd32 hJ.1.1) (by decide) rfl) (by decide) yfX10_at mlX7_28 stX10_at rfl (Nat.le_of_ble_eq_true rfl) rfl dX7_isDigit_13 ?_
    refine E_bipush (v := 48) dX7_isDigit_16 (by decide) ?_
    refine E_bipush (v := 57) dX7_isDigit_18 (by decide) ?_
    refine E_callSN (as := [.int (vAt (rI σ 32) 40 p1), .int 48, .int 57]) (st := []) (ok_within (σ := σ) (v := vAt (rI σ 32) 40 p1) (a := 48) (b := 57)) (by decide) yfX10_within mlX7_53 stX10_within rfl (Nat.le_of_ble_eq_true rfl) rfl dX7_isDigit_20 ?_
    refine E_if_eq 30 dX7_isDigit_23 (by decide) (fun c_23_1 => ?_) (fun c_23_1 => ?_)
    · skip
      refine E_iconst (v := 0) dX7_isDigit_30 (by decide) ?_
      exact E_zretE rfl dX7_isDigit_31 (by decide) (by unfold v_X7_isDigit; simp only [if_neg c_5_0, if_pos c_23_1]) rfl
    · skip
      refine E_iconst (v := 1) dX7_isDigit_26 (by decide) ?_
      refine E_goto 31 dX7_isDigit_27 (by decide) ?_
      exact E_zretE rfl dX7_isDigit_31 (by decide) (by unfold v_X7_isDigit; simp only [if_neg c_5_0, if_neg c_23_1]) rfl
theorem z_X7_isDigit (σ : rS) (p1 : Int32) : v_X7_isDigit σ p1 = 0 ∨ v_X7_isDigit σ p1 = 1 := by
  unfold v_X7_isDigit
  (repeat' split) <;> first | decide | exact vIn_01 _ _ _ | exact vBit_01 _ _ | exact vIn_01 _ _ _

def v_X7_digits (σ : rS) (p1 : Int32) : Int32 := if (v_X7_isDigit σ p1) = 0 then 1 else (if (v_X7_isDigit σ (p1 + 1)) = 0 then 1 else 2)
set_option maxRecDepth 20000 in
theorem ok_X7_digits {σ : rS} {p1 : Int32}  (hJ : J Sy σ)  : rMet yX7_digits mX7_digits 2 [.ref 31, .int p1] σ 0 0 (some (.int (v_X7_digits σ p1))) σ := by
  refine rMet_of (ls := [some (.ref 31), some (.int p1)]) yfX7_digits rfl (Nat.le_of_ble_eq_true rfl) ?_
  refine E_aload_n dX7_digits_0 rfl ?_
  refine E_iload_n dX7_digits_1 rfl ?_
  refine E_callV (as := [.int p1]) (b := 31) (st := []) (ok_X7_isDigit (σ := σ) (p1 := p1) hJ ) (by decide) yfX7_isDigit mlX7_57 imX7_isDigit seX7_isDigit clX7 (kd31 hJ.1.1) rfl (Nat.le_of_ble_eq_true rfl) rfl dX7_digits_2 ?_
  refine E_if_eq 22 dX7_digits_5 (by decide) (fun c_5_0 => ?_) (fun c_5_0 => ?_)
  · skip
    refine E_iconst (v := 1) dX7_digits_22 (by decide) ?_
    exact E_iretE rfl dX7_digits_23 (by unfold v_X7_digits; simp only [if_pos c_5_0]) rfl
  · skip
    refine E_aload_n dX7_digits_8 rfl ?_
    refine E_iload_n dX7_digits_9 rfl ?_
    refine E_iconst (v := 1) dX7_digits_10 (by decide) ?_
    refine E_iadd dX7_digits_11 ?_
    refine E_callV (as := [.int (p1 + 1)]) (b := 31) (st := []) (ok_X7_isDigit (σ := σ) (p1 := p1 + 1) hJ ) (by decide) yfX7_isDigit mlX7_57 imX7_isDigit seX7_isDigit clX7 (kd31 hJ.1.1) rfl (Nat.le_of_ble_eq_true rfl) rfl dX7_digits_12 ?_
    refine E_if_eq 22 dX7_digits_15 (by decide) (fun c_15_1 => ?_) (fun c_15_1 => ?_)
    · skip
      refine E_iconst (v := 1) dX7_digits_22 (by decide) ?_
      exact E_iretE rfl dX7_digits_23 (by unfold v_X7_digits; simp only [if_neg c_5_0, if_pos c_15_1]) rfl
    · skip
      refine E_iconst (v := 2) dX7_digits_18 (by decide) ?_
      refine E_goto 23 dX7_digits_19 (by decide) ?_
      exact E_iretE rfl dX7_digits_23 (by unfold v_X7_digits; simp only [if_neg c_5_0, if_neg c_15_1]) rfl

def v_X7_kindAt (σ : rS) (p1 : Int32) (p2 : Int32) : Int32 := if (vIn ((vAt (rI σ 32) 40 p1) - 97) 0 3) = 0 then ((-1)) else (if (v_X7_isDigit σ (p1 + 1)) = 0 then ((-1)) else (if (vAt (rI σ 32) 40 (p1 + 1)) = 48 then ((-1)) else (if p2 = 2 then (if 13 < (((10 * ((vAt (rI σ 32) 40 (p1 + 1)) - 48)) + (vAt (rI σ 32) 40 (p1 + 2))) - 48) then ((-1)) else (((13 * ((vAt (rI σ 32) 40 p1) - 97)) + (((10 * ((vAt (rI σ 32) 40 (p1 + 1)) - 48)) + (vAt (rI σ 32) 40 (p1 + 2))) - 48)) - 1)) else (if 13 < ((vAt (rI σ 32) 40 (p1 + 1)) - 48) then ((-1)) else (((13 * ((vAt (rI σ 32) 40 p1) - 97)) + ((vAt (rI σ 32) 40 (p1 + 1)) - 48)) - 1)))))
set_option maxRecDepth 20000 in
theorem ok_X7_kindAt {σ : rS} {p1 : Int32} {p2 : Int32}  (hJ : J Sy σ)  : rMet yX7_kindAt mX7_kindAt 2 [.ref 31, .int p1, .int p2] σ 0 0 (some (.int (v_X7_kindAt σ p1 p2))) σ := by
  refine rMet_of (ls := [some (.ref 31), some (.int p1), some (.int p2), none, none]) yfX7_kindAt rfl (Nat.le_of_ble_eq_true rfl) ?_
  refine E_aload_n dX7_kindAt_0 rfl ?_
  refine E_getR (b := 32) clX7 0 (by decide) flX7_11 (Or.inr ⟨_, rfl⟩) dX7_kindAt_1 (kd31 hJ.1.1) (rf31_0 hJ.1.1) (by decide) ?_
  refine E_iload_n dX7_kindAt_4 rfl ?_
  refine E_callSN (as := [.ref 32, .int p1]) (st := []) (ok_at (σ := σ) (a := 32) (i := p1) (f := rI σ 32) (kd32 hJ.1.1) (by decide) rfl) (by decide) yfX10_at mlX7_28 stX10_at rfl (Nat.le_of_ble_eq_true rfl) rfl dX7_kindAt_5 ?_
  refine E_bipush (v := 97) dX7_kindAt_8 (by decide) ?_
  refine E_isub dX7_kindAt_10 ?_
  refine E_istore_n (ls2 := [some (.ref 31), some (.int p1), some (.int p2), some (.int ((vAt (rI σ 32) 40 p1) - 97)), none]) dX7_kindAt_11 (by decide) rfl ?_
  refine E_iload_n dX7_kindAt_12 rfl ?_
  refine E_iconst (v := 0) dX7_kindAt_13 (by decide) ?_
  refine E_iconst (v := 3) dX7_kindAt_14 (by decide) ?_
  refine E_callSN (as := [.int ((vAt (rI σ 32) 40 p1) - 97), .int 0, .int 3]) (st := []) (ok_within (σ := σ) (v := (vAt (rI σ 32) 40 p1) - 97) (a := 0) (b := 3)) (by decide) yfX10_within mlX7_53 stX10_within rfl (Nat.le_of_ble_eq_true rfl) rfl dX7_kindAt_15 ?_
  refine E_if_eq 46 dX7_kindAt_18 (by decide) (fun c_18_0 => ?_) (fun c_18_0 => ?_)
  · skip
    refine E_iconst (v := (-1)) dX7_kindAt_46 (by decide) ?_
    exact E_iretE rfl dX7_kindAt_47 (by unfold v_X7_kindAt; simp only [if_pos c_18_0]) rfl
  · skip
    refine E_aload_n dX7_kindAt_21 rfl ?_
    refine E_iload_n dX7_kindAt_22 rfl ?_
    refine E_iconst (v := 1) dX7_kindAt_23 (by decide) ?_
    refine E_iadd dX7_kindAt_24 ?_
    refine E_callV (as := [.int (p1 + 1)]) (b := 31) (st := []) (ok_X7_isDigit (σ := σ) (p1 := p1 + 1) hJ ) (by decide) yfX7_isDigit mlX7_57 imX7_isDigit seX7_isDigit clX7 (kd31 hJ.1.1) rfl (Nat.le_of_ble_eq_true rfl) rfl dX7_kindAt_25 ?_
    refine E_if_eq 46 dX7_kindAt_28 (by decide) (fun c_28_1 => ?_) (fun c_28_1 => ?_)
    · skip
      refine E_iconst (v := (-1)) dX7_kindAt_46 (by decide) ?_
      exact E_iretE rfl dX7_kindAt_47 (by unfold v_X7_kindAt; simp only [if_neg c_18_0, if_pos c_28_1]) rfl
    · skip
      refine E_aload_n dX7_kindAt_31 rfl ?_
      refine E_getR (b := 32) clX7 0 (by decide) flX7_11 (Or.inr ⟨_, rfl⟩) dX7_kindAt_32 (kd31 hJ.1.1) (rf31_0 hJ.1.1) (by decide) ?_
      refine E_iload_n dX7_kindAt_35 rfl ?_
      refine E_iconst (v := 1) dX7_kindAt_36 (by decide) ?_
      refine E_iadd dX7_kindAt_37 ?_
      refine E_callSN (as := [.ref 32, .int (p1 + 1)]) (st := []) (ok_at (σ := σ) (a := 32) (i := p1 + 1) (f := rI σ 32) (kd32 hJ.1.1) (by decide) rfl) (by decide) yfX10_at mlX7_28 stX10_at rfl (Nat.le_of_ble_eq_true rfl) rfl dX7_kindAt_38 ?_
      refine E_bipush (v := 48) dX7_kindAt_41 (by decide) ?_
      refine E_icmp_ne 48 dX7_kindAt_43 (by decide) (fun c_43_2 => ?_) (fun c_43_2 => ?_)
      · skip
        refine E_aload_n dX7_kindAt_48 rfl ?_
        refine E_getR (b := 32) clX7 0 (by decide) flX7_11 (Or.inr ⟨_, rfl⟩) dX7_kindAt_49 (kd31 hJ.1.1) (rf31_0 hJ.1.1) (by decide) ?_
        refine E_iload_n dX7_kindAt_52 rfl ?_
        refine E_iconst (v := 1) dX7_kindAt_53 (by decide) ?_
        refine E_iadd dX7_kindAt_54 ?_
        refine E_callSN (as := [.ref 32, .int (p1 + 1)]) (st := []) (ok_at (σ := σ) (a := 32) (i := p1 + 1) (f := rI σ 32) (kd32 hJ.1.1) (by decide) rfl) (by decide) yfX10_at mlX7_28 stX10_at rfl (Nat.le_of_ble_eq_true rfl) rfl dX7_kindAt_55 ?_
        refine E_bipush (v := 48) dX7_kindAt_58 (by decide) ?_
        refine E_isub dX7_kindAt_60 ?_
        refine E_istore (ls2 := [some (.ref 31), some (.int p1), some (.int p2), some (.int ((vAt (rI σ 32) 40 p1) - 97)), some (.int ((vAt (rI σ 32) 40 (p1 + 1)) - 48))]) dX7_kindAt_61 (by decide) rfl ?_
        refine E_iload_n dX7_kindAt_63 rfl ?_
        refine E_iconst (v := 2) dX7_kindAt_64 (by decide) ?_
        refine E_icmp_ne 89 dX7_kindAt_65 (by decide) (fun c_65_3 => ?_) (fun c_65_3 => ?_)
        · skip
          refine E_iload dX7_kindAt_89 rfl ?_
          refine E_bipush (v := 13) dX7_kindAt_91 (by decide) ?_
          refine E_icmp_gt 108 dX7_kindAt_93 (by decide) (fun c_93_4 => ?_) (fun c_93_4 => ?_)
          · skip
            refine E_iconst (v := (-1)) dX7_kindAt_108 (by decide) ?_
            exact E_iretE rfl dX7_kindAt_109 (by unfold v_X7_kindAt; simp only [if_neg c_18_0, if_neg c_28_1, if_neg c_43_2, if_neg c_65_3, if_pos c_93_4]) rfl
          · skip
            refine E_bipush (v := 13) dX7_kindAt_96 (by decide) ?_
            refine E_iload_n dX7_kindAt_98 rfl ?_
            refine E_imul dX7_kindAt_99 ?_
            refine E_iload dX7_kindAt_100 rfl ?_
            refine E_iadd dX7_kindAt_102 ?_
            refine E_iconst (v := 1) dX7_kindAt_103 (by decide) ?_
            refine E_isub dX7_kindAt_104 ?_
            refine E_goto 109 dX7_kindAt_105 (by decide) ?_
            exact E_iretE rfl dX7_kindAt_109 (by unfold v_X7_kindAt; simp only [if_neg c_18_0, if_neg c_28_1, if_neg c_43_2, if_neg c_65_3, if_neg c_93_4]) rfl
        · skip
          refine E_bipush (v := 10) dX7_kindAt_68 (by decide) ?_
          refine E_iload dX7_kindAt_70 rfl ?_
          refine E_imul dX7_kindAt_72 ?_
          refine E_aload_n dX7_kindAt_73 rfl ?_
          refine E_getR (b := 32) clX7 0 (by decide) flX7_11 (Or.inr ⟨_, rfl⟩) dX7_kindAt_74 (kd31 hJ.1.1) (rf31_0 hJ.1.1) (by decide) ?_
          refine E_iload_n dX7_kindAt_77 rfl ?_
          refine E_iconst (v := 2) dX7_kindAt_78 (by decide) ?_
          refine E_iadd dX7_kindAt_79 ?_
          refine E_callSN (as := [.ref 32, .int (p1 + 2)]) (st := [.int (10 * ((vAt (rI σ 32) 40 (p1 + 1)) - 48))]) (ok_at (σ := σ) (a := 32) (i := p1 + 2) (f := rI σ 32) (kd32 hJ.1.1) (by decide) rfl) (by decide) yfX10_at mlX7_28 stX10_at rfl (Nat.le_of_ble_eq_true rfl) rfl dX7_kindAt_80 ?_
          refine E_iadd dX7_kindAt_83 ?_
          refine E_bipush (v := 48) dX7_kindAt_84 (by decide) ?_
          refine E_isub dX7_kindAt_86 ?_
          refine E_istore (ls2 := [some (.ref 31), some (.int p1), some (.int p2), some (.int ((vAt (rI σ 32) 40 p1) - 97)), some (.int (((10 * ((vAt (rI σ 32) 40 (p1 + 1)) - 48)) + (vAt (rI σ 32) 40 (p1 + 2))) - 48))]) dX7_kindAt_87 (by decide) rfl ?_
          refine E_iload dX7_kindAt_89 rfl ?_
          refine E_bipush (v := 13) dX7_kindAt_91 (by decide) ?_
          refine E_icmp_gt 108 dX7_kindAt_93 (by decide) (fun c_93_4 => ?_) (fun c_93_4 => ?_)
          · skip
            refine E_iconst (v := (-1)) dX7_kindAt_108 (by decide) ?_
            exact E_iretE rfl dX7_kindAt_109 (by unfold v_X7_kindAt; simp only [if_neg c_18_0, if_neg c_28_1, if_neg c_43_2, if_pos c_65_3, if_pos c_93_4]) rfl
          · skip
            refine E_bipush (v := 13) dX7_kindAt_96 (by decide) ?_
            refine E_iload_n dX7_kindAt_98 rfl ?_
            refine E_imul dX7_kindAt_99 ?_
            refine E_iload dX7_kindAt_100 rfl ?_
            refine E_iadd dX7_kindAt_102 ?_
            refine E_iconst (v := 1) dX7_kindAt_103 (by decide) ?_
            refine E_isub dX7_kindAt_104 ?_
            refine E_goto 109 dX7_kindAt_105 (by decide) ?_
            exact E_iretE rfl dX7_kindAt_109 (by unfold v_X7_kindAt; simp only [if_neg c_18_0, if_neg c_28_1, if_neg c_43_2, if_pos c_65_3, if_neg c_93_4]) rfl
      · skip
        refine E_iconst (v := (-1)) dX7_kindAt_46 (by decide) ?_
        exact E_iretE rfl dX7_kindAt_47 (by unfold v_X7_kindAt; simp only [if_neg c_18_0, if_neg c_28_1, if_pos c_43_2]) rfl

def b_X7_read_7 (s2 : Int32 × rS) : Option ((Int32 × rS) ⊕ (Int32 × rS)) := if (rI s2.2 31 1) ≤ s2.1 then (if (rI s2.2 31 4) ≤ 0 then (some (.inl ((0, s2.2)))) else (some (.inl ((1, s2.2))))) else ((f_X7_sortOf s2.2 (vAt (rI s2.2 32) 40 s2.1)).bind fun v3 => oLet ((if v3 ≤ 3 then (2 + (v_X7_digits s2.2 (s2.1 + 2))) else 1 : Int32) : Int32) fun x4 => if (if v3 = ((-1)) then true else (if (s2.1 + x4) ≤ (rI s2.2 31 1) then false else true)) = true then (some (.inl ((0, s2.2)))) else (oLet ((if v3 ≤ 3 then (v_X7_kindAt s2.2 (s2.1 + 1) (x4 - 2)) else ((-1)) : Int32) : Int32) fun x5 => if (if 3 < v3 then true else (if (v_X5_isKind s2.2 x5) = 0 then false else true)) = true then (oLet (rowI s2.2 33 (vSet (rI s2.2 33) 40 (rI s2.2 31 4) v3)) fun σ6 => oLet (rowI σ6 34 (vSet (rI σ6 34) 40 (rI σ6 31 4) x5)) fun σ7 => oLet (wI σ7 31 4 ((rI σ7 31 4) + 1)) fun σ8 => some (.inr ((s2.1 + x4, σ8)))) else (some (.inl ((0, s2.2))))))
def f_X7_read (σ : rS) : Option (Int32 × rS) := oLet (wI σ 31 4 0) fun σ1 => oLoop (b_X7_read_7) oFuel ((0, σ1))
set_option maxRecDepth 20000 in
set_option maxHeartbeats 2000000 in
theorem ok_X7_read {σ : rS}   : rFn Sy yX7_read mX7_read 3 [.ref 31, .ref 4] σ 0 0 (fun v => .inl (some (.int v))) (f_X7_read σ) := by
  refine rF_of (ls := [some (.ref 31), some (.ref 4), none, none, none, none]) yfX7_read rfl (Nat.le_of_ble_eq_true rfl) (fun o τ => ?_)
  unfold f_X7_read
  refine P_l (fun hJ _ _ q => E_aload_n dX7_read_0 rfl (E_iconst (v := 0) dX7_read_1 (by decide) q)) ?_
  refine P_w (fun hJ _ _ q => E_putI clX7 4 (by decide) flX7_25 (Or.inl rfl) rfl dX7_read_2 (kd31 hJ.1.1) q) (fun hJ => Sy_wI hJ.1) rfl rfl rfl (fun σ1 hσ1 => ?_)
  refine P_l (fun hJ _ _ q => E_iconst (v := 0) dX7_read_5 (by decide) (E_istore_n (ls2 := [some (.ref 31), some (.ref 4), some (.int 0), none, none, none]) dX7_read_6 (by decide) rfl q)) ?_
  refine P_loop (fun s2 => [some (.ref 31), some (.ref 4), some (.int s2.1), none, none, none]) (fun s2 => s2.2) (fun s2 => ?_) _ ((0, σ1))
  unfold b_X7_read_7
  refine P_l (fun hJ _ _ q => E_iload_n dX7_read_7 rfl (E_aload_n dX7_read_8 rfl (E_getI clX7 1 (by decide) flX7_21 (Or.inl rfl) dX7_read_9 (kd31 hJ.1.1) q))) ?_
  refine P_if (fun hJ _ _ h1 h2 => E_icmp_ge 146 dX7_read_12 (by decide) h1 h2) ?_ ?_
  · skip
    refine P_l (fun hJ _ _ q => E_aload_n dX7_read_146 rfl (E_getI clX7 4 (by decide) flX7_25 (Or.inl rfl) dX7_read_147 (kd31 hJ.1.1) q)) ?_
    refine P_if (fun hJ _ _ h1 h2 => E_if_le 157 dX7_read_150 (by decide) h1 h2) ?_ ?_
    · skip
      refine P_l (fun hJ _ _ q => E_iconst (v := 0) dX7_read_157 (by decide) q) ?_
      exact P_inl (P_ret (fun _ _ => E_zret01 rfl (by decide) dX7_read_158))
    · skip
      refine P_l (fun hJ _ _ q => E_iconst (v := 1) dX7_read_153 (by decide) (E_goto 158 dX7_read_154 (by decide) q)) ?_
      exact P_inl (P_ret (fun _ _ => E_zret01 rfl (by decide) dX7_read_158))
  · skip
    refine P_l (fun hJ _ _ q => E_aload_n dX7_read_15 rfl (E_getR (b := 32) clX7 0 (by decide) flX7_11 (Or.inr ⟨_, rfl⟩) dX7_read_16 (kd31 hJ.1.1) (rf31_0 hJ.1.1) (by decide) (E_iload_n dX7_read_19 rfl (E_callSN (as := [.ref 32, .int s2.1]) (st := []) (ok_at (σ := s2.2) (a := 32) (i := s2.1) (f := rI s2.2 32) (kd32 hJ.1.1) (by decide) rfl) (by decide) yfX10_at mlX7_28 stX10_at rfl (Nat.le_of_ble_eq_true rfl) rfl dX7_read_20 q)))) ?_
    refine P_callr (t := fun v => some (.int v)) (st2 := fun v => .int v :: []) (fun hJ => (ok_X7_sortOf (σ := s2.2) (p1 := vAt (rI s2.2 32) 40 s2.1) )) (fun hJ _ _ v hM q => E_callS (as := [.int (vAt (rI s2.2 32) 40 s2.1)]) (st := []) hM (by decide) yfX7_sortOf mlX7_32 stX7_sortOf rfl (Nat.le_of_ble_eq_true rfl) rfl dX7_read_23 q) (fun v3 => ?_)
    refine P_l (fun hJ _ _ q => E_istore_n (ls2 := [some (.ref 31), some (.ref 4), some (.int s2.1), some (.int v3), none, none]) dX7_read_26 (by decide) rfl (E_iload_n dX7_read_27 rfl (E_iconst (v := 3) dX7_read_28 (by decide) q))) ?_
    refine P_l (pc2 := 45) (ls2 := [some (.ref 31), some (.ref 4), some (.int s2.1), some (.int v3), none, none]) (st2 := [.int ((if v3 ≤ 3 then (2 + (v_X7_digits s2.2 (s2.1 + 2))) else 1 : Int32))]) (fun hJ _ _ hq => ?_) ?_
    · skip
      refine E_icmp_le 36 dX7_read_29 (by decide) (fun c_29_0 => ?_) (fun c_29_0 => ?_)
      · skip
        refine E_iconst (v := 2) dX7_read_36 (by decide) ?_
        refine E_aload_n dX7_read_37 rfl ?_
        refine E_iload_n dX7_read_38 rfl ?_
        refine E_iconst (v := 2) dX7_read_39 (by decide) ?_
        refine E_iadd dX7_read_40 ?_
        refine E_callV (as := [.int (s2.1 + 2)]) (b := 31) (st := [.int 2]) (ok_X7_digits (σ := s2.2) (p1 := s2.1 + 2) hJ ) (by decide) yfX7_digits mlX7_36 imX7_digits seX7_digits clX7 (kd31 hJ.1.1) rfl (Nat.le_of_ble_eq_true rfl) rfl dX7_read_41 ?_
        refine E_iadd dX7_read_44 ?_
        simp only [if_pos c_29_0] at hq
        exact hq
      · skip
        refine E_iconst (v := 1) dX7_read_32 (by decide) ?_
        refine E_goto 45 dX7_read_33 (by decide) ?_
        simp only [if_neg c_29_0] at hq
        exact hq
    · skip
      refine P_l (fun hJ _ _ q => E_istore (ls2 := [some (.ref 31), some (.ref 4), some (.int s2.1), some (.int v3), some (.int ((if v3 ≤ 3 then (2 + (v_X7_digits s2.2 (s2.1 + 2))) else 1 : Int32))), none]) dX7_read_45 (by decide) rfl q) ?_
      refine P_v ((if v3 ≤ 3 then (2 + (v_X7_digits s2.2 (s2.1 + 2))) else 1 : Int32)) (fun x => [some (.ref 31), some (.ref 4), some (.int s2.1), some (.int v3), some (.int x), none]) (fun x4 => ?_)
      refine P_l (fun hJ _ _ q => E_iload_n dX7_read_47 rfl (E_iconst (v := (-1)) dX7_read_48 (by decide) q)) ?_
      refine P_if (c := (if v3 = ((-1)) then true else (if (s2.1 + x4) ≤ (rI s2.2 31 1) then false else true)) = true) (pc1 := 63) (ls1 := [some (.ref 31), some (.ref 4), some (.int s2.1), some (.int v3), some (.int x4), none]) (st1 := []) (pc2 := 65) (ls2 := [some (.ref 31), some (.ref 4), some (.int s2.1), some (.int v3), some (.int x4), none]) (st2 := []) (fun hJ _ _ hX hY => ?_) ?_ ?_
      · skip
        refine E_icmp_eq 63 dX7_read_49 (by decide) (fun c_49_0 => ?_) (fun c_49_0 => ?_)
        · skip
          exact hX (by simp only [if_pos c_49_0])
        · skip
          refine E_iload_n dX7_read_52 rfl ?_
          refine E_iload dX7_read_53 rfl ?_
          refine E_iadd dX7_read_55 ?_
          refine E_aload_n dX7_read_56 rfl ?_
          refine E_getI clX7 1 (by decide) flX7_21 (Or.inl rfl) dX7_read_57 (kd31 hJ.1.1) ?_
          refine E_icmp_le 65 dX7_read_60 (by decide) (fun c_60_1 => ?_) (fun c_60_1 => ?_)
          · skip
            exact hY (by simp only [if_neg c_49_0, if_pos c_60_1]; exact Bool.false_ne_true)
          · skip
            exact hX (by simp only [if_neg c_49_0, if_neg c_60_1])
      · skip
        refine P_l (fun hJ _ _ q => E_iconst (v := 0) dX7_read_63 (by decide) q) ?_
        exact P_inl (P_ret (fun _ _ => E_zret01 rfl (by decide) dX7_read_64))
      · skip
        refine P_l (fun hJ _ _ q => E_iload_n dX7_read_65 rfl (E_iconst (v := 3) dX7_read_66 (by decide) q)) ?_
        refine P_l (pc2 := 85) (ls2 := [some (.ref 31), some (.ref 4), some (.int s2.1), some (.int v3), some (.int x4), none]) (st2 := [.int ((if v3 ≤ 3 then (v_X7_kindAt s2.2 (s2.1 + 1) (x4 - 2)) else ((-1)) : Int32))]) (fun hJ _ _ hq => ?_) ?_
        · skip
          refine E_icmp_le 74 dX7_read_67 (by decide) (fun c_67_0 => ?_) (fun c_67_0 => ?_)
          · skip
            refine E_aload_n dX7_read_74 rfl ?_
            refine E_iload_n dX7_read_75 rfl ?_
            refine E_iconst (v := 1) dX7_read_76 (by decide) ?_
            refine E_iadd dX7_read_77 ?_
            refine E_iload dX7_read_78 rfl ?_
            refine E_iconst (v := 2) dX7_read_80 (by decide) ?_
            refine E_isub dX7_read_81 ?_
            refine E_callV (as := [.int (s2.1 + 1), .int (x4 - 2)]) (b := 31) (st := []) (ok_X7_kindAt (σ := s2.2) (p1 := s2.1 + 1) (p2 := x4 - 2) hJ ) (by decide) yfX7_kindAt mlX7_39 imX7_kindAt seX7_kindAt clX7 (kd31 hJ.1.1) rfl (Nat.le_of_ble_eq_true rfl) rfl dX7_read_82 ?_
            simp only [if_pos c_67_0] at hq
            exact hq
          · skip
            refine E_iconst (v := (-1)) dX7_read_70 (by decide) ?_
            refine E_goto 85 dX7_read_71 (by decide) ?_
            simp only [if_neg c_67_0] at hq
            exact hq
        · skip
          refine P_l (fun hJ _ _ q => E_istore (ls2 := [some (.ref 31), some (.ref 4), some (.int s2.1), some (.int v3), some (.int x4), some (.int ((if v3 ≤ 3 then (v_X7_kindAt s2.2 (s2.1 + 1) (x4 - 2)) else ((-1)) : Int32)))]) dX7_read_85 (by decide) rfl q) ?_
          refine P_v ((if v3 ≤ 3 then (v_X7_kindAt s2.2 (s2.1 + 1) (x4 - 2)) else ((-1)) : Int32)) (fun x => [some (.ref 31), some (.ref 4), some (.int s2.1), some (.int v3), some (.int x4), some (.int x)]) (fun x5 => ?_)
          refine P_l (fun hJ _ _ q => E_iload_n dX7_read_87 rfl (E_iconst (v := 3) dX7_read_88 (by decide) q)) ?_
          refine P_if (c := (if 3 < v3 then true else (if (v_X5_isKind s2.2 x5) = 0 then false else true)) = true) (pc1 := 103) (ls1 := [some (.ref 31), some (.ref 4), some (.int s2.1), some (.int v3), some (.int x4), some (.int x5)]) (st1 := []) (pc2 := 101) (ls2 := [some (.ref 31), some (.ref 4), some (.int s2.1), some (.int v3), some (.int x4), some (.int x5)]) (st2 := []) (fun hJ _ _ hX hY => ?_) ?_ ?_
          · skip
            refine E_icmp_gt 103 dX7_read_89 (by decide) (fun c_89_0 => ?_) (fun c_89_0 => ?_)
            · skip
              exact hX (by simp only [if_pos c_89_0])
            · skip
              refine E_aload_n dX7_read_92 rfl ?_
              refine E_iload dX7_read_93 rfl ?_
              refine E_callVN (as := [.int x5]) (b := 4) (st := []) (ok_X5_isKind (σ := s2.2) (k := x5) hJ ) (by decide) yfX5_isKind mlX7_43 imX5_isKind seX5_isKind clX5 (kd4 hJ.1.1) rfl (Nat.le_of_ble_eq_true rfl) rfl dX7_read_95 ?_
              refine E_if_ne 103 dX7_read_98 (by decide) (fun c_98_1 => ?_) (fun c_98_1 => ?_)
              · skip
                exact hX (by simp only [if_neg c_89_0, if_neg c_98_1])
              · skip
                exact hY (by simp only [if_neg c_89_0, if_pos c_98_1]; exact Bool.false_ne_true)
          · skip
            refine P_l (fun hJ _ _ q => E_aload_n dX7_read_103 rfl (E_getR (b := 33) clX7 2 (by decide) flX7_15 (Or.inr ⟨_, rfl⟩) dX7_read_104 (kd31 hJ.1.1) (rf31_2 hJ.1.1) (by decide) (E_aload_n dX7_read_107 rfl (E_getI clX7 4 (by decide) flX7_25 (Or.inl rfl) dX7_read_108 (kd31 hJ.1.1) (E_iload_n dX7_read_111 rfl q))))) ?_
            refine P_w (fun hJ _ _ q => E_callSN (as := [.ref 33, .int (rI s2.2 31 4), .int v3]) (st := []) (ok_set (σ := s2.2) (a := 33) (i := rI s2.2 31 4) (x := v3) (f := rI s2.2 33) (kd33 hJ.1.1) (by decide) (by decide) rfl) (by decide) yfX10_set mlX7_49 stX10_set rfl (Nat.le_of_ble_eq_true rfl) rfl dX7_read_112 q) (fun hJ => Sy_rowI hJ.1) rfl rfl rfl (fun σ6 hσ6 => ?_)
            refine P_l (fun hJ _ _ q => E_aload_n dX7_read_115 rfl (E_getR (b := 34) clX7 3 (by decide) flX7_18 (Or.inr ⟨_, rfl⟩) dX7_read_116 (kd31 hJ.1.1) (rf31_3 hJ.1.1) (by decide) (E_aload_n dX7_read_119 rfl (E_getI clX7 4 (by decide) flX7_25 (Or.inl rfl) dX7_read_120 (kd31 hJ.1.1) (E_iload dX7_read_123 rfl q))))) ?_
            refine P_w (fun hJ _ _ q => E_callSN (as := [.ref 34, .int (rI σ6 31 4), .int x5]) (st := []) (ok_set (σ := σ6) (a := 34) (i := rI σ6 31 4) (x := x5) (f := rI σ6 34) (kd34 hJ.1.1) (by decide) (by decide) rfl) (by decide) yfX10_set mlX7_49 stX10_set rfl (Nat.le_of_ble_eq_true rfl) rfl dX7_read_125 q) (fun hJ => Sy_rowI hJ.1) rfl rfl rfl (fun σ7 hσ7 => ?_)
            refine P_l (fun hJ _ _ q => E_aload_n dX7_read_128 rfl (E_dup dX7_read_129 rfl (E_getI clX7 4 (by decide) flX7_25 (Or.inl rfl) dX7_read_130 (kd31 hJ.1.1) (E_iconst (v := 1) dX7_read_133 (by decide) (E_iadd dX7_read_134 q))))) ?_
            refine P_w (fun hJ _ _ q => E_putI clX7 4 (by decide) flX7_25 (Or.inl rfl) rfl dX7_read_135 (kd31 hJ.1.1) q) (fun hJ => Sy_wI hJ.1) rfl rfl rfl (fun σ8 hσ8 => ?_)
            refine P_l (fun hJ _ _ q => E_iload_n dX7_read_138 rfl (E_iload dX7_read_139 rfl (E_iadd dX7_read_141 (E_istore_n (ls2 := [some (.ref 31), some (.ref 4), some (.int (s2.1 + x4)), some (.int v3), some (.int x4), some (.int x5)]) dX7_read_142 (by decide) rfl (E_goto 7 dX7_read_143 (by decide) q))))) ?_
            refine P_less [some (.ref 31), some (.ref 4), some (.int (s2.1 + x4)), none, none, none] (And.intro rfl (And.intro rfl (And.intro rfl trivial))) ?_
            exact P_back ((s2.1 + x4, σ8))
          · skip
            refine P_l (fun hJ _ _ q => E_iconst (v := 0) dX7_read_101 (by decide) q) ?_
            exact P_inl (P_ret (fun _ _ => E_zret01 rfl (by decide) dX7_read_102))

theorem z_dummy : True := trivial
def v_X10_isOn (σ : rS) : Int32 := if (rI σ 3 8) = ((-1)) then 0 else 1
set_option maxRecDepth 20000 in
theorem ok_X10_isOn {σ : rS}  (hJ : J Sy σ)  : rMet yX10_isOn mX10_isOn 0 [.ref 3] σ 0 0 (some (.int (v_X10_isOn σ))) σ := by
  refine rMet_of (ls := [some (.ref 3)]) yfX10_isOn rfl (Nat.le_of_ble_eq_true rfl) ?_
  refine E_aload_n dX10_isOn_0 rfl ?_
  refine E_getI clX10 8 (by decide) flX10_61 (Or.inl rfl) dX10_isOn_1 (kd3 hJ.1.1) ?_
  refine E_iconst (v := (-1)) dX10_isOn_4 (by decide) ?_
  refine E_icmp_eq 12 dX10_isOn_5 (by decide) (fun c_5_0 => ?_) (fun c_5_0 => ?_)
  · skip
    refine E_iconst (v := 0) dX10_isOn_12 (by decide) ?_
    exact E_zretE rfl dX10_isOn_13 (by decide) (by unfold v_X10_isOn; simp only [if_pos c_5_0]) rfl
  · skip
    refine E_iconst (v := 1) dX10_isOn_8 (by decide) ?_
    refine E_goto 13 dX10_isOn_9 (by decide) ?_
    exact E_zretE rfl dX10_isOn_13 (by decide) (by unfold v_X10_isOn; simp only [if_neg c_5_0]) rfl
theorem z_X10_isOn (σ : rS) : v_X10_isOn σ = 0 ∨ v_X10_isOn σ = 1 := by
  unfold v_X10_isOn
  (repeat' split) <;> first | decide | exact vIn_01 _ _ _ | exact vBit_01 _ _

