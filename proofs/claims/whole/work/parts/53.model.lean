def b_X11_roundEnds_2 (p1 : Int32) (s3 : Int32 × rS) : Option (((Unit × rS) ⊕ (rS)) ⊕ (Int32 × rS)) := if (rI s3.2 67 6) ≤ s3.1 then (some (.inl (.inr s3.2))) else (if s3.1 = p1 then (some (.inr ((s3.1 + 1, s3.2)))) else (if inB s3.1 4 then ((f_X11_worthOf s3.2 s3.1).bind fun v5 => oLet (wI s3.2 70 (s3.1 : Int32).toNatClampNeg ((rI s3.2 70 (s3.1 : Int32).toNatClampNeg) - v5)) fun σ6 => if inB p1 4 then ((f_X11_worthOf σ6 s3.1).bind fun v8 => oLet (wI σ6 70 (p1 : Int32).toNatClampNeg ((rI σ6 70 (p1 : Int32).toNatClampNeg) + v8)) fun σ9 => some (.inr ((s3.1 + 1, σ9)))) else none) else none))
def f_X11_roundEnds (σ : rS) (p1 : Int32) : Option (Unit × rS) := oJoin (oLoop (b_X11_roundEnds_2 p1) oFuel ((0, σ))) fun j2 => (f_X11_placeOf j2 p1).bind fun v10 => oJoin (if v10 ≤ 0 then (some (.inr j2)) else (if inB (v10 - 1) 4 then (if inB v10 4 then (oLet (wI j2 74 (v10 : Int32).toNatClampNeg (rI j2 74 (v10 - 1 : Int32).toNatClampNeg)) fun σ14 => oLet (wI σ14 74 (v10 - 1 : Int32).toNatClampNeg p1) fun σ15 => some (.inr σ15)) else none) else none)) fun j11 => if inB p1 4 then (oLet (wI j11 73 (p1 : Int32).toNatClampNeg ((rI j11 73 (p1 : Int32).toNatClampNeg) + 1)) fun σ17 => oLet (wI σ17 67 26 ((rI σ17 67 26) + 1)) fun σ18 => oLet (wI σ18 67 27 p1) fun σ19 => oLet (wI σ19 67 24 ((-1))) fun σ20 => oLet (wI σ20 67 30 0) fun σ21 => some (((), σ21))) else none
set_option maxRecDepth 20000 in
set_option maxHeartbeats 2000000 in
theorem ok_X11_roundEnds {σ : rS} {p1 : Int32}   : rFn Sy yX11_roundEnds mX11_roundEnds 1 [.ref 67, .int p1] σ 0 0 (fun _ => .inl none) (f_X11_roundEnds σ p1) := by
  refine rF_of (ls := [some (.ref 67), some (.int p1), none]) yfX11_roundEnds rfl (Nat.le_of_ble_eq_true rfl) (fun o τ => ?_)
  unfold f_X11_roundEnds
  refine P_l (fun hJ _ _ q => E_iconst (v := 0) dX11_roundEnds_0 (by decide) (E_istore_n (ls2 := [some (.ref 67), some (.int p1), some (.int 0)]) dX11_roundEnds_1 (by decide) rfl q)) ?_
  refine P_join (pc2 := 49) (fun j2 => [some (.ref 67), some (.int p1), none]) (fun j2 => []) (fun j2 => j2) ?_ (fun j2 => ?_)
  · skip
    refine P_loop (fun s3 => [some (.ref 67), some (.int p1), some (.int s3.1)]) (fun s3 => s3.2) (fun s3 => ?_) _ ((0, σ))
    unfold b_X11_roundEnds_2
    refine P_l (fun hJ _ _ q => E_iload_n dX11_roundEnds_2 rfl (E_aload_n dX11_roundEnds_3 rfl (E_getI clX11 6 (by decide) flX11_186 (Or.inl rfl) dX11_roundEnds_4 (kd67 hJ.1.1) q))) ?_
    refine P_if (fun hJ _ _ h1 h2 => E_icmp_ge 49 dX11_roundEnds_7 (by decide) h1 h2) ?_ ?_
    · skip
      refine P_less [some (.ref 67), some (.int p1), none] (And.intro rfl (And.intro rfl trivial)) ?_
      exact P_inl (P_back s3.2)
    · skip
      refine P_l (fun hJ _ _ q => E_iload_n dX11_roundEnds_10 rfl (E_iload_n dX11_roundEnds_11 rfl q)) ?_
      refine P_if (fun hJ _ _ h1 h2 => E_icmp_eq 43 dX11_roundEnds_12 (by decide) h1 h2) ?_ ?_
      · skip
        refine P_l (fun hJ _ _ q => E_iinc (v := 1) (ls2 := [some (.ref 67), some (.int p1), some (.int (s3.1 + 1))]) dX11_roundEnds_43 rfl (by decide) (by decide) rfl (E_goto 2 dX11_roundEnds_46 (by decide) q)) ?_
        exact P_back ((s3.1 + 1, s3.2))
      · skip
        refine P_l (fun hJ _ _ q => E_aload_n dX11_roundEnds_15 rfl (E_getR (b := 70) clX11 9 (by decide) flX11_34 (Or.inr ⟨_, rfl⟩) dX11_roundEnds_16 (kd67 hJ.1.1) (rf67_9 hJ.1.1) (by decide) (E_iload_n dX11_roundEnds_19 rfl (E_dup2 dX11_roundEnds_20 rfl rfl q)))) ?_
        refine P_g (fun g4 => ?_)
        refine P_l (fun hJ _ _ q => E_iald dX11_roundEnds_21 (kd70 hJ.1.1) (inB_vp g4) (E_aload_n dX11_roundEnds_22 rfl (E_iload_n dX11_roundEnds_23 rfl q))) ?_
        refine P_callr (t := fun v => some (.int v)) (st2 := fun v => .int v :: [.int (rI s3.2 70 (s3.1 : Int32).toNatClampNeg), .int s3.1, .ref 70]) (fun hJ => (ok_X11_worthOf (σ := s3.2) (p1 := s3.1) )) (fun hJ _ _ v hM q => E_callV (as := [.int s3.1]) (b := 67) (st := [.int (rI s3.2 70 (s3.1 : Int32).toNatClampNeg), .int s3.1, .ref 70]) hM (by decide) yfX11_worthOf mlX11_356 imX11_worthOf seX11_worthOf clX11 (kd67 hJ.1.1) rfl (Nat.le_of_ble_eq_true rfl) rfl dX11_roundEnds_24 q) (fun v5 => ?_)
        refine P_l (fun hJ _ _ q => E_isub dX11_roundEnds_27 q) ?_
        refine P_w (fun hJ _ _ q => E_iast dX11_roundEnds_28 (kd70 hJ.1.1) (by decide) (inB_vp g4) q) (fun hJ => Sy_wI hJ.1) rfl rfl rfl (fun σ6 hσ6 => ?_)
        refine P_l (fun hJ _ _ q => E_aload_n dX11_roundEnds_29 rfl (E_getR (b := 70) clX11 9 (by decide) flX11_34 (Or.inr ⟨_, rfl⟩) dX11_roundEnds_30 (kd67 hJ.1.1) (rf67_9 hJ.1.1) (by decide) (E_iload_n dX11_roundEnds_33 rfl (E_dup2 dX11_roundEnds_34 rfl rfl q)))) ?_
        refine P_g (fun g7 => ?_)
        refine P_l (fun hJ _ _ q => E_iald dX11_roundEnds_35 (kd70 hJ.1.1) (inB_vp g7) (E_aload_n dX11_roundEnds_36 rfl (E_iload_n dX11_roundEnds_37 rfl q))) ?_
        refine P_callr (t := fun v => some (.int v)) (st2 := fun v => .int v :: [.int (rI σ6 70 (p1 : Int32).toNatClampNeg), .int p1, .ref 70]) (fun hJ => (ok_X11_worthOf (σ := σ6) (p1 := s3.1) )) (fun hJ _ _ v hM q => E_callV (as := [.int s3.1]) (b := 67) (st := [.int (rI σ6 70 (p1 : Int32).toNatClampNeg), .int p1, .ref 70]) hM (by decide) yfX11_worthOf mlX11_356 imX11_worthOf seX11_worthOf clX11 (kd67 hJ.1.1) rfl (Nat.le_of_ble_eq_true rfl) rfl dX11_roundEnds_38 q) (fun v8 => ?_)
        refine P_l (fun hJ _ _ q => E_iadd dX11_roundEnds_41 q) ?_
        refine P_w (fun hJ _ _ q => E_iast dX11_roundEnds_42 (kd70 hJ.1.1) (by decide) (inB_vp g7) q) (fun hJ => Sy_wI hJ.1) rfl rfl rfl (fun σ9 hσ9 => ?_)
        refine P_l (fun hJ _ _ q => E_iinc (v := 1) (ls2 := [some (.ref 67), some (.int p1), some (.int (s3.1 + 1))]) dX11_roundEnds_43 rfl (by decide) (by decide) rfl (E_goto 2 dX11_roundEnds_46 (by decide) q)) ?_
        exact P_back ((s3.1 + 1, σ9))
  · skip
    refine P_l (fun hJ _ _ q => E_aload_n dX11_roundEnds_49 rfl (E_iload_n dX11_roundEnds_50 rfl q)) ?_
    refine P_callr (t := fun v => some (.int v)) (st2 := fun v => .int v :: []) (fun hJ => (ok_X11_placeOf (σ := j2) (p1 := p1) )) (fun hJ _ _ v hM q => E_callV (as := [.int p1]) (b := 67) (st := []) hM (by decide) yfX11_placeOf mlX11_359 imX11_placeOf seX11_placeOf clX11 (kd67 hJ.1.1) rfl (Nat.le_of_ble_eq_true rfl) rfl dX11_roundEnds_51 q) (fun v10 => ?_)
    refine P_l (fun hJ _ _ q => E_istore_n (ls2 := [some (.ref 67), some (.int p1), some (.int v10)]) dX11_roundEnds_54 (by decide) rfl (E_iload_n dX11_roundEnds_55 rfl q)) ?_
    refine P_join (pc2 := 82) (fun j11 => [some (.ref 67), some (.int p1), none]) (fun j11 => []) (fun j11 => j11) ?_ (fun j11 => ?_)
    · skip
      refine P_if (fun hJ _ _ h1 h2 => E_if_le 82 dX11_roundEnds_56 (by decide) h1 h2) ?_ ?_
      · skip
        refine P_less [some (.ref 67), some (.int p1), none] (And.intro rfl (And.intro rfl trivial)) ?_
        exact P_back j2
      · skip
        refine P_l (fun hJ _ _ q => E_aload_n dX11_roundEnds_59 rfl (E_getR (b := 74) clX11 13 (by decide) flX11_47 (Or.inr ⟨_, rfl⟩) dX11_roundEnds_60 (kd67 hJ.1.1) (rf67_13 hJ.1.1) (by decide) (E_iload_n dX11_roundEnds_63 rfl (E_aload_n dX11_roundEnds_64 rfl (E_getR (b := 74) clX11 13 (by decide) flX11_47 (Or.inr ⟨_, rfl⟩) dX11_roundEnds_65 (kd67 hJ.1.1) (rf67_13 hJ.1.1) (by decide) (E_iload_n dX11_roundEnds_68 rfl (E_iconst (v := 1) dX11_roundEnds_69 (by decide) (E_isub dX11_roundEnds_70 q)))))))) ?_
        refine P_g (fun g12 => ?_)
        refine P_l (fun hJ _ _ q => E_iald dX11_roundEnds_71 (kd74 hJ.1.1) (inB_vp g12) q) ?_
        refine P_g (fun g13 => ?_)
        refine P_w (fun hJ _ _ q => E_iast dX11_roundEnds_72 (kd74 hJ.1.1) (by decide) (inB_vp g13) q) (fun hJ => Sy_wI hJ.1) rfl rfl rfl (fun σ14 hσ14 => ?_)
        refine P_l (fun hJ _ _ q => E_aload_n dX11_roundEnds_73 rfl (E_getR (b := 74) clX11 13 (by decide) flX11_47 (Or.inr ⟨_, rfl⟩) dX11_roundEnds_74 (kd67 hJ.1.1) (rf67_13 hJ.1.1) (by decide) (E_iload_n dX11_roundEnds_77 rfl (E_iconst (v := 1) dX11_roundEnds_78 (by decide) (E_isub dX11_roundEnds_79 (E_iload_n dX11_roundEnds_80 rfl q)))))) ?_
        refine P_w (fun hJ _ _ q => E_iast dX11_roundEnds_81 (kd74 hJ.1.1) (by decide) (inB_vp g12) q) (fun hJ => Sy_wI hJ.1) rfl rfl rfl (fun σ15 hσ15 => ?_)
        refine P_less [some (.ref 67), some (.int p1), none] (And.intro rfl (And.intro rfl trivial)) ?_
        exact P_back σ15
    · skip
      refine P_l (fun hJ _ _ q => E_aload_n dX11_roundEnds_82 rfl (E_getR (b := 73) clX11 12 (by decide) flX11_44 (Or.inr ⟨_, rfl⟩) dX11_roundEnds_83 (kd67 hJ.1.1) (rf67_12 hJ.1.1) (by decide) (E_iload_n dX11_roundEnds_86 rfl (E_dup2 dX11_roundEnds_87 rfl rfl q)))) ?_
      refine P_g (fun g16 => ?_)
      refine P_l (fun hJ _ _ q => E_iald dX11_roundEnds_88 (kd73 hJ.1.1) (inB_vp g16) (E_iconst (v := 1) dX11_roundEnds_89 (by decide) (E_iadd dX11_roundEnds_90 q))) ?_
      refine P_w (fun hJ _ _ q => E_iast dX11_roundEnds_91 (kd73 hJ.1.1) (by decide) (inB_vp g16) q) (fun hJ => Sy_wI hJ.1) rfl rfl rfl (fun σ17 hσ17 => ?_)
      refine P_l (fun hJ _ _ q => E_aload_n dX11_roundEnds_92 rfl (E_dup dX11_roundEnds_93 rfl (E_getI clX11 26 (by decide) flX11_362 (Or.inl rfl) dX11_roundEnds_94 (kd67 hJ.1.1) (E_iconst (v := 1) dX11_roundEnds_97 (by decide) (E_iadd dX11_roundEnds_98 q))))) ?_
      refine P_w (fun hJ _ _ q => E_putI clX11 26 (by decide) flX11_362 (Or.inl rfl) rfl dX11_roundEnds_99 (kd67 hJ.1.1) q) (fun hJ => Sy_wI hJ.1) rfl rfl rfl (fun σ18 hσ18 => ?_)
      refine P_l (fun hJ _ _ q => E_aload_n dX11_roundEnds_102 rfl (E_iload_n dX11_roundEnds_103 rfl q)) ?_
      refine P_w (fun hJ _ _ q => E_putI clX11 27 (by decide) flX11_78 (Or.inl rfl) rfl dX11_roundEnds_104 (kd67 hJ.1.1) q) (fun hJ => Sy_wI hJ.1) rfl rfl rfl (fun σ19 hσ19 => ?_)
      refine P_l (fun hJ _ _ q => E_aload_n dX11_roundEnds_107 rfl (E_iconst (v := (-1)) dX11_roundEnds_108 (by decide) q)) ?_
      refine P_w (fun hJ _ _ q => E_putI clX11 24 (by decide) flX11_75 (Or.inl rfl) rfl dX11_roundEnds_109 (kd67 hJ.1.1) q) (fun hJ => Sy_wI hJ.1) rfl rfl rfl (fun σ20 hσ20 => ?_)
      refine P_l (fun hJ _ _ q => E_aload_n dX11_roundEnds_112 rfl (E_iconst (v := 0) dX11_roundEnds_113 (by decide) q)) ?_
      refine P_w (fun hJ _ _ q => E_putI clX11 30 (by decide) flX11_303 (Or.inl rfl) rfl dX11_roundEnds_114 (kd67 hJ.1.1) q) (fun hJ => Sy_wI hJ.1) rfl rfl rfl (fun σ21 hσ21 => ?_)
      exact P_ret (fun _ _ => E_vret rfl dX11_roundEnds_117)

def f_X11_endsByLaying (σ : rS) : Option (Int32 × rS) := oB (f_X11_mayEnd σ) fun v1 σ2 => if v1 = 0 then (some ((0, σ2))) else (oB (f_X11_enter σ2 5 (rI σ2 67 24) ((-1)) 0) fun _ σ4 => if inB (rI σ2 67 24) 4 then (oLet (wI σ4 72 (rI σ2 67 24 : Int32).toNatClampNeg 1) fun σ6 => oLet (wI σ6 67 25 0) fun σ7 => oLet (wI σ7 67 30 0) fun σ8 => (f_X11_inRack σ8 (rI σ2 67 24)).bind fun v9 => if v9 = 0 then (oB (f_X11_roundEnds σ8 (rI σ2 67 24)) fun _ σ11 => some ((1, σ11))) else (if ¬ (rI σ8 67 6) = 0 then (oLet (wI σ8 67 24 (iRem ((rI σ2 67 24) + 1) (rI σ8 67 6))) fun σ13 => some ((1, σ13))) else none)) else none)
set_option maxRecDepth 20000 in
set_option maxHeartbeats 2000000 in
theorem ok_X11_endsByLaying {σ : rS}   : rFn Sy yX11_endsByLaying mX11_endsByLaying 8 [.ref 67] σ 0 0 (fun v => .inl (some (.int v))) (f_X11_endsByLaying σ) := by
  refine rF_of (ls := [some (.ref 67), none]) yfX11_endsByLaying rfl (Nat.le_of_ble_eq_true rfl) (fun o τ => ?_)
  unfold f_X11_endsByLaying
  refine P_l (fun hJ _ _ q => E_aload_n dX11_endsByLaying_0 rfl q) ?_
  refine P_call (t := fun v => some (.int v)) (st2 := fun v => .int v :: []) (kc2 := 0) (ks2 := 0) (fun hJ => (ok_X11_mayEnd (σ := σ)  )) (fun hJ _ _ _ _ v τ1 hM q => E_callV (as := []) (b := 67) (st := []) hM (by decide) yfX11_mayEnd mlX11_365 imX11_mayEnd seX11_mayEnd clX11 (kd67 hJ.1.1) rfl (Nat.le_of_ble_eq_true rfl) rfl dX11_endsByLaying_1 q) (by decide) (by decide) (fun v1 σ2 => ?_)
  refine P_if (fun hJ _ _ h1 h2 => E_if_ne 9 dX11_endsByLaying_4 (by decide) h2 h1) ?_ ?_
  · skip
    refine P_l (fun hJ _ _ q => E_iconst (v := 0) dX11_endsByLaying_7 (by decide) q) ?_
    exact P_ret (fun _ _ => E_zret01 rfl (by decide) dX11_endsByLaying_8)
  · skip
    refine P_l (fun hJ _ _ q => E_aload_n dX11_endsByLaying_9 rfl (E_getI clX11 24 (by decide) flX11_75 (Or.inl rfl) dX11_endsByLaying_10 (kd67 hJ.1.1) (E_istore_n (ls2 := [some (.ref 67), some (.int (rI σ2 67 24))]) dX11_endsByLaying_13 (by decide) rfl (E_aload_n dX11_endsByLaying_14 rfl (E_iconst (v := 5) dX11_endsByLaying_15 (by decide) (E_iload_n dX11_endsByLaying_16 rfl (E_iconst (v := (-1)) dX11_endsByLaying_17 (by decide) (E_iconst (v := 0) dX11_endsByLaying_18 (by decide) q)))))))) ?_
    refine P_call (t := fun _ => none) (st2 := fun _ => []) (kc2 := 0) (ks2 := 0) (fun hJ => (ok_X11_enter (σ := σ2) (p1 := 5) (p2 := rI σ2 67 24) (p3 := (-1)) (p4 := 0) )) (fun hJ _ _ _ _ v τ1 hM q => E_callV (as := [.int 5, .int (rI σ2 67 24), .int ((-1)), .int 0]) (b := 67) (st := []) hM (by decide) yfX11_enter mlX11_328 imX11_enter seX11_enter clX11 (kd67 hJ.1.1) rfl (Nat.le_of_ble_eq_true rfl) rfl dX11_endsByLaying_19 q) (by decide) (by decide) (fun v3 σ4 => ?_)
    refine P_l (fun hJ _ _ q => E_aload_n dX11_endsByLaying_22 rfl (E_getR (b := 72) clX11 11 (by decide) flX11_40 (Or.inr ⟨_, rfl⟩) dX11_endsByLaying_23 (kd67 hJ.1.1) (rf67_11 hJ.1.1) (by decide) (E_iload_n dX11_endsByLaying_26 rfl (E_iconst (v := 1) dX11_endsByLaying_27 (by decide) q)))) ?_
    refine P_g (fun g5 => ?_)
    refine P_w (fun hJ _ _ q => E_zast dX11_endsByLaying_28 (kd72 hJ.1.1) (by decide) (inB_vp g5) q) (fun hJ => Sy_wI hJ.1) rfl rfl rfl (fun σ6 hσ6 => ?_)
    refine P_l (fun hJ _ _ q => E_aload_n dX11_endsByLaying_29 rfl (E_iconst (v := 0) dX11_endsByLaying_30 (by decide) q)) ?_
    refine P_w (fun hJ _ _ q => E_putI clX11 25 (by decide) flX11_322 (Or.inl rfl) rfl dX11_endsByLaying_31 (kd67 hJ.1.1) q) (fun hJ => Sy_wI hJ.1) rfl rfl rfl (fun σ7 hσ7 => ?_)
    refine P_l (fun hJ _ _ q => E_aload_n dX11_endsByLaying_34 rfl (E_iconst (v := 0) dX11_endsByLaying_35 (by decide) q)) ?_
    refine P_w (fun hJ _ _ q => E_putI clX11 30 (by decide) flX11_303 (Or.inl rfl) rfl dX11_endsByLaying_36 (kd67 hJ.1.1) q) (fun hJ => Sy_wI hJ.1) rfl rfl rfl (fun σ8 hσ8 => ?_)
    refine P_l (fun hJ _ _ q => E_aload_n dX11_endsByLaying_39 rfl (E_iload_n dX11_endsByLaying_40 rfl q)) ?_
    refine P_callr (t := fun v => some (.int v)) (st2 := fun v => .int v :: []) (fun hJ => (ok_X11_inRack (σ := σ8) (p1 := rI σ2 67 24) )) (fun hJ _ _ v hM q => E_callV (as := [.int (rI σ2 67 24)]) (b := 67) (st := []) hM (by decide) yfX11_inRack mlX11_315 imX11_inRack seX11_inRack clX11 (kd67 hJ.1.1) rfl (Nat.le_of_ble_eq_true rfl) rfl dX11_endsByLaying_41 q) (fun v9 => ?_)
    refine P_if (fun hJ _ _ h1 h2 => E_if_ne 55 dX11_endsByLaying_44 (by decide) h2 h1) ?_ ?_
    · skip
      refine P_l (fun hJ _ _ q => E_aload_n dX11_endsByLaying_47 rfl (E_iload_n dX11_endsByLaying_48 rfl q)) ?_
      refine P_call (t := fun _ => none) (st2 := fun _ => []) (kc2 := 0) (ks2 := 0) (fun hJ => (ok_X11_roundEnds (σ := σ8) (p1 := rI σ2 67 24) )) (fun hJ _ _ _ _ v τ1 hM q => E_callV (as := [.int (rI σ2 67 24)]) (b := 67) (st := []) hM (by decide) yfX11_roundEnds mlX11_368 imX11_roundEnds seX11_roundEnds clX11 (kd67 hJ.1.1) rfl (Nat.le_of_ble_eq_true rfl) rfl dX11_endsByLaying_49 q) (by decide) (by decide) (fun v10 σ11 => ?_)
      refine P_l (fun hJ _ _ q => E_goto 67 dX11_endsByLaying_52 (by decide) (E_iconst (v := 1) dX11_endsByLaying_67 (by decide) q)) ?_
      exact P_ret (fun _ _ => E_zret01 rfl (by decide) dX11_endsByLaying_68)
    · skip
      refine P_l (fun hJ _ _ q => E_aload_n dX11_endsByLaying_55 rfl (E_iload_n dX11_endsByLaying_56 rfl (E_iconst (v := 1) dX11_endsByLaying_57 (by decide) (E_iadd dX11_endsByLaying_58 (E_aload_n dX11_endsByLaying_59 rfl (E_getI clX11 6 (by decide) flX11_186 (Or.inl rfl) dX11_endsByLaying_60 (kd67 hJ.1.1) q)))))) ?_
      refine P_g (fun g12 => ?_)
      refine P_l (fun hJ _ _ q => E_irem dX11_endsByLaying_63 g12 q) ?_
      refine P_w (fun hJ _ _ q => E_putI clX11 24 (by decide) flX11_75 (Or.inl rfl) rfl dX11_endsByLaying_64 (kd67 hJ.1.1) q) (fun hJ => Sy_wI hJ.1) rfl rfl rfl (fun σ13 hσ13 => ?_)
      refine P_l (fun hJ _ _ q => E_iconst (v := 1) dX11_endsByLaying_67 (by decide) q) ?_
      exact P_ret (fun _ _ => E_zret01 rfl (by decide) dX11_endsByLaying_68)

def f_X11_end (σ : rS) : Option (Int32 × rS) := oB (f_X11_endsByLaying σ) fun v1 σ2 => oB (f_X11_holds σ2 ((if v1 = 0 then 1 else 0 : Int32))) fun v3 σ4 => if v3 = 0 then (some ((rI σ4 67 24, σ4))) else (some (((-1), σ4)))
set_option maxRecDepth 20000 in
set_option maxHeartbeats 2000000 in
theorem ok_X11_end {σ : rS}   : rFn Sy yX11_end mX11_end 9 [.ref 67] σ 0 0 (fun v => .inl (some (.int v))) (f_X11_end σ) := by
  refine rF_of (ls := [some (.ref 67)]) yfX11_end rfl (Nat.le_of_ble_eq_true rfl) (fun o τ => ?_)
  unfold f_X11_end
  refine P_l (fun hJ _ _ q => E_aload_n dX11_end_0 rfl (E_aload_n dX11_end_1 rfl q)) ?_
  refine P_call (t := fun v => some (.int v)) (st2 := fun v => .int v :: [.ref 67]) (kc2 := 0) (ks2 := 0) (fun hJ => (ok_X11_endsByLaying (σ := σ)  )) (fun hJ _ _ _ _ v τ1 hM q => E_callV (as := []) (b := 67) (st := [.ref 67]) hM (by decide) yfX11_endsByLaying mlX11_372 imX11_endsByLaying seX11_endsByLaying clX11 (kd67 hJ.1.1) rfl (Nat.le_of_ble_eq_true rfl) rfl dX11_end_2 q) (by decide) (by decide) (fun v1 σ2 => ?_)
  refine P_l (pc2 := 13) (ls2 := [some (.ref 67)]) (st2 := [.int ((if v1 = 0 then 1 else 0 : Int32)), .ref 67]) (fun hJ _ _ hq => ?_) ?_
  · skip
    refine E_if_eq 12 dX11_end_5 (by decide) (fun c_5_0 => ?_) (fun c_5_0 => ?_)
    · skip
      refine E_iconst (v := 1) dX11_end_12 (by decide) ?_
      simp only [if_pos c_5_0] at hq
      exact hq
    · skip
      refine E_iconst (v := 0) dX11_end_8 (by decide) ?_
      refine E_goto 13 dX11_end_9 (by decide) ?_
      simp only [if_neg c_5_0] at hq
      exact hq
  · skip
    refine P_call (t := fun v => some (.int v)) (st2 := fun v => .int v :: []) (kc2 := 0) (ks2 := 0) (fun hJ => (ok_X11_holds (σ := σ2) (p1 := (if v1 = 0 then 1 else 0 : Int32)) )) (fun hJ _ _ _ _ v τ1 hM q => E_callV (as := [.int ((if v1 = 0 then 1 else 0 : Int32))]) (b := 67) (st := []) hM (by decide) yfX11_holds mlX11_265 imX11_holds seX11_holds clX11 (kd67 hJ.1.1) rfl (Nat.le_of_ble_eq_true rfl) rfl dX11_end_13 q) (by decide) (by decide) (fun v3 σ4 => ?_)
    refine P_if (fun hJ _ _ h1 h2 => E_if_eq 21 dX11_end_16 (by decide) h1 h2) ?_ ?_
    · skip
      refine P_l (fun hJ _ _ q => E_aload_n dX11_end_21 rfl (E_getI clX11 24 (by decide) flX11_75 (Or.inl rfl) dX11_end_22 (kd67 hJ.1.1) q)) ?_
      exact P_ret (fun _ _ => E_iret rfl dX11_end_25)
    · skip
      refine P_l (fun hJ _ _ q => E_iconst (v := (-1)) dX11_end_19 (by decide) q) ?_
      exact P_ret (fun _ _ => E_iret rfl dX11_end_20)

def b_X11_passesAll_5 (s3 : Int64 × Int32 × rS) : Option (((Unit × rS) ⊕ (Int64 × rS)) ⊕ (Int64 × Int32 × rS)) := if 52 ≤ s3.2.1 then (some (.inl (.inr ((s3.1, s3.2.2))))) else (if (rI s3.2.2 67 1) ≤ (iRem s3.2.1 13) then (some (.inr ((s3.1 ||| (0 : Int64), s3.2.1 + 1, s3.2.2)))) else (oB (f_X11_isAlone s3.2.2 s3.2.1) fun v4 σ5 => oLet (s3.1 ||| ((if v4 = 0 then (0 : Int64) else ((1 : Int64) <<< (((s3.2.1 : Int32)).toInt64 &&& 63)) : Int64)) : Int64) fun x6 => some (.inr ((x6, s3.2.1 + 1, σ5)))))
def f_X11_passesAll (σ : rS) (p1 : Int32) : Option (Unit × rS) := oJoin (oLoop (b_X11_passesAll_5) oFuel (((0 : Int64), 0, σ))) fun j2 => if inB p1 4 then (oLet (wL j2.2 75 (p1 : Int32).toNatClampNeg j2.1) fun σ8 => oLet (wI σ8 76 (p1 : Int32).toNatClampNeg 1) fun σ9 => oLet (wI σ9 77 (p1 : Int32).toNatClampNeg 0) fun σ10 => some (((), σ10))) else none
set_option maxRecDepth 20000 in
set_option maxHeartbeats 2000000 in
theorem ok_X11_passesAll {σ : rS} {p1 : Int32}   : rFn Sy yX11_passesAll mX11_passesAll 8 [.ref 67, .int p1] σ 0 0 (fun _ => .inl none) (f_X11_passesAll σ p1) := by
  refine rF_of (ls := [some (.ref 67), some (.int p1), none, none, none]) yfX11_passesAll rfl (Nat.le_of_ble_eq_true rfl) (fun o τ => ?_)
  unfold f_X11_passesAll
  refine P_l (fun hJ _ _ q => E_lconst (v := 0) dX11_passesAll_0 (by decide) (E_lstore_n (ls2 := [some (.ref 67), some (.int p1), some (.long (0 : Int64)), none, none]) dX11_passesAll_1 (by decide) rfl (E_iconst (v := 0) dX11_passesAll_2 (by decide) (E_istore (ls2 := [some (.ref 67), some (.int p1), some (.long (0 : Int64)), none, some (.int 0)]) dX11_passesAll_3 (by decide) rfl q)))) ?_
  refine P_join (pc2 := 50) (fun j2 => [some (.ref 67), some (.int p1), some (.long j2.1), none, none]) (fun j2 => []) (fun j2 => j2.2) ?_ (fun j2 => ?_)
  · skip
    refine P_loop (fun s3 => [some (.ref 67), some (.int p1), some (.long s3.1), none, some (.int s3.2.1)]) (fun s3 => s3.2.2) (fun s3 => ?_) _ (((0 : Int64), 0, σ))
    unfold b_X11_passesAll_5
    refine P_l (fun hJ _ _ q => E_iload dX11_passesAll_5 rfl (E_bipush (v := 52) dX11_passesAll_7 (by decide) q)) ?_
    refine P_if (fun hJ _ _ h1 h2 => E_icmp_ge 50 dX11_passesAll_9 (by decide) h1 h2) ?_ ?_
    · skip
      refine P_less [some (.ref 67), some (.int p1), some (.long s3.1), none, none] (And.intro rfl (And.intro rfl (And.intro rfl trivial))) ?_
      exact P_inl (P_back ((s3.1, s3.2.2)))
    · skip
      refine P_l (fun hJ _ _ q => E_lload_n dX11_passesAll_12 rfl (E_iload dX11_passesAll_13 rfl (E_bipush (v := 13) dX11_passesAll_15 (by decide) (E_irem dX11_passesAll_17 (by decide) (E_aload_n dX11_passesAll_18 rfl (E_getI clX11 1 (by decide) flX11_9 (Or.inl rfl) dX11_passesAll_19 (kd67 hJ.1.1) q)))))) ?_
      refine P_if (fun hJ _ _ h1 h2 => E_icmp_ge 41 dX11_passesAll_22 (by decide) h1 h2) ?_ ?_
      · skip
        refine P_l (fun hJ _ _ q => E_lconst (v := 0) dX11_passesAll_41 (by decide) (E_lor dX11_passesAll_42 (E_lstore_n (ls2 := [some (.ref 67), some (.int p1), some (.long (s3.1 ||| (0 : Int64))), none, some (.int s3.2.1)]) dX11_passesAll_43 (by decide) rfl (E_iinc (v := 1) (ls2 := [some (.ref 67), some (.int p1), some (.long (s3.1 ||| (0 : Int64))), none, some (.int (s3.2.1 + 1))]) dX11_passesAll_44 rfl (by decide) (by decide) rfl (E_goto 5 dX11_passesAll_47 (by decide) q))))) ?_
        exact P_back ((s3.1 ||| (0 : Int64), s3.2.1 + 1, s3.2.2))
      · skip
        refine P_l (fun hJ _ _ q => E_aload_n dX11_passesAll_25 rfl (E_iload dX11_passesAll_26 rfl q)) ?_
        refine P_call (t := fun v => some (.int v)) (st2 := fun v => .int v :: [.long s3.1]) (kc2 := 0) (ks2 := 0) (fun hJ => (ok_X11_isAlone (σ := s3.2.2) (p1 := s3.2.1) )) (fun hJ _ _ _ _ v τ1 hM q => E_callV (as := [.int s3.2.1]) (b := 67) (st := [.long s3.1]) hM (by decide) yfX11_isAlone mlX11_297 imX11_isAlone seX11_isAlone clX11 (kd67 hJ.1.1) rfl (Nat.le_of_ble_eq_true rfl) rfl dX11_passesAll_28 q) (by decide) (by decide) (fun v4 σ5 => ?_)
        refine P_l (pc2 := 42) (ls2 := [some (.ref 67), some (.int p1), none, none, some (.int s3.2.1)]) (st2 := [.long ((if v4 = 0 then (0 : Int64) else ((1 : Int64) <<< (((s3.2.1 : Int32)).toInt64 &&& 63)) : Int64)), .long s3.1]) (fun hJ _ _ hq => ?_) ?_
        · skip
          refine E_if_eq 41 dX11_passesAll_31 (by decide) (fun c_31_0 => ?_) (fun c_31_0 => ?_)
          · skip
            refine E_lconst (v := 0) dX11_passesAll_41 (by decide) ?_
            simp only [if_pos c_31_0] at hq
            exact E_less (ls2 := [some (.ref 67), some (.int p1), none, none, some (.int s3.2.1)]) hq (rLe_at [some (.ref 67), some (.int p1), none, none, some (.int s3.2.1)] [some (.ref 67), some (.int p1), some (.long s3.1), none, some (.int s3.2.1)] (And.intro rfl (And.intro rfl (And.intro rfl trivial))))
          · skip
            refine E_lconst (v := 1) dX11_passesAll_34 (by decide) ?_
            refine E_iload dX11_passesAll_35 rfl ?_
            refine E_lshl dX11_passesAll_37 ?_
            refine E_goto 42 dX11_passesAll_38 (by decide) ?_
            simp only [if_neg c_31_0] at hq
            exact E_less (ls2 := [some (.ref 67), some (.int p1), none, none, some (.int s3.2.1)]) hq (rLe_at [some (.ref 67), some (.int p1), none, none, some (.int s3.2.1)] [some (.ref 67), some (.int p1), some (.long s3.1), none, some (.int s3.2.1)] (And.intro rfl (And.intro rfl (And.intro rfl trivial))))
        · skip
          refine P_l (fun hJ _ _ q => E_lor dX11_passesAll_42 (E_lstore_n (ls2 := [some (.ref 67), some (.int p1), some (.long (s3.1 ||| ((if v4 = 0 then (0 : Int64) else ((1 : Int64) <<< (((s3.2.1 : Int32)).toInt64 &&& 63)) : Int64)))), none, some (.int s3.2.1)]) dX11_passesAll_43 (by decide) rfl q)) ?_
          refine P_v (s3.1 ||| ((if v4 = 0 then (0 : Int64) else ((1 : Int64) <<< (((s3.2.1 : Int32)).toInt64 &&& 63)) : Int64))) (fun x => [some (.ref 67), some (.int p1), some (.long x), none, some (.int s3.2.1)]) (fun x6 => ?_)
          refine P_l (fun hJ _ _ q => E_iinc (v := 1) (ls2 := [some (.ref 67), some (.int p1), some (.long x6), none, some (.int (s3.2.1 + 1))]) dX11_passesAll_44 rfl (by decide) (by decide) rfl (E_goto 5 dX11_passesAll_47 (by decide) q)) ?_
          exact P_back ((x6, s3.2.1 + 1, σ5))
  · skip
    refine P_l (fun hJ _ _ q => E_aload_n dX11_passesAll_50 rfl (E_getR (b := 75) clX11 14 (by decide) flX11_50 (Or.inr ⟨_, rfl⟩) dX11_passesAll_51 (kd67 hJ.1.1) (rf67_14 hJ.1.1) (by decide) (E_iload_n dX11_passesAll_54 rfl (E_lload_n dX11_passesAll_55 rfl q)))) ?_
    refine P_g (fun g7 => ?_)
    refine P_w (fun hJ _ _ q => E_last dX11_passesAll_56 (kd75 hJ.1.1) (inB_vp g7) q) (fun hJ => Sy_wL hJ.1) rfl rfl rfl (fun σ8 hσ8 => ?_)
    refine P_l (fun hJ _ _ q => E_aload_n dX11_passesAll_57 rfl (E_getR (b := 76) clX11 15 (by decide) flX11_54 (Or.inr ⟨_, rfl⟩) dX11_passesAll_58 (kd67 hJ.1.1) (rf67_15 hJ.1.1) (by decide) (E_iload_n dX11_passesAll_61 rfl (E_iconst (v := 1) dX11_passesAll_62 (by decide) q)))) ?_
    refine P_w (fun hJ _ _ q => E_zast dX11_passesAll_63 (kd76 hJ.1.1) (by decide) (inB_vp g7) q) (fun hJ => Sy_wI hJ.1) rfl rfl rfl (fun σ9 hσ9 => ?_)
    refine P_l (fun hJ _ _ q => E_aload_n dX11_passesAll_64 rfl (E_getR (b := 77) clX11 16 (by decide) flX11_57 (Or.inr ⟨_, rfl⟩) dX11_passesAll_65 (kd67 hJ.1.1) (rf67_16 hJ.1.1) (by decide) (E_iload_n dX11_passesAll_68 rfl (E_iconst (v := 0) dX11_passesAll_69 (by decide) q)))) ?_
    refine P_w (fun hJ _ _ q => E_iast dX11_passesAll_70 (kd77 hJ.1.1) (by decide) (inB_vp g7) q) (fun hJ => Sy_wI hJ.1) rfl rfl rfl (fun σ10 hσ10 => ?_)
    exact P_ret (fun _ _ => E_vret rfl dX11_passesAll_71)

def b_X11_endsByDrawing_36 (s5 : rS) : Option (((Int32 × rS) ⊕ (rS)) ⊕ (rS)) := if (rI s5 67 30) ≤ 0 then (some (.inl (.inr s5))) else (oB (f_X11_undoes s5) fun v6 σ7 => some (.inr σ7))
def b_X11_endsByDrawing_57 (σ : rS) (x1 : Int32) (s10 : Int32 × Int32 × rS) : Option (((Int32 × rS) ⊕ (Int32 × rS)) ⊕ (Int32 × Int32 × rS)) := if ((if x1 = 0 then 1 else (rI s10.2.2 67 5) : Int32)) ≤ s10.2.1 then (some (.inl (.inr ((s10.1, s10.2.2))))) else (oB (f_X11_draws s10.2.2 (rI σ 67 24)) fun v11 σ12 => some (.inr ((s10.1 + v11, s10.2.1 + 1, σ12))))
def b_X11_endsByDrawing_159 (j9 : Int32 × rS) (σ17 : rS) (s18 : Int32 × Int32) : Option ((Int32 × rS) ⊕ (Int32 × Int32)) := if (rI σ17 67 6) ≤ s18.2 then (oB (f_X11_roundEnds σ17 s18.1) fun _ σ20 => some (.inl ((j9.1, σ20)))) else ((f_X11_worthOf σ17 s18.2).bind fun v21 => (f_X11_worthOf σ17 s18.1).bind fun v22 => oLet ((if v22 ≤ v21 then s18.1 else s18.2 : Int32) : Int32) fun x23 => some (.inr ((x23, s18.2 + 1))))
def b_X11_endsByDrawing_36_s30 (s30 : rS) : Option (((Int32 × rS) ⊕ (rS)) ⊕ (rS)) := if (rI s30 67 30) ≤ 0 then (some (.inl (.inr s30))) else (oB (f_X11_undoes s30) fun v31 σ32 => some (.inr σ32))
def b_X11_endsByDrawing_57_s35 (σ : rS) (x1 : Int32) (s35 : Int32 × Int32 × rS) : Option (((Int32 × rS) ⊕ (Int32 × rS)) ⊕ (Int32 × Int32 × rS)) := if ((if x1 = 0 then 1 else (rI s35.2.2 67 5) : Int32)) ≤ s35.2.1 then (some (.inl (.inr ((s35.1, s35.2.2))))) else (oB (f_X11_draws s35.2.2 (rI σ 67 24)) fun v36 σ37 => some (.inr ((s35.1 + v36, s35.2.1 + 1, σ37))))
def b_X11_endsByDrawing_159_s43 (j34 : Int32 × rS) (σ42 : rS) (s43 : Int32 × Int32) : Option ((Int32 × rS) ⊕ (Int32 × Int32)) := if (rI σ42 67 6) ≤ s43.2 then (oB (f_X11_roundEnds σ42 s43.1) fun _ σ45 => some (.inl ((j34.1, σ45)))) else ((f_X11_worthOf σ42 s43.2).bind fun v46 => (f_X11_worthOf σ42 s43.1).bind fun v47 => oLet ((if v47 ≤ v46 then s43.1 else s43.2 : Int32) : Int32) fun x48 => some (.inr ((x48, s43.2 + 1))))
def b_X11_endsByDrawing_36_s53 (s53 : rS) : Option (((Int32 × rS) ⊕ (rS)) ⊕ (rS)) := if (rI s53 67 30) ≤ 0 then (some (.inl (.inr s53))) else (oB (f_X11_undoes s53) fun v54 σ55 => some (.inr σ55))
def b_X11_endsByDrawing_57_s58 (σ : rS) (x1 : Int32) (s58 : Int32 × Int32 × rS) : Option (((Int32 × rS) ⊕ (Int32 × rS)) ⊕ (Int32 × Int32 × rS)) := if ((if x1 = 0 then 1 else (rI s58.2.2 67 5) : Int32)) ≤ s58.2.1 then (some (.inl (.inr ((s58.1, s58.2.2))))) else (oB (f_X11_draws s58.2.2 (rI σ 67 24)) fun v59 σ60 => some (.inr ((s58.1 + v59, s58.2.1 + 1, σ60))))
def b_X11_endsByDrawing_159_s66 (j57 : Int32 × rS) (σ65 : rS) (s66 : Int32 × Int32) : Option ((Int32 × rS) ⊕ (Int32 × Int32)) := if (rI σ65 67 6) ≤ s66.2 then (oB (f_X11_roundEnds σ65 s66.1) fun _ σ68 => some (.inl ((j57.1, σ68)))) else ((f_X11_worthOf σ65 s66.2).bind fun v69 => (f_X11_worthOf σ65 s66.1).bind fun v70 => oLet ((if v70 ≤ v69 then s66.1 else s66.2 : Int32) : Int32) fun x71 => some (.inr ((x71, s66.2 + 1))))
def f_X11_endsByDrawing (σ : rS) (p1 : Int32) : Option (Int32 × rS) := oLet ((if (rI σ 67 30) ≤ 0 then 0 else 1 : Int32) : Int32) fun x1 => if x1 = 0 then (if inB (rI σ 67 24) 4 then (if (rI σ 72 (rI σ 67 24 : Int32).toNatClampNeg) = 0 then (oJoin (oLoop (b_X11_endsByDrawing_36) oFuel σ) fun j4 => oJoin (oLoop (b_X11_endsByDrawing_57 σ x1) oFuel ((0, 0, j4))) fun j9 => if inB (rI σ 67 24) 4 then (oLet (wI j9.2 77 (rI σ 67 24 : Int32).toNatClampNeg ((rI j9.2 77 (rI σ 67 24 : Int32).toNatClampNeg) + ((if (rI j9.2 76 (rI σ 67 24 : Int32).toNatClampNeg) = 0 then 0 else j9.1 : Int32)))) fun σ14 => oB (f_X11_enter σ14 p1 (rI σ 67 24) ((-1)) j9.1) fun _ σ16 => oLet (wI σ16 67 25 ((if j9.1 = 0 then ((rI σ16 67 25) + 1) else 0 : Int32))) fun σ17 => if (rI σ17 67 25) = (rI σ17 67 6) then (oLoop (b_X11_endsByDrawing_159 j9 σ17) oFuel ((0, 1))) else (if ¬ (rI σ17 67 6) = 0 then (oLet (wI σ17 67 24 (iRem ((rI σ 67 24) + 1) (rI σ17 67 6))) fun σ25 => some ((j9.1, σ25))) else none)) else none) else (oB (f_X11_passesAll σ (rI σ 67 24)) fun _ σ27 => oJoin (oLoop (b_X11_endsByDrawing_36_s30) oFuel σ27) fun j29 => oJoin (oLoop (b_X11_endsByDrawing_57_s35 σ x1) oFuel ((0, 0, j29))) fun j34 => if inB (rI σ 67 24) 4 then (oLet (wI j34.2 77 (rI σ 67 24 : Int32).toNatClampNeg ((rI j34.2 77 (rI σ 67 24 : Int32).toNatClampNeg) + ((if (rI j34.2 76 (rI σ 67 24 : Int32).toNatClampNeg) = 0 then 0 else j34.1 : Int32)))) fun σ39 => oB (f_X11_enter σ39 p1 (rI σ 67 24) ((-1)) j34.1) fun _ σ41 => oLet (wI σ41 67 25 ((if j34.1 = 0 then ((rI σ41 67 25) + 1) else 0 : Int32))) fun σ42 => if (rI σ42 67 25) = (rI σ42 67 6) then (oLoop (b_X11_endsByDrawing_159_s43 j34 σ42) oFuel ((0, 1))) else (if ¬ (rI σ42 67 6) = 0 then (oLet (wI σ42 67 24 (iRem ((rI σ 67 24) + 1) (rI σ42 67 6))) fun σ50 => some ((j34.1, σ50))) else none)) else none)) else none) else (oJoin (oLoop (b_X11_endsByDrawing_36_s53) oFuel σ) fun j52 => oJoin (oLoop (b_X11_endsByDrawing_57_s58 σ x1) oFuel ((0, 0, j52))) fun j57 => if inB (rI σ 67 24) 4 then (oLet (wI j57.2 77 (rI σ 67 24 : Int32).toNatClampNeg ((rI j57.2 77 (rI σ 67 24 : Int32).toNatClampNeg) + ((if (rI j57.2 76 (rI σ 67 24 : Int32).toNatClampNeg) = 0 then 0 else j57.1 : Int32)))) fun σ62 => oB (f_X11_enter σ62 p1 (rI σ 67 24) ((-1)) j57.1) fun _ σ64 => oLet (wI σ64 67 25 ((if j57.1 = 0 then ((rI σ64 67 25) + 1) else 0 : Int32))) fun σ65 => if (rI σ65 67 25) = (rI σ65 67 6) then (oLoop (b_X11_endsByDrawing_159_s66 j57 σ65) oFuel ((0, 1))) else (if ¬ (rI σ65 67 6) = 0 then (oLet (wI σ65 67 24 (iRem ((rI σ 67 24) + 1) (rI σ65 67 6))) fun σ73 => some ((j57.1, σ73))) else none)) else none)
set_option maxRecDepth 20000 in
set_option maxHeartbeats 2000000 in
theorem ok_X11_endsByDrawing {σ : rS} {p1 : Int32}   : rFn Sy yX11_endsByDrawing mX11_endsByDrawing 9 [.ref 67, .int p1] σ 0 0 (fun v => .inl (some (.int v))) (f_X11_endsByDrawing σ p1) := by
  refine rF_of (ls := [some (.ref 67), some (.int p1), none, none, none, none, none]) yfX11_endsByDrawing rfl (Nat.le_of_ble_eq_true rfl) (fun o τ => ?_)
  unfold f_X11_endsByDrawing
  refine P_l (fun hJ _ _ q => E_aload_n dX11_endsByDrawing_0 rfl (E_getI clX11 24 (by decide) flX11_75 (Or.inl rfl) dX11_endsByDrawing_1 (kd67 hJ.1.1) (E_istore_n (ls2 := [some (.ref 67), some (.int p1), some (.int (rI σ 67 24)), none, none, none, none]) dX11_endsByDrawing_4 (by decide) rfl (E_aload_n dX11_endsByDrawing_5 rfl (E_getI clX11 30 (by decide) flX11_303 (Or.inl rfl) dX11_endsByDrawing_6 (kd67 hJ.1.1) q))))) ?_
  refine P_l (pc2 := 17) (ls2 := [some (.ref 67), some (.int p1), some (.int (rI σ 67 24)), none, none, none, none]) (st2 := [.int ((if (rI σ 67 30) ≤ 0 then 0 else 1 : Int32))]) (fun hJ _ _ hq => ?_) ?_
  · skip
    refine E_if_le 16 dX11_endsByDrawing_9 (by decide) (fun c_9_0 => ?_) (fun c_9_0 => ?_)
    · skip
      refine E_iconst (v := 0) dX11_endsByDrawing_16 (by decide) ?_
      simp only [if_pos c_9_0] at hq
      exact hq
    · skip
      refine E_iconst (v := 1) dX11_endsByDrawing_12 (by decide) ?_
      refine E_goto 17 dX11_endsByDrawing_13 (by decide) ?_
      simp only [if_neg c_9_0] at hq
      exact hq
  · skip
    refine P_l (fun hJ _ _ q => E_istore_n (ls2 := [some (.ref 67), some (.int p1), some (.int (rI σ 67 24)), some (.int ((if (rI σ 67 30) ≤ 0 then 0 else 1 : Int32))), none, none, none]) dX11_endsByDrawing_17 (by decide) rfl q) ?_
    refine P_v ((if (rI σ 67 30) ≤ 0 then 0 else 1 : Int32)) (fun x => [some (.ref 67), some (.int p1), some (.int (rI σ 67 24)), some (.int x), none, none, none]) (fun x1 => ?_)
    refine P_l (fun hJ _ _ q => E_iload_n dX11_endsByDrawing_18 rfl q) ?_
    refine P_if (fun hJ _ _ h1 h2 => E_if_ne 36 dX11_endsByDrawing_19 (by decide) h2 h1) ?_ ?_
    · skip
      refine P_l (fun hJ _ _ q => E_aload_n dX11_endsByDrawing_22 rfl (E_getR (b := 72) clX11 11 (by decide) flX11_40 (Or.inr ⟨_, rfl⟩) dX11_endsByDrawing_23 (kd67 hJ.1.1) (rf67_11 hJ.1.1) (by decide) (E_iload_n dX11_endsByDrawing_26 rfl q))) ?_
      refine P_g (fun g2 => ?_)
      refine P_l (fun hJ _ _ q => E_zald dX11_endsByDrawing_27 (kd72 hJ.1.1) (inB_vp g2) q) ?_
      refine P_if (fun hJ _ _ h1 h2 => E_if_eq 36 dX11_endsByDrawing_28 (by decide) h1 h2) ?_ ?_
      · skip
        refine P_join (pc2 := 51) (fun j4 => [some (.ref 67), some (.int p1), some (.int (rI σ 67 24)), some (.int x1), none, none, none]) (fun j4 => []) (fun j4 => j4) ?_ (fun j4 => ?_)
        · skip
          refine P_loop (fun s5 => [some (.ref 67), some (.int p1), some (.int (rI σ 67 24)), some (.int x1), none, none, none]) (fun s5 => s5) (fun s5 => ?_) _ σ
          unfold b_X11_endsByDrawing_36
          refine P_l (fun hJ _ _ q => E_aload_n dX11_endsByDrawing_36 rfl (E_getI clX11 30 (by decide) flX11_303 (Or.inl rfl) dX11_endsByDrawing_37 (kd67 hJ.1.1) q)) ?_
          refine P_if (fun hJ _ _ h1 h2 => E_if_le 51 dX11_endsByDrawing_40 (by decide) h1 h2) ?_ ?_
          · skip
            exact P_inl (P_back s5)
          · skip
            refine P_l (fun hJ _ _ q => E_aload_n dX11_endsByDrawing_43 rfl q) ?_
            refine P_call (t := fun v => some (.int v)) (st2 := fun v => .int v :: []) (kc2 := 0) (ks2 := 0) (fun hJ => (ok_X11_undoes (σ := s5)  )) (fun hJ _ _ _ _ v τ1 hM q => E_callV (as := []) (b := 67) (st := []) hM (by decide) yfX11_undoes mlX11_350 imX11_undoes seX11_undoes clX11 (kd67 hJ.1.1) rfl (Nat.le_of_ble_eq_true rfl) rfl dX11_endsByDrawing_44 q) (by decide) (by decide) (fun v6 σ7 => ?_)
            refine P_l (fun hJ _ _ q => E_pop dX11_endsByDrawing_47 rfl (E_goto 36 dX11_endsByDrawing_48 (by decide) q)) ?_
            exact P_back σ7
        · skip
          refine P_l (fun hJ _ _ q => E_iconst (v := 0) dX11_endsByDrawing_51 (by decide) (E_istore (ls2 := [some (.ref 67), some (.int p1), some (.int (rI σ 67 24)), some (.int x1), some (.int 0), none, none]) dX11_endsByDrawing_52 (by decide) rfl (E_iconst (v := 0) dX11_endsByDrawing_54 (by decide) (E_istore (ls2 := [some (.ref 67), some (.int p1), some (.int (rI σ 67 24)), some (.int x1), some (.int 0), some (.int 0), none]) dX11_endsByDrawing_55 (by decide) rfl q)))) ?_
          refine P_join (pc2 := 90) (fun j9 => [some (.ref 67), some (.int p1), some (.int (rI σ 67 24)), none, some (.int j9.1), none, none]) (fun j9 => []) (fun j9 => j9.2) ?_ (fun j9 => ?_)
          · skip
            refine P_loop (fun s10 => [some (.ref 67), some (.int p1), some (.int (rI σ 67 24)), some (.int x1), some (.int s10.1), some (.int s10.2.1), none]) (fun s10 => s10.2.2) (fun s10 => ?_) _ ((0, 0, j4))
            unfold b_X11_endsByDrawing_57
            refine P_l (fun hJ _ _ q => E_iload dX11_endsByDrawing_57 rfl (E_iload_n dX11_endsByDrawing_59 rfl q)) ?_
            refine P_l (pc2 := 71) (ls2 := [some (.ref 67), some (.int p1), some (.int (rI σ 67 24)), some (.int x1), some (.int s10.1), some (.int s10.2.1), none]) (st2 := [.int ((if x1 = 0 then 1 else (rI s10.2.2 67 5) : Int32)), .int s10.2.1]) (fun hJ _ _ hq => ?_) ?_
            · skip
              refine E_if_eq 70 dX11_endsByDrawing_60 (by decide) (fun c_60_0 => ?_) (fun c_60_0 => ?_)
              · skip
                refine E_iconst (v := 1) dX11_endsByDrawing_70 (by decide) ?_
                simp only [if_pos c_60_0] at hq
                exact hq
              · skip
                refine E_aload_n dX11_endsByDrawing_63 rfl ?_
                refine E_getI clX11 5 (by decide) flX11_24 (Or.inl rfl) dX11_endsByDrawing_64 (kd67 hJ.1.1) ?_
                refine E_goto 71 dX11_endsByDrawing_67 (by decide) ?_
                simp only [if_neg c_60_0] at hq
                exact hq
            · skip
              refine P_if (fun hJ _ _ h1 h2 => E_icmp_ge 90 dX11_endsByDrawing_71 (by decide) h1 h2) ?_ ?_
              · skip
                refine P_less [some (.ref 67), some (.int p1), some (.int (rI σ 67 24)), none, some (.int s10.1), none, none] (And.intro rfl (And.intro rfl (And.intro rfl (And.intro rfl trivial)))) ?_
                exact P_inl (P_back ((s10.1, s10.2.2)))
              · skip
                refine P_l (fun hJ _ _ q => E_iload dX11_endsByDrawing_74 rfl (E_aload_n dX11_endsByDrawing_76 rfl (E_iload_n dX11_endsByDrawing_77 rfl q))) ?_
                refine P_call (t := fun v => some (.int v)) (st2 := fun v => .int v :: [.int s10.1]) (kc2 := 0) (ks2 := 0) (fun hJ => (ok_X11_draws (σ := s10.2.2) (p1 := rI σ 67 24) )) (fun hJ _ _ _ _ v τ1 hM q => E_callV (as := [.int (rI σ 67 24)]) (b := 67) (st := [.int s10.1]) hM (by decide) yfX11_draws mlX11_325 imX11_draws seX11_draws clX11 (kd67 hJ.1.1) rfl (Nat.le_of_ble_eq_true rfl) rfl dX11_endsByDrawing_78 q) (by decide) (by decide) (fun v11 σ12 => ?_)
                refine P_l (fun hJ _ _ q => E_iadd dX11_endsByDrawing_81 (E_istore (ls2 := [some (.ref 67), some (.int p1), some (.int (rI σ 67 24)), some (.int x1), some (.int (s10.1 + v11)), some (.int s10.2.1), none]) dX11_endsByDrawing_82 (by decide) rfl (E_iinc (v := 1) (ls2 := [some (.ref 67), some (.int p1), some (.int (rI σ 67 24)), some (.int x1), some (.int (s10.1 + v11)), some (.int (s10.2.1 + 1)), none]) dX11_endsByDrawing_84 rfl (by decide) (by decide) rfl (E_goto 57 dX11_endsByDrawing_87 (by decide) q)))) ?_
                exact P_back ((s10.1 + v11, s10.2.1 + 1, σ12))
          · skip
            refine P_l (fun hJ _ _ q => E_aload_n dX11_endsByDrawing_90 rfl (E_getR (b := 77) clX11 16 (by decide) flX11_57 (Or.inr ⟨_, rfl⟩) dX11_endsByDrawing_91 (kd67 hJ.1.1) (rf67_16 hJ.1.1) (by decide) (E_iload_n dX11_endsByDrawing_94 rfl (E_dup2 dX11_endsByDrawing_95 rfl rfl q)))) ?_
            refine P_g (fun g13 => ?_)
            refine P_l (fun hJ _ _ q => E_iald dX11_endsByDrawing_96 (kd77 hJ.1.1) (inB_vp g13) (E_aload_n dX11_endsByDrawing_97 rfl (E_getR (b := 76) clX11 15 (by decide) flX11_54 (Or.inr ⟨_, rfl⟩) dX11_endsByDrawing_98 (kd67 hJ.1.1) (rf67_15 hJ.1.1) (by decide) (E_iload_n dX11_endsByDrawing_101 rfl (E_zald dX11_endsByDrawing_102 (kd76 hJ.1.1) (inB_vp g13) q))))) ?_
            refine P_l (pc2 := 112) (ls2 := [some (.ref 67), some (.int p1), some (.int (rI σ 67 24)), none, some (.int j9.1), none, none]) (st2 := [.int ((if (rI j9.2 76 (rI σ 67 24 : Int32).toNatClampNeg) = 0 then 0 else j9.1 : Int32)), .int (rI j9.2 77 (rI σ 67 24 : Int32).toNatClampNeg), .int (rI σ 67 24), .ref 77]) (fun hJ _ _ hq => ?_) ?_
            · skip
              refine E_if_eq 111 dX11_endsByDrawing_103 (by decide) (fun c_103_0 => ?_) (fun c_103_0 => ?_)
              · skip
                refine E_iconst (v := 0) dX11_endsByDrawing_111 (by decide) ?_
                simp only [if_pos c_103_0] at hq
                exact hq
              · skip
                refine E_iload dX11_endsByDrawing_106 rfl ?_
                refine E_goto 112 dX11_endsByDrawing_108 (by decide) ?_
                simp only [if_neg c_103_0] at hq
                exact hq
            · skip
              refine P_l (fun hJ _ _ q => E_iadd dX11_endsByDrawing_112 q) ?_
              refine P_w (fun hJ _ _ q => E_iast dX11_endsByDrawing_113 (kd77 hJ.1.1) (by decide) (inB_vp g13) q) (fun hJ => Sy_wI hJ.1) rfl rfl rfl (fun σ14 hσ14 => ?_)
              refine P_l (fun hJ _ _ q => E_aload_n dX11_endsByDrawing_114 rfl (E_iload_n dX11_endsByDrawing_115 rfl (E_iload_n dX11_endsByDrawing_116 rfl (E_iconst (v := (-1)) dX11_endsByDrawing_117 (by decide) (E_iload dX11_endsByDrawing_118 rfl q))))) ?_
              refine P_call (t := fun _ => none) (st2 := fun _ => []) (kc2 := 0) (ks2 := 0) (fun hJ => (ok_X11_enter (σ := σ14) (p1 := p1) (p2 := rI σ 67 24) (p3 := (-1)) (p4 := j9.1) )) (fun hJ _ _ _ _ v τ1 hM q => E_callV (as := [.int p1, .int (rI σ 67 24), .int ((-1)), .int j9.1]) (b := 67) (st := []) hM (by decide) yfX11_enter mlX11_328 imX11_enter seX11_enter clX11 (kd67 hJ.1.1) rfl (Nat.le_of_ble_eq_true rfl) rfl dX11_endsByDrawing_120 q) (by decide) (by decide) (fun v15 σ16 => ?_)
              refine P_l (fun hJ _ _ q => E_aload_n dX11_endsByDrawing_123 rfl (E_iload dX11_endsByDrawing_124 rfl q)) ?_
              refine P_l (pc2 := 139) (ls2 := [some (.ref 67), none, some (.int (rI σ 67 24)), none, some (.int j9.1), none, none]) (st2 := [.int ((if j9.1 = 0 then ((rI σ16 67 25) + 1) else 0 : Int32)), .ref 67]) (fun hJ _ _ hq => ?_) ?_
              · skip
                refine E_if_ne 138 dX11_endsByDrawing_126 (by decide) (fun c_126_0 => ?_) (fun c_126_0 => ?_)
                · skip
                  refine E_iconst (v := 0) dX11_endsByDrawing_138 (by decide) ?_
                  simp only [if_neg c_126_0] at hq
                  exact E_less (ls2 := [some (.ref 67), none, some (.int (rI σ 67 24)), none, some (.int j9.1), none, none]) hq (rLe_at [some (.ref 67), none, some (.int (rI σ 67 24)), none, some (.int j9.1), none, none] [some (.ref 67), some (.int p1), some (.int (rI σ 67 24)), none, some (.int j9.1), none, none] (And.intro rfl (And.intro rfl (And.intro rfl trivial))))
                · skip
                  refine E_aload_n dX11_endsByDrawing_129 rfl ?_
                  refine E_getI clX11 25 (by decide) flX11_322 (Or.inl rfl) dX11_endsByDrawing_130 (kd67 hJ.1.1) ?_
                  refine E_iconst (v := 1) dX11_endsByDrawing_133 (by decide) ?_
                  refine E_iadd dX11_endsByDrawing_134 ?_
                  refine E_goto 139 dX11_endsByDrawing_135 (by decide) ?_
                  simp only [if_pos c_126_0] at hq
                  exact E_less (ls2 := [some (.ref 67), none, some (.int (rI σ 67 24)), none, some (.int j9.1), none, none]) hq (rLe_at [some (.ref 67), none, some (.int (rI σ 67 24)), none, some (.int j9.1), none, none] [some (.ref 67), some (.int p1), some (.int (rI σ 67 24)), none, some (.int j9.1), none, none] (And.intro rfl (And.intro rfl (And.intro rfl trivial))))
              · skip
                refine P_w (fun hJ _ _ q => E_putI clX11 25 (by decide) flX11_322 (Or.inl rfl) rfl dX11_endsByDrawing_139 (kd67 hJ.1.1) q) (fun hJ => Sy_wI hJ.1) rfl rfl rfl (fun σ17 hσ17 => ?_)
                refine P_l (fun hJ _ _ q => E_aload_n dX11_endsByDrawing_142 rfl (E_getI clX11 25 (by decide) flX11_322 (Or.inl rfl) dX11_endsByDrawing_143 (kd67 hJ.1.1) (E_aload_n dX11_endsByDrawing_146 rfl (E_getI clX11 6 (by decide) flX11_186 (Or.inl rfl) dX11_endsByDrawing_147 (kd67 hJ.1.1) q)))) ?_
                refine P_if (fun hJ _ _ h1 h2 => E_icmp_ne 207 dX11_endsByDrawing_150 (by decide) h2 h1) ?_ ?_
                · skip
                  refine P_l (fun hJ _ _ q => E_iconst (v := 0) dX11_endsByDrawing_153 (by decide) (E_istore (ls2 := [some (.ref 67), none, some (.int (rI σ 67 24)), none, some (.int j9.1), some (.int 0), none]) dX11_endsByDrawing_154 (by decide) rfl (E_iconst (v := 1) dX11_endsByDrawing_156 (by decide) (E_istore (ls2 := [some (.ref 67), none, some (.int (rI σ 67 24)), none, some (.int j9.1), some (.int 0), some (.int 1)]) dX11_endsByDrawing_157 (by decide) rfl q)))) ?_
                  refine P_less [some (.ref 67), none, none, none, some (.int j9.1), some (.int 0), some (.int 1)] (And.intro rfl (And.intro rfl (And.intro rfl (And.intro rfl trivial)))) ?_
                  refine P_loop (fun s18 => [some (.ref 67), none, none, none, some (.int j9.1), some (.int s18.1), some (.int s18.2)]) (fun _ => σ17) (fun s18 => ?_) _ ((0, 1))
                  unfold b_X11_endsByDrawing_159
                  refine P_l (fun hJ _ _ q => E_iload dX11_endsByDrawing_159 rfl (E_aload_n dX11_endsByDrawing_161 rfl (E_getI clX11 6 (by decide) flX11_186 (Or.inl rfl) dX11_endsByDrawing_162 (kd67 hJ.1.1) q))) ?_
                  refine P_if (fun hJ _ _ h1 h2 => E_icmp_ge 198 dX11_endsByDrawing_165 (by decide) h1 h2) ?_ ?_
                  · skip
                    refine P_l (fun hJ _ _ q => E_aload_n dX11_endsByDrawing_198 rfl (E_iload dX11_endsByDrawing_199 rfl q)) ?_
                    refine P_call (t := fun _ => none) (st2 := fun _ => []) (kc2 := 0) (ks2 := 0) (fun hJ => (ok_X11_roundEnds (σ := σ17) (p1 := s18.1) )) (fun hJ _ _ _ _ v τ1 hM q => E_callV (as := [.int s18.1]) (b := 67) (st := []) hM (by decide) yfX11_roundEnds mlX11_368 imX11_roundEnds seX11_roundEnds clX11 (kd67 hJ.1.1) rfl (Nat.le_of_ble_eq_true rfl) rfl dX11_endsByDrawing_201 q) (by decide) (by decide) (fun v19 σ20 => ?_)
                    refine P_l (fun hJ _ _ q => E_goto 219 dX11_endsByDrawing_204 (by decide) (E_iload dX11_endsByDrawing_219 rfl q)) ?_
                    exact P_inl (P_ret (fun _ _ => E_iret rfl dX11_endsByDrawing_221))
                  · skip
                    refine P_l (fun hJ _ _ q => E_aload_n dX11_endsByDrawing_168 rfl (E_iload dX11_endsByDrawing_169 rfl q)) ?_
                    refine P_callr (t := fun v => some (.int v)) (st2 := fun v => .int v :: []) (fun hJ => (ok_X11_worthOf (σ := σ17) (p1 := s18.2) )) (fun hJ _ _ v hM q => E_callV (as := [.int s18.2]) (b := 67) (st := []) hM (by decide) yfX11_worthOf mlX11_356 imX11_worthOf seX11_worthOf clX11 (kd67 hJ.1.1) rfl (Nat.le_of_ble_eq_true rfl) rfl dX11_endsByDrawing_171 q) (fun v21 => ?_)
                    refine P_l (fun hJ _ _ q => E_aload_n dX11_endsByDrawing_174 rfl (E_iload dX11_endsByDrawing_175 rfl q)) ?_
                    refine P_callr (t := fun v => some (.int v)) (st2 := fun v => .int v :: [.int v21]) (fun hJ => (ok_X11_worthOf (σ := σ17) (p1 := s18.1) )) (fun hJ _ _ v hM q => E_callV (as := [.int s18.1]) (b := 67) (st := [.int v21]) hM (by decide) yfX11_worthOf mlX11_356 imX11_worthOf seX11_worthOf clX11 (kd67 hJ.1.1) rfl (Nat.le_of_ble_eq_true rfl) rfl dX11_endsByDrawing_177 q) (fun v22 => ?_)
                    refine P_l (pc2 := 190) (ls2 := [some (.ref 67), none, none, none, some (.int j9.1), none, some (.int s18.2)]) (st2 := [.int ((if v22 ≤ v21 then s18.1 else s18.2 : Int32))]) (fun hJ _ _ hq => ?_) ?_
                    · skip
                      refine E_icmp_ge 188 dX11_endsByDrawing_180 (by decide) (fun c_180_0 => ?_) (fun c_180_0 => ?_)
                      · skip
                        refine E_iload dX11_endsByDrawing_188 rfl ?_
                        simp only [if_pos c_180_0] at hq
                        exact E_less (ls2 := [some (.ref 67), none, none, none, some (.int j9.1), none, some (.int s18.2)]) hq (rLe_at [some (.ref 67), none, none, none, some (.int j9.1), none, some (.int s18.2)] [some (.ref 67), none, none, none, some (.int j9.1), some (.int s18.1), some (.int s18.2)] (And.intro rfl (And.intro rfl (And.intro rfl trivial))))
                      · skip
                        refine E_iload dX11_endsByDrawing_183 rfl ?_
                        refine E_goto 190 dX11_endsByDrawing_185 (by decide) ?_
                        simp only [if_neg c_180_0] at hq
                        exact E_less (ls2 := [some (.ref 67), none, none, none, some (.int j9.1), none, some (.int s18.2)]) hq (rLe_at [some (.ref 67), none, none, none, some (.int j9.1), none, some (.int s18.2)] [some (.ref 67), none, none, none, some (.int j9.1), some (.int s18.1), some (.int s18.2)] (And.intro rfl (And.intro rfl (And.intro rfl trivial))))
                    · skip
                      refine P_l (fun hJ _ _ q => E_istore (ls2 := [some (.ref 67), none, none, none, some (.int j9.1), some (.int ((if v22 ≤ v21 then s18.1 else s18.2 : Int32))), some (.int s18.2)]) dX11_endsByDrawing_190 (by decide) rfl q) ?_
                      refine P_v ((if v22 ≤ v21 then s18.1 else s18.2 : Int32)) (fun x => [some (.ref 67), none, none, none, some (.int j9.1), some (.int x), some (.int s18.2)]) (fun x23 => ?_)
                      refine P_l (fun hJ _ _ q => E_iinc (v := 1) (ls2 := [some (.ref 67), none, none, none, some (.int j9.1), some (.int x23), some (.int (s18.2 + 1))]) dX11_endsByDrawing_192 rfl (by decide) (by decide) rfl (E_goto 159 dX11_endsByDrawing_195 (by decide) q)) ?_
                      exact P_back ((x23, s18.2 + 1))
                · skip
                  refine P_l (fun hJ _ _ q => E_aload_n dX11_endsByDrawing_207 rfl (E_iload_n dX11_endsByDrawing_208 rfl (E_iconst (v := 1) dX11_endsByDrawing_209 (by decide) (E_iadd dX11_endsByDrawing_210 (E_aload_n dX11_endsByDrawing_211 rfl (E_getI clX11 6 (by decide) flX11_186 (Or.inl rfl) dX11_endsByDrawing_212 (kd67 hJ.1.1) q)))))) ?_
                  refine P_g (fun g24 => ?_)
                  refine P_l (fun hJ _ _ q => E_irem dX11_endsByDrawing_215 g24 q) ?_
                  refine P_w (fun hJ _ _ q => E_putI clX11 24 (by decide) flX11_75 (Or.inl rfl) rfl dX11_endsByDrawing_216 (kd67 hJ.1.1) q) (fun hJ => Sy_wI hJ.1) rfl rfl rfl (fun σ25 hσ25 => ?_)
                  refine P_l (fun hJ _ _ q => E_iload dX11_endsByDrawing_219 rfl q) ?_
                  exact P_ret (fun _ _ => E_iret rfl dX11_endsByDrawing_221)
      · skip
        refine P_l (fun hJ _ _ q => E_aload_n dX11_endsByDrawing_31 rfl (E_iload_n dX11_endsByDrawing_32 rfl q)) ?_
        refine P_call (t := fun _ => none) (st2 := fun _ => []) (kc2 := 0) (ks2 := 0) (fun hJ => (ok_X11_passesAll (σ := σ) (p1 := rI σ 67 24) )) (fun hJ _ _ _ _ v τ1 hM q => E_callV (as := [.int (rI σ 67 24)]) (b := 67) (st := []) hM (by decide) yfX11_passesAll mlX11_375 imX11_passesAll seX11_passesAll clX11 (kd67 hJ.1.1) rfl (Nat.le_of_ble_eq_true rfl) rfl dX11_endsByDrawing_33 q) (by decide) (by decide) (fun v26 σ27 => ?_)
        refine P_join (pc2 := 51) (fun j29 => [some (.ref 67), some (.int p1), some (.int (rI σ 67 24)), some (.int x1), none, none, none]) (fun j29 => []) (fun j29 => j29) ?_ (fun j29 => ?_)
        · skip
          refine P_loop (fun s30 => [some (.ref 67), some (.int p1), some (.int (rI σ 67 24)), some (.int x1), none, none, none]) (fun s30 => s30) (fun s30 => ?_) _ σ27
          unfold b_X11_endsByDrawing_36_s30
          refine P_l (fun hJ _ _ q => E_aload_n dX11_endsByDrawing_36 rfl (E_getI clX11 30 (by decide) flX11_303 (Or.inl rfl) dX11_endsByDrawing_37 (kd67 hJ.1.1) q)) ?_
          refine P_if (fun hJ _ _ h1 h2 => E_if_le 51 dX11_endsByDrawing_40 (by decide) h1 h2) ?_ ?_
          · skip
            exact P_inl (P_back s30)
          · skip
            refine P_l (fun hJ _ _ q => E_aload_n dX11_endsByDrawing_43 rfl q) ?_
            refine P_call (t := fun v => some (.int v)) (st2 := fun v => .int v :: []) (kc2 := 0) (ks2 := 0) (fun hJ => (ok_X11_undoes (σ := s30)  )) (fun hJ _ _ _ _ v τ1 hM q => E_callV (as := []) (b := 67) (st := []) hM (by decide) yfX11_undoes mlX11_350 imX11_undoes seX11_undoes clX11 (kd67 hJ.1.1) rfl (Nat.le_of_ble_eq_true rfl) rfl dX11_endsByDrawing_44 q) (by decide) (by decide) (fun v31 σ32 => ?_)
            refine P_l (fun hJ _ _ q => E_pop dX11_endsByDrawing_47 rfl (E_goto 36 dX11_endsByDrawing_48 (by decide) q)) ?_
            exact P_back σ32
        · skip
          refine P_l (fun hJ _ _ q => E_iconst (v := 0) dX11_endsByDrawing_51 (by decide) (E_istore (ls2 := [some (.ref 67), some (.int p1), some (.int (rI σ 67 24)), some (.int x1), some (.int 0), none, none]) dX11_endsByDrawing_52 (by decide) rfl (E_iconst (v := 0) dX11_endsByDrawing_54 (by decide) (E_istore (ls2 := [some (.ref 67), some (.int p1), some (.int (rI σ 67 24)), some (.int x1), some (.int 0), some (.int 0), none]) dX11_endsByDrawing_55 (by decide) rfl q)))) ?_
          refine P_join (pc2 := 90) (fun j34 => [some (.ref 67), some (.int p1), some (.int (rI σ 67 24)), none, some (.int j34.1), none, none]) (fun j34 => []) (fun j34 => j34.2) ?_ (fun j34 => ?_)
          · skip
            refine P_loop (fun s35 => [some (.ref 67), some (.int p1), some (.int (rI σ 67 24)), some (.int x1), some (.int s35.1), some (.int s35.2.1), none]) (fun s35 => s35.2.2) (fun s35 => ?_) _ ((0, 0, j29))
            unfold b_X11_endsByDrawing_57_s35
            refine P_l (fun hJ _ _ q => E_iload dX11_endsByDrawing_57 rfl (E_iload_n dX11_endsByDrawing_59 rfl q)) ?_
            refine P_l (pc2 := 71) (ls2 := [some (.ref 67), some (.int p1), some (.int (rI σ 67 24)), some (.int x1), some (.int s35.1), some (.int s35.2.1), none]) (st2 := [.int ((if x1 = 0 then 1 else (rI s35.2.2 67 5) : Int32)), .int s35.2.1]) (fun hJ _ _ hq => ?_) ?_
            · skip
              refine E_if_eq 70 dX11_endsByDrawing_60 (by decide) (fun c_60_0 => ?_) (fun c_60_0 => ?_)
              · skip
                refine E_iconst (v := 1) dX11_endsByDrawing_70 (by decide) ?_
                simp only [if_pos c_60_0] at hq
                exact hq
              · skip
                refine E_aload_n dX11_endsByDrawing_63 rfl ?_
                refine E_getI clX11 5 (by decide) flX11_24 (Or.inl rfl) dX11_endsByDrawing_64 (kd67 hJ.1.1) ?_
                refine E_goto 71 dX11_endsByDrawing_67 (by decide) ?_
                simp only [if_neg c_60_0] at hq
                exact hq
            · skip
              refine P_if (fun hJ _ _ h1 h2 => E_icmp_ge 90 dX11_endsByDrawing_71 (by decide) h1 h2) ?_ ?_
              · skip
                refine P_less [some (.ref 67), some (.int p1), some (.int (rI σ 67 24)), none, some (.int s35.1), none, none] (And.intro rfl (And.intro rfl (And.intro rfl (And.intro rfl trivial)))) ?_
                exact P_inl (P_back ((s35.1, s35.2.2)))
              · skip
                refine P_l (fun hJ _ _ q => E_iload dX11_endsByDrawing_74 rfl (E_aload_n dX11_endsByDrawing_76 rfl (E_iload_n dX11_endsByDrawing_77 rfl q))) ?_
                refine P_call (t := fun v => some (.int v)) (st2 := fun v => .int v :: [.int s35.1]) (kc2 := 0) (ks2 := 0) (fun hJ => (ok_X11_draws (σ := s35.2.2) (p1 := rI σ 67 24) )) (fun hJ _ _ _ _ v τ1 hM q => E_callV (as := [.int (rI σ 67 24)]) (b := 67) (st := [.int s35.1]) hM (by decide) yfX11_draws mlX11_325 imX11_draws seX11_draws clX11 (kd67 hJ.1.1) rfl (Nat.le_of_ble_eq_true rfl) rfl dX11_endsByDrawing_78 q) (by decide) (by decide) (fun v36 σ37 => ?_)
                refine P_l (fun hJ _ _ q => E_iadd dX11_endsByDrawing_81 (E_istore (ls2 := [some (.ref 67), some (.int p1), some (.int (rI σ 67 24)), some (.int x1), some (.int (s35.1 + v36)), some (.int s35.2.1), none]) dX11_endsByDrawing_82 (by decide) rfl (E_iinc (v := 1) (ls2 := [some (.ref 67), some (.int p1), some (.int (rI σ 67 24)), some (.int x1), some (.int (s35.1 + v36)), some (.int (s35.2.1 + 1)), none]) dX11_endsByDrawing_84 rfl (by decide) (by decide) rfl (E_goto 57 dX11_endsByDrawing_87 (by decide) q)))) ?_
                exact P_back ((s35.1 + v36, s35.2.1 + 1, σ37))
          · skip
            refine P_l (fun hJ _ _ q => E_aload_n dX11_endsByDrawing_90 rfl (E_getR (b := 77) clX11 16 (by decide) flX11_57 (Or.inr ⟨_, rfl⟩) dX11_endsByDrawing_91 (kd67 hJ.1.1) (rf67_16 hJ.1.1) (by decide) (E_iload_n dX11_endsByDrawing_94 rfl (E_dup2 dX11_endsByDrawing_95 rfl rfl q)))) ?_
            refine P_g (fun g38 => ?_)
            refine P_l (fun hJ _ _ q => E_iald dX11_endsByDrawing_96 (kd77 hJ.1.1) (inB_vp g38) (E_aload_n dX11_endsByDrawing_97 rfl (E_getR (b := 76) clX11 15 (by decide) flX11_54 (Or.inr ⟨_, rfl⟩) dX11_endsByDrawing_98 (kd67 hJ.1.1) (rf67_15 hJ.1.1) (by decide) (E_iload_n dX11_endsByDrawing_101 rfl (E_zald dX11_endsByDrawing_102 (kd76 hJ.1.1) (inB_vp g38) q))))) ?_
            refine P_l (pc2 := 112) (ls2 := [some (.ref 67), some (.int p1), some (.int (rI σ 67 24)), none, some (.int j34.1), none, none]) (st2 := [.int ((if (rI j34.2 76 (rI σ 67 24 : Int32).toNatClampNeg) = 0 then 0 else j34.1 : Int32)), .int (rI j34.2 77 (rI σ 67 24 : Int32).toNatClampNeg), .int (rI σ 67 24), .ref 77]) (fun hJ _ _ hq => ?_) ?_
            · skip
              refine E_if_eq 111 dX11_endsByDrawing_103 (by decide) (fun c_103_0 => ?_) (fun c_103_0 => ?_)
              · skip
                refine E_iconst (v := 0) dX11_endsByDrawing_111 (by decide) ?_
                simp only [if_pos c_103_0] at hq
                exact hq
              · skip
                refine E_iload dX11_endsByDrawing_106 rfl ?_
                refine E_goto 112 dX11_endsByDrawing_108 (by decide) ?_
                simp only [if_neg c_103_0] at hq
                exact hq
            · skip
              refine P_l (fun hJ _ _ q => E_iadd dX11_endsByDrawing_112 q) ?_
              refine P_w (fun hJ _ _ q => E_iast dX11_endsByDrawing_113 (kd77 hJ.1.1) (by decide) (inB_vp g38) q) (fun hJ => Sy_wI hJ.1) rfl rfl rfl (fun σ39 hσ39 => ?_)
              refine P_l (fun hJ _ _ q => E_aload_n dX11_endsByDrawing_114 rfl (E_iload_n dX11_endsByDrawing_115 rfl (E_iload_n dX11_endsByDrawing_116 rfl (E_iconst (v := (-1)) dX11_endsByDrawing_117 (by decide) (E_iload dX11_endsByDrawing_118 rfl q))))) ?_
              refine P_call (t := fun _ => none) (st2 := fun _ => []) (kc2 := 0) (ks2 := 0) (fun hJ => (ok_X11_enter (σ := σ39) (p1 := p1) (p2 := rI σ 67 24) (p3 := (-1)) (p4 := j34.1) )) (fun hJ _ _ _ _ v τ1 hM q => E_callV (as := [.int p1, .int (rI σ 67 24), .int ((-1)), .int j34.1]) (b := 67) (st := []) hM (by decide) yfX11_enter mlX11_328 imX11_enter seX11_enter clX11 (kd67 hJ.1.1) rfl (Nat.le_of_ble_eq_true rfl) rfl dX11_endsByDrawing_120 q) (by decide) (by decide) (fun v40 σ41 => ?_)
              refine P_l (fun hJ _ _ q => E_aload_n dX11_endsByDrawing_123 rfl (E_iload dX11_endsByDrawing_124 rfl q)) ?_
              refine P_l (pc2 := 139) (ls2 := [some (.ref 67), none, some (.int (rI σ 67 24)), none, some (.int j34.1), none, none]) (st2 := [.int ((if j34.1 = 0 then ((rI σ41 67 25) + 1) else 0 : Int32)), .ref 67]) (fun hJ _ _ hq => ?_) ?_
              · skip
                refine E_if_ne 138 dX11_endsByDrawing_126 (by decide) (fun c_126_0 => ?_) (fun c_126_0 => ?_)
                · skip
                  refine E_iconst (v := 0) dX11_endsByDrawing_138 (by decide) ?_
                  simp only [if_neg c_126_0] at hq
                  exact E_less (ls2 := [some (.ref 67), none, some (.int (rI σ 67 24)), none, some (.int j34.1), none, none]) hq (rLe_at [some (.ref 67), none, some (.int (rI σ 67 24)), none, some (.int j34.1), none, none] [some (.ref 67), some (.int p1), some (.int (rI σ 67 24)), none, some (.int j34.1), none, none] (And.intro rfl (And.intro rfl (And.intro rfl trivial))))
                · skip
                  refine E_aload_n dX11_endsByDrawing_129 rfl ?_
                  refine E_getI clX11 25 (by decide) flX11_322 (Or.inl rfl) dX11_endsByDrawing_130 (kd67 hJ.1.1) ?_
                  refine E_iconst (v := 1) dX11_endsByDrawing_133 (by decide) ?_
                  refine E_iadd dX11_endsByDrawing_134 ?_
                  refine E_goto 139 dX11_endsByDrawing_135 (by decide) ?_
                  simp only [if_pos c_126_0] at hq
                  exact E_less (ls2 := [some (.ref 67), none, some (.int (rI σ 67 24)), none, some (.int j34.1), none, none]) hq (rLe_at [some (.ref 67), none, some (.int (rI σ 67 24)), none, some (.int j34.1), none, none] [some (.ref 67), some (.int p1), some (.int (rI σ 67 24)), none, some (.int j34.1), none, none] (And.intro rfl (And.intro rfl (And.intro rfl trivial))))
              · skip
                refine P_w (fun hJ _ _ q => E_putI clX11 25 (by decide) flX11_322 (Or.inl rfl) rfl dX11_endsByDrawing_139 (kd67 hJ.1.1) q) (fun hJ => Sy_wI hJ.1) rfl rfl rfl (fun σ42 hσ42 => ?_)
                refine P_l (fun hJ _ _ q => E_aload_n dX11_endsByDrawing_142 rfl (E_getI clX11 25 (by decide) flX11_322 (Or.inl rfl) dX11_endsByDrawing_143 (kd67 hJ.1.1) (E_aload_n dX11_endsByDrawing_146 rfl (E_getI clX11 6 (by decide) flX11_186 (Or.inl rfl) dX11_endsByDrawing_147 (kd67 hJ.1.1) q)))) ?_
                refine P_if (fun hJ _ _ h1 h2 => E_icmp_ne 207 dX11_endsByDrawing_150 (by decide) h2 h1) ?_ ?_
                · skip
                  refine P_l (fun hJ _ _ q => E_iconst (v := 0) dX11_endsByDrawing_153 (by decide) (E_istore (ls2 := [some (.ref 67), none, some (.int (rI σ 67 24)), none, some (.int j34.1), some (.int 0), none]) dX11_endsByDrawing_154 (by decide) rfl (E_iconst (v := 1) dX11_endsByDrawing_156 (by decide) (E_istore (ls2 := [some (.ref 67), none, some (.int (rI σ 67 24)), none, some (.int j34.1), some (.int 0), some (.int 1)]) dX11_endsByDrawing_157 (by decide) rfl q)))) ?_
                  refine P_less [some (.ref 67), none, none, none, some (.int j34.1), some (.int 0), some (.int 1)] (And.intro rfl (And.intro rfl (And.intro rfl (And.intro rfl trivial)))) ?_
                  refine P_loop (fun s43 => [some (.ref 67), none, none, none, some (.int j34.1), some (.int s43.1), some (.int s43.2)]) (fun _ => σ42) (fun s43 => ?_) _ ((0, 1))
                  unfold b_X11_endsByDrawing_159_s43
                  refine P_l (fun hJ _ _ q => E_iload dX11_endsByDrawing_159 rfl (E_aload_n dX11_endsByDrawing_161 rfl (E_getI clX11 6 (by decide) flX11_186 (Or.inl rfl) dX11_endsByDrawing_162 (kd67 hJ.1.1) q))) ?_
                  refine P_if (fun hJ _ _ h1 h2 => E_icmp_ge 198 dX11_endsByDrawing_165 (by decide) h1 h2) ?_ ?_
                  · skip
                    refine P_l (fun hJ _ _ q => E_aload_n dX11_endsByDrawing_198 rfl (E_iload dX11_endsByDrawing_199 rfl q)) ?_
                    refine P_call (t := fun _ => none) (st2 := fun _ => []) (kc2 := 0) (ks2 := 0) (fun hJ => (ok_X11_roundEnds (σ := σ42) (p1 := s43.1) )) (fun hJ _ _ _ _ v τ1 hM q => E_callV (as := [.int s43.1]) (b := 67) (st := []) hM (by decide) yfX11_roundEnds mlX11_368 imX11_roundEnds seX11_roundEnds clX11 (kd67 hJ.1.1) rfl (Nat.le_of_ble_eq_true rfl) rfl dX11_endsByDrawing_201 q) (by decide) (by decide) (fun v44 σ45 => ?_)
                    refine P_l (fun hJ _ _ q => E_goto 219 dX11_endsByDrawing_204 (by decide) (E_iload dX11_endsByDrawing_219 rfl q)) ?_
                    exact P_inl (P_ret (fun _ _ => E_iret rfl dX11_endsByDrawing_221))
                  · skip
                    refine P_l (fun hJ _ _ q => E_aload_n dX11_endsByDrawing_168 rfl (E_iload dX11_endsByDrawing_169 rfl q)) ?_
                    refine P_callr (t := fun v => some (.int v)) (st2 := fun v => .int v :: []) (fun hJ => (ok_X11_worthOf (σ := σ42) (p1 := s43.2) )) (fun hJ _ _ v hM q => E_callV (as := [.int s43.2]) (b := 67) (st := []) hM (by decide) yfX11_worthOf mlX11_356 imX11_worthOf seX11_worthOf clX11 (kd67 hJ.1.1) rfl (Nat.le_of_ble_eq_true rfl) rfl dX11_endsByDrawing_171 q) (fun v46 => ?_)
                    refine P_l (fun hJ _ _ q => E_aload_n dX11_endsByDrawing_174 rfl (E_iload dX11_endsByDrawing_175 rfl q)) ?_
                    refine P_callr (t := fun v => some (.int v)) (st2 := fun v => .int v :: [.int v46]) (fun hJ => (ok_X11_worthOf (σ := σ42) (p1 := s43.1) )) (fun hJ _ _ v hM q => E_callV (as := [.int s43.1]) (b := 67) (st := [.int v46]) hM (by decide) yfX11_worthOf mlX11_356 imX11_worthOf seX11_worthOf clX11 (kd67 hJ.1.1) rfl (Nat.le_of_ble_eq_true rfl) rfl dX11_endsByDrawing_177 q) (fun v47 => ?_)
                    refine P_l (pc2 := 190) (ls2 := [some (.ref 67), none, none, none, some (.int j34.1), none, some (.int s43.2)]) (st2 := [.int ((if v47 ≤ v46 then s43.1 else s43.2 : Int32))]) (fun hJ _ _ hq => ?_) ?_
                    · skip
                      refine E_icmp_ge 188 dX11_endsByDrawing_180 (by decide) (fun c_180_0 => ?_) (fun c_180_0 => ?_)
                      · skip
                        refine E_iload dX11_endsByDrawing_188 rfl ?_
                        simp only [if_pos c_180_0] at hq
                        exact E_less (ls2 := [some (.ref 67), none, none, none, some (.int j34.1), none, some (.int s43.2)]) hq (rLe_at [some (.ref 67), none, none, none, some (.int j34.1), none, some (.int s43.2)] [some (.ref 67), none, none, none, some (.int j34.1), some (.int s43.1), some (.int s43.2)] (And.intro rfl (And.intro rfl (And.intro rfl trivial))))
                      · skip
                        refine E_iload dX11_endsByDrawing_183 rfl ?_
                        refine E_goto 190 dX11_endsByDrawing_185 (by decide) ?_
                        simp only [if_neg c_180_0] at hq
                        exact E_less (ls2 := [some (.ref 67), none, none, none, some (.int j34.1), none, some (.int s43.2)]) hq (rLe_at [some (.ref 67), none, none, none, some (.int j34.1), none, some (.int s43.2)] [some (.ref 67), none, none, none, some (.int j34.1), some (.int s43.1), some (.int s43.2)] (And.intro rfl (And.intro rfl (And.intro rfl trivial))))
                    · skip
                      refine P_l (fun hJ _ _ q => E_istore (ls2 := [some (.ref 67), none, none, none, some (.int j34.1), some (.int ((if v47 ≤ v46 then s43.1 else s43.2 : Int32))), some (.int s43.2)]) dX11_endsByDrawing_190 (by decide) rfl q) ?_
                      refine P_v ((if v47 ≤ v46 then s43.1 else s43.2 : Int32)) (fun x => [some (.ref 67), none, none, none, some (.int j34.1), some (.int x), some (.int s43.2)]) (fun x48 => ?_)
                      refine P_l (fun hJ _ _ q => E_iinc (v := 1) (ls2 := [some (.ref 67), none, none, none, some (.int j34.1), some (.int x48), some (.int (s43.2 + 1))]) dX11_endsByDrawing_192 rfl (by decide) (by decide) rfl (E_goto 159 dX11_endsByDrawing_195 (by decide) q)) ?_
                      exact P_back ((x48, s43.2 + 1))
                · skip
                  refine P_l (fun hJ _ _ q => E_aload_n dX11_endsByDrawing_207 rfl (E_iload_n dX11_endsByDrawing_208 rfl (E_iconst (v := 1) dX11_endsByDrawing_209 (by decide) (E_iadd dX11_endsByDrawing_210 (E_aload_n dX11_endsByDrawing_211 rfl (E_getI clX11 6 (by decide) flX11_186 (Or.inl rfl) dX11_endsByDrawing_212 (kd67 hJ.1.1) q)))))) ?_
                  refine P_g (fun g49 => ?_)
                  refine P_l (fun hJ _ _ q => E_irem dX11_endsByDrawing_215 g49 q) ?_
                  refine P_w (fun hJ _ _ q => E_putI clX11 24 (by decide) flX11_75 (Or.inl rfl) rfl dX11_endsByDrawing_216 (kd67 hJ.1.1) q) (fun hJ => Sy_wI hJ.1) rfl rfl rfl (fun σ50 hσ50 => ?_)
                  refine P_l (fun hJ _ _ q => E_iload dX11_endsByDrawing_219 rfl q) ?_
                  exact P_ret (fun _ _ => E_iret rfl dX11_endsByDrawing_221)
    · skip
      refine P_join (pc2 := 51) (fun j52 => [some (.ref 67), some (.int p1), some (.int (rI σ 67 24)), some (.int x1), none, none, none]) (fun j52 => []) (fun j52 => j52) ?_ (fun j52 => ?_)
      · skip
        refine P_loop (fun s53 => [some (.ref 67), some (.int p1), some (.int (rI σ 67 24)), some (.int x1), none, none, none]) (fun s53 => s53) (fun s53 => ?_) _ σ
        unfold b_X11_endsByDrawing_36_s53
        refine P_l (fun hJ _ _ q => E_aload_n dX11_endsByDrawing_36 rfl (E_getI clX11 30 (by decide) flX11_303 (Or.inl rfl) dX11_endsByDrawing_37 (kd67 hJ.1.1) q)) ?_
        refine P_if (fun hJ _ _ h1 h2 => E_if_le 51 dX11_endsByDrawing_40 (by decide) h1 h2) ?_ ?_
        · skip
          exact P_inl (P_back s53)
        · skip
          refine P_l (fun hJ _ _ q => E_aload_n dX11_endsByDrawing_43 rfl q) ?_
          refine P_call (t := fun v => some (.int v)) (st2 := fun v => .int v :: []) (kc2 := 0) (ks2 := 0) (fun hJ => (ok_X11_undoes (σ := s53)  )) (fun hJ _ _ _ _ v τ1 hM q => E_callV (as := []) (b := 67) (st := []) hM (by decide) yfX11_undoes mlX11_350 imX11_undoes seX11_undoes clX11 (kd67 hJ.1.1) rfl (Nat.le_of_ble_eq_true rfl) rfl dX11_endsByDrawing_44 q) (by decide) (by decide) (fun v54 σ55 => ?_)
          refine P_l (fun hJ _ _ q => E_pop dX11_endsByDrawing_47 rfl (E_goto 36 dX11_endsByDrawing_48 (by decide) q)) ?_
          exact P_back σ55
      · skip
        refine P_l (fun hJ _ _ q => E_iconst (v := 0) dX11_endsByDrawing_51 (by decide) (E_istore (ls2 := [some (.ref 67), some (.int p1), some (.int (rI σ 67 24)), some (.int x1), some (.int 0), none, none]) dX11_endsByDrawing_52 (by decide) rfl (E_iconst (v := 0) dX11_endsByDrawing_54 (by decide) (E_istore (ls2 := [some (.ref 67), some (.int p1), some (.int (rI σ 67 24)), some (.int x1), some (.int 0), some (.int 0), none]) dX11_endsByDrawing_55 (by decide) rfl q)))) ?_
        refine P_join (pc2 := 90) (fun j57 => [some (.ref 67), some (.int p1), some (.int (rI σ 67 24)), none, some (.int j57.1), none, none]) (fun j57 => []) (fun j57 => j57.2) ?_ (fun j57 => ?_)
        · skip
          refine P_loop (fun s58 => [some (.ref 67), some (.int p1), some (.int (rI σ 67 24)), some (.int x1), some (.int s58.1), some (.int s58.2.1), none]) (fun s58 => s58.2.2) (fun s58 => ?_) _ ((0, 0, j52))
          unfold b_X11_endsByDrawing_57_s58
          refine P_l (fun hJ _ _ q => E_iload dX11_endsByDrawing_57 rfl (E_iload_n dX11_endsByDrawing_59 rfl q)) ?_
          refine P_l (pc2 := 71) (ls2 := [some (.ref 67), some (.int p1), some (.int (rI σ 67 24)), some (.int x1), some (.int s58.1), some (.int s58.2.1), none]) (st2 := [.int ((if x1 = 0 then 1 else (rI s58.2.2 67 5) : Int32)), .int s58.2.1]) (fun hJ _ _ hq => ?_) ?_
          · skip
            refine E_if_eq 70 dX11_endsByDrawing_60 (by decide) (fun c_60_0 => ?_) (fun c_60_0 => ?_)
            · skip
              refine E_iconst (v := 1) dX11_endsByDrawing_70 (by decide) ?_
              simp only [if_pos c_60_0] at hq
              exact hq
            · skip
              refine E_aload_n dX11_endsByDrawing_63 rfl ?_
              refine E_getI clX11 5 (by decide) flX11_24 (Or.inl rfl) dX11_endsByDrawing_64 (kd67 hJ.1.1) ?_
              refine E_goto 71 dX11_endsByDrawing_67 (by decide) ?_
              simp only [if_neg c_60_0] at hq
              exact hq
          · skip
            refine P_if (fun hJ _ _ h1 h2 => E_icmp_ge 90 dX11_endsByDrawing_71 (by decide) h1 h2) ?_ ?_
            · skip
              refine P_less [some (.ref 67), some (.int p1), some (.int (rI σ 67 24)), none, some (.int s58.1), none, none] (And.intro rfl (And.intro rfl (And.intro rfl (And.intro rfl trivial)))) ?_
              exact P_inl (P_back ((s58.1, s58.2.2)))
            · skip
              refine P_l (fun hJ _ _ q => E_iload dX11_endsByDrawing_74 rfl (E_aload_n dX11_endsByDrawing_76 rfl (E_iload_n dX11_endsByDrawing_77 rfl q))) ?_
              refine P_call (t := fun v => some (.int v)) (st2 := fun v => .int v :: [.int s58.1]) (kc2 := 0) (ks2 := 0) (fun hJ => (ok_X11_draws (σ := s58.2.2) (p1 := rI σ 67 24) )) (fun hJ _ _ _ _ v τ1 hM q => E_callV (as := [.int (rI σ 67 24)]) (b := 67) (st := [.int s58.1]) hM (by decide) yfX11_draws mlX11_325 imX11_draws seX11_draws clX11 (kd67 hJ.1.1) rfl (Nat.le_of_ble_eq_true rfl) rfl dX11_endsByDrawing_78 q) (by decide) (by decide) (fun v59 σ60 => ?_)
              refine P_l (fun hJ _ _ q => E_iadd dX11_endsByDrawing_81 (E_istore (ls2 := [some (.ref 67), some (.int p1), some (.int (rI σ 67 24)), some (.int x1), some (.int (s58.1 + v59)), some (.int s58.2.1), none]) dX11_endsByDrawing_82 (by decide) rfl (E_iinc (v := 1) (ls2 := [some (.ref 67), some (.int p1), some (.int (rI σ 67 24)), some (.int x1), some (.int (s58.1 + v59)), some (.int (s58.2.1 + 1)), none]) dX11_endsByDrawing_84 rfl (by decide) (by decide) rfl (E_goto 57 dX11_endsByDrawing_87 (by decide) q)))) ?_
              exact P_back ((s58.1 + v59, s58.2.1 + 1, σ60))
        · skip
          refine P_l (fun hJ _ _ q => E_aload_n dX11_endsByDrawing_90 rfl (E_getR (b := 77) clX11 16 (by decide) flX11_57 (Or.inr ⟨_, rfl⟩) dX11_endsByDrawing_91 (kd67 hJ.1.1) (rf67_16 hJ.1.1) (by decide) (E_iload_n dX11_endsByDrawing_94 rfl (E_dup2 dX11_endsByDrawing_95 rfl rfl q)))) ?_
          refine P_g (fun g61 => ?_)
          refine P_l (fun hJ _ _ q => E_iald dX11_endsByDrawing_96 (kd77 hJ.1.1) (inB_vp g61) (E_aload_n dX11_endsByDrawing_97 rfl (E_getR (b := 76) clX11 15 (by decide) flX11_54 (Or.inr ⟨_, rfl⟩) dX11_endsByDrawing_98 (kd67 hJ.1.1) (rf67_15 hJ.1.1) (by decide) (E_iload_n dX11_endsByDrawing_101 rfl (E_zald dX11_endsByDrawing_102 (kd76 hJ.1.1) (inB_vp g61) q))))) ?_
          refine P_l (pc2 := 112) (ls2 := [some (.ref 67), some (.int p1), some (.int (rI σ 67 24)), none, some (.int j57.1), none, none]) (st2 := [.int ((if (rI j57.2 76 (rI σ 67 24 : Int32).toNatClampNeg) = 0 then 0 else j57.1 : Int32)), .int (rI j57.2 77 (rI σ 67 24 : Int32).toNatClampNeg), .int (rI σ 67 24), .ref 77]) (fun hJ _ _ hq => ?_) ?_
          · skip
            refine E_if_eq 111 dX11_endsByDrawing_103 (by decide) (fun c_103_0 => ?_) (fun c_103_0 => ?_)
            · skip
              refine E_iconst (v := 0) dX11_endsByDrawing_111 (by decide) ?_
              simp only [if_pos c_103_0] at hq
              exact hq
            · skip
              refine E_iload dX11_endsByDrawing_106 rfl ?_
              refine E_goto 112 dX11_endsByDrawing_108 (by decide) ?_
              simp only [if_neg c_103_0] at hq
              exact hq
          · skip
            refine P_l (fun hJ _ _ q => E_iadd dX11_endsByDrawing_112 q) ?_
            refine P_w (fun hJ _ _ q => E_iast dX11_endsByDrawing_113 (kd77 hJ.1.1) (by decide) (inB_vp g61) q) (fun hJ => Sy_wI hJ.1) rfl rfl rfl (fun σ62 hσ62 => ?_)
            refine P_l (fun hJ _ _ q => E_aload_n dX11_endsByDrawing_114 rfl (E_iload_n dX11_endsByDrawing_115 rfl (E_iload_n dX11_endsByDrawing_116 rfl (E_iconst (v := (-1)) dX11_endsByDrawing_117 (by decide) (E_iload dX11_endsByDrawing_118 rfl q))))) ?_
            refine P_call (t := fun _ => none) (st2 := fun _ => []) (kc2 := 0) (ks2 := 0) (fun hJ => (ok_X11_enter (σ := σ62) (p1 := p1) (p2 := rI σ 67 24) (p3 := (-1)) (p4 := j57.1) )) (fun hJ _ _ _ _ v τ1 hM q => E_callV (as := [.int p1, .int (rI σ 67 24), .int ((-1)), .int j57.1]) (b := 67) (st := []) hM (by decide) yfX11_enter mlX11_328 imX11_enter seX11_enter clX11 (kd67 hJ.1.1) rfl (Nat.le_of_ble_eq_true rfl) rfl dX11_endsByDrawing_120 q) (by decide) (by decide) (fun v63 σ64 => ?_)
            refine P_l (fun hJ _ _ q => E_aload_n dX11_endsByDrawing_123 rfl (E_iload dX11_endsByDrawing_124 rfl q)) ?_
            refine P_l (pc2 := 139) (ls2 := [some (.ref 67), none, some (.int (rI σ 67 24)), none, some (.int j57.1), none, none]) (st2 := [.int ((if j57.1 = 0 then ((rI σ64 67 25) + 1) else 0 : Int32)), .ref 67]) (fun hJ _ _ hq => ?_) ?_
            · skip
              refine E_if_ne 138 dX11_endsByDrawing_126 (by decide) (fun c_126_0 => ?_) (fun c_126_0 => ?_)
              · skip
                refine E_iconst (v := 0) dX11_endsByDrawing_138 (by decide) ?_
                simp only [if_neg c_126_0] at hq
                exact E_less (ls2 := [some (.ref 67), none, some (.int (rI σ 67 24)), none, some (.int j57.1), none, none]) hq (rLe_at [some (.ref 67), none, some (.int (rI σ 67 24)), none, some (.int j57.1), none, none] [some (.ref 67), some (.int p1), some (.int (rI σ 67 24)), none, some (.int j57.1), none, none] (And.intro rfl (And.intro rfl (And.intro rfl trivial))))
              · skip
                refine E_aload_n dX11_endsByDrawing_129 rfl ?_
                refine E_getI clX11 25 (by decide) flX11_322 (Or.inl rfl) dX11_endsByDrawing_130 (kd67 hJ.1.1) ?_
                refine E_iconst (v := 1) dX11_endsByDrawing_133 (by decide) ?_
                refine E_iadd dX11_endsByDrawing_134 ?_
                refine E_goto 139 dX11_endsByDrawing_135 (by decide) ?_
                simp only [if_pos c_126_0] at hq
                exact E_less (ls2 := [some (.ref 67), none, some (.int (rI σ 67 24)), none, some (.int j57.1), none, none]) hq (rLe_at [some (.ref 67), none, some (.int (rI σ 67 24)), none, some (.int j57.1), none, none] [some (.ref 67), some (.int p1), some (.int (rI σ 67 24)), none, some (.int j57.1), none, none] (And.intro rfl (And.intro rfl (And.intro rfl trivial))))
            · skip
              refine P_w (fun hJ _ _ q => E_putI clX11 25 (by decide) flX11_322 (Or.inl rfl) rfl dX11_endsByDrawing_139 (kd67 hJ.1.1) q) (fun hJ => Sy_wI hJ.1) rfl rfl rfl (fun σ65 hσ65 => ?_)
              refine P_l (fun hJ _ _ q => E_aload_n dX11_endsByDrawing_142 rfl (E_getI clX11 25 (by decide) flX11_322 (Or.inl rfl) dX11_endsByDrawing_143 (kd67 hJ.1.1) (E_aload_n dX11_endsByDrawing_146 rfl (E_getI clX11 6 (by decide) flX11_186 (Or.inl rfl) dX11_endsByDrawing_147 (kd67 hJ.1.1) q)))) ?_
              refine P_if (fun hJ _ _ h1 h2 => E_icmp_ne 207 dX11_endsByDrawing_150 (by decide) h2 h1) ?_ ?_
              · skip
                refine P_l (fun hJ _ _ q => E_iconst (v := 0) dX11_endsByDrawing_153 (by decide) (E_istore (ls2 := [some (.ref 67), none, some (.int (rI σ 67 24)), none, some (.int j57.1), some (.int 0), none]) dX11_endsByDrawing_154 (by decide) rfl (E_iconst (v := 1) dX11_endsByDrawing_156 (by decide) (E_istore (ls2 := [some (.ref 67), none, some (.int (rI σ 67 24)), none, some (.int j57.1), some (.int 0), some (.int 1)]) dX11_endsByDrawing_157 (by decide) rfl q)))) ?_
                refine P_less [some (.ref 67), none, none, none, some (.int j57.1), some (.int 0), some (.int 1)] (And.intro rfl (And.intro rfl (And.intro rfl (And.intro rfl trivial)))) ?_
                refine P_loop (fun s66 => [some (.ref 67), none, none, none, some (.int j57.1), some (.int s66.1), some (.int s66.2)]) (fun _ => σ65) (fun s66 => ?_) _ ((0, 1))
                unfold b_X11_endsByDrawing_159_s66
                refine P_l (fun hJ _ _ q => E_iload dX11_endsByDrawing_159 rfl (E_aload_n dX11_endsByDrawing_161 rfl (E_getI clX11 6 (by decide) flX11_186 (Or.inl rfl) dX11_endsByDrawing_162 (kd67 hJ.1.1) q))) ?_
                refine P_if (fun hJ _ _ h1 h2 => E_icmp_ge 198 dX11_endsByDrawing_165 (by decide) h1 h2) ?_ ?_
                · skip
                  refine P_l (fun hJ _ _ q => E_aload_n dX11_endsByDrawing_198 rfl (E_iload dX11_endsByDrawing_199 rfl q)) ?_
                  refine P_call (t := fun _ => none) (st2 := fun _ => []) (kc2 := 0) (ks2 := 0) (fun hJ => (ok_X11_roundEnds (σ := σ65) (p1 := s66.1) )) (fun hJ _ _ _ _ v τ1 hM q => E_callV (as := [.int s66.1]) (b := 67) (st := []) hM (by decide) yfX11_roundEnds mlX11_368 imX11_roundEnds seX11_roundEnds clX11 (kd67 hJ.1.1) rfl (Nat.le_of_ble_eq_true rfl) rfl dX11_endsByDrawing_201 q) (by decide) (by decide) (fun v67 σ68 => ?_)
                  refine P_l (fun hJ _ _ q => E_goto 219 dX11_endsByDrawing_204 (by decide) (E_iload dX11_endsByDrawing_219 rfl q)) ?_
                  exact P_inl (P_ret (fun _ _ => E_iret rfl dX11_endsByDrawing_221))
                · skip
                  refine P_l (fun hJ _ _ q => E_aload_n dX11_endsByDrawing_168 rfl (E_iload dX11_endsByDrawing_169 rfl q)) ?_
                  refine P_callr (t := fun v => some (.int v)) (st2 := fun v => .int v :: []) (fun hJ => (ok_X11_worthOf (σ := σ65) (p1 := s66.2) )) (fun hJ _ _ v hM q => E_callV (as := [.int s66.2]) (b := 67) (st := []) hM (by decide) yfX11_worthOf mlX11_356 imX11_worthOf seX11_worthOf clX11 (kd67 hJ.1.1) rfl (Nat.le_of_ble_eq_true rfl) rfl dX11_endsByDrawing_171 q) (fun v69 => ?_)
                  refine P_l (fun hJ _ _ q => E_aload_n dX11_endsByDrawing_174 rfl (E_iload dX11_endsByDrawing_175 rfl q)) ?_
                  refine P_callr (t := fun v => some (.int v)) (st2 := fun v => .int v :: [.int v69]) (fun hJ => (ok_X11_worthOf (σ := σ65) (p1 := s66.1) )) (fun hJ _ _ v hM q => E_callV (as := [.int s66.1]) (b := 67) (st := [.int v69]) hM (by decide) yfX11_worthOf mlX11_356 imX11_worthOf seX11_worthOf clX11 (kd67 hJ.1.1) rfl (Nat.le_of_ble_eq_true rfl) rfl dX11_endsByDrawing_177 q) (fun v70 => ?_)
                  refine P_l (pc2 := 190) (ls2 := [some (.ref 67), none, none, none, some (.int j57.1), none, some (.int s66.2)]) (st2 := [.int ((if v70 ≤ v69 then s66.1 else s66.2 : Int32))]) (fun hJ _ _ hq => ?_) ?_
                  · skip
                    refine E_icmp_ge 188 dX11_endsByDrawing_180 (by decide) (fun c_180_0 => ?_) (fun c_180_0 => ?_)
                    · skip
                      refine E_iload dX11_endsByDrawing_188 rfl ?_
                      simp only [if_pos c_180_0] at hq
                      exact E_less (ls2 := [some (.ref 67), none, none, none, some (.int j57.1), none, some (.int s66.2)]) hq (rLe_at [some (.ref 67), none, none, none, some (.int j57.1), none, some (.int s66.2)] [some (.ref 67), none, none, none, some (.int j57.1), some (.int s66.1), some (.int s66.2)] (And.intro rfl (And.intro rfl (And.intro rfl trivial))))
                    · skip
                      refine E_iload dX11_endsByDrawing_183 rfl ?_
                      refine E_goto 190 dX11_endsByDrawing_185 (by decide) ?_
                      simp only [if_neg c_180_0] at hq
                      exact E_less (ls2 := [some (.ref 67), none, none, none, some (.int j57.1), none, some (.int s66.2)]) hq (rLe_at [some (.ref 67), none, none, none, some (.int j57.1), none, some (.int s66.2)] [some (.ref 67), none, none, none, some (.int j57.1), some (.int s66.1), some (.int s66.2)] (And.intro rfl (And.intro rfl (And.intro rfl trivial))))
                  · skip
                    refine P_l (fun hJ _ _ q => E_istore (ls2 := [some (.ref 67), none, none, none, some (.int j57.1), some (.int ((if v70 ≤ v69 then s66.1 else s66.2 : Int32))), some (.int s66.2)]) dX11_endsByDrawing_190 (by decide) rfl q) ?_
                    refine P_v ((if v70 ≤ v69 then s66.1 else s66.2 : Int32)) (fun x => [some (.ref 67), none, none, none, some (.int j57.1), some (.int x), some (.int s66.2)]) (fun x71 => ?_)
                    refine P_l (fun hJ _ _ q => E_iinc (v := 1) (ls2 := [some (.ref 67), none, none, none, some (.int j57.1), some (.int x71), some (.int (s66.2 + 1))]) dX11_endsByDrawing_192 rfl (by decide) (by decide) rfl (E_goto 159 dX11_endsByDrawing_195 (by decide) q)) ?_
                    exact P_back ((x71, s66.2 + 1))
              · skip
                refine P_l (fun hJ _ _ q => E_aload_n dX11_endsByDrawing_207 rfl (E_iload_n dX11_endsByDrawing_208 rfl (E_iconst (v := 1) dX11_endsByDrawing_209 (by decide) (E_iadd dX11_endsByDrawing_210 (E_aload_n dX11_endsByDrawing_211 rfl (E_getI clX11 6 (by decide) flX11_186 (Or.inl rfl) dX11_endsByDrawing_212 (kd67 hJ.1.1) q)))))) ?_
                refine P_g (fun g72 => ?_)
                refine P_l (fun hJ _ _ q => E_irem dX11_endsByDrawing_215 g72 q) ?_
                refine P_w (fun hJ _ _ q => E_putI clX11 24 (by decide) flX11_75 (Or.inl rfl) rfl dX11_endsByDrawing_216 (kd67 hJ.1.1) q) (fun hJ => Sy_wI hJ.1) rfl rfl rfl (fun σ73 hσ73 => ?_)
                refine P_l (fun hJ _ _ q => E_iload dX11_endsByDrawing_219 rfl q) ?_
                exact P_ret (fun _ _ => E_iret rfl dX11_endsByDrawing_221)

def f_X11_draw (σ : rS) : Option (Int32 × rS) := oB (f_X11_holds σ ((if (rI σ 67 24) = ((-1)) then 1 else 0 : Int32))) fun v1 σ2 => if v1 = 0 then (oB (f_X11_endsByDrawing σ2 6) fun v3 σ4 => some ((v3, σ4))) else (some (((-1), σ2)))
set_option maxRecDepth 20000 in
set_option maxHeartbeats 2000000 in
theorem ok_X11_draw {σ : rS}   : rFn Sy yX11_draw mX11_draw 10 [.ref 67] σ 0 0 (fun v => .inl (some (.int v))) (f_X11_draw σ) := by
  refine rF_of (ls := [some (.ref 67)]) yfX11_draw rfl (Nat.le_of_ble_eq_true rfl) (fun o τ => ?_)
  unfold f_X11_draw
  refine P_l (fun hJ _ _ q => E_aload_n dX11_draw_0 rfl (E_aload_n dX11_draw_1 rfl (E_getI clX11 24 (by decide) flX11_75 (Or.inl rfl) dX11_draw_2 (kd67 hJ.1.1) (E_iconst (v := (-1)) dX11_draw_5 (by decide) q)))) ?_
  refine P_l (pc2 := 14) (ls2 := [some (.ref 67)]) (st2 := [.int ((if (rI σ 67 24) = ((-1)) then 1 else 0 : Int32)), .ref 67]) (fun hJ _ _ hq => ?_) ?_
  · skip
    refine E_icmp_ne 13 dX11_draw_6 (by decide) (fun c_6_0 => ?_) (fun c_6_0 => ?_)
    · skip
      refine E_iconst (v := 0) dX11_draw_13 (by decide) ?_
      simp only [if_neg c_6_0] at hq
      exact hq
    · skip
      refine E_iconst (v := 1) dX11_draw_9 (by decide) ?_
      refine E_goto 14 dX11_draw_10 (by decide) ?_
      simp only [if_pos c_6_0] at hq
      exact hq
  · skip
    refine P_call (t := fun v => some (.int v)) (st2 := fun v => .int v :: []) (kc2 := 0) (ks2 := 0) (fun hJ => (ok_X11_holds (σ := σ) (p1 := (if (rI σ 67 24) = ((-1)) then 1 else 0 : Int32)) )) (fun hJ _ _ _ _ v τ1 hM q => E_callV (as := [.int ((if (rI σ 67 24) = ((-1)) then 1 else 0 : Int32))]) (b := 67) (st := []) hM (by decide) yfX11_holds mlX11_265 imX11_holds seX11_holds clX11 (kd67 hJ.1.1) rfl (Nat.le_of_ble_eq_true rfl) rfl dX11_draw_14 q) (by decide) (by decide) (fun v1 σ2 => ?_)
    refine P_if (fun hJ _ _ h1 h2 => E_if_eq 22 dX11_draw_17 (by decide) h1 h2) ?_ ?_
    · skip
      refine P_l (fun hJ _ _ q => E_aload_n dX11_draw_22 rfl (E_bipush (v := 6) dX11_draw_23 (by decide) q)) ?_
      refine P_call (t := fun v => some (.int v)) (st2 := fun v => .int v :: []) (kc2 := 0) (ks2 := 0) (fun hJ => (ok_X11_endsByDrawing (σ := σ2) (p1 := 6) )) (fun hJ _ _ _ _ v τ1 hM q => E_callV (as := [.int 6]) (b := 67) (st := []) hM (by decide) yfX11_endsByDrawing mlX11_378 imX11_endsByDrawing seX11_endsByDrawing clX11 (kd67 hJ.1.1) rfl (Nat.le_of_ble_eq_true rfl) rfl dX11_draw_25 q) (by decide) (by decide) (fun v3 σ4 => ?_)
      exact P_ret (fun _ _ => E_iret rfl dX11_draw_28)
    · skip
      refine P_l (fun hJ _ _ q => E_iconst (v := (-1)) dX11_draw_20 (by decide) q) ?_
      exact P_ret (fun _ _ => E_iret rfl dX11_draw_21)

def f_X11_tick (σ : rS) (p1 : Int32) : Option (Int32 × rS) := oB (f_X11_holds σ ((if (v_X11_in σ p1 1 999) = 0 then 1 else (if (rI σ 67 24) = ((-1)) then 2 else 0) : Int32))) fun v1 σ2 => if v1 = 0 then (if inB (rI σ2 67 24) 4 then (oLet (wI σ2 71 (rI σ2 67 24 : Int32).toNatClampNeg ((if (rI σ2 71 (rI σ2 67 24 : Int32).toNatClampNeg) ≤ p1 then 0 else ((rI σ2 71 (rI σ2 67 24 : Int32).toNatClampNeg) - p1) : Int32))) fun σ4 => if (rI σ4 71 (rI σ2 67 24 : Int32).toNatClampNeg) = 0 then (oB (f_X11_endsByDrawing σ4 7) fun v5 σ6 => some ((rI σ6 71 (rI σ2 67 24 : Int32).toNatClampNeg, σ6))) else (some ((rI σ4 71 (rI σ2 67 24 : Int32).toNatClampNeg, σ4)))) else none) else (some (((-1), σ2)))
set_option maxRecDepth 20000 in
set_option maxHeartbeats 2000000 in
theorem ok_X11_tick {σ : rS} {p1 : Int32}   : rFn Sy yX11_tick mX11_tick 10 [.ref 67, .int p1] σ 0 0 (fun v => .inl (some (.int v))) (f_X11_tick σ p1) := by
  refine rF_of (ls := [some (.ref 67), some (.int p1), none]) yfX11_tick rfl (Nat.le_of_ble_eq_true rfl) (fun o τ => ?_)
  unfold f_X11_tick
  refine P_l (fun hJ _ _ q => E_aload_n dX11_tick_0 rfl (E_aload_n dX11_tick_1 rfl (E_iload_n dX11_tick_2 rfl (E_iconst (v := 1) dX11_tick_3 (by decide) (E_sipush (v := 999) dX11_tick_4 (by decide) (E_callV (as := [.int p1, .int 1, .int 999]) (b := 67) (st := [.ref 67]) (ok_X11_in (σ := σ) (p1 := p1) (p2 := 1) (p3 := 999) hJ ) (by decide) yfX11_in mlX11_182 imX11_in seX11_in clX11 (kd67 hJ.1.1) rfl (Nat.le_of_ble_eq_true rfl) rfl dX11_tick_7 q)))))) ?_
  refine P_l (pc2 := 30) (ls2 := [some (.ref 67), some (.int p1), none]) (st2 := [.int ((if (v_X11_in σ p1 1 999) = 0 then 1 else (if (rI σ 67 24) = ((-1)) then 2 else 0) : Int32)), .ref 67]) (fun hJ _ _ hq => ?_) ?_
  · skip
    refine E_if_ne 17 dX11_tick_10 (by decide) (fun c_10_0 => ?_) (fun c_10_0 => ?_)
    · skip
      refine E_aload_n dX11_tick_17 rfl ?_
      refine E_getI clX11 24 (by decide) flX11_75 (Or.inl rfl) dX11_tick_18 (kd67 hJ.1.1) ?_
      refine E_iconst (v := (-1)) dX11_tick_21 (by decide) ?_
      refine E_icmp_ne 29 dX11_tick_22 (by decide) (fun c_22_1 => ?_) (fun c_22_1 => ?_)
      · skip
        refine E_iconst (v := 0) dX11_tick_29 (by decide) ?_
        simp only [if_neg c_10_0, if_neg c_22_1] at hq
        exact hq
      · skip
        refine E_iconst (v := 2) dX11_tick_25 (by decide) ?_
        refine E_goto 30 dX11_tick_26 (by decide) ?_
        simp only [if_neg c_10_0, if_pos c_22_1] at hq
        exact hq
    · skip
      refine E_iconst (v := 1) dX11_tick_13 (by decide) ?_
      refine E_goto 30 dX11_tick_14 (by decide) ?_
      simp only [if_pos c_10_0] at hq
      exact hq
  · skip
    refine P_call (t := fun v => some (.int v)) (st2 := fun v => .int v :: []) (kc2 := 0) (ks2 := 0) (fun hJ => (ok_X11_holds (σ := σ) (p1 := (if (v_X11_in σ p1 1 999) = 0 then 1 else (if (rI σ 67 24) = ((-1)) then 2 else 0) : Int32)) )) (fun hJ _ _ _ _ v τ1 hM q => E_callV (as := [.int ((if (v_X11_in σ p1 1 999) = 0 then 1 else (if (rI σ 67 24) = ((-1)) then 2 else 0) : Int32))]) (b := 67) (st := []) hM (by decide) yfX11_holds mlX11_265 imX11_holds seX11_holds clX11 (kd67 hJ.1.1) rfl (Nat.le_of_ble_eq_true rfl) rfl dX11_tick_30 q) (by decide) (by decide) (fun v1 σ2 => ?_)
    refine P_if (fun hJ _ _ h1 h2 => E_if_eq 38 dX11_tick_33 (by decide) h1 h2) ?_ ?_
    · skip
      refine P_l (fun hJ _ _ q => E_aload_n dX11_tick_38 rfl (E_getI clX11 24 (by decide) flX11_75 (Or.inl rfl) dX11_tick_39 (kd67 hJ.1.1) (E_istore_n (ls2 := [some (.ref 67), some (.int p1), some (.int (rI σ2 67 24))]) dX11_tick_42 (by decide) rfl (E_aload_n dX11_tick_43 rfl (E_getR (b := 71) clX11 10 (by decide) flX11_37 (Or.inr ⟨_, rfl⟩) dX11_tick_44 (kd67 hJ.1.1) (rf67_10 hJ.1.1) (by decide) (E_iload_n dX11_tick_47 rfl (E_aload_n dX11_tick_48 rfl (E_getR (b := 71) clX11 10 (by decide) flX11_37 (Or.inr ⟨_, rfl⟩) dX11_tick_49 (kd67 hJ.1.1) (rf67_10 hJ.1.1) (by decide) (E_iload_n dX11_tick_52 rfl q))))))))) ?_
      refine P_g (fun g3 => ?_)
      refine P_l (fun hJ _ _ q => E_iald dX11_tick_53 (kd71 hJ.1.1) (inB_vp g3) (E_iload_n dX11_tick_54 rfl q)) ?_
      refine P_l (pc2 := 70) (ls2 := [some (.ref 67), none, some (.int (rI σ2 67 24))]) (st2 := [.int ((if (rI σ2 71 (rI σ2 67 24 : Int32).toNatClampNeg) ≤ p1 then 0 else ((rI σ2 71 (rI σ2 67 24 : Int32).toNatClampNeg) - p1) : Int32)), .int (rI σ2 67 24), .ref 71]) (fun hJ _ _ hq => ?_) ?_
      · skip
        refine E_icmp_le 69 dX11_tick_55 (by decide) (fun c_55_0 => ?_) (fun c_55_0 => ?_)
        · skip
          refine E_iconst (v := 0) dX11_tick_69 (by decide) ?_
          simp only [if_pos c_55_0] at hq
          exact E_less (ls2 := [some (.ref 67), none, some (.int (rI σ2 67 24))]) hq (rLe_at [some (.ref 67), none, some (.int (rI σ2 67 24))] [some (.ref 67), some (.int p1), some (.int (rI σ2 67 24))] (And.intro rfl (And.intro rfl trivial)))
        · skip
          refine E_aload_n dX11_tick_58 rfl ?_
          refine E_getR (b := 71) clX11 10 (by decide) flX11_37 (Or.inr ⟨_, rfl⟩) dX11_tick_59 (kd67 hJ.1.1) (rf67_10 hJ.1.1) (by decide) ?_
          refine E_iload_n dX11_tick_62 rfl ?_
          refine E_iald dX11_tick_63 (kd71 hJ.1.1) (inB_vp g3) ?_
          refine E_iload_n dX11_tick_64 rfl ?_
          refine E_isub dX11_tick_65 ?_
          refine E_goto 70 dX11_tick_66 (by decide) ?_
          simp only [if_neg c_55_0] at hq
          exact E_less (ls2 := [some (.ref 67), none, some (.int (rI σ2 67 24))]) hq (rLe_at [some (.ref 67), none, some (.int (rI σ2 67 24))] [some (.ref 67), some (.int p1), some (.int (rI σ2 67 24))] (And.intro rfl (And.intro rfl trivial)))
      · skip
        refine P_w (fun hJ _ _ q => E_iast dX11_tick_70 (kd71 hJ.1.1) (by decide) (inB_vp g3) q) (fun hJ => Sy_wI hJ.1) rfl rfl rfl (fun σ4 hσ4 => ?_)
        refine P_l (fun hJ _ _ q => E_aload_n dX11_tick_71 rfl (E_getR (b := 71) clX11 10 (by decide) flX11_37 (Or.inr ⟨_, rfl⟩) dX11_tick_72 (kd67 hJ.1.1) (rf67_10 hJ.1.1) (by decide) (E_iload_n dX11_tick_75 rfl (E_iald dX11_tick_76 (kd71 hJ.1.1) (inB_vp g3) q)))) ?_
        refine P_if (fun hJ _ _ h1 h2 => E_if_ne 87 dX11_tick_77 (by decide) h2 h1) ?_ ?_
        · skip
          refine P_l (fun hJ _ _ q => E_aload_n dX11_tick_80 rfl (E_bipush (v := 7) dX11_tick_81 (by decide) q)) ?_
          refine P_call (t := fun v => some (.int v)) (st2 := fun v => .int v :: []) (kc2 := 0) (ks2 := 0) (fun hJ => (ok_X11_endsByDrawing (σ := σ4) (p1 := 7) )) (fun hJ _ _ _ _ v τ1 hM q => E_callV (as := [.int 7]) (b := 67) (st := []) hM (by decide) yfX11_endsByDrawing mlX11_378 imX11_endsByDrawing seX11_endsByDrawing clX11 (kd67 hJ.1.1) rfl (Nat.le_of_ble_eq_true rfl) rfl dX11_tick_83 q) (by decide) (by decide) (fun v5 σ6 => ?_)
          refine P_l (fun hJ _ _ q => E_pop dX11_tick_86 rfl (E_aload_n dX11_tick_87 rfl (E_getR (b := 71) clX11 10 (by decide) flX11_37 (Or.inr ⟨_, rfl⟩) dX11_tick_88 (kd67 hJ.1.1) (rf67_10 hJ.1.1) (by decide) (E_iload_n dX11_tick_91 rfl (E_iald dX11_tick_92 (kd71 hJ.1.1) (inB_vp g3) q))))) ?_
          exact P_ret (fun _ _ => E_iret rfl dX11_tick_93)
        · skip
          refine P_l (fun hJ _ _ q => E_aload_n dX11_tick_87 rfl (E_getR (b := 71) clX11 10 (by decide) flX11_37 (Or.inr ⟨_, rfl⟩) dX11_tick_88 (kd67 hJ.1.1) (rf67_10 hJ.1.1) (by decide) (E_iload_n dX11_tick_91 rfl (E_iald dX11_tick_92 (kd71 hJ.1.1) (inB_vp g3) q)))) ?_
          exact P_ret (fun _ _ => E_iret rfl dX11_tick_93)
    · skip
      refine P_l (fun hJ _ _ q => E_iconst (v := (-1)) dX11_tick_36 (by decide) q) ?_
      exact P_ret (fun _ _ => E_iret rfl dX11_tick_37)

def b_X11_blocks_2 (p1 : Int32) (s1 : Int32 × rS) : Option ((Int32 × rS) ⊕ (Int32 × rS)) := if 52 ≤ s1.1 then (oB (f_X11_endsByDrawing s1.2 6) fun v2 σ3 => some (.inl ((0, σ3)))) else (if inB ((53 * p1) + s1.1) 212 then (if (rI s1.2 79 ((53 * p1) + s1.1 : Int32).toNatClampNeg) ≤ 0 then (some (.inr ((s1.1 + 1, s1.2)))) else (oB (f_X11_isAlone s1.2 s1.1) fun v5 σ6 => if v5 = 0 then (some (.inr ((s1.1 + 1, σ6)))) else (oB (f_X11_lays σ6 s1.1) fun v7 σ8 => oB (f_X11_endsByLaying σ8) fun v9 σ10 => some (.inl ((1, σ10)))))) else none)
def f_X11_blocks (σ : rS) (p1 : Int32) : Option (Int32 × rS) := oLoop (b_X11_blocks_2 p1) oFuel ((0, σ))
set_option maxRecDepth 20000 in
set_option maxHeartbeats 2000000 in
theorem ok_X11_blocks {σ : rS} {p1 : Int32}   : rFn Sy yX11_blocks mX11_blocks 10 [.ref 67, .int p1] σ 0 0 (fun v => .inl (some (.int v))) (f_X11_blocks σ p1) := by
  refine rF_of (ls := [some (.ref 67), some (.int p1), none]) yfX11_blocks rfl (Nat.le_of_ble_eq_true rfl) (fun o τ => ?_)
  unfold f_X11_blocks
  refine P_l (fun hJ _ _ q => E_iconst (v := 0) dX11_blocks_0 (by decide) (E_istore_n (ls2 := [some (.ref 67), some (.int p1), some (.int 0)]) dX11_blocks_1 (by decide) rfl q)) ?_
  refine P_loop (fun s1 => [some (.ref 67), some (.int p1), some (.int s1.1)]) (fun s1 => s1.2) (fun s1 => ?_) _ ((0, σ))
  unfold b_X11_blocks_2
  refine P_l (fun hJ _ _ q => E_iload_n dX11_blocks_2 rfl (E_bipush (v := 52) dX11_blocks_3 (by decide) q)) ?_
  refine P_if (fun hJ _ _ h1 h2 => E_icmp_ge 49 dX11_blocks_5 (by decide) h1 h2) ?_ ?_
  · skip
    refine P_l (fun hJ _ _ q => E_aload_n dX11_blocks_49 rfl (E_bipush (v := 6) dX11_blocks_50 (by decide) q)) ?_
    refine P_call (t := fun v => some (.int v)) (st2 := fun v => .int v :: []) (kc2 := 0) (ks2 := 0) (fun hJ => (ok_X11_endsByDrawing (σ := s1.2) (p1 := 6) )) (fun hJ _ _ _ _ v τ1 hM q => E_callV (as := [.int 6]) (b := 67) (st := []) hM (by decide) yfX11_endsByDrawing mlX11_378 imX11_endsByDrawing seX11_endsByDrawing clX11 (kd67 hJ.1.1) rfl (Nat.le_of_ble_eq_true rfl) rfl dX11_blocks_52 q) (by decide) (by decide) (fun v2 σ3 => ?_)
    refine P_l (fun hJ _ _ q => E_pop dX11_blocks_55 rfl (E_iconst (v := 0) dX11_blocks_56 (by decide) q)) ?_
    exact P_inl (P_ret (fun _ _ => E_iret rfl dX11_blocks_57))
  · skip
    refine P_l (fun hJ _ _ q => E_aload_n dX11_blocks_8 rfl (E_getR (b := 79) clX11 18 (by decide) flX11_63 (Or.inr ⟨_, rfl⟩) dX11_blocks_9 (kd67 hJ.1.1) (rf67_18 hJ.1.1) (by decide) (E_bipush (v := 53) dX11_blocks_12 (by decide) (E_iload_n dX11_blocks_14 rfl (E_imul dX11_blocks_15 (E_iload_n dX11_blocks_16 rfl (E_iadd dX11_blocks_17 q))))))) ?_
    refine P_g (fun g4 => ?_)
    refine P_l (fun hJ _ _ q => E_iald dX11_blocks_18 (kd79 hJ.1.1) (inB_vp g4) q) ?_
    refine P_if (fun hJ _ _ h1 h2 => E_if_le 43 dX11_blocks_19 (by decide) h1 h2) ?_ ?_
    · skip
      refine P_l (fun hJ _ _ q => E_iinc (v := 1) (ls2 := [some (.ref 67), some (.int p1), some (.int (s1.1 + 1))]) dX11_blocks_43 rfl (by decide) (by decide) rfl (E_goto 2 dX11_blocks_46 (by decide) q)) ?_
      exact P_back ((s1.1 + 1, s1.2))
    · skip
      refine P_l (fun hJ _ _ q => E_aload_n dX11_blocks_22 rfl (E_iload_n dX11_blocks_23 rfl q)) ?_
      refine P_call (t := fun v => some (.int v)) (st2 := fun v => .int v :: []) (kc2 := 0) (ks2 := 0) (fun hJ => (ok_X11_isAlone (σ := s1.2) (p1 := s1.1) )) (fun hJ _ _ _ _ v τ1 hM q => E_callV (as := [.int s1.1]) (b := 67) (st := []) hM (by decide) yfX11_isAlone mlX11_297 imX11_isAlone seX11_isAlone clX11 (kd67 hJ.1.1) rfl (Nat.le_of_ble_eq_true rfl) rfl dX11_blocks_24 q) (by decide) (by decide) (fun v5 σ6 => ?_)
      refine P_if (fun hJ _ _ h1 h2 => E_if_eq 43 dX11_blocks_27 (by decide) h1 h2) ?_ ?_
      · skip
        refine P_l (fun hJ _ _ q => E_iinc (v := 1) (ls2 := [some (.ref 67), some (.int p1), some (.int (s1.1 + 1))]) dX11_blocks_43 rfl (by decide) (by decide) rfl (E_goto 2 dX11_blocks_46 (by decide) q)) ?_
        exact P_back ((s1.1 + 1, σ6))
      · skip
        refine P_l (fun hJ _ _ q => E_aload_n dX11_blocks_30 rfl (E_iload_n dX11_blocks_31 rfl q)) ?_
        refine P_call (t := fun v => some (.int v)) (st2 := fun v => .int v :: []) (kc2 := 0) (ks2 := 0) (fun hJ => (ok_X11_lays (σ := σ6) (p1 := s1.1) )) (fun hJ _ _ _ _ v τ1 hM q => E_callV (as := [.int s1.1]) (b := 67) (st := []) hM (by decide) yfX11_lays mlX11_338 imX11_lays seX11_lays clX11 (kd67 hJ.1.1) rfl (Nat.le_of_ble_eq_true rfl) rfl dX11_blocks_32 q) (by decide) (by decide) (fun v7 σ8 => ?_)
        refine P_l (fun hJ _ _ q => E_pop dX11_blocks_35 rfl (E_aload_n dX11_blocks_36 rfl q)) ?_
        refine P_call (t := fun v => some (.int v)) (st2 := fun v => .int v :: []) (kc2 := 0) (ks2 := 0) (fun hJ => (ok_X11_endsByLaying (σ := σ8)  )) (fun hJ _ _ _ _ v τ1 hM q => E_callV (as := []) (b := 67) (st := []) hM (by decide) yfX11_endsByLaying mlX11_372 imX11_endsByLaying seX11_endsByLaying clX11 (kd67 hJ.1.1) rfl (Nat.le_of_ble_eq_true rfl) rfl dX11_blocks_37 q) (by decide) (by decide) (fun v9 σ10 => ?_)
        refine P_l (fun hJ _ _ q => E_pop dX11_blocks_40 rfl (E_iconst (v := 1) dX11_blocks_41 (by decide) q)) ?_
        exact P_inl (P_ret (fun _ _ => E_iret rfl dX11_blocks_42))

def b_X11_laysAll_12 (s1 : Int32 × Int32 × rS) (s4 : Int32 × Int32 × rS) : Option (((Int32 × rS) ⊕ (Int32 × Int32 × rS)) ⊕ (Int32 × Int32 × rS)) := if inB s1.2.1 52 then (if (rI s4.2.2 109 (s1.2.1 : Int32).toNatClampNeg) ≤ s4.2.1 then (some (.inl (.inr ((s4.1, s1.2.1 + 1, s4.2.2))))) else (oB (f_X11_lays s4.2.2 s1.2.1) fun v6 σ7 => some (.inr ((s4.1 + 1, s4.2.1 + 1, σ7))))) else none
def b_X11_laysAll_4 (s1 : Int32 × Int32 × rS) : Option ((Int32 × rS) ⊕ (Int32 × Int32 × rS)) := if 52 ≤ s1.2.1 then (oB (f_X11_endsByLaying s1.2.2) fun v2 σ3 => some (.inl ((s1.1, σ3)))) else (oLoop (b_X11_laysAll_12 s1) oFuel ((s1.1, 0, s1.2.2)))
def f_X11_laysAll (σ : rS) : Option (Int32 × rS) := oLoop (b_X11_laysAll_4) oFuel ((0, 0, σ))
set_option maxRecDepth 20000 in
set_option maxHeartbeats 2000000 in
theorem ok_X11_laysAll {σ : rS}   : rFn Sy yX11_laysAll mX11_laysAll 9 [.ref 67] σ 0 0 (fun v => .inl (some (.int v))) (f_X11_laysAll σ) := by
  refine rF_of (ls := [some (.ref 67), none, none, none]) yfX11_laysAll rfl (Nat.le_of_ble_eq_true rfl) (fun o τ => ?_)
  unfold f_X11_laysAll
  refine P_l (fun hJ _ _ q => E_iconst (v := 0) dX11_laysAll_0 (by decide) (E_istore_n (ls2 := [some (.ref 67), some (.int 0), none, none]) dX11_laysAll_1 (by decide) rfl (E_iconst (v := 0) dX11_laysAll_2 (by decide) (E_istore_n (ls2 := [some (.ref 67), some (.int 0), some (.int 0), none]) dX11_laysAll_3 (by decide) rfl q)))) ?_
  refine P_loop (fun s1 => [some (.ref 67), some (.int s1.1), some (.int s1.2.1), none]) (fun s1 => s1.2.2) (fun s1 => ?_) _ ((0, 0, σ))
  unfold b_X11_laysAll_4
  refine P_l (fun hJ _ _ q => E_iload_n dX11_laysAll_4 rfl (E_bipush (v := 52) dX11_laysAll_5 (by decide) q)) ?_
  refine P_if (fun hJ _ _ h1 h2 => E_icmp_ge 43 dX11_laysAll_7 (by decide) h1 h2) ?_ ?_
  · skip
    refine P_l (fun hJ _ _ q => E_aload_n dX11_laysAll_43 rfl q) ?_
    refine P_call (t := fun v => some (.int v)) (st2 := fun v => .int v :: []) (kc2 := 0) (ks2 := 0) (fun hJ => (ok_X11_endsByLaying (σ := s1.2.2)  )) (fun hJ _ _ _ _ v τ1 hM q => E_callV (as := []) (b := 67) (st := []) hM (by decide) yfX11_endsByLaying mlX11_372 imX11_endsByLaying seX11_endsByLaying clX11 (kd67 hJ.1.1) rfl (Nat.le_of_ble_eq_true rfl) rfl dX11_laysAll_44 q) (by decide) (by decide) (fun v2 σ3 => ?_)
    refine P_l (fun hJ _ _ q => E_pop dX11_laysAll_47 rfl (E_iload_n dX11_laysAll_48 rfl q)) ?_
    exact P_inl (P_ret (fun _ _ => E_iret rfl dX11_laysAll_49))
  · skip
    refine P_l (fun hJ _ _ q => E_iconst (v := 0) dX11_laysAll_10 (by decide) (E_istore_n (ls2 := [some (.ref 67), some (.int s1.1), some (.int s1.2.1), some (.int 0)]) dX11_laysAll_11 (by decide) rfl q)) ?_
    refine P_loop (fun s4 => [some (.ref 67), some (.int s4.1), some (.int s1.2.1), some (.int s4.2.1)]) (fun s4 => s4.2.2) (fun s4 => ?_) _ ((s1.1, 0, s1.2.2))
    unfold b_X11_laysAll_12
    refine P_l (fun hJ _ _ q => E_iload_n dX11_laysAll_12 rfl (E_aload_n dX11_laysAll_13 rfl (E_getR (b := 109) clX11 64 (by decide) flX11_161 (Or.inr ⟨_, rfl⟩) dX11_laysAll_14 (kd67 hJ.1.1) (rf67_64 hJ.1.1) (by decide) (E_iload_n dX11_laysAll_17 rfl q)))) ?_
    refine P_g (fun g5 => ?_)
    refine P_l (fun hJ _ _ q => E_iald dX11_laysAll_18 (kd109 hJ.1.1) (inB_vp g5) q) ?_
    refine P_if (fun hJ _ _ h1 h2 => E_icmp_ge 37 dX11_laysAll_19 (by decide) h1 h2) ?_ ?_
    · skip
      refine P_l (fun hJ _ _ q => E_iinc (v := 1) (ls2 := [some (.ref 67), some (.int s4.1), some (.int (s1.2.1 + 1)), some (.int s4.2.1)]) dX11_laysAll_37 rfl (by decide) (by decide) rfl (E_goto 4 dX11_laysAll_40 (by decide) q)) ?_
      refine P_less [some (.ref 67), some (.int s4.1), some (.int (s1.2.1 + 1)), none] (And.intro rfl (And.intro rfl (And.intro rfl trivial))) ?_
      exact P_inl (P_back ((s4.1, s1.2.1 + 1, s4.2.2)))
    · skip
      refine P_l (fun hJ _ _ q => E_aload_n dX11_laysAll_22 rfl (E_iload_n dX11_laysAll_23 rfl q)) ?_
      refine P_call (t := fun v => some (.int v)) (st2 := fun v => .int v :: []) (kc2 := 0) (ks2 := 0) (fun hJ => (ok_X11_lays (σ := s4.2.2) (p1 := s1.2.1) )) (fun hJ _ _ _ _ v τ1 hM q => E_callV (as := [.int s1.2.1]) (b := 67) (st := []) hM (by decide) yfX11_lays mlX11_338 imX11_lays seX11_lays clX11 (kd67 hJ.1.1) rfl (Nat.le_of_ble_eq_true rfl) rfl dX11_laysAll_24 q) (by decide) (by decide) (fun v6 σ7 => ?_)
      refine P_l (fun hJ _ _ q => E_pop dX11_laysAll_27 rfl (E_iinc (v := 1) (ls2 := [some (.ref 67), some (.int (s4.1 + 1)), some (.int s1.2.1), some (.int s4.2.1)]) dX11_laysAll_28 rfl (by decide) (by decide) rfl (E_iinc (v := 1) (ls2 := [some (.ref 67), some (.int (s4.1 + 1)), some (.int s1.2.1), some (.int (s4.2.1 + 1))]) dX11_laysAll_31 rfl (by decide) (by decide) rfl (E_goto 12 dX11_laysAll_34 (by decide) q)))) ?_
      exact P_back ((s4.1 + 1, s4.2.1 + 1, σ7))

def f_X11_auto (σ : rS) : Option (Int32 × rS) := oJoin (if (rI σ 67 24) = ((-1)) then (some (.inr ((1 : Int32)))) else (if inB (rI σ 67 24) 4 then (if (if (rI σ 69 (rI σ 67 24 : Int32).toNatClampNeg) = 0 then true else (if (rI σ 67 30) ≤ 0 then false else true)) = true then (some (.inr ((1 : Int32)))) else (some (.inr ((0 : Int32))))) else none)) fun j1 => oB (f_X11_holds σ j1) fun v3 σ4 => if v3 = 0 then (if inB (rI σ4 67 24) 4 then (if (if (rI σ4 69 (rI σ4 67 24 : Int32).toNatClampNeg) = 3 then (if (rI σ4 72 (rI σ4 67 24 : Int32).toNatClampNeg) = 0 then true else false) else true) = true then (oB (f_X11_laysPlan σ4 (rI σ4 67 24)) fun v6 σ7 => oJoin (if v6 = 0 then (some (.inr ((0 : Int32)))) else ((f_X11_planned σ7).bind fun v9 => if v9 ≤ 0 then (some (.inr ((0 : Int32)))) else (if (rI σ7 72 (rI σ4 67 24 : Int32).toNatClampNeg) = 0 then ((f_X11_plannedWorth σ7).bind fun v10 => if v10 < (rI σ7 67 4) then (some (.inr ((0 : Int32)))) else (some (.inr ((1 : Int32))))) else (some (.inr ((1 : Int32))))))) fun j8 => if inB (rI σ4 67 24) 4 then (oJoin (if (rI σ7 69 (rI σ4 67 24 : Int32).toNatClampNeg) = 2 then ((f_X11_planned σ7).bind fun v13 => if 3 ≤ v13 then (some (.inr ((0 : Int32)))) else ((f_X11_inRack σ7 (rI σ4 67 24)).bind fun v14 => (f_X11_planned σ7).bind fun v15 => if v14 ≤ v15 then (some (.inr ((0 : Int32)))) else (some (.inr ((1 : Int32)))))) else (some (.inr ((0 : Int32))))) fun j12 => if (if j8 = 0 then true else (if j12 = 0 then false else true)) = true then (oB (f_X11_endsByDrawing σ7 6) fun v16 σ17 => some ((0, σ17))) else (oB (f_X11_laysAll σ7) fun v18 σ19 => some ((v18, σ19)))) else none) else (oB (f_X11_blocks σ4 (rI σ4 67 24)) fun v20 σ21 => some ((v20, σ21)))) else none) else (some (((-1), σ4)))
set_option maxRecDepth 20000 in
set_option maxHeartbeats 2000000 in
theorem ok_X11_auto {σ : rS}   : rFn Sy yX11_auto mX11_auto 11 [.ref 67] σ 0 0 (fun v => .inl (some (.int v))) (f_X11_auto σ) := by
  refine rF_of (ls := [some (.ref 67), none, none, none]) yfX11_auto rfl (Nat.le_of_ble_eq_true rfl) (fun o τ => ?_)
  unfold f_X11_auto
  refine P_l (fun hJ _ _ q => E_aload_n dX11_auto_0 rfl (E_aload_n dX11_auto_1 rfl (E_getI clX11 24 (by decide) flX11_75 (Or.inl rfl) dX11_auto_2 (kd67 hJ.1.1) (E_iconst (v := (-1)) dX11_auto_5 (by decide) q)))) ?_
  refine P_join (pc2 := 33) (fun j1 => [some (.ref 67), none, none, none]) (fun j1 => [.int j1, .ref 67]) (fun _ => σ) ?_ (fun j1 => ?_)
  · skip
    refine P_if (fun hJ _ _ h1 h2 => E_icmp_eq 28 dX11_auto_6 (by decide) h1 h2) ?_ ?_
    · skip
      refine P_l (fun hJ _ _ q => E_iconst (v := 1) dX11_auto_28 (by decide) (E_goto 33 dX11_auto_29 (by decide) q)) ?_
      exact P_back ((1 : Int32))
    · skip
      refine P_l (fun hJ _ _ q => E_aload_n dX11_auto_9 rfl (E_getR (b := 69) clX11 8 (by decide) flX11_31 (Or.inr ⟨_, rfl⟩) dX11_auto_10 (kd67 hJ.1.1) (rf67_8 hJ.1.1) (by decide) (E_aload_n dX11_auto_13 rfl (E_getI clX11 24 (by decide) flX11_75 (Or.inl rfl) dX11_auto_14 (kd67 hJ.1.1) q)))) ?_
      refine P_g (fun g2 => ?_)
      refine P_l (fun hJ _ _ q => E_iald dX11_auto_17 (kd69 hJ.1.1) (inB_vp g2) q) ?_
      refine P_if (c := (if (rI σ 69 (rI σ 67 24 : Int32).toNatClampNeg) = 0 then true else (if (rI σ 67 30) ≤ 0 then false else true)) = true) (pc1 := 28) (ls1 := [some (.ref 67), none, none, none]) (st1 := [.ref 67]) (pc2 := 32) (ls2 := [some (.ref 67), none, none, none]) (st2 := [.ref 67]) (fun hJ _ _ hX hY => ?_) ?_ ?_
      · skip
        refine E_if_eq 28 dX11_auto_18 (by decide) (fun c_18_0 => ?_) (fun c_18_0 => ?_)
        · skip
          exact hX (by simp only [if_pos c_18_0])
        · skip
          refine E_aload_n dX11_auto_21 rfl ?_
          refine E_getI clX11 30 (by decide) flX11_303 (Or.inl rfl) dX11_auto_22 (kd67 hJ.1.1) ?_
          refine E_if_le 32 dX11_auto_25 (by decide) (fun c_25_1 => ?_) (fun c_25_1 => ?_)
          · skip
            exact hY (by simp only [if_neg c_18_0, if_pos c_25_1]; exact Bool.false_ne_true)
          · skip
            exact hX (by simp only [if_neg c_18_0, if_neg c_25_1])
      · skip
        refine P_l (fun hJ _ _ q => E_iconst (v := 1) dX11_auto_28 (by decide) (E_goto 33 dX11_auto_29 (by decide) q)) ?_
        exact P_back ((1 : Int32))
      · skip
        refine P_l (fun hJ _ _ q => E_iconst (v := 0) dX11_auto_32 (by decide) q) ?_
        exact P_back ((0 : Int32))
  · skip
    refine P_call (t := fun v => some (.int v)) (st2 := fun v => .int v :: []) (kc2 := 0) (ks2 := 0) (fun hJ => (ok_X11_holds (σ := σ) (p1 := j1) )) (fun hJ _ _ _ _ v τ1 hM q => E_callV (as := [.int j1]) (b := 67) (st := []) hM (by decide) yfX11_holds mlX11_265 imX11_holds seX11_holds clX11 (kd67 hJ.1.1) rfl (Nat.le_of_ble_eq_true rfl) rfl dX11_auto_33 q) (by decide) (by decide) (fun v3 σ4 => ?_)
    refine P_if (fun hJ _ _ h1 h2 => E_if_eq 41 dX11_auto_36 (by decide) h1 h2) ?_ ?_
    · skip
      refine P_l (fun hJ _ _ q => E_aload_n dX11_auto_41 rfl (E_getI clX11 24 (by decide) flX11_75 (Or.inl rfl) dX11_auto_42 (kd67 hJ.1.1) (E_istore_n (ls2 := [some (.ref 67), some (.int (rI σ4 67 24)), none, none]) dX11_auto_45 (by decide) rfl (E_aload_n dX11_auto_46 rfl (E_getR (b := 69) clX11 8 (by decide) flX11_31 (Or.inr ⟨_, rfl⟩) dX11_auto_47 (kd67 hJ.1.1) (rf67_8 hJ.1.1) (by decide) (E_iload_n dX11_auto_50 rfl q)))))) ?_
      refine P_g (fun g5 => ?_)
      refine P_l (fun hJ _ _ q => E_iald dX11_auto_51 (kd69 hJ.1.1) (inB_vp g5) (E_iconst (v := 3) dX11_auto_52 (by decide) q)) ?_
      refine P_if (c := (if (rI σ4 69 (rI σ4 67 24 : Int32).toNatClampNeg) = 3 then (if (rI σ4 72 (rI σ4 67 24 : Int32).toNatClampNeg) = 0 then true else false) else true) = true) (pc1 := 71) (ls1 := [some (.ref 67), some (.int (rI σ4 67 24)), none, none]) (st1 := []) (pc2 := 65) (ls2 := [some (.ref 67), some (.int (rI σ4 67 24)), none, none]) (st2 := []) (fun hJ _ _ hX hY => ?_) ?_ ?_
      · skip
        refine E_icmp_ne 71 dX11_auto_53 (by decide) (fun c_53_0 => ?_) (fun c_53_0 => ?_)
        · skip
          exact hX (by simp only [if_neg c_53_0])
        · skip
          refine E_aload_n dX11_auto_56 rfl ?_
          refine E_getR (b := 72) clX11 11 (by decide) flX11_40 (Or.inr ⟨_, rfl⟩) dX11_auto_57 (kd67 hJ.1.1) (rf67_11 hJ.1.1) (by decide) ?_
          refine E_iload_n dX11_auto_60 rfl ?_
          refine E_zald dX11_auto_61 (kd72 hJ.1.1) (inB_vp g5) ?_
          refine E_if_eq 71 dX11_auto_62 (by decide) (fun c_62_1 => ?_) (fun c_62_1 => ?_)
          · skip
            exact hX (by simp only [if_pos c_53_0, if_pos c_62_1])
          · skip
            exact hY (by simp only [if_pos c_53_0, if_neg c_62_1]; exact Bool.false_ne_true)
      · skip
        refine P_l (fun hJ _ _ q => E_aload_n dX11_auto_71 rfl (E_iload_n dX11_auto_72 rfl q)) ?_
        refine P_call (t := fun v => some (.int v)) (st2 := fun v => .int v :: []) (kc2 := 0) (ks2 := 0) (fun hJ => (ok_X11_laysPlan (σ := σ4) (p1 := rI σ4 67 24) )) (fun hJ _ _ _ _ v τ1 hM q => E_callV (as := [.int (rI σ4 67 24)]) (b := 67) (st := []) hM (by decide) yfX11_laysPlan mlX11_285 imX11_laysPlan seX11_laysPlan clX11 (kd67 hJ.1.1) rfl (Nat.le_of_ble_eq_true rfl) rfl dX11_auto_73 q) (by decide) (by decide) (fun v6 σ7 => ?_)
        refine P_join (pc2 := 111) (fun j8 => [some (.ref 67), some (.int (rI σ4 67 24)), none, none]) (fun j8 => [.int j8]) (fun _ => σ7) ?_ (fun j8 => ?_)
        · skip
          refine P_if (fun hJ _ _ h1 h2 => E_if_eq 110 dX11_auto_76 (by decide) h1 h2) ?_ ?_
          · skip
            refine P_l (fun hJ _ _ q => E_iconst (v := 0) dX11_auto_110 (by decide) q) ?_
            exact P_back ((0 : Int32))
          · skip
            refine P_l (fun hJ _ _ q => E_aload_n dX11_auto_79 rfl q) ?_
            refine P_callr (t := fun v => some (.int v)) (st2 := fun v => .int v :: []) (fun hJ => (ok_X11_planned (σ := σ7)  )) (fun hJ _ _ v hM q => E_callV (as := []) (b := 67) (st := []) hM (by decide) yfX11_planned mlX11_288 imX11_planned seX11_planned clX11 (kd67 hJ.1.1) rfl (Nat.le_of_ble_eq_true rfl) rfl dX11_auto_80 q) (fun v9 => ?_)
            refine P_if (fun hJ _ _ h1 h2 => E_if_le 110 dX11_auto_83 (by decide) h1 h2) ?_ ?_
            · skip
              refine P_l (fun hJ _ _ q => E_iconst (v := 0) dX11_auto_110 (by decide) q) ?_
              exact P_back ((0 : Int32))
            · skip
              refine P_l (fun hJ _ _ q => E_aload_n dX11_auto_86 rfl (E_getR (b := 72) clX11 11 (by decide) flX11_40 (Or.inr ⟨_, rfl⟩) dX11_auto_87 (kd67 hJ.1.1) (rf67_11 hJ.1.1) (by decide) (E_iload_n dX11_auto_90 rfl (E_zald dX11_auto_91 (kd72 hJ.1.1) (inB_vp g5) q)))) ?_
              refine P_if (fun hJ _ _ h1 h2 => E_if_ne 106 dX11_auto_92 (by decide) h2 h1) ?_ ?_
              · skip
                refine P_l (fun hJ _ _ q => E_aload_n dX11_auto_95 rfl q) ?_
                refine P_callr (t := fun v => some (.int v)) (st2 := fun v => .int v :: []) (fun hJ => (ok_X11_plannedWorth (σ := σ7)  )) (fun hJ _ _ v hM q => E_callV (as := []) (b := 67) (st := []) hM (by decide) yfX11_plannedWorth mlX11_291 imX11_plannedWorth seX11_plannedWorth clX11 (kd67 hJ.1.1) rfl (Nat.le_of_ble_eq_true rfl) rfl dX11_auto_96 q) (fun v10 => ?_)
                refine P_l (fun hJ _ _ q => E_aload_n dX11_auto_99 rfl (E_getI clX11 4 (by decide) flX11_21 (Or.inl rfl) dX11_auto_100 (kd67 hJ.1.1) q)) ?_
                refine P_if (fun hJ _ _ h1 h2 => E_icmp_lt 110 dX11_auto_103 (by decide) h1 h2) ?_ ?_
                · skip
                  refine P_l (fun hJ _ _ q => E_iconst (v := 0) dX11_auto_110 (by decide) q) ?_
                  exact P_back ((0 : Int32))
                · skip
                  refine P_l (fun hJ _ _ q => E_iconst (v := 1) dX11_auto_106 (by decide) (E_goto 111 dX11_auto_107 (by decide) q)) ?_
                  exact P_back ((1 : Int32))
              · skip
                refine P_l (fun hJ _ _ q => E_iconst (v := 1) dX11_auto_106 (by decide) (E_goto 111 dX11_auto_107 (by decide) q)) ?_
                exact P_back ((1 : Int32))
        · skip
          refine P_l (fun hJ _ _ q => E_istore_n (ls2 := [some (.ref 67), some (.int (rI σ4 67 24)), some (.int j8), none]) dX11_auto_111 (by decide) rfl (E_aload_n dX11_auto_112 rfl (E_getR (b := 69) clX11 8 (by decide) flX11_31 (Or.inr ⟨_, rfl⟩) dX11_auto_113 (kd67 hJ.1.1) (rf67_8 hJ.1.1) (by decide) (E_iload_n dX11_auto_116 rfl q)))) ?_
          refine P_g (fun g11 => ?_)
          refine P_l (fun hJ _ _ q => E_iald dX11_auto_117 (kd69 hJ.1.1) (inB_vp g11) (E_iconst (v := 2) dX11_auto_118 (by decide) q)) ?_
          refine P_join (pc2 := 147) (fun j12 => [some (.ref 67), none, some (.int j8), none]) (fun j12 => [.int j12]) (fun _ => σ7) ?_ (fun j12 => ?_)
          · skip
            refine P_if (fun hJ _ _ h1 h2 => E_icmp_ne 146 dX11_auto_119 (by decide) h2 h1) ?_ ?_
            · skip
              refine P_l (fun hJ _ _ q => E_aload_n dX11_auto_122 rfl q) ?_
              refine P_callr (t := fun v => some (.int v)) (st2 := fun v => .int v :: []) (fun hJ => (ok_X11_planned (σ := σ7)  )) (fun hJ _ _ v hM q => E_callV (as := []) (b := 67) (st := []) hM (by decide) yfX11_planned mlX11_288 imX11_planned seX11_planned clX11 (kd67 hJ.1.1) rfl (Nat.le_of_ble_eq_true rfl) rfl dX11_auto_123 q) (fun v13 => ?_)
              refine P_l (fun hJ _ _ q => E_iconst (v := 3) dX11_auto_126 (by decide) q) ?_
              refine P_if (fun hJ _ _ h1 h2 => E_icmp_ge 146 dX11_auto_127 (by decide) h1 h2) ?_ ?_
              · skip
                refine P_l (fun hJ _ _ q => E_iconst (v := 0) dX11_auto_146 (by decide) q) ?_
                refine P_less [some (.ref 67), none, some (.int j8), none] (And.intro rfl (And.intro rfl trivial)) ?_
                exact P_back ((0 : Int32))
              · skip
                refine P_l (fun hJ _ _ q => E_aload_n dX11_auto_130 rfl (E_iload_n dX11_auto_131 rfl q)) ?_
                refine P_callr (t := fun v => some (.int v)) (st2 := fun v => .int v :: []) (fun hJ => (ok_X11_inRack (σ := σ7) (p1 := rI σ4 67 24) )) (fun hJ _ _ v hM q => E_callV (as := [.int (rI σ4 67 24)]) (b := 67) (st := []) hM (by decide) yfX11_inRack mlX11_315 imX11_inRack seX11_inRack clX11 (kd67 hJ.1.1) rfl (Nat.le_of_ble_eq_true rfl) rfl dX11_auto_132 q) (fun v14 => ?_)
                refine P_l (fun hJ _ _ q => E_aload_n dX11_auto_135 rfl q) ?_
                refine P_callr (t := fun v => some (.int v)) (st2 := fun v => .int v :: [.int v14]) (fun hJ => (ok_X11_planned (σ := σ7)  )) (fun hJ _ _ v hM q => E_callV (as := []) (b := 67) (st := [.int v14]) hM (by decide) yfX11_planned mlX11_288 imX11_planned seX11_planned clX11 (kd67 hJ.1.1) rfl (Nat.le_of_ble_eq_true rfl) rfl dX11_auto_136 q) (fun v15 => ?_)
                refine P_if (fun hJ _ _ h1 h2 => E_icmp_le 146 dX11_auto_139 (by decide) h1 h2) ?_ ?_
                · skip
                  refine P_l (fun hJ _ _ q => E_iconst (v := 0) dX11_auto_146 (by decide) q) ?_
                  refine P_less [some (.ref 67), none, some (.int j8), none] (And.intro rfl (And.intro rfl trivial)) ?_
                  exact P_back ((0 : Int32))
                · skip
                  refine P_l (fun hJ _ _ q => E_iconst (v := 1) dX11_auto_142 (by decide) (E_goto 147 dX11_auto_143 (by decide) q)) ?_
                  refine P_less [some (.ref 67), none, some (.int j8), none] (And.intro rfl (And.intro rfl trivial)) ?_
                  exact P_back ((1 : Int32))
            · skip
              refine P_l (fun hJ _ _ q => E_iconst (v := 0) dX11_auto_146 (by decide) q) ?_
              refine P_less [some (.ref 67), none, some (.int j8), none] (And.intro rfl (And.intro rfl trivial)) ?_
              exact P_back ((0 : Int32))
          · skip
            refine P_l (fun hJ _ _ q => E_istore_n (ls2 := [some (.ref 67), none, some (.int j8), some (.int j12)]) dX11_auto_147 (by decide) rfl (E_iload_n dX11_auto_148 rfl q)) ?_
            refine P_if (c := (if j8 = 0 then true else (if j12 = 0 then false else true)) = true) (pc1 := 156) (ls1 := [some (.ref 67), none, some (.int j8), some (.int j12)]) (st1 := []) (pc2 := 165) (ls2 := [some (.ref 67), none, some (.int j8), some (.int j12)]) (st2 := []) (fun hJ _ _ hX hY => ?_) ?_ ?_
            · skip
              refine E_if_eq 156 dX11_auto_149 (by decide) (fun c_149_0 => ?_) (fun c_149_0 => ?_)
              · skip
                exact hX (by simp only [if_pos c_149_0])
              · skip
                refine E_iload_n dX11_auto_152 rfl ?_
                refine E_if_eq 165 dX11_auto_153 (by decide) (fun c_153_1 => ?_) (fun c_153_1 => ?_)
                · skip
                  exact hY (by simp only [if_neg c_149_0, if_pos c_153_1]; exact Bool.false_ne_true)
                · skip
                  exact hX (by simp only [if_neg c_149_0, if_neg c_153_1])
            · skip
              refine P_l (fun hJ _ _ q => E_aload_n dX11_auto_156 rfl (E_bipush (v := 6) dX11_auto_157 (by decide) q)) ?_
              refine P_call (t := fun v => some (.int v)) (st2 := fun v => .int v :: []) (kc2 := 0) (ks2 := 0) (fun hJ => (ok_X11_endsByDrawing (σ := σ7) (p1 := 6) )) (fun hJ _ _ _ _ v τ1 hM q => E_callV (as := [.int 6]) (b := 67) (st := []) hM (by decide) yfX11_endsByDrawing mlX11_378 imX11_endsByDrawing seX11_endsByDrawing clX11 (kd67 hJ.1.1) rfl (Nat.le_of_ble_eq_true rfl) rfl dX11_auto_159 q) (by decide) (by decide) (fun v16 σ17 => ?_)
              refine P_l (fun hJ _ _ q => E_pop dX11_auto_162 rfl (E_iconst (v := 0) dX11_auto_163 (by decide) q)) ?_
              exact P_ret (fun _ _ => E_iret rfl dX11_auto_164)
            · skip
              refine P_l (fun hJ _ _ q => E_aload_n dX11_auto_165 rfl q) ?_
              refine P_call (t := fun v => some (.int v)) (st2 := fun v => .int v :: []) (kc2 := 0) (ks2 := 0) (fun hJ => (ok_X11_laysAll (σ := σ7)  )) (fun hJ _ _ _ _ v τ1 hM q => E_callV (as := []) (b := 67) (st := []) hM (by decide) yfX11_laysAll mlX11_384 imX11_laysAll seX11_laysAll clX11 (kd67 hJ.1.1) rfl (Nat.le_of_ble_eq_true rfl) rfl dX11_auto_166 q) (by decide) (by decide) (fun v18 σ19 => ?_)
              exact P_ret (fun _ _ => E_iret rfl dX11_auto_169)
      · skip
        refine P_l (fun hJ _ _ q => E_aload_n dX11_auto_65 rfl (E_iload_n dX11_auto_66 rfl q)) ?_
        refine P_call (t := fun v => some (.int v)) (st2 := fun v => .int v :: []) (kc2 := 0) (ks2 := 0) (fun hJ => (ok_X11_blocks (σ := σ4) (p1 := rI σ4 67 24) )) (fun hJ _ _ _ _ v τ1 hM q => E_callV (as := [.int (rI σ4 67 24)]) (b := 67) (st := []) hM (by decide) yfX11_blocks mlX11_381 imX11_blocks seX11_blocks clX11 (kd67 hJ.1.1) rfl (Nat.le_of_ble_eq_true rfl) rfl dX11_auto_67 q) (by decide) (by decide) (fun v20 σ21 => ?_)
        exact P_ret (fun _ _ => E_iret rfl dX11_auto_70)
    · skip
      refine P_l (fun hJ _ _ q => E_iconst (v := (-1)) dX11_auto_39 (by decide) q) ?_
      exact P_ret (fun _ _ => E_iret rfl dX11_auto_40)

def f_X11_type (σ : rS) (p1 : Int32) : Option (Int32 × rS) := oB (f_X11_holds σ ((if (v_X11_in σ p1 97 122) = 0 then (if (v_X11_in σ p1 48 57) = 0 then 1 else (if (rI σ 67 34) = 40 then 2 else 0)) else (if (rI σ 67 34) = 40 then 2 else 0) : Int32))) fun v1 σ2 => if v1 = 0 then (if inB (rI σ2 67 34) 40 then (oLet (wI σ2 86 (rI σ2 67 34 : Int32).toNatClampNeg p1) fun σ4 => oLet (wI σ4 67 34 ((rI σ4 67 34) + 1)) fun σ5 => some ((rI σ5 67 34, σ5))) else none) else (some (((-1), σ2)))
set_option maxRecDepth 20000 in
set_option maxHeartbeats 2000000 in
theorem ok_X11_type {σ : rS} {p1 : Int32}   : rFn Sy yX11_type mX11_type 1 [.ref 67, .int p1] σ 0 0 (fun v => .inl (some (.int v))) (f_X11_type σ p1) := by
  refine rF_of (ls := [some (.ref 67), some (.int p1)]) yfX11_type rfl (Nat.le_of_ble_eq_true rfl) (fun o τ => ?_)
  unfold f_X11_type
  refine P_l (fun hJ _ _ q => E_aload_n dX11_type_0 rfl (E_aload_n dX11_type_1 rfl (E_iload_n dX11_type_2 rfl (E_bipush (v := 97) dX11_type_3 (by decide) (E_bipush (v := 122) dX11_type_5 (by decide) (E_callV (as := [.int p1, .int 97, .int 122]) (b := 67) (st := [.ref 67]) (ok_X11_in (σ := σ) (p1 := p1) (p2 := 97) (p3 := 122) hJ ) (by decide) yfX11_in mlX11_182 imX11_in seX11_in clX11 (kd67 hJ.1.1) rfl (Nat.le_of_ble_eq_true rfl) rfl dX11_type_7 q)))))) ?_
  refine P_l (pc2 := 43) (ls2 := [some (.ref 67), some (.int p1)]) (st2 := [.int ((if (v_X11_in σ p1 97 122) = 0 then (if (v_X11_in σ p1 48 57) = 0 then 1 else (if (rI σ 67 34) = 40 then 2 else 0)) else (if (rI σ 67 34) = 40 then 2 else 0) : Int32)), .ref 67]) (fun hJ _ _ hq => ?_) ?_
  · skip
    refine E_if_ne 29 dX11_type_10 (by decide) (fun c_10_0 => ?_) (fun c_10_0 => ?_)
    · skip
      refine E_aload_n dX11_type_29 rfl ?_
      refine E_getI clX11 34 (by decide) flX11_387 (Or.inl rfl) dX11_type_30 (kd67 hJ.1.1) ?_
      refine E_bipush (v := 40) dX11_type_33 (by decide) ?_
      refine E_icmp_ne 42 dX11_type_35 (by decide) (fun c_35_1 => ?_) (fun c_35_1 => ?_)
      · skip
        refine E_iconst (v := 0) dX11_type_42 (by decide) ?_
        simp only [if_neg c_10_0, if_neg c_35_1] at hq
        exact hq
      · skip
        refine E_iconst (v := 2) dX11_type_38 (by decide) ?_
        refine E_goto 43 dX11_type_39 (by decide) ?_
        simp only [if_neg c_10_0, if_pos c_35_1] at hq
        exact hq
    · skip
      refine E_aload_n dX11_type_13 rfl ?_
      refine E_iload_n dX11_type_14 rfl ?_
      refine E_bipush (v := 48) dX11_type_15 (by decide) ?_
      refine E_bipush (v := 57) dX11_type_17 (by decide) ?_
      refine E_callV (as := [.int p1, .int 48, .int 57]) (b := 67) (st := [.ref 67]) (ok_X11_in (σ := σ) (p1 := p1) (p2 := 48) (p3 := 57) hJ ) (by decide) yfX11_in mlX11_182 imX11_in seX11_in clX11 (kd67 hJ.1.1) rfl (Nat.le_of_ble_eq_true rfl) rfl dX11_type_19 ?_
      refine E_if_ne 29 dX11_type_22 (by decide) (fun c_22_1 => ?_) (fun c_22_1 => ?_)
      · skip
        refine E_aload_n dX11_type_29 rfl ?_
        refine E_getI clX11 34 (by decide) flX11_387 (Or.inl rfl) dX11_type_30 (kd67 hJ.1.1) ?_
        refine E_bipush (v := 40) dX11_type_33 (by decide) ?_
        refine E_icmp_ne 42 dX11_type_35 (by decide) (fun c_35_2 => ?_) (fun c_35_2 => ?_)
        · skip
          refine E_iconst (v := 0) dX11_type_42 (by decide) ?_
          simp only [if_pos c_10_0, if_neg c_22_1, if_neg c_35_2] at hq
          exact hq
        · skip
          refine E_iconst (v := 2) dX11_type_38 (by decide) ?_
          refine E_goto 43 dX11_type_39 (by decide) ?_
          simp only [if_pos c_10_0, if_neg c_22_1, if_pos c_35_2] at hq
          exact hq
      · skip
        refine E_iconst (v := 1) dX11_type_25 (by decide) ?_
        refine E_goto 43 dX11_type_26 (by decide) ?_
        simp only [if_pos c_10_0, if_pos c_22_1] at hq
        exact hq
  · skip
    refine P_call (t := fun v => some (.int v)) (st2 := fun v => .int v :: []) (kc2 := 0) (ks2 := 0) (fun hJ => (ok_X11_holds (σ := σ) (p1 := (if (v_X11_in σ p1 97 122) = 0 then (if (v_X11_in σ p1 48 57) = 0 then 1 else (if (rI σ 67 34) = 40 then 2 else 0)) else (if (rI σ 67 34) = 40 then 2 else 0) : Int32)) )) (fun hJ _ _ _ _ v τ1 hM q => E_callV (as := [.int ((if (v_X11_in σ p1 97 122) = 0 then (if (v_X11_in σ p1 48 57) = 0 then 1 else (if (rI σ 67 34) = 40 then 2 else 0)) else (if (rI σ 67 34) = 40 then 2 else 0) : Int32))]) (b := 67) (st := []) hM (by decide) yfX11_holds mlX11_265 imX11_holds seX11_holds clX11 (kd67 hJ.1.1) rfl (Nat.le_of_ble_eq_true rfl) rfl dX11_type_43 q) (by decide) (by decide) (fun v1 σ2 => ?_)
    refine P_if (fun hJ _ _ h1 h2 => E_if_eq 51 dX11_type_46 (by decide) h1 h2) ?_ ?_
    · skip
      refine P_l (fun hJ _ _ q => E_aload_n dX11_type_51 rfl (E_getR (b := 86) clX11 33 (by decide) flX11_91 (Or.inr ⟨_, rfl⟩) dX11_type_52 (kd67 hJ.1.1) (rf67_33 hJ.1.1) (by decide) (E_aload_n dX11_type_55 rfl (E_getI clX11 34 (by decide) flX11_387 (Or.inl rfl) dX11_type_56 (kd67 hJ.1.1) (E_iload_n dX11_type_59 rfl q))))) ?_
      refine P_g (fun g3 => ?_)
      refine P_w (fun hJ _ _ q => E_iast dX11_type_60 (kd86 hJ.1.1) (by decide) (inB_vp g3) q) (fun hJ => Sy_wI hJ.1) rfl rfl rfl (fun σ4 hσ4 => ?_)
      refine P_l (fun hJ _ _ q => E_aload_n dX11_type_61 rfl (E_dup dX11_type_62 rfl (E_getI clX11 34 (by decide) flX11_387 (Or.inl rfl) dX11_type_63 (kd67 hJ.1.1) (E_iconst (v := 1) dX11_type_66 (by decide) (E_iadd dX11_type_67 q))))) ?_
      refine P_w (fun hJ _ _ q => E_putI clX11 34 (by decide) flX11_387 (Or.inl rfl) rfl dX11_type_68 (kd67 hJ.1.1) q) (fun hJ => Sy_wI hJ.1) rfl rfl rfl (fun σ5 hσ5 => ?_)
      refine P_l (fun hJ _ _ q => E_aload_n dX11_type_71 rfl (E_getI clX11 34 (by decide) flX11_387 (Or.inl rfl) dX11_type_72 (kd67 hJ.1.1) q)) ?_
      exact P_ret (fun _ _ => E_iret rfl dX11_type_75)
    · skip
      refine P_l (fun hJ _ _ q => E_iconst (v := (-1)) dX11_type_49 (by decide) q) ?_
      exact P_ret (fun _ _ => E_iret rfl dX11_type_50)

def f_X11_wipe (σ : rS) : Option (Int32 × rS) := oB (f_X11_holds σ 0) fun v1 σ2 => oLet (wI σ2 67 34 0) fun σ3 => some ((rI σ2 67 34, σ3))
set_option maxRecDepth 20000 in
set_option maxHeartbeats 2000000 in
theorem ok_X11_wipe {σ : rS}   : rFn Sy yX11_wipe mX11_wipe 1 [.ref 67] σ 0 0 (fun v => .inl (some (.int v))) (f_X11_wipe σ) := by
  refine rF_of (ls := [some (.ref 67), none]) yfX11_wipe rfl (Nat.le_of_ble_eq_true rfl) (fun o τ => ?_)
  unfold f_X11_wipe
  refine P_l (fun hJ _ _ q => E_aload_n dX11_wipe_0 rfl (E_iconst (v := 0) dX11_wipe_1 (by decide) q)) ?_
  refine P_call (t := fun v => some (.int v)) (st2 := fun v => .int v :: []) (kc2 := 0) (ks2 := 0) (fun hJ => (ok_X11_holds (σ := σ) (p1 := 0) )) (fun hJ _ _ _ _ v τ1 hM q => E_callV (as := [.int 0]) (b := 67) (st := []) hM (by decide) yfX11_holds mlX11_265 imX11_holds seX11_holds clX11 (kd67 hJ.1.1) rfl (Nat.le_of_ble_eq_true rfl) rfl dX11_wipe_2 q) (by decide) (by decide) (fun v1 σ2 => ?_)
  refine P_l (fun hJ _ _ q => E_pop dX11_wipe_5 rfl (E_aload_n dX11_wipe_6 rfl (E_getI clX11 34 (by decide) flX11_387 (Or.inl rfl) dX11_wipe_7 (kd67 hJ.1.1) (E_istore_n (ls2 := [some (.ref 67), some (.int (rI σ2 67 34))]) dX11_wipe_10 (by decide) rfl (E_aload_n dX11_wipe_11 rfl (E_iconst (v := 0) dX11_wipe_12 (by decide) q)))))) ?_
  refine P_w (fun hJ _ _ q => E_putI clX11 34 (by decide) flX11_387 (Or.inl rfl) rfl dX11_wipe_13 (kd67 hJ.1.1) q) (fun hJ => Sy_wI hJ.1) rfl rfl rfl (fun σ3 hσ3 => ?_)
  refine P_l (fun hJ _ _ q => E_iload_n dX11_wipe_16 rfl q) ?_
  exact P_ret (fun _ _ => E_iret rfl dX11_wipe_17)

def f_X11_sign (σ : rS) (p1 : Int32) : Option Int32 := if (rI σ 67 34) ≤ p1 then (some 0) else (if inB p1 40 then (some (rI σ 86 (p1 : Int32).toNatClampNeg)) else none)
set_option maxRecDepth 20000 in
set_option maxHeartbeats 2000000 in
theorem ok_X11_sign {σ : rS} {p1 : Int32}   : rFr Sy yX11_sign mX11_sign 0 [.ref 67, .int p1] σ (fun v => some (.int v)) (f_X11_sign σ p1) := by
  refine rFr_of (ls := [some (.ref 67), some (.int p1)]) yfX11_sign rfl (Nat.le_of_ble_eq_true rfl) (fun o τ => ?_)
  unfold f_X11_sign
  refine P_l (fun hJ _ _ q => E_iload_n dX11_sign_0 rfl (E_aload_n dX11_sign_1 rfl (E_getI clX11 34 (by decide) flX11_387 (Or.inl rfl) dX11_sign_2 (kd67 hJ.1.1) q))) ?_
  refine P_if (fun hJ _ _ h1 h2 => E_icmp_ge 17 dX11_sign_5 (by decide) h1 h2) ?_ ?_
  · skip
    refine P_l (fun hJ _ _ q => E_iconst (v := 0) dX11_sign_17 (by decide) q) ?_
    exact P_retr (fun _ _ => E_iret rfl dX11_sign_18)
  · skip
    refine P_l (fun hJ _ _ q => E_aload_n dX11_sign_8 rfl (E_getR (b := 86) clX11 33 (by decide) flX11_91 (Or.inr ⟨_, rfl⟩) dX11_sign_9 (kd67 hJ.1.1) (rf67_33 hJ.1.1) (by decide) (E_iload_n dX11_sign_12 rfl q))) ?_
    refine P_g (fun g1 => ?_)
    refine P_l (fun hJ _ _ q => E_iald dX11_sign_13 (kd86 hJ.1.1) (inB_vp g1) (E_goto 18 dX11_sign_14 (by decide) q)) ?_
    exact P_retr (fun _ _ => E_iret rfl dX11_sign_18)

def b_X11_reads_7 (s2 : Int32 × rS) : Option ((Int32 × rS) ⊕ (Int32 × rS)) := if (rI s2.2 67 34) ≤ s2.1 then (if (rI s2.2 67 37) ≤ 0 then (some (.inl ((0, s2.2)))) else (some (.inl ((1, s2.2))))) else ((f_X11_sign s2.2 s2.1).bind fun v3 => if inB (rI s2.2 67 37) 40 then (oLet (wI s2.2 87 (rI s2.2 67 37 : Int32).toNatClampNeg v3) fun σ5 => if (if v3 = 108 then true else (if v3 = 106 then true else (if v3 = 115 then true else false))) = true then ((f_X11_sign σ5 (s2.1 + 1)).bind fun v6 => (f_X11_sign σ5 ((s2.1 + 1) + 1)).bind fun v7 => if (if (v_X11_in σ5 (v6 - 97) 0 3) = 0 then true else (if (v_X11_in σ5 (v7 - 48) 1 9) = 0 then true else false)) = true then (some (.inl ((0, σ5)))) else ((f_X11_sign σ5 ((s2.1 + 1) + 2)).bind fun v8 => oJoin (if (v_X11_in σ5 v8 48 57) = 0 then (some (.inr (((s2.1 + 1) + 2, v7 - 48)))) else ((f_X11_sign σ5 ((s2.1 + 1) + 2)).bind fun v10 => oLet (((10 * (v7 - 48)) + v10) - 48 : Int32) fun x11 => some (.inr ((((s2.1 + 1) + 2) + 1, x11))))) fun j9 => if j9.2 ≤ (rI σ5 67 1) then (if inB (rI σ5 67 37) 40 then (oLet (wI σ5 88 (rI σ5 67 37 : Int32).toNatClampNeg (((13 * (v6 - 97)) + j9.2) - 1)) fun σ13 => oLet (wI σ13 67 37 ((rI σ13 67 37) + 1)) fun σ14 => some (.inr ((j9.1, σ14)))) else none) else (some (.inl ((0, σ5)))))) else (if (if v3 = 116 then true else (if v3 = 101 then true else (if v3 = 119 then true else false))) = true then (oLet (wI σ5 67 37 ((rI σ5 67 37) + 1)) fun σ15 => some (.inr ((s2.1 + 1, σ15)))) else (some (.inl ((0, σ5)))))) else none)
def f_X11_reads (σ : rS) : Option (Int32 × rS) := oLet (wI σ 67 37 0) fun σ1 => oLoop (b_X11_reads_7) oFuel ((0, σ1))
set_option maxRecDepth 20000 in
set_option maxHeartbeats 2000000 in
theorem ok_X11_reads {σ : rS}   : rFn Sy yX11_reads mX11_reads 1 [.ref 67] σ 0 0 (fun v => .inl (some (.int v))) (f_X11_reads σ) := by
  refine rF_of (ls := [some (.ref 67), none, none, none, none]) yfX11_reads rfl (Nat.le_of_ble_eq_true rfl) (fun o τ => ?_)
  unfold f_X11_reads
  refine P_l (fun hJ _ _ q => E_iconst (v := 0) dX11_reads_0 (by decide) (E_istore_n (ls2 := [some (.ref 67), some (.int 0), none, none, none]) dX11_reads_1 (by decide) rfl (E_aload_n dX11_reads_2 rfl (E_iconst (v := 0) dX11_reads_3 (by decide) q)))) ?_
  refine P_w (fun hJ _ _ q => E_putI clX11 37 (by decide) flX11_390 (Or.inl rfl) rfl dX11_reads_4 (kd67 hJ.1.1) q) (fun hJ => Sy_wI hJ.1) rfl rfl rfl (fun σ1 hσ1 => ?_)
  refine P_loop (fun s2 => [some (.ref 67), some (.int s2.1), none, none, none]) (fun s2 => s2.2) (fun s2 => ?_) _ ((0, σ1))
  unfold b_X11_reads_7
  refine P_l (fun hJ _ _ q => E_iload_n dX11_reads_7 rfl (E_aload_n dX11_reads_8 rfl (E_getI clX11 34 (by decide) flX11_387 (Or.inl rfl) dX11_reads_9 (kd67 hJ.1.1) q))) ?_
  refine P_if (fun hJ _ _ h1 h2 => E_icmp_ge 200 dX11_reads_12 (by decide) h1 h2) ?_ ?_
  · skip
    refine P_l (fun hJ _ _ q => E_aload_n dX11_reads_200 rfl (E_getI clX11 37 (by decide) flX11_390 (Or.inl rfl) dX11_reads_201 (kd67 hJ.1.1) q)) ?_
    refine P_if (fun hJ _ _ h1 h2 => E_if_le 211 dX11_reads_204 (by decide) h1 h2) ?_ ?_
    · skip
      refine P_l (fun hJ _ _ q => E_iconst (v := 0) dX11_reads_211 (by decide) q) ?_
      exact P_inl (P_ret (fun _ _ => E_zret01 rfl (by decide) dX11_reads_212))
    · skip
      refine P_l (fun hJ _ _ q => E_iconst (v := 1) dX11_reads_207 (by decide) (E_goto 212 dX11_reads_208 (by decide) q)) ?_
      exact P_inl (P_ret (fun _ _ => E_zret01 rfl (by decide) dX11_reads_212))
  · skip
    refine P_l (fun hJ _ _ q => E_aload_n dX11_reads_15 rfl (E_iload_n dX11_reads_16 rfl q)) ?_
    refine P_callr (t := fun v => some (.int v)) (st2 := fun v => .int v :: []) (fun hJ => (ok_X11_sign (σ := s2.2) (p1 := s2.1) )) (fun hJ _ _ v hM q => E_callV (as := [.int s2.1]) (b := 67) (st := []) hM (by decide) yfX11_sign mlX11_393 imX11_sign seX11_sign clX11 (kd67 hJ.1.1) rfl (Nat.le_of_ble_eq_true rfl) rfl dX11_reads_17 q) (fun v3 => ?_)
    refine P_l (fun hJ _ _ q => E_istore_n (ls2 := [some (.ref 67), some (.int s2.1), some (.int v3), none, none]) dX11_reads_20 (by decide) rfl (E_iinc (v := 1) (ls2 := [some (.ref 67), some (.int (s2.1 + 1)), some (.int v3), none, none]) dX11_reads_21 rfl (by decide) (by decide) rfl (E_aload_n dX11_reads_24 rfl (E_getR (b := 87) clX11 35 (by decide) flX11_94 (Or.inr ⟨_, rfl⟩) dX11_reads_25 (kd67 hJ.1.1) (rf67_35 hJ.1.1) (by decide) (E_aload_n dX11_reads_28 rfl (E_getI clX11 37 (by decide) flX11_390 (Or.inl rfl) dX11_reads_29 (kd67 hJ.1.1) (E_iload_n dX11_reads_32 rfl q))))))) ?_
    refine P_g (fun g4 => ?_)
    refine P_w (fun hJ _ _ q => E_iast dX11_reads_33 (kd87 hJ.1.1) (by decide) (inB_vp g4) q) (fun hJ => Sy_wI hJ.1) rfl rfl rfl (fun σ5 hσ5 => ?_)
    refine P_l (fun hJ _ _ q => E_iload_n dX11_reads_34 rfl (E_bipush (v := 108) dX11_reads_35 (by decide) q)) ?_
    refine P_if (c := (if v3 = 108 then true else (if v3 = 106 then true else (if v3 = 115 then true else false))) = true) (pc1 := 52) (ls1 := [some (.ref 67), some (.int (s2.1 + 1)), some (.int v3), none, none]) (st1 := []) (pc2 := 167) (ls2 := [some (.ref 67), some (.int (s2.1 + 1)), some (.int v3), none, none]) (st2 := []) (fun hJ _ _ hX hY => ?_) ?_ ?_
    · skip
      refine E_icmp_eq 52 dX11_reads_37 (by decide) (fun c_37_0 => ?_) (fun c_37_0 => ?_)
      · skip
        exact hX (by simp only [if_pos c_37_0])
      · skip
        refine E_iload_n dX11_reads_40 rfl ?_
        refine E_bipush (v := 106) dX11_reads_41 (by decide) ?_
        refine E_icmp_eq 52 dX11_reads_43 (by decide) (fun c_43_1 => ?_) (fun c_43_1 => ?_)
        · skip
          exact hX (by simp only [if_neg c_37_0, if_pos c_43_1])
        · skip
          refine E_iload_n dX11_reads_46 rfl ?_
          refine E_bipush (v := 115) dX11_reads_47 (by decide) ?_
          refine E_icmp_ne 167 dX11_reads_49 (by decide) (fun c_49_2 => ?_) (fun c_49_2 => ?_)
          · skip
            exact hY (by simp only [if_neg c_37_0, if_neg c_43_1, if_neg c_49_2]; exact Bool.false_ne_true)
          · skip
            exact hX (by simp only [if_neg c_37_0, if_neg c_43_1, if_pos c_49_2])
    · skip
      refine P_l (fun hJ _ _ q => E_aload_n dX11_reads_52 rfl (E_iload_n dX11_reads_53 rfl q)) ?_
      refine P_callr (t := fun v => some (.int v)) (st2 := fun v => .int v :: []) (fun hJ => (ok_X11_sign (σ := σ5) (p1 := s2.1 + 1) )) (fun hJ _ _ v hM q => E_callV (as := [.int (s2.1 + 1)]) (b := 67) (st := []) hM (by decide) yfX11_sign mlX11_393 imX11_sign seX11_sign clX11 (kd67 hJ.1.1) rfl (Nat.le_of_ble_eq_true rfl) rfl dX11_reads_54 q) (fun v6 => ?_)
      refine P_l (fun hJ _ _ q => E_bipush (v := 97) dX11_reads_57 (by decide) (E_isub dX11_reads_59 (E_istore_n (ls2 := [some (.ref 67), some (.int (s2.1 + 1)), some (.int v3), some (.int (v6 - 97)), none]) dX11_reads_60 (by decide) rfl (E_aload_n dX11_reads_61 rfl (E_iload_n dX11_reads_62 rfl (E_iconst (v := 1) dX11_reads_63 (by decide) (E_iadd dX11_reads_64 q))))))) ?_
      refine P_callr (t := fun v => some (.int v)) (st2 := fun v => .int v :: []) (fun hJ => (ok_X11_sign (σ := σ5) (p1 := (s2.1 + 1) + 1) )) (fun hJ _ _ v hM q => E_callV (as := [.int ((s2.1 + 1) + 1)]) (b := 67) (st := []) hM (by decide) yfX11_sign mlX11_393 imX11_sign seX11_sign clX11 (kd67 hJ.1.1) rfl (Nat.le_of_ble_eq_true rfl) rfl dX11_reads_65 q) (fun v7 => ?_)
      refine P_l (fun hJ _ _ q => E_bipush (v := 48) dX11_reads_68 (by decide) (E_isub dX11_reads_70 (E_istore (ls2 := [some (.ref 67), some (.int (s2.1 + 1)), some (.int v3), some (.int (v6 - 97)), some (.int (v7 - 48))]) dX11_reads_71 (by decide) rfl (E_aload_n dX11_reads_73 rfl (E_iload_n dX11_reads_74 rfl (E_iconst (v := 0) dX11_reads_75 (by decide) (E_iconst (v := 3) dX11_reads_76 (by decide) (E_callV (as := [.int (v6 - 97), .int 0, .int 3]) (b := 67) (st := []) (ok_X11_in (σ := σ5) (p1 := v6 - 97) (p2 := 0) (p3 := 3) hJ ) (by decide) yfX11_in mlX11_182 imX11_in seX11_in clX11 (kd67 hJ.1.1) rfl (Nat.le_of_ble_eq_true rfl) rfl dX11_reads_77 q)))))))) ?_
      refine P_if (c := (if (v_X11_in σ5 (v6 - 97) 0 3) = 0 then true else (if (v_X11_in σ5 (v7 - 48) 1 9) = 0 then true else false)) = true) (pc1 := 95) (ls1 := [some (.ref 67), some (.int (s2.1 + 1)), some (.int v3), some (.int (v6 - 97)), some (.int (v7 - 48))]) (st1 := []) (pc2 := 97) (ls2 := [some (.ref 67), some (.int (s2.1 + 1)), some (.int v3), some (.int (v6 - 97)), some (.int (v7 - 48))]) (st2 := []) (fun hJ _ _ hX hY => ?_) ?_ ?_
      · skip
        refine E_if_eq 95 dX11_reads_80 (by decide) (fun c_80_0 => ?_) (fun c_80_0 => ?_)
        · skip
          exact hX (by simp only [if_pos c_80_0])
        · skip
          refine E_aload_n dX11_reads_83 rfl ?_
          refine E_iload dX11_reads_84 rfl ?_
          refine E_iconst (v := 1) dX11_reads_86 (by decide) ?_
          refine E_bipush (v := 9) dX11_reads_87 (by decide) ?_
          refine E_callV (as := [.int (v7 - 48), .int 1, .int 9]) (b := 67) (st := []) (ok_X11_in (σ := σ5) (p1 := v7 - 48) (p2 := 1) (p3 := 9) hJ ) (by decide) yfX11_in mlX11_182 imX11_in seX11_in clX11 (kd67 hJ.1.1) rfl (Nat.le_of_ble_eq_true rfl) rfl dX11_reads_89 ?_
          refine E_if_ne 97 dX11_reads_92 (by decide) (fun c_92_1 => ?_) (fun c_92_1 => ?_)
          · skip
            exact hY (by simp only [if_neg c_80_0, if_neg c_92_1]; exact Bool.false_ne_true)
          · skip
            exact hX (by simp only [if_neg c_80_0, if_pos c_92_1])
      · skip
        refine P_l (fun hJ _ _ q => E_iconst (v := 0) dX11_reads_95 (by decide) q) ?_
        exact P_inl (P_ret (fun _ _ => E_zret01 rfl (by decide) dX11_reads_96))
      · skip
        refine P_l (fun hJ _ _ q => E_iinc (v := 2) (ls2 := [some (.ref 67), some (.int ((s2.1 + 1) + 2)), some (.int v3), some (.int (v6 - 97)), some (.int (v7 - 48))]) dX11_reads_97 rfl (by decide) (by decide) rfl (E_aload_n dX11_reads_100 rfl (E_aload_n dX11_reads_101 rfl (E_iload_n dX11_reads_102 rfl q)))) ?_
        refine P_callr (t := fun v => some (.int v)) (st2 := fun v => .int v :: [.ref 67]) (fun hJ => (ok_X11_sign (σ := σ5) (p1 := (s2.1 + 1) + 2) )) (fun hJ _ _ v hM q => E_callV (as := [.int ((s2.1 + 1) + 2)]) (b := 67) (st := [.ref 67]) hM (by decide) yfX11_sign mlX11_393 imX11_sign seX11_sign clX11 (kd67 hJ.1.1) rfl (Nat.le_of_ble_eq_true rfl) rfl dX11_reads_103 q) (fun v8 => ?_)
        refine P_l (fun hJ _ _ q => E_bipush (v := 48) dX11_reads_106 (by decide) (E_bipush (v := 57) dX11_reads_108 (by decide) (E_callV (as := [.int v8, .int 48, .int 57]) (b := 67) (st := []) (ok_X11_in (σ := σ5) (p1 := v8) (p2 := 48) (p3 := 57) hJ ) (by decide) yfX11_in mlX11_182 imX11_in seX11_in clX11 (kd67 hJ.1.1) rfl (Nat.le_of_ble_eq_true rfl) rfl dX11_reads_110 q))) ?_
        refine P_join (pc2 := 135) (fun j9 => [some (.ref 67), some (.int j9.1), none, some (.int (v6 - 97)), some (.int j9.2)]) (fun j9 => []) (fun _ => σ5) ?_ (fun j9 => ?_)
        · skip
          refine P_if (fun hJ _ _ h1 h2 => E_if_eq 135 dX11_reads_113 (by decide) h1 h2) ?_ ?_
          · skip
            refine P_less [some (.ref 67), some (.int ((s2.1 + 1) + 2)), none, some (.int (v6 - 97)), some (.int (v7 - 48))] (And.intro rfl (And.intro rfl (And.intro rfl (And.intro rfl trivial)))) ?_
            exact P_back (((s2.1 + 1) + 2, v7 - 48))
          · skip
            refine P_l (fun hJ _ _ q => E_bipush (v := 10) dX11_reads_116 (by decide) (E_iload dX11_reads_118 rfl (E_imul dX11_reads_120 (E_aload_n dX11_reads_121 rfl (E_iload_n dX11_reads_122 rfl q))))) ?_
            refine P_callr (t := fun v => some (.int v)) (st2 := fun v => .int v :: [.int (10 * (v7 - 48))]) (fun hJ => (ok_X11_sign (σ := σ5) (p1 := (s2.1 + 1) + 2) )) (fun hJ _ _ v hM q => E_callV (as := [.int ((s2.1 + 1) + 2)]) (b := 67) (st := [.int (10 * (v7 - 48))]) hM (by decide) yfX11_sign mlX11_393 imX11_sign seX11_sign clX11 (kd67 hJ.1.1) rfl (Nat.le_of_ble_eq_true rfl) rfl dX11_reads_123 q) (fun v10 => ?_)
            refine P_l (fun hJ _ _ q => E_iadd dX11_reads_126 (E_bipush (v := 48) dX11_reads_127 (by decide) (E_isub dX11_reads_129 (E_istore (ls2 := [some (.ref 67), some (.int ((s2.1 + 1) + 2)), some (.int v3), some (.int (v6 - 97)), some (.int (((10 * (v7 - 48)) + v10) - 48))]) dX11_reads_130 (by decide) rfl q)))) ?_
            refine P_v (((10 * (v7 - 48)) + v10) - 48) (fun x => [some (.ref 67), some (.int ((s2.1 + 1) + 2)), some (.int v3), some (.int (v6 - 97)), some (.int x)]) (fun x11 => ?_)
            refine P_l (fun hJ _ _ q => E_iinc (v := 1) (ls2 := [some (.ref 67), some (.int (((s2.1 + 1) + 2) + 1)), some (.int v3), some (.int (v6 - 97)), some (.int x11)]) dX11_reads_132 rfl (by decide) (by decide) rfl q) ?_
            refine P_less [some (.ref 67), some (.int (((s2.1 + 1) + 2) + 1)), none, some (.int (v6 - 97)), some (.int x11)] (And.intro rfl (And.intro rfl (And.intro rfl (And.intro rfl trivial)))) ?_
            exact P_back ((((s2.1 + 1) + 2) + 1, x11))
        · skip
          refine P_l (fun hJ _ _ q => E_iload dX11_reads_135 rfl (E_aload_n dX11_reads_137 rfl (E_getI clX11 1 (by decide) flX11_9 (Or.inl rfl) dX11_reads_138 (kd67 hJ.1.1) q))) ?_
          refine P_if (fun hJ _ _ h1 h2 => E_icmp_le 146 dX11_reads_141 (by decide) h1 h2) ?_ ?_
          · skip
            refine P_l (fun hJ _ _ q => E_aload_n dX11_reads_146 rfl (E_getR (b := 88) clX11 36 (by decide) flX11_97 (Or.inr ⟨_, rfl⟩) dX11_reads_147 (kd67 hJ.1.1) (rf67_36 hJ.1.1) (by decide) (E_aload_n dX11_reads_150 rfl (E_getI clX11 37 (by decide) flX11_390 (Or.inl rfl) dX11_reads_151 (kd67 hJ.1.1) (E_bipush (v := 13) dX11_reads_154 (by decide) (E_iload_n dX11_reads_156 rfl (E_imul dX11_reads_157 (E_iload dX11_reads_158 rfl (E_iadd dX11_reads_160 (E_iconst (v := 1) dX11_reads_161 (by decide) (E_isub dX11_reads_162 q))))))))))) ?_
            refine P_g (fun g12 => ?_)
            refine P_w (fun hJ _ _ q => E_iast dX11_reads_163 (kd88 hJ.1.1) (by decide) (inB_vp g12) q) (fun hJ => Sy_wI hJ.1) rfl rfl rfl (fun σ13 hσ13 => ?_)
            refine P_l (fun hJ _ _ q => E_goto 187 dX11_reads_164 (by decide) (E_aload_n dX11_reads_187 rfl (E_dup dX11_reads_188 rfl (E_getI clX11 37 (by decide) flX11_390 (Or.inl rfl) dX11_reads_189 (kd67 hJ.1.1) (E_iconst (v := 1) dX11_reads_192 (by decide) (E_iadd dX11_reads_193 q)))))) ?_
            refine P_w (fun hJ _ _ q => E_putI clX11 37 (by decide) flX11_390 (Or.inl rfl) rfl dX11_reads_194 (kd67 hJ.1.1) q) (fun hJ => Sy_wI hJ.1) rfl rfl rfl (fun σ14 hσ14 => ?_)
            refine P_l (fun hJ _ _ q => E_goto 7 dX11_reads_197 (by decide) q) ?_
            refine P_less [some (.ref 67), some (.int j9.1), none, none, none] (And.intro rfl (And.intro rfl trivial)) ?_
            exact P_back ((j9.1, σ14))
          · skip
            refine P_l (fun hJ _ _ q => E_iconst (v := 0) dX11_reads_144 (by decide) q) ?_
            exact P_inl (P_ret (fun _ _ => E_zret01 rfl (by decide) dX11_reads_145))
    · skip
      refine P_l (fun hJ _ _ q => E_iload_n dX11_reads_167 rfl (E_bipush (v := 116) dX11_reads_168 (by decide) q)) ?_
      refine P_if (c := (if v3 = 116 then true else (if v3 = 101 then true else (if v3 = 119 then true else false))) = true) (pc1 := 187) (ls1 := [some (.ref 67), some (.int (s2.1 + 1)), some (.int v3), none, none]) (st1 := []) (pc2 := 185) (ls2 := [some (.ref 67), some (.int (s2.1 + 1)), some (.int v3), none, none]) (st2 := []) (fun hJ _ _ hX hY => ?_) ?_ ?_
      · skip
        refine E_icmp_eq 187 dX11_reads_170 (by decide) (fun c_170_0 => ?_) (fun c_170_0 => ?_)
        · skip
          exact hX (by simp only [if_pos c_170_0])
        · skip
          refine E_iload_n dX11_reads_173 rfl ?_
          refine E_bipush (v := 101) dX11_reads_174 (by decide) ?_
          refine E_icmp_eq 187 dX11_reads_176 (by decide) (fun c_176_1 => ?_) (fun c_176_1 => ?_)
          · skip
            exact hX (by simp only [if_neg c_170_0, if_pos c_176_1])
          · skip
            refine E_iload_n dX11_reads_179 rfl ?_
            refine E_bipush (v := 119) dX11_reads_180 (by decide) ?_
            refine E_icmp_eq 187 dX11_reads_182 (by decide) (fun c_182_2 => ?_) (fun c_182_2 => ?_)
            · skip
              exact hX (by simp only [if_neg c_170_0, if_neg c_176_1, if_pos c_182_2])
            · skip
              exact hY (by simp only [if_neg c_170_0, if_neg c_176_1, if_neg c_182_2]; exact Bool.false_ne_true)
      · skip
        refine P_l (fun hJ _ _ q => E_aload_n dX11_reads_187 rfl (E_dup dX11_reads_188 rfl (E_getI clX11 37 (by decide) flX11_390 (Or.inl rfl) dX11_reads_189 (kd67 hJ.1.1) (E_iconst (v := 1) dX11_reads_192 (by decide) (E_iadd dX11_reads_193 q))))) ?_
        refine P_w (fun hJ _ _ q => E_putI clX11 37 (by decide) flX11_390 (Or.inl rfl) rfl dX11_reads_194 (kd67 hJ.1.1) q) (fun hJ => Sy_wI hJ.1) rfl rfl rfl (fun σ15 hσ15 => ?_)
        refine P_l (fun hJ _ _ q => E_goto 7 dX11_reads_197 (by decide) q) ?_
        refine P_less [some (.ref 67), some (.int (s2.1 + 1)), none, none, none] (And.intro rfl (And.intro rfl trivial)) ?_
        exact P_back ((s2.1 + 1, σ15))
      · skip
        refine P_l (fun hJ _ _ q => E_iconst (v := 0) dX11_reads_185 (by decide) q) ?_
        exact P_inl (P_ret (fun _ _ => E_zret01 rfl (by decide) dX11_reads_186))

def f_X11_moves (σ : rS) (p1 : Int32) (p2 : Int32) : Option (Int32 × rS) := if p1 = 101 then (oB (f_X11_endsByLaying σ) fun v2 σ3 => if v2 = 0 ∨ v2 = 1 then (some ((v2, σ3))) else none) else (if p1 = 106 then (oB (f_X11_laysJoker σ p2) fun v6 σ7 => if v6 = 0 ∨ v6 = 1 then (some ((v6, σ7))) else none) else (if p1 = 108 then (oB (f_X11_lays σ p2) fun v10 σ11 => if v10 = 0 ∨ v10 = 1 then (some ((v10, σ11))) else none) else (if p1 = 115 then (oB (f_X11_swaps σ p2) fun v14 σ15 => if v14 = 0 ∨ v14 = 1 then (some ((v14, σ15))) else none) else (if p1 = 116 then (oB (f_X11_takesBack σ) fun v18 σ19 => if v18 = 0 ∨ v18 = 1 then (some ((v18, σ19))) else none) else (if (rI σ 67 24) = ((-1)) then (some ((0, σ))) else (oB (f_X11_endsByDrawing σ 6) fun v21 σ22 => some ((1, σ22))))))))
set_option maxRecDepth 20000 in
set_option maxHeartbeats 2000000 in
theorem ok_X11_moves {σ : rS} {p1 : Int32} {p2 : Int32}   : rFn Sy yX11_moves mX11_moves 10 [.ref 67, .int p1, .int p2] σ 0 0 (fun v => .inl (some (.int v))) (f_X11_moves σ p1 p2) := by
  refine rF_of (ls := [some (.ref 67), some (.int p1), some (.int p2)]) yfX11_moves rfl (Nat.le_of_ble_eq_true rfl) (fun o τ => ?_)
  unfold f_X11_moves
  refine P_l (fun hJ _ _ q => E_iload_n dX11_moves_0 rfl q) ?_
  refine P_case (fun h1 => ?_) (fun h1 => ?_)
  · skip
    refine P_l (fun hJ _ _ q => E_lookup (off := 74) 75 dX11_moves_1 (by decide) (by rw [h1]; rfl) (by decide) q) ?_
    refine P_l (fun hJ _ _ q => E_aload_n dX11_moves_75 rfl q) ?_
    refine P_call (t := fun v => some (.int v)) (st2 := fun v => .int v :: []) (kc2 := 0) (ks2 := 0) (fun hJ => (ok_X11_endsByLaying (σ := σ)  )) (fun hJ _ _ _ _ v τ1 hM q => E_callV (as := []) (b := 67) (st := []) hM (by decide) yfX11_endsByLaying mlX11_372 imX11_endsByLaying seX11_endsByLaying clX11 (kd67 hJ.1.1) rfl (Nat.le_of_ble_eq_true rfl) rfl dX11_moves_76 q) (by decide) (by decide) (fun v2 σ3 => ?_)
    refine P_g (fun g4 => ?_)
    exact P_ret (fun _ _ => E_zret01 rfl g4 dX11_moves_79)
  · skip
    refine P_case (fun h5 => ?_) (fun h5 => ?_)
    · skip
      refine P_l (fun hJ _ _ q => E_lookup (off := 57) 58 dX11_moves_1 (by decide) (by rw [h5]; rfl) (by decide) q) ?_
      refine P_l (fun hJ _ _ q => E_aload_n dX11_moves_58 rfl (E_iload_n dX11_moves_59 rfl q)) ?_
      refine P_call (t := fun v => some (.int v)) (st2 := fun v => .int v :: []) (kc2 := 0) (ks2 := 0) (fun hJ => (ok_X11_laysJoker (σ := σ) (p1 := p2) )) (fun hJ _ _ _ _ v τ1 hM q => E_callV (as := [.int p2]) (b := 67) (st := []) hM (by decide) yfX11_laysJoker mlX11_341 imX11_laysJoker seX11_laysJoker clX11 (kd67 hJ.1.1) rfl (Nat.le_of_ble_eq_true rfl) rfl dX11_moves_60 q) (by decide) (by decide) (fun v6 σ7 => ?_)
      refine P_g (fun g8 => ?_)
      exact P_ret (fun _ _ => E_zret01 rfl g8 dX11_moves_63)
    · skip
      refine P_case (fun h9 => ?_) (fun h9 => ?_)
      · skip
        refine P_l (fun hJ _ _ q => E_lookup (off := 51) 52 dX11_moves_1 (by decide) (by rw [h9]; rfl) (by decide) q) ?_
        refine P_l (fun hJ _ _ q => E_aload_n dX11_moves_52 rfl (E_iload_n dX11_moves_53 rfl q)) ?_
        refine P_call (t := fun v => some (.int v)) (st2 := fun v => .int v :: []) (kc2 := 0) (ks2 := 0) (fun hJ => (ok_X11_lays (σ := σ) (p1 := p2) )) (fun hJ _ _ _ _ v τ1 hM q => E_callV (as := [.int p2]) (b := 67) (st := []) hM (by decide) yfX11_lays mlX11_338 imX11_lays seX11_lays clX11 (kd67 hJ.1.1) rfl (Nat.le_of_ble_eq_true rfl) rfl dX11_moves_54 q) (by decide) (by decide) (fun v10 σ11 => ?_)
        refine P_g (fun g12 => ?_)
        exact P_ret (fun _ _ => E_zret01 rfl g12 dX11_moves_57)
      · skip
        refine P_case (fun h13 => ?_) (fun h13 => ?_)
        · skip
          refine P_l (fun hJ _ _ q => E_lookup (off := 63) 64 dX11_moves_1 (by decide) (by rw [h13]; rfl) (by decide) q) ?_
          refine P_l (fun hJ _ _ q => E_aload_n dX11_moves_64 rfl (E_iload_n dX11_moves_65 rfl q)) ?_
          refine P_call (t := fun v => some (.int v)) (st2 := fun v => .int v :: []) (kc2 := 0) (ks2 := 0) (fun hJ => (ok_X11_swaps (σ := σ) (p1 := p2) )) (fun hJ _ _ _ _ v τ1 hM q => E_callV (as := [.int p2]) (b := 67) (st := []) hM (by decide) yfX11_swaps mlX11_347 imX11_swaps seX11_swaps clX11 (kd67 hJ.1.1) rfl (Nat.le_of_ble_eq_true rfl) rfl dX11_moves_66 q) (by decide) (by decide) (fun v14 σ15 => ?_)
          refine P_g (fun g16 => ?_)
          exact P_ret (fun _ _ => E_zret01 rfl g16 dX11_moves_69)
        · skip
          refine P_case (fun h17 => ?_) (fun h17 => ?_)
          · skip
            refine P_l (fun hJ _ _ q => E_lookup (off := 69) 70 dX11_moves_1 (by decide) (by rw [h17]; rfl) (by decide) q) ?_
            refine P_l (fun hJ _ _ q => E_aload_n dX11_moves_70 rfl q) ?_
            refine P_call (t := fun v => some (.int v)) (st2 := fun v => .int v :: []) (kc2 := 0) (ks2 := 0) (fun hJ => (ok_X11_takesBack (σ := σ)  )) (fun hJ _ _ _ _ v τ1 hM q => E_callV (as := []) (b := 67) (st := []) hM (by decide) yfX11_takesBack mlX11_353 imX11_takesBack seX11_takesBack clX11 (kd67 hJ.1.1) rfl (Nat.le_of_ble_eq_true rfl) rfl dX11_moves_71 q) (by decide) (by decide) (fun v18 σ19 => ?_)
            refine P_g (fun g20 => ?_)
            exact P_ret (fun _ _ => E_zret01 rfl g20 dX11_moves_74)
          · skip
            refine P_l (fun hJ _ _ q => E_lookup (off := 79) 80 dX11_moves_1 (by decide) (by have e0 := (sw_ne h1).symm; have e1 := (sw_ne h5).symm; have e2 := (sw_ne h9).symm; have e3 := (sw_ne h13).symm; have e4 := (sw_ne h17).symm; simp only [sw_l101, sw_l106, sw_l108, sw_l115, sw_l116] at *; simp [Op.lookupswitch.offset, *]) (by decide) q) ?_
            refine P_l (fun hJ _ _ q => E_aload_n dX11_moves_80 rfl (E_getI clX11 24 (by decide) flX11_75 (Or.inl rfl) dX11_moves_81 (kd67 hJ.1.1) (E_iconst (v := (-1)) dX11_moves_84 (by decide) q))) ?_
            refine P_if (fun hJ _ _ h1 h2 => E_icmp_ne 90 dX11_moves_85 (by decide) h2 h1) ?_ ?_
            · skip
              refine P_l (fun hJ _ _ q => E_iconst (v := 0) dX11_moves_88 (by decide) q) ?_
              exact P_ret (fun _ _ => E_zret01 rfl (by decide) dX11_moves_89)
            · skip
              refine P_l (fun hJ _ _ q => E_aload_n dX11_moves_90 rfl (E_bipush (v := 6) dX11_moves_91 (by decide) q)) ?_
              refine P_call (t := fun v => some (.int v)) (st2 := fun v => .int v :: []) (kc2 := 0) (ks2 := 0) (fun hJ => (ok_X11_endsByDrawing (σ := σ) (p1 := 6) )) (fun hJ _ _ _ _ v τ1 hM q => E_callV (as := [.int 6]) (b := 67) (st := []) hM (by decide) yfX11_endsByDrawing mlX11_378 imX11_endsByDrawing seX11_endsByDrawing clX11 (kd67 hJ.1.1) rfl (Nat.le_of_ble_eq_true rfl) rfl dX11_moves_93 q) (by decide) (by decide) (fun v21 σ22 => ?_)
              refine P_l (fun hJ _ _ q => E_pop dX11_moves_96 rfl (E_iconst (v := 1) dX11_moves_97 (by decide) q)) ?_
              exact P_ret (fun _ _ => E_zret01 rfl (by decide) dX11_moves_98)

def b_X11_play_35 (s5 : Int32 × rS) : Option ((Int32 × rS) ⊕ (Int32 × rS)) := if (rI s5.2 67 37) ≤ s5.1 then (oLet (wI s5.2 67 34 0) fun σ6 => some (.inl ((s5.1, σ6)))) else (if inB s5.1 40 then (oB (f_X11_moves s5.2 (rI s5.2 87 (s5.1 : Int32).toNatClampNeg) (rI s5.2 88 (s5.1 : Int32).toNatClampNeg)) fun v8 σ9 => if v8 = 0 then (oLet (wI σ9 67 34 0) fun σ10 => some (.inl ((s5.1, σ10)))) else (some (.inr ((s5.1 + 1, σ9))))) else none)
def f_X11_play (σ : rS) : Option (Int32 × rS) := oB (f_X11_reads σ) fun v1 σ2 => oB (f_X11_holds σ2 ((if v1 = 0 then 1 else (if (rI σ2 67 24) = ((-1)) then 2 else 0) : Int32))) fun v3 σ4 => if v3 = 0 then (oLoop (b_X11_play_35) oFuel ((0, σ4))) else (some (((-1), σ4)))
set_option maxRecDepth 20000 in
set_option maxHeartbeats 2000000 in
theorem ok_X11_play {σ : rS}   : rFn Sy yX11_play mX11_play 11 [.ref 67] σ 0 0 (fun v => .inl (some (.int v))) (f_X11_play σ) := by
  refine rF_of (ls := [some (.ref 67), none]) yfX11_play rfl (Nat.le_of_ble_eq_true rfl) (fun o τ => ?_)
  unfold f_X11_play
  refine P_l (fun hJ _ _ q => E_aload_n dX11_play_0 rfl (E_aload_n dX11_play_1 rfl q)) ?_
  refine P_call (t := fun v => some (.int v)) (st2 := fun v => .int v :: [.ref 67]) (kc2 := 0) (ks2 := 0) (fun hJ => (ok_X11_reads (σ := σ)  )) (fun hJ _ _ _ _ v τ1 hM q => E_callV (as := []) (b := 67) (st := [.ref 67]) hM (by decide) yfX11_reads mlX11_396 imX11_reads seX11_reads clX11 (kd67 hJ.1.1) rfl (Nat.le_of_ble_eq_true rfl) rfl dX11_play_2 q) (by decide) (by decide) (fun v1 σ2 => ?_)
  refine P_l (pc2 := 25) (ls2 := [some (.ref 67), none]) (st2 := [.int ((if v1 = 0 then 1 else (if (rI σ2 67 24) = ((-1)) then 2 else 0) : Int32)), .ref 67]) (fun hJ _ _ hq => ?_) ?_
  · skip
    refine E_if_ne 12 dX11_play_5 (by decide) (fun c_5_0 => ?_) (fun c_5_0 => ?_)
    · skip
      refine E_aload_n dX11_play_12 rfl ?_
      refine E_getI clX11 24 (by decide) flX11_75 (Or.inl rfl) dX11_play_13 (kd67 hJ.1.1) ?_
      refine E_iconst (v := (-1)) dX11_play_16 (by decide) ?_
      refine E_icmp_ne 24 dX11_play_17 (by decide) (fun c_17_1 => ?_) (fun c_17_1 => ?_)
      · skip
        refine E_iconst (v := 0) dX11_play_24 (by decide) ?_
        simp only [if_neg c_5_0, if_neg c_17_1] at hq
        exact hq
      · skip
        refine E_iconst (v := 2) dX11_play_20 (by decide) ?_
        refine E_goto 25 dX11_play_21 (by decide) ?_
        simp only [if_neg c_5_0, if_pos c_17_1] at hq
        exact hq
    · skip
      refine E_iconst (v := 1) dX11_play_8 (by decide) ?_
      refine E_goto 25 dX11_play_9 (by decide) ?_
      simp only [if_pos c_5_0] at hq
      exact hq
  · skip
    refine P_call (t := fun v => some (.int v)) (st2 := fun v => .int v :: []) (kc2 := 0) (ks2 := 0) (fun hJ => (ok_X11_holds (σ := σ2) (p1 := (if v1 = 0 then 1 else (if (rI σ2 67 24) = ((-1)) then 2 else 0) : Int32)) )) (fun hJ _ _ _ _ v τ1 hM q => E_callV (as := [.int ((if v1 = 0 then 1 else (if (rI σ2 67 24) = ((-1)) then 2 else 0) : Int32))]) (b := 67) (st := []) hM (by decide) yfX11_holds mlX11_265 imX11_holds seX11_holds clX11 (kd67 hJ.1.1) rfl (Nat.le_of_ble_eq_true rfl) rfl dX11_play_25 q) (by decide) (by decide) (fun v3 σ4 => ?_)
    refine P_if (fun hJ _ _ h1 h2 => E_if_eq 33 dX11_play_28 (by decide) h1 h2) ?_ ?_
    · skip
      refine P_l (fun hJ _ _ q => E_iconst (v := 0) dX11_play_33 (by decide) (E_istore_n (ls2 := [some (.ref 67), some (.int 0)]) dX11_play_34 (by decide) rfl q)) ?_
      refine P_loop (fun s5 => [some (.ref 67), some (.int s5.1)]) (fun s5 => s5.2) (fun s5 => ?_) _ ((0, σ4))
      unfold b_X11_play_35
      refine P_l (fun hJ _ _ q => E_iload_n dX11_play_35 rfl (E_aload_n dX11_play_36 rfl (E_getI clX11 37 (by decide) flX11_390 (Or.inl rfl) dX11_play_37 (kd67 hJ.1.1) q))) ?_
      refine P_if (fun hJ _ _ h1 h2 => E_icmp_ge 68 dX11_play_40 (by decide) h1 h2) ?_ ?_
      · skip
        refine P_l (fun hJ _ _ q => E_aload_n dX11_play_68 rfl (E_iconst (v := 0) dX11_play_69 (by decide) q)) ?_
        refine P_w (fun hJ _ _ q => E_putI clX11 34 (by decide) flX11_387 (Or.inl rfl) rfl dX11_play_70 (kd67 hJ.1.1) q) (fun hJ => Sy_wI hJ.1) rfl rfl rfl (fun σ6 hσ6 => ?_)
        refine P_l (fun hJ _ _ q => E_iload_n dX11_play_73 rfl q) ?_
        exact P_inl (P_ret (fun _ _ => E_iret rfl dX11_play_74))
      · skip
        refine P_l (fun hJ _ _ q => E_aload_n dX11_play_43 rfl (E_aload_n dX11_play_44 rfl (E_getR (b := 87) clX11 35 (by decide) flX11_94 (Or.inr ⟨_, rfl⟩) dX11_play_45 (kd67 hJ.1.1) (rf67_35 hJ.1.1) (by decide) (E_iload_n dX11_play_48 rfl q)))) ?_
        refine P_g (fun g7 => ?_)
        refine P_l (fun hJ _ _ q => E_iald dX11_play_49 (kd87 hJ.1.1) (inB_vp g7) (E_aload_n dX11_play_50 rfl (E_getR (b := 88) clX11 36 (by decide) flX11_97 (Or.inr ⟨_, rfl⟩) dX11_play_51 (kd67 hJ.1.1) (rf67_36 hJ.1.1) (by decide) (E_iload_n dX11_play_54 rfl (E_iald dX11_play_55 (kd88 hJ.1.1) (inB_vp g7) q))))) ?_
        refine P_call (t := fun v => some (.int v)) (st2 := fun v => .int v :: []) (kc2 := 0) (ks2 := 0) (fun hJ => (ok_X11_moves (σ := s5.2) (p1 := rI s5.2 87 (s5.1 : Int32).toNatClampNeg) (p2 := rI s5.2 88 (s5.1 : Int32).toNatClampNeg) )) (fun hJ _ _ _ _ v τ1 hM q => E_callV (as := [.int (rI s5.2 87 (s5.1 : Int32).toNatClampNeg), .int (rI s5.2 88 (s5.1 : Int32).toNatClampNeg)]) (b := 67) (st := []) hM (by decide) yfX11_moves mlX11_399 imX11_moves seX11_moves clX11 (kd67 hJ.1.1) rfl (Nat.le_of_ble_eq_true rfl) rfl dX11_play_56 q) (by decide) (by decide) (fun v8 σ9 => ?_)
        refine P_if (fun hJ _ _ h1 h2 => E_if_eq 68 dX11_play_59 (by decide) h1 h2) ?_ ?_
        · skip
          refine P_l (fun hJ _ _ q => E_aload_n dX11_play_68 rfl (E_iconst (v := 0) dX11_play_69 (by decide) q)) ?_
          refine P_w (fun hJ _ _ q => E_putI clX11 34 (by decide) flX11_387 (Or.inl rfl) rfl dX11_play_70 (kd67 hJ.1.1) q) (fun hJ => Sy_wI hJ.1) rfl rfl rfl (fun σ10 hσ10 => ?_)
          refine P_l (fun hJ _ _ q => E_iload_n dX11_play_73 rfl q) ?_
          exact P_inl (P_ret (fun _ _ => E_iret rfl dX11_play_74))
        · skip
          refine P_l (fun hJ _ _ q => E_iinc (v := 1) (ls2 := [some (.ref 67), some (.int (s5.1 + 1))]) dX11_play_62 rfl (by decide) (by decide) rfl (E_goto 35 dX11_play_65 (by decide) q)) ?_
          exact P_back ((s5.1 + 1, σ9))
    · skip
      refine P_l (fun hJ _ _ q => E_iconst (v := (-1)) dX11_play_31 (by decide) q) ?_
      exact P_ret (fun _ _ => E_iret rfl dX11_play_32)

def v_X11_isKindOrJoker (σ : rS) (p1 : Int32) : Int32 := if p1 = 52 then 1 else (if (v_X11_isKind σ p1) = 0 then 0 else 1)
set_option maxRecDepth 20000 in
theorem ok_X11_isKindOrJoker {σ : rS} {p1 : Int32}  (hJ : J Sy σ)  : rMet yX11_isKindOrJoker mX11_isKindOrJoker 2 [.ref 67, .int p1] σ 0 0 (some (.int (v_X11_isKindOrJoker σ p1))) σ := by
  refine rMet_of (ls := [some (.ref 67), some (.int p1)]) yfX11_isKindOrJoker rfl (Nat.le_of_ble_eq_true rfl) ?_
  refine E_iload_n dX11_isKindOrJoker_0 rfl ?_
  refine E_bipush (v := 52) dX11_isKindOrJoker_1 (by decide) ?_
  refine E_icmp_eq 14 dX11_isKindOrJoker_3 (by decide) (fun c_3_0 => ?_) (fun c_3_0 => ?_)
  · skip
    refine E_iconst (v := 1) dX11_isKindOrJoker_14 (by decide) ?_
    refine E_goto 19 dX11_isKindOrJoker_15 (by decide) ?_
    exact E_zretE rfl dX11_isKindOrJoker_19 (by decide) (by unfold v_X11_isKindOrJoker; simp only [if_pos c_3_0]) rfl
  · skip
    refine E_aload_n dX11_isKindOrJoker_6 rfl ?_
    refine E_iload_n dX11_isKindOrJoker_7 rfl ?_
    refine E_callV (as := [.int p1]) (b := 67) (st := []) (ok_X11_isKind (σ := σ) (p1 := p1) hJ ) (by decide) yfX11_isKind mlX11_294 imX11_isKind seX11_isKind clX11 (kd67 hJ.1.1) rfl (Nat.le_of_ble_eq_true rfl) rfl dX11_isKindOrJoker_8 ?_
    refine E_if_eq 18 dX11_isKindOrJoker_11 (by decide) (fun c_11_1 => ?_) (fun c_11_1 => ?_)
    · skip
      refine E_iconst (v := 0) dX11_isKindOrJoker_18 (by decide) ?_
      exact E_zretE rfl dX11_isKindOrJoker_19 (by decide) (by unfold v_X11_isKindOrJoker; simp only [if_neg c_3_0, if_pos c_11_1]) rfl
    · skip
      refine E_iconst (v := 1) dX11_isKindOrJoker_14 (by decide) ?_
      refine E_goto 19 dX11_isKindOrJoker_15 (by decide) ?_
      exact E_zretE rfl dX11_isKindOrJoker_19 (by decide) (by unfold v_X11_isKindOrJoker; simp only [if_neg c_3_0, if_neg c_11_1]) rfl
theorem z_X11_isKindOrJoker (σ : rS) (p1 : Int32) : v_X11_isKindOrJoker σ p1 = 0 ∨ v_X11_isKindOrJoker σ p1 = 1 := by
  unfold v_X11_isKindOrJoker
  (repeat' split) <;> first | decide | exact vIn_01 _ _ _ | exact vBit_01 _ _ | exact z_X11_isKind _ _

def b_X11_chance_68 (p1 : Int32) (p3 : Int32) (σ4 : rS) (s10 : Int32 × Int32 × Int32) : Option (((Int32 × rS) ⊕ (Int32 × Int32)) ⊕ (Int32 × Int32 × Int32)) := if (rI σ4 67 6) ≤ s10.2.2 then (some (.inl (.inr ((s10.1, s10.2.1))))) else (oJoin (if s10.2.2 = p1 then (some (.inr ((0 : Int32)))) else ((f_X11_inRack σ4 s10.2.2).bind fun v12 => some (.inr v12))) fun j11 => if s10.2.2 = p1 then (some (.inr ((s10.1 + j11, s10.2.1 + 0, s10.2.2 + 1)))) else (if inB ((53 * s10.2.2) + p3) 212 then (oLet (s10.2.1 + (rI σ4 79 ((53 * s10.2.2) + p3 : Int32).toNatClampNeg) : Int32) fun x14 => some (.inr ((s10.1 + j11, x14, s10.2.2 + 1)))) else none))
def b_X11_chance_204 (j9 : Int32 × Int32) (j18 : Int32) (s22 : Int64 × Int64 × Int32) : Option (((Int32 × rS) ⊕ (Int64 × Int64)) ⊕ (Int64 × Int64 × Int32)) := if j9.2 ≤ s22.2.2 then (some (.inl (.inr ((s22.1, s22.2.1))))) else (oLet (s22.1 * (((j9.1 - s22.2.2 : Int32)).toInt64) : Int64) fun x23 => oLet (s22.2.1 * ((if ((j9.1 - j18) - s22.2.2) ≤ 0 then (0 : Int64) else ((((j9.1 - j18) - s22.2.2 : Int32)).toInt64) : Int64)) : Int64) fun x24 => some (.inr ((x23, x24, s22.2.2 + 1))))
def f_X11_chance (σ : rS) (p1 : Int32) (p2 : Int32) (p3 : Int32) : Option (Int32 × rS) := if (if (v_X11_isPlayer σ p1) = 0 then true else (if (v_X11_isPlayer σ p2) = 0 then true else false)) = true then (oB (f_X11_holds σ 1) fun v1 σ2 => some (((-1), σ2))) else (oB (f_X11_holds σ ((if p1 = p2 then 2 else (if (v_X11_isKindOrJoker σ p3) = 0 then 2 else 0) : Int32))) fun v3 σ4 => if v3 = 0 then ((f_X11_inPool σ4).bind fun v5 => if inB p3 53 then (oLet (rI σ4 82 (p3 : Int32).toNatClampNeg : Int32) fun x7 => oJoin (oLoop (b_X11_chance_68 p1 p3 σ4) oFuel ((v5, x7, 0))) fun j9 => (f_X11_inRack σ4 p2).bind fun v15 => oJoin (if 52 ≤ p3 then (some (.inr ((0 : Int32)))) else (if inB p2 4 then (if (lg_cmp (((rL σ4 75 (p2 : Int32).toNatClampNeg) >>> (((p3 : Int32)).toInt64 &&& 63)) &&& (1 : Int64)) (1 : Int64)) = 0 then (some (.inr ((1 : Int32)))) else (some (.inr ((0 : Int32))))) else none)) fun j16 => oJoin (if j16 = 0 then (some (.inr v15)) else (if inB p2 4 then (if v15 ≤ (rI σ4 77 (p2 : Int32).toNatClampNeg) then (some (.inr v15)) else (some (.inr (rI σ4 77 (p2 : Int32).toNatClampNeg)))) else none)) fun j18 => oJoin (oLoop (b_X11_chance_204 j9 j18) oFuel (((1 : Int64), (1 : Int64), 0))) fun j21 => if ¬ j21.1 = 0 then (some ((((((1000 : Int64) * (j21.1 - j21.2)) / j21.1 : Int64)).toInt32, σ4))) else none) else none) else (some (((-1), σ4))))
set_option maxRecDepth 20000 in
set_option maxHeartbeats 2000000 in
theorem ok_X11_chance {σ : rS} {p1 : Int32} {p2 : Int32} {p3 : Int32}   : rFn Sy yX11_chance mX11_chance 3 [.ref 67, .int p1, .int p2, .int p3] σ 0 0 (fun v => .inl (some (.int v))) (f_X11_chance σ p1 p2 p3) := by
  refine rF_of (ls := [some (.ref 67), some (.int p1), some (.int p2), some (.int p3), none, none, none, none, none, none, none, none, none]) yfX11_chance rfl (Nat.le_of_ble_eq_true rfl) (fun o τ => ?_)
  unfold f_X11_chance
  refine P_l (fun hJ _ _ q => E_aload_n dX11_chance_0 rfl (E_iload_n dX11_chance_1 rfl (E_callV (as := [.int p1]) (b := 67) (st := []) (ok_X11_isPlayer (σ := σ) (p1 := p1) hJ ) (by decide) yfX11_isPlayer mlX11_282 imX11_isPlayer seX11_isPlayer clX11 (kd67 hJ.1.1) rfl (Nat.le_of_ble_eq_true rfl) rfl dX11_chance_2 q))) ?_
  refine P_if (c := (if (v_X11_isPlayer σ p1) = 0 then true else (if (v_X11_isPlayer σ p2) = 0 then true else false)) = true) (pc1 := 16) (ls1 := [some (.ref 67), some (.int p1), some (.int p2), some (.int p3), none, none, none, none, none, none, none, none, none]) (st1 := []) (pc2 := 24) (ls2 := [some (.ref 67), some (.int p1), some (.int p2), some (.int p3), none, none, none, none, none, none, none, none, none]) (st2 := []) (fun hJ _ _ hX hY => ?_) ?_ ?_
  · skip
    refine E_if_eq 16 dX11_chance_5 (by decide) (fun c_5_0 => ?_) (fun c_5_0 => ?_)
    · skip
      exact hX (by simp only [if_pos c_5_0])
    · skip
      refine E_aload_n dX11_chance_8 rfl ?_
      refine E_iload_n dX11_chance_9 rfl ?_
      refine E_callV (as := [.int p2]) (b := 67) (st := []) (ok_X11_isPlayer (σ := σ) (p1 := p2) hJ ) (by decide) yfX11_isPlayer mlX11_282 imX11_isPlayer seX11_isPlayer clX11 (kd67 hJ.1.1) rfl (Nat.le_of_ble_eq_true rfl) rfl dX11_chance_10 ?_
      refine E_if_ne 24 dX11_chance_13 (by decide) (fun c_13_1 => ?_) (fun c_13_1 => ?_)
      · skip
        exact hY (by simp only [if_neg c_5_0, if_neg c_13_1]; exact Bool.false_ne_true)
      · skip
        exact hX (by simp only [if_neg c_5_0, if_pos c_13_1])
  · skip
    refine P_l (fun hJ _ _ q => E_aload_n dX11_chance_16 rfl (E_iconst (v := 1) dX11_chance_17 (by decide) q)) ?_
    refine P_call (t := fun v => some (.int v)) (st2 := fun v => .int v :: []) (kc2 := 0) (ks2 := 0) (fun hJ => (ok_X11_holds (σ := σ) (p1 := 1) )) (fun hJ _ _ _ _ v τ1 hM q => E_callV (as := [.int 1]) (b := 67) (st := []) hM (by decide) yfX11_holds mlX11_265 imX11_holds seX11_holds clX11 (kd67 hJ.1.1) rfl (Nat.le_of_ble_eq_true rfl) rfl dX11_chance_18 q) (by decide) (by decide) (fun v1 σ2 => ?_)
    refine P_l (fun hJ _ _ q => E_pop dX11_chance_21 rfl (E_iconst (v := (-1)) dX11_chance_22 (by decide) q)) ?_
    exact P_ret (fun _ _ => E_iret rfl dX11_chance_23)
  · skip
    refine P_l (fun hJ _ _ q => E_aload_n dX11_chance_24 rfl (E_iload_n dX11_chance_25 rfl (E_iload_n dX11_chance_26 rfl q))) ?_
    refine P_l (pc2 := 43) (ls2 := [some (.ref 67), some (.int p1), some (.int p2), some (.int p3), none, none, none, none, none, none, none, none, none]) (st2 := [.int ((if p1 = p2 then 2 else (if (v_X11_isKindOrJoker σ p3) = 0 then 2 else 0) : Int32)), .ref 67]) (fun hJ _ _ hq => ?_) ?_
    · skip
      refine E_icmp_eq 38 dX11_chance_27 (by decide) (fun c_27_0 => ?_) (fun c_27_0 => ?_)
      · skip
        refine E_iconst (v := 2) dX11_chance_38 (by decide) ?_
        refine E_goto 43 dX11_chance_39 (by decide) ?_
        simp only [if_pos c_27_0] at hq
        exact hq
      · skip
        refine E_aload_n dX11_chance_30 rfl ?_
        refine E_iload_n dX11_chance_31 rfl ?_
        refine E_callV (as := [.int p3]) (b := 67) (st := [.ref 67]) (ok_X11_isKindOrJoker (σ := σ) (p1 := p3) hJ ) (by decide) yfX11_isKindOrJoker mlX11_402 imX11_isKindOrJoker seX11_isKindOrJoker clX11 (kd67 hJ.1.1) rfl (Nat.le_of_ble_eq_true rfl) rfl dX11_chance_32 ?_
        refine E_if_ne 42 dX11_chance_35 (by decide) (fun c_35_1 => ?_) (fun c_35_1 => ?_)
        · skip
          refine E_iconst (v := 0) dX11_chance_42 (by decide) ?_
          simp only [if_neg c_27_0, if_neg c_35_1] at hq
          exact hq
        · skip
          refine E_iconst (v := 2) dX11_chance_38 (by decide) ?_
          refine E_goto 43 dX11_chance_39 (by decide) ?_
          simp only [if_neg c_27_0, if_pos c_35_1] at hq
          exact hq
    · skip
      refine P_call (t := fun v => some (.int v)) (st2 := fun v => .int v :: []) (kc2 := 0) (ks2 := 0) (fun hJ => (ok_X11_holds (σ := σ) (p1 := (if p1 = p2 then 2 else (if (v_X11_isKindOrJoker σ p3) = 0 then 2 else 0) : Int32)) )) (fun hJ _ _ _ _ v τ1 hM q => E_callV (as := [.int ((if p1 = p2 then 2 else (if (v_X11_isKindOrJoker σ p3) = 0 then 2 else 0) : Int32))]) (b := 67) (st := []) hM (by decide) yfX11_holds mlX11_265 imX11_holds seX11_holds clX11 (kd67 hJ.1.1) rfl (Nat.le_of_ble_eq_true rfl) rfl dX11_chance_43 q) (by decide) (by decide) (fun v3 σ4 => ?_)
      refine P_if (fun hJ _ _ h1 h2 => E_if_eq 51 dX11_chance_46 (by decide) h1 h2) ?_ ?_
      · skip
        refine P_l (fun hJ _ _ q => E_aload_n dX11_chance_51 rfl q) ?_
        refine P_callr (t := fun v => some (.int v)) (st2 := fun v => .int v :: []) (fun hJ => (ok_X11_inPool (σ := σ4)  )) (fun hJ _ _ v hM q => E_callV (as := []) (b := 67) (st := []) hM (by decide) yfX11_inPool mlX11_312 imX11_inPool seX11_inPool clX11 (kd67 hJ.1.1) rfl (Nat.le_of_ble_eq_true rfl) rfl dX11_chance_52 q) (fun v5 => ?_)
        refine P_l (fun hJ _ _ q => E_istore (ls2 := [some (.ref 67), some (.int p1), some (.int p2), some (.int p3), some (.int v5), none, none, none, none, none, none, none, none]) dX11_chance_55 (by decide) rfl (E_aload_n dX11_chance_57 rfl (E_getR (b := 82) clX11 21 (by decide) flX11_72 (Or.inr ⟨_, rfl⟩) dX11_chance_58 (kd67 hJ.1.1) (rf67_21 hJ.1.1) (by decide) (E_iload_n dX11_chance_61 rfl q)))) ?_
        refine P_g (fun g6 => ?_)
        refine P_l (fun hJ _ _ q => E_iald dX11_chance_62 (kd82 hJ.1.1) (inB_vp g6) (E_istore (ls2 := [some (.ref 67), some (.int p1), some (.int p2), some (.int p3), some (.int v5), some (.int (rI σ4 82 (p3 : Int32).toNatClampNeg)), none, none, none, none, none, none, none]) dX11_chance_63 (by decide) rfl q)) ?_
        refine P_v (rI σ4 82 (p3 : Int32).toNatClampNeg) (fun x => [some (.ref 67), some (.int p1), some (.int p2), some (.int p3), some (.int v5), some (.int x), none, none, none, none, none, none, none]) (fun x7 => ?_)
        refine P_l (fun hJ _ _ q => E_iconst (v := 0) dX11_chance_65 (by decide) (E_istore (ls2 := [some (.ref 67), some (.int p1), some (.int p2), some (.int p3), some (.int v5), some (.int x7), some (.int 0), none, none, none, none, none, none]) dX11_chance_66 (by decide) rfl q)) ?_
        refine P_join (pc2 := 131) (fun j9 => [some (.ref 67), none, some (.int p2), some (.int p3), some (.int j9.1), some (.int j9.2), none, none, none, none, none, none, none]) (fun j9 => []) (fun _ => σ4) ?_ (fun j9 => ?_)
        · skip
          refine P_loop (fun s10 => [some (.ref 67), some (.int p1), some (.int p2), some (.int p3), some (.int s10.1), some (.int s10.2.1), some (.int s10.2.2), none, none, none, none, none, none]) (fun _ => σ4) (fun s10 => ?_) _ ((v5, x7, 0))
          unfold b_X11_chance_68
          refine P_l (fun hJ _ _ q => E_iload dX11_chance_68 rfl (E_aload_n dX11_chance_70 rfl (E_getI clX11 6 (by decide) flX11_186 (Or.inl rfl) dX11_chance_71 (kd67 hJ.1.1) q))) ?_
          refine P_if (fun hJ _ _ h1 h2 => E_icmp_ge 131 dX11_chance_74 (by decide) h1 h2) ?_ ?_
          · skip
            refine P_less [some (.ref 67), none, some (.int p2), some (.int p3), some (.int s10.1), some (.int s10.2.1), none, none, none, none, none, none, none] (And.intro rfl (And.intro rfl (And.intro rfl (And.intro rfl (And.intro rfl trivial))))) ?_
            exact P_inl (P_back ((s10.1, s10.2.1)))
          · skip
            refine P_l (fun hJ _ _ q => E_iload dX11_chance_77 rfl (E_iload dX11_chance_79 rfl (E_iload_n dX11_chance_81 rfl q))) ?_
            refine P_join (pc2 := 95) (fun j11 => [some (.ref 67), some (.int p1), some (.int p2), some (.int p3), none, some (.int s10.2.1), some (.int s10.2.2), none, none, none, none, none, none]) (fun j11 => [.int j11, .int s10.1]) (fun _ => σ4) ?_ (fun j11 => ?_)
            · skip
              refine P_if (fun hJ _ _ h1 h2 => E_icmp_ne 89 dX11_chance_82 (by decide) h2 h1) ?_ ?_
              · skip
                refine P_l (fun hJ _ _ q => E_iconst (v := 0) dX11_chance_85 (by decide) (E_goto 95 dX11_chance_86 (by decide) q)) ?_
                refine P_less [some (.ref 67), some (.int p1), some (.int p2), some (.int p3), none, some (.int s10.2.1), some (.int s10.2.2), none, none, none, none, none, none] (And.intro rfl (And.intro rfl (And.intro rfl (And.intro rfl (And.intro rfl (And.intro rfl trivial)))))) ?_
                exact P_back ((0 : Int32))
              · skip
                refine P_l (fun hJ _ _ q => E_aload_n dX11_chance_89 rfl (E_iload dX11_chance_90 rfl q)) ?_
                refine P_callr (t := fun v => some (.int v)) (st2 := fun v => .int v :: [.int s10.1]) (fun hJ => (ok_X11_inRack (σ := σ4) (p1 := s10.2.2) )) (fun hJ _ _ v hM q => E_callV (as := [.int s10.2.2]) (b := 67) (st := [.int s10.1]) hM (by decide) yfX11_inRack mlX11_315 imX11_inRack seX11_inRack clX11 (kd67 hJ.1.1) rfl (Nat.le_of_ble_eq_true rfl) rfl dX11_chance_92 q) (fun v12 => ?_)
                refine P_less [some (.ref 67), some (.int p1), some (.int p2), some (.int p3), none, some (.int s10.2.1), some (.int s10.2.2), none, none, none, none, none, none] (And.intro rfl (And.intro rfl (And.intro rfl (And.intro rfl (And.intro rfl (And.intro rfl trivial)))))) ?_
                exact P_back v12
            · skip
              refine P_l (fun hJ _ _ q => E_iadd dX11_chance_95 (E_istore (ls2 := [some (.ref 67), some (.int p1), some (.int p2), some (.int p3), some (.int (s10.1 + j11)), some (.int s10.2.1), some (.int s10.2.2), none, none, none, none, none, none]) dX11_chance_96 (by decide) rfl (E_iload dX11_chance_98 rfl (E_iload dX11_chance_100 rfl (E_iload_n dX11_chance_102 rfl q))))) ?_
              refine P_if (fun hJ _ _ h1 h2 => E_icmp_ne 110 dX11_chance_103 (by decide) h2 h1) ?_ ?_
              · skip
                refine P_l (fun hJ _ _ q => E_iconst (v := 0) dX11_chance_106 (by decide) (E_goto 122 dX11_chance_107 (by decide) (E_iadd dX11_chance_122 (E_istore (ls2 := [some (.ref 67), some (.int p1), some (.int p2), some (.int p3), some (.int (s10.1 + j11)), some (.int (s10.2.1 + 0)), some (.int s10.2.2), none, none, none, none, none, none]) dX11_chance_123 (by decide) rfl (E_iinc (v := 1) (ls2 := [some (.ref 67), some (.int p1), some (.int p2), some (.int p3), some (.int (s10.1 + j11)), some (.int (s10.2.1 + 0)), some (.int (s10.2.2 + 1)), none, none, none, none, none, none]) dX11_chance_125 rfl (by decide) (by decide) rfl (E_goto 68 dX11_chance_128 (by decide) q)))))) ?_
                exact P_back ((s10.1 + j11, s10.2.1 + 0, s10.2.2 + 1))
              · skip
                refine P_l (fun hJ _ _ q => E_aload_n dX11_chance_110 rfl (E_getR (b := 79) clX11 18 (by decide) flX11_63 (Or.inr ⟨_, rfl⟩) dX11_chance_111 (kd67 hJ.1.1) (rf67_18 hJ.1.1) (by decide) (E_bipush (v := 53) dX11_chance_114 (by decide) (E_iload dX11_chance_116 rfl (E_imul dX11_chance_118 (E_iload_n dX11_chance_119 rfl (E_iadd dX11_chance_120 q))))))) ?_
                refine P_g (fun g13 => ?_)
                refine P_l (fun hJ _ _ q => E_iald dX11_chance_121 (kd79 hJ.1.1) (inB_vp g13) (E_iadd dX11_chance_122 (E_istore (ls2 := [some (.ref 67), some (.int p1), some (.int p2), some (.int p3), some (.int (s10.1 + j11)), some (.int (s10.2.1 + (rI σ4 79 ((53 * s10.2.2) + p3 : Int32).toNatClampNeg))), some (.int s10.2.2), none, none, none, none, none, none]) dX11_chance_123 (by decide) rfl q))) ?_
                refine P_v (s10.2.1 + (rI σ4 79 ((53 * s10.2.2) + p3 : Int32).toNatClampNeg)) (fun x => [some (.ref 67), some (.int p1), some (.int p2), some (.int p3), some (.int (s10.1 + j11)), some (.int x), some (.int s10.2.2), none, none, none, none, none, none]) (fun x14 => ?_)
                refine P_l (fun hJ _ _ q => E_iinc (v := 1) (ls2 := [some (.ref 67), some (.int p1), some (.int p2), some (.int p3), some (.int (s10.1 + j11)), some (.int x14), some (.int (s10.2.2 + 1)), none, none, none, none, none, none]) dX11_chance_125 rfl (by decide) (by decide) rfl (E_goto 68 dX11_chance_128 (by decide) q)) ?_
                exact P_back ((s10.1 + j11, x14, s10.2.2 + 1))
        · skip
          refine P_l (fun hJ _ _ q => E_aload_n dX11_chance_131 rfl (E_iload_n dX11_chance_132 rfl q)) ?_
          refine P_callr (t := fun v => some (.int v)) (st2 := fun v => .int v :: []) (fun hJ => (ok_X11_inRack (σ := σ4) (p1 := p2) )) (fun hJ _ _ v hM q => E_callV (as := [.int p2]) (b := 67) (st := []) hM (by decide) yfX11_inRack mlX11_315 imX11_inRack seX11_inRack clX11 (kd67 hJ.1.1) rfl (Nat.le_of_ble_eq_true rfl) rfl dX11_chance_133 q) (fun v15 => ?_)
          refine P_l (fun hJ _ _ q => E_istore (ls2 := [some (.ref 67), none, some (.int p2), some (.int p3), some (.int j9.1), some (.int j9.2), some (.int v15), none, none, none, none, none, none]) dX11_chance_136 (by decide) rfl (E_iload_n dX11_chance_138 rfl (E_bipush (v := 52) dX11_chance_139 (by decide) q))) ?_
          refine P_join (pc2 := 164) (fun j16 => [some (.ref 67), none, some (.int p2), none, some (.int j9.1), some (.int j9.2), some (.int v15), none, none, none, none, none, none]) (fun j16 => [.int j16]) (fun _ => σ4) ?_ (fun j16 => ?_)
          · skip
            refine P_if (fun hJ _ _ h1 h2 => E_icmp_ge 163 dX11_chance_141 (by decide) h1 h2) ?_ ?_
            · skip
              refine P_l (fun hJ _ _ q => E_iconst (v := 0) dX11_chance_163 (by decide) q) ?_
              refine P_less [some (.ref 67), none, some (.int p2), none, some (.int j9.1), some (.int j9.2), some (.int v15), none, none, none, none, none, none] (And.intro rfl (And.intro rfl (And.intro rfl (And.intro rfl (And.intro rfl trivial))))) ?_
              exact P_back ((0 : Int32))
            · skip
              refine P_l (fun hJ _ _ q => E_aload_n dX11_chance_144 rfl (E_getR (b := 75) clX11 14 (by decide) flX11_50 (Or.inr ⟨_, rfl⟩) dX11_chance_145 (kd67 hJ.1.1) (rf67_14 hJ.1.1) (by decide) (E_iload_n dX11_chance_148 rfl q))) ?_
              refine P_g (fun g17 => ?_)
              refine P_l (fun hJ _ _ q => E_lald dX11_chance_149 (kd75 hJ.1.1) (inB_vp g17) (E_iload_n dX11_chance_150 rfl (E_lshr dX11_chance_151 (E_lconst (v := 1) dX11_chance_152 (by decide) (E_land dX11_chance_153 (E_lconst (v := 1) dX11_chance_154 (by decide) (E_lcmp dX11_chance_155 q))))))) ?_
              refine P_if (fun hJ _ _ h1 h2 => E_if_ne 163 dX11_chance_156 (by decide) h2 h1) ?_ ?_
              · skip
                refine P_l (fun hJ _ _ q => E_iconst (v := 1) dX11_chance_159 (by decide) (E_goto 164 dX11_chance_160 (by decide) q)) ?_
                refine P_less [some (.ref 67), none, some (.int p2), none, some (.int j9.1), some (.int j9.2), some (.int v15), none, none, none, none, none, none] (And.intro rfl (And.intro rfl (And.intro rfl (And.intro rfl (And.intro rfl trivial))))) ?_
                exact P_back ((1 : Int32))
              · skip
                refine P_l (fun hJ _ _ q => E_iconst (v := 0) dX11_chance_163 (by decide) q) ?_
                refine P_less [some (.ref 67), none, some (.int p2), none, some (.int j9.1), some (.int j9.2), some (.int v15), none, none, none, none, none, none] (And.intro rfl (And.intro rfl (And.intro rfl (And.intro rfl (And.intro rfl trivial))))) ?_
                exact P_back ((0 : Int32))
          · skip
            refine P_l (fun hJ _ _ q => E_istore (ls2 := [some (.ref 67), none, some (.int p2), none, some (.int j9.1), some (.int j9.2), some (.int v15), some (.int j16), none, none, none, none, none]) dX11_chance_164 (by decide) rfl (E_iload dX11_chance_166 rfl q)) ?_
            refine P_join (pc2 := 193) (fun j18 => [none, none, none, none, some (.int j9.1), some (.int j9.2), none, none, none, none, none, none, none]) (fun j18 => [.int j18]) (fun _ => σ4) ?_ (fun j18 => ?_)
            · skip
              refine P_if (fun hJ _ _ h1 h2 => E_if_eq 191 dX11_chance_168 (by decide) h1 h2) ?_ ?_
              · skip
                refine P_l (fun hJ _ _ q => E_iload dX11_chance_191 rfl q) ?_
                refine P_less [none, none, none, none, some (.int j9.1), some (.int j9.2), none, none, none, none, none, none, none] (And.intro rfl (And.intro rfl trivial)) ?_
                exact P_back v15
              · skip
                refine P_l (fun hJ _ _ q => E_aload_n dX11_chance_171 rfl (E_getR (b := 77) clX11 16 (by decide) flX11_57 (Or.inr ⟨_, rfl⟩) dX11_chance_172 (kd67 hJ.1.1) (rf67_16 hJ.1.1) (by decide) (E_iload_n dX11_chance_175 rfl q))) ?_
                refine P_g (fun g19 => ?_)
                refine P_l (fun hJ _ _ q => E_iald dX11_chance_176 (kd77 hJ.1.1) (inB_vp g19) (E_iload dX11_chance_177 rfl q)) ?_
                refine P_if (fun hJ _ _ h1 h2 => E_icmp_ge 191 dX11_chance_179 (by decide) h1 h2) ?_ ?_
                · skip
                  refine P_l (fun hJ _ _ q => E_iload dX11_chance_191 rfl q) ?_
                  refine P_less [none, none, none, none, some (.int j9.1), some (.int j9.2), none, none, none, none, none, none, none] (And.intro rfl (And.intro rfl trivial)) ?_
                  exact P_back v15
                · skip
                  refine P_l (fun hJ _ _ q => E_aload_n dX11_chance_182 rfl (E_getR (b := 77) clX11 16 (by decide) flX11_57 (Or.inr ⟨_, rfl⟩) dX11_chance_183 (kd67 hJ.1.1) (rf67_16 hJ.1.1) (by decide) (E_iload_n dX11_chance_186 rfl (E_iald dX11_chance_187 (kd77 hJ.1.1) (inB_vp g19) (E_goto 193 dX11_chance_188 (by decide) q))))) ?_
                  refine P_less [none, none, none, none, some (.int j9.1), some (.int j9.2), none, none, none, none, none, none, none] (And.intro rfl (And.intro rfl trivial)) ?_
                  exact P_back (rI σ4 77 (p2 : Int32).toNatClampNeg)
            · skip
              refine P_l (fun hJ _ _ q => E_istore (ls2 := [none, none, none, none, some (.int j9.1), some (.int j9.2), some (.int j18), none, none, none, none, none, none]) dX11_chance_193 (by decide) rfl (E_lconst (v := 1) dX11_chance_195 (by decide) (E_lstore (ls2 := [none, none, none, none, some (.int j9.1), some (.int j9.2), some (.int j18), none, some (.long (1 : Int64)), none, none, none, none]) dX11_chance_196 (by decide) rfl (E_lconst (v := 1) dX11_chance_198 (by decide) (E_lstore (ls2 := [none, none, none, none, some (.int j9.1), some (.int j9.2), some (.int j18), none, some (.long (1 : Int64)), none, some (.long (1 : Int64)), none, none]) dX11_chance_199 (by decide) rfl (E_iconst (v := 0) dX11_chance_201 (by decide) (E_istore (ls2 := [none, none, none, none, some (.int j9.1), some (.int j9.2), some (.int j18), none, some (.long (1 : Int64)), none, some (.long (1 : Int64)), none, some (.int 0)]) dX11_chance_202 (by decide) rfl q))))))) ?_
              refine P_join (pc2 := 257) (fun j21 => [none, none, none, none, none, none, none, none, some (.long j21.1), none, some (.long j21.2), none, none]) (fun j21 => []) (fun _ => σ4) ?_ (fun j21 => ?_)
              · skip
                refine P_loop (fun s22 => [none, none, none, none, some (.int j9.1), some (.int j9.2), some (.int j18), none, some (.long s22.1), none, some (.long s22.2.1), none, some (.int s22.2.2)]) (fun _ => σ4) (fun s22 => ?_) _ (((1 : Int64), (1 : Int64), 0))
                unfold b_X11_chance_204
                refine P_l (fun hJ _ _ q => E_iload dX11_chance_204 rfl (E_iload dX11_chance_206 rfl q)) ?_
                refine P_if (fun hJ _ _ h1 h2 => E_icmp_ge 257 dX11_chance_208 (by decide) h1 h2) ?_ ?_
                · skip
                  refine P_less [none, none, none, none, none, none, none, none, some (.long s22.1), none, some (.long s22.2.1), none, none] (And.intro rfl (And.intro rfl trivial)) ?_
                  exact P_inl (P_back ((s22.1, s22.2.1)))
                · skip
                  refine P_l (fun hJ _ _ q => E_lload dX11_chance_211 rfl (E_iload dX11_chance_213 rfl (E_iload dX11_chance_215 rfl (E_isub dX11_chance_217 (E_i2l dX11_chance_218 (E_lmul dX11_chance_219 (E_lstore (ls2 := [none, none, none, none, some (.int j9.1), some (.int j9.2), some (.int j18), none, some (.long (s22.1 * (((j9.1 - s22.2.2 : Int32)).toInt64))), none, some (.long s22.2.1), none, some (.int s22.2.2)]) dX11_chance_220 (by decide) rfl q))))))) ?_
                  refine P_v (s22.1 * (((j9.1 - s22.2.2 : Int32)).toInt64)) (fun x => [none, none, none, none, some (.int j9.1), some (.int j9.2), some (.int j18), none, some (.long x), none, some (.long s22.2.1), none, some (.int s22.2.2)]) (fun x23 => ?_)
                  refine P_l (fun hJ _ _ q => E_lload dX11_chance_222 rfl (E_iload dX11_chance_224 rfl (E_iload dX11_chance_226 rfl (E_isub dX11_chance_228 (E_iload dX11_chance_229 rfl (E_isub dX11_chance_231 q)))))) ?_
                  refine P_l (pc2 := 248) (ls2 := [none, none, none, none, some (.int j9.1), some (.int j9.2), some (.int j18), none, some (.long x23), none, none, none, some (.int s22.2.2)]) (st2 := [.long ((if ((j9.1 - j18) - s22.2.2) ≤ 0 then (0 : Int64) else ((((j9.1 - j18) - s22.2.2 : Int32)).toInt64) : Int64)), .long s22.2.1]) (fun hJ _ _ hq => ?_) ?_
                  · skip
                    refine E_if_le 247 dX11_chance_232 (by decide) (fun c_232_0 => ?_) (fun c_232_0 => ?_)
                    · skip
                      refine E_lconst (v := 0) dX11_chance_247 (by decide) ?_
                      simp only [if_pos c_232_0] at hq
                      exact E_less (ls2 := [none, none, none, none, some (.int j9.1), some (.int j9.2), some (.int j18), none, some (.long x23), none, none, none, some (.int s22.2.2)]) hq (rLe_at [none, none, none, none, some (.int j9.1), some (.int j9.2), some (.int j18), none, some (.long x23), none, none, none, some (.int s22.2.2)] [none, none, none, none, some (.int j9.1), some (.int j9.2), some (.int j18), none, some (.long x23), none, some (.long s22.2.1), none, some (.int s22.2.2)] (And.intro rfl (And.intro rfl (And.intro rfl (And.intro rfl (And.intro rfl trivial))))))
                    · skip
                      refine E_iload dX11_chance_235 rfl ?_
                      refine E_iload dX11_chance_237 rfl ?_
                      refine E_isub dX11_chance_239 ?_
                      refine E_iload dX11_chance_240 rfl ?_
                      refine E_isub dX11_chance_242 ?_
                      refine E_i2l dX11_chance_243 ?_
                      refine E_goto 248 dX11_chance_244 (by decide) ?_
                      simp only [if_neg c_232_0] at hq
                      exact E_less (ls2 := [none, none, none, none, some (.int j9.1), some (.int j9.2), some (.int j18), none, some (.long x23), none, none, none, some (.int s22.2.2)]) hq (rLe_at [none, none, none, none, some (.int j9.1), some (.int j9.2), some (.int j18), none, some (.long x23), none, none, none, some (.int s22.2.2)] [none, none, none, none, some (.int j9.1), some (.int j9.2), some (.int j18), none, some (.long x23), none, some (.long s22.2.1), none, some (.int s22.2.2)] (And.intro rfl (And.intro rfl (And.intro rfl (And.intro rfl (And.intro rfl trivial))))))
                  · skip
                    refine P_l (fun hJ _ _ q => E_lmul dX11_chance_248 (E_lstore (ls2 := [none, none, none, none, some (.int j9.1), some (.int j9.2), some (.int j18), none, some (.long x23), none, some (.long (s22.2.1 * ((if ((j9.1 - j18) - s22.2.2) ≤ 0 then (0 : Int64) else ((((j9.1 - j18) - s22.2.2 : Int32)).toInt64) : Int64)))), none, some (.int s22.2.2)]) dX11_chance_249 (by decide) rfl q)) ?_
                    refine P_v (s22.2.1 * ((if ((j9.1 - j18) - s22.2.2) ≤ 0 then (0 : Int64) else ((((j9.1 - j18) - s22.2.2 : Int32)).toInt64) : Int64))) (fun x => [none, none, none, none, some (.int j9.1), some (.int j9.2), some (.int j18), none, some (.long x23), none, some (.long x), none, some (.int s22.2.2)]) (fun x24 => ?_)
                    refine P_l (fun hJ _ _ q => E_iinc (v := 1) (ls2 := [none, none, none, none, some (.int j9.1), some (.int j9.2), some (.int j18), none, some (.long x23), none, some (.long x24), none, some (.int (s22.2.2 + 1))]) dX11_chance_251 rfl (by decide) (by decide) rfl (E_goto 204 dX11_chance_254 (by decide) q)) ?_
                    exact P_back ((x23, x24, s22.2.2 + 1))
              · skip
                refine P_l (fun hJ _ _ q => E_ldc2 dX11_chance_257 kcX11_405 (E_lload dX11_chance_260 rfl (E_lload dX11_chance_262 rfl (E_lsub dX11_chance_264 (E_lmul dX11_chance_265 (E_lload dX11_chance_266 rfl q)))))) ?_
                refine P_g (fun g25 => ?_)
                refine P_l (fun hJ _ _ q => E_ldiv dX11_chance_268 g25 (E_l2i dX11_chance_269 q)) ?_
                exact P_ret (fun _ _ => E_iret rfl dX11_chance_270)
      · skip
        refine P_l (fun hJ _ _ q => E_iconst (v := (-1)) dX11_chance_49 (by decide) q) ?_
        exact P_ret (fun _ _ => E_iret rfl dX11_chance_50)

