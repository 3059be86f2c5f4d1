def b_X11_inPool_4 (σ : rS) (s1 : Int32 × Int32) : Option (Int32 ⊕ (Int32 × Int32)) := if 53 ≤ s1.2 then (some (.inl s1.1)) else (if inB s1.2 53 then (oLet (s1.1 + (rI σ 82 (s1.2 : Int32).toNatClampNeg) : Int32) fun x3 => some (.inr ((x3, s1.2 + 1)))) else none)
def f_X11_inPool (σ : rS) : Option Int32 := oLoop (b_X11_inPool_4 σ) oFuel ((0, 0))
set_option maxRecDepth 20000 in
set_option maxHeartbeats 2000000 in
theorem ok_X11_inPool {σ : rS}   : rFr Sy yX11_inPool mX11_inPool 0 [.ref 67] σ (fun v => some (.int v)) (f_X11_inPool σ) := by
  refine rFr_of (ls := [some (.ref 67), none, none]) yfX11_inPool rfl (Nat.le_of_ble_eq_true rfl) (fun o τ => ?_)
  unfold f_X11_inPool
  refine P_l (fun hJ _ _ q => E_iconst (v := 0) dX11_inPool_0 (by decide) (E_istore_n (ls2 := [some (.ref 67), some (.int 0), none]) dX11_inPool_1 (by decide) rfl (E_iconst (v := 0) dX11_inPool_2 (by decide) (E_istore_n (ls2 := [some (.ref 67), some (.int 0), some (.int 0)]) dX11_inPool_3 (by decide) rfl q)))) ?_
  refine P_loop (fun s1 => [some (.ref 67), some (.int s1.1), some (.int s1.2)]) (fun _ => σ) (fun s1 => ?_) _ ((0, 0))
  unfold b_X11_inPool_4
  refine P_l (fun hJ _ _ q => E_iload_n dX11_inPool_4 rfl (E_bipush (v := 53) dX11_inPool_5 (by decide) q)) ?_
  refine P_if (fun hJ _ _ h1 h2 => E_icmp_ge 25 dX11_inPool_7 (by decide) h1 h2) ?_ ?_
  · skip
    refine P_l (fun hJ _ _ q => E_iload_n dX11_inPool_25 rfl q) ?_
    exact P_inl (P_retr (fun _ _ => E_iret rfl dX11_inPool_26))
  · skip
    refine P_l (fun hJ _ _ q => E_iload_n dX11_inPool_10 rfl (E_aload_n dX11_inPool_11 rfl (E_getR (b := 82) clX11 21 (by decide) flX11_72 (Or.inr ⟨_, rfl⟩) dX11_inPool_12 (kd67 hJ.1.1) (rf67_21 hJ.1.1) (by decide) (E_iload_n dX11_inPool_15 rfl q)))) ?_
    refine P_g (fun g2 => ?_)
    refine P_l (fun hJ _ _ q => E_iald dX11_inPool_16 (kd82 hJ.1.1) (inB_vp g2) (E_iadd dX11_inPool_17 (E_istore_n (ls2 := [some (.ref 67), some (.int (s1.1 + (rI σ 82 (s1.2 : Int32).toNatClampNeg))), some (.int s1.2)]) dX11_inPool_18 (by decide) rfl q))) ?_
    refine P_v (s1.1 + (rI σ 82 (s1.2 : Int32).toNatClampNeg)) (fun x => [some (.ref 67), some (.int x), some (.int s1.2)]) (fun x3 => ?_)
    refine P_l (fun hJ _ _ q => E_iinc (v := 1) (ls2 := [some (.ref 67), some (.int x3), some (.int (s1.2 + 1))]) dX11_inPool_19 rfl (by decide) (by decide) rfl (E_goto 4 dX11_inPool_22 (by decide) q)) ?_
    exact P_back ((x3, s1.2 + 1))

def b_X11_inRack_4 (σ : rS) (p1 : Int32) (s1 : Int32 × Int32) : Option (Int32 ⊕ (Int32 × Int32)) := if 53 ≤ s1.2 then (some (.inl s1.1)) else (if inB ((53 * p1) + s1.2) 212 then (oLet (s1.1 + (rI σ 79 ((53 * p1) + s1.2 : Int32).toNatClampNeg) : Int32) fun x3 => some (.inr ((x3, s1.2 + 1)))) else none)
def f_X11_inRack (σ : rS) (p1 : Int32) : Option Int32 := oLoop (b_X11_inRack_4 σ p1) oFuel ((0, 0))
set_option maxRecDepth 20000 in
set_option maxHeartbeats 2000000 in
theorem ok_X11_inRack {σ : rS} {p1 : Int32}   : rFr Sy yX11_inRack mX11_inRack 0 [.ref 67, .int p1] σ (fun v => some (.int v)) (f_X11_inRack σ p1) := by
  refine rFr_of (ls := [some (.ref 67), some (.int p1), none, none]) yfX11_inRack rfl (Nat.le_of_ble_eq_true rfl) (fun o τ => ?_)
  unfold f_X11_inRack
  refine P_l (fun hJ _ _ q => E_iconst (v := 0) dX11_inRack_0 (by decide) (E_istore_n (ls2 := [some (.ref 67), some (.int p1), some (.int 0), none]) dX11_inRack_1 (by decide) rfl (E_iconst (v := 0) dX11_inRack_2 (by decide) (E_istore_n (ls2 := [some (.ref 67), some (.int p1), some (.int 0), some (.int 0)]) dX11_inRack_3 (by decide) rfl q)))) ?_
  refine P_loop (fun s1 => [some (.ref 67), some (.int p1), some (.int s1.1), some (.int s1.2)]) (fun _ => σ) (fun s1 => ?_) _ ((0, 0))
  unfold b_X11_inRack_4
  refine P_l (fun hJ _ _ q => E_iload_n dX11_inRack_4 rfl (E_bipush (v := 53) dX11_inRack_5 (by decide) q)) ?_
  refine P_if (fun hJ _ _ h1 h2 => E_icmp_ge 30 dX11_inRack_7 (by decide) h1 h2) ?_ ?_
  · skip
    refine P_l (fun hJ _ _ q => E_iload_n dX11_inRack_30 rfl q) ?_
    exact P_inl (P_retr (fun _ _ => E_iret rfl dX11_inRack_31))
  · skip
    refine P_l (fun hJ _ _ q => E_iload_n dX11_inRack_10 rfl (E_aload_n dX11_inRack_11 rfl (E_getR (b := 79) clX11 18 (by decide) flX11_63 (Or.inr ⟨_, rfl⟩) dX11_inRack_12 (kd67 hJ.1.1) (rf67_18 hJ.1.1) (by decide) (E_bipush (v := 53) dX11_inRack_15 (by decide) (E_iload_n dX11_inRack_17 rfl (E_imul dX11_inRack_18 (E_iload_n dX11_inRack_19 rfl (E_iadd dX11_inRack_20 q)))))))) ?_
    refine P_g (fun g2 => ?_)
    refine P_l (fun hJ _ _ q => E_iald dX11_inRack_21 (kd79 hJ.1.1) (inB_vp g2) (E_iadd dX11_inRack_22 (E_istore_n (ls2 := [some (.ref 67), some (.int p1), some (.int (s1.1 + (rI σ 79 ((53 * p1) + s1.2 : Int32).toNatClampNeg))), some (.int s1.2)]) dX11_inRack_23 (by decide) rfl q))) ?_
    refine P_v (s1.1 + (rI σ 79 ((53 * p1) + s1.2 : Int32).toNatClampNeg)) (fun x => [some (.ref 67), some (.int p1), some (.int x), some (.int s1.2)]) (fun x3 => ?_)
    refine P_l (fun hJ _ _ q => E_iinc (v := 1) (ls2 := [some (.ref 67), some (.int p1), some (.int x3), some (.int (s1.2 + 1))]) dX11_inRack_24 rfl (by decide) (by decide) rfl (E_goto 4 dX11_inRack_27 (by decide) q)) ?_
    exact P_back ((x3, s1.2 + 1))

def b_X11_draws_50 (σ3 : rS) (s7 : Int32 × Int32) : Option (((Int32 × rS) ⊕ (Int32)) ⊕ (Int32 × Int32)) := if inB s7.2 53 then (if s7.1 < (rI σ3 82 (s7.2 : Int32).toNatClampNeg) then (some (.inl (.inr s7.2))) else (oLet (s7.1 - (rI σ3 82 (s7.2 : Int32).toNatClampNeg) : Int32) fun x9 => some (.inr ((x9, s7.2 + 1))))) else none
def f_X11_draws (σ : rS) (p1 : Int32) : Option (Int32 × rS) := (f_X11_inPool σ).bind fun v1 => if v1 = 0 then (some ((0, σ))) else ((f_X11_inRack σ p1).bind fun v2 => if v2 = 24 then (some ((0, σ))) else (oLet (wI σ 67 23 (iRem ((25173 * (rI σ 67 23)) + 13849) 65536)) fun σ3 => if ¬ v1 = 0 then (oJoin (oLoop (b_X11_draws_50 σ3) oFuel ((iRem (rI σ3 67 23) v1, 0))) fun j6 => if inB j6 53 then (oLet (wI σ3 82 (j6 : Int32).toNatClampNeg ((rI σ3 82 (j6 : Int32).toNatClampNeg) - 1)) fun σ11 => if inB ((53 * p1) + j6) 212 then (oLet (wI σ11 79 ((53 * p1) + j6 : Int32).toNatClampNeg ((rI σ11 79 ((53 * p1) + j6 : Int32).toNatClampNeg) + 1)) fun σ13 => some ((1, σ13))) else none) else none) else none))
set_option maxRecDepth 20000 in
set_option maxHeartbeats 2000000 in
theorem ok_X11_draws {σ : rS} {p1 : Int32}   : rFn Sy yX11_draws mX11_draws 1 [.ref 67, .int p1] σ 0 0 (fun v => .inl (some (.int v))) (f_X11_draws σ p1) := by
  refine rF_of (ls := [some (.ref 67), some (.int p1), none, none, none]) yfX11_draws rfl (Nat.le_of_ble_eq_true rfl) (fun o τ => ?_)
  unfold f_X11_draws
  refine P_l (fun hJ _ _ q => E_aload_n dX11_draws_0 rfl q) ?_
  refine P_callr (t := fun v => some (.int v)) (st2 := fun v => .int v :: []) (fun hJ => (ok_X11_inPool (σ := σ)  )) (fun hJ _ _ v hM q => E_callV (as := []) (b := 67) (st := []) hM (by decide) yfX11_inPool mlX11_312 imX11_inPool seX11_inPool clX11 (kd67 hJ.1.1) rfl (Nat.le_of_ble_eq_true rfl) rfl dX11_draws_1 q) (fun v1 => ?_)
  refine P_l (fun hJ _ _ q => E_istore_n (ls2 := [some (.ref 67), some (.int p1), some (.int v1), none, none]) dX11_draws_4 (by decide) rfl (E_iload_n dX11_draws_5 rfl q)) ?_
  refine P_if (fun hJ _ _ h1 h2 => E_if_eq 19 dX11_draws_6 (by decide) h1 h2) ?_ ?_
  · skip
    refine P_l (fun hJ _ _ q => E_iconst (v := 0) dX11_draws_19 (by decide) q) ?_
    exact P_ret (fun _ _ => E_iret rfl dX11_draws_20)
  · skip
    refine P_l (fun hJ _ _ q => E_aload_n dX11_draws_9 rfl (E_iload_n dX11_draws_10 rfl q)) ?_
    refine P_callr (t := fun v => some (.int v)) (st2 := fun v => .int v :: []) (fun hJ => (ok_X11_inRack (σ := σ) (p1 := p1) )) (fun hJ _ _ v hM q => E_callV (as := [.int p1]) (b := 67) (st := []) hM (by decide) yfX11_inRack mlX11_315 imX11_inRack seX11_inRack clX11 (kd67 hJ.1.1) rfl (Nat.le_of_ble_eq_true rfl) rfl dX11_draws_11 q) (fun v2 => ?_)
    refine P_l (fun hJ _ _ q => E_bipush (v := 24) dX11_draws_14 (by decide) q) ?_
    refine P_if (fun hJ _ _ h1 h2 => E_icmp_ne 21 dX11_draws_16 (by decide) h2 h1) ?_ ?_
    · skip
      refine P_l (fun hJ _ _ q => E_iconst (v := 0) dX11_draws_19 (by decide) q) ?_
      exact P_ret (fun _ _ => E_iret rfl dX11_draws_20)
    · skip
      refine P_l (fun hJ _ _ q => E_aload_n dX11_draws_21 rfl (E_sipush (v := 25173) dX11_draws_22 (by decide) (E_aload_n dX11_draws_25 rfl (E_getI clX11 23 (by decide) flX11_318 (Or.inl rfl) dX11_draws_26 (kd67 hJ.1.1) (E_imul dX11_draws_29 (E_sipush (v := 13849) dX11_draws_30 (by decide) (E_iadd dX11_draws_33 (E_ldc dX11_draws_34 kcX11_118 (E_irem dX11_draws_36 (by decide) q))))))))) ?_
      refine P_w (fun hJ _ _ q => E_putI clX11 23 (by decide) flX11_318 (Or.inl rfl) rfl dX11_draws_37 (kd67 hJ.1.1) q) (fun hJ => Sy_wI hJ.1) rfl rfl rfl (fun σ3 hσ3 => ?_)
      refine P_l (fun hJ _ _ q => E_aload_n dX11_draws_40 rfl (E_getI clX11 23 (by decide) flX11_318 (Or.inl rfl) dX11_draws_41 (kd67 hJ.1.1) (E_iload_n dX11_draws_44 rfl q))) ?_
      refine P_g (fun g4 => ?_)
      refine P_l (fun hJ _ _ q => E_irem dX11_draws_45 g4 (E_istore_n (ls2 := [some (.ref 67), some (.int p1), some (.int v1), some (.int (iRem (rI σ3 67 23) v1)), none]) dX11_draws_46 (by decide) rfl (E_iconst (v := 0) dX11_draws_47 (by decide) (E_istore (ls2 := [some (.ref 67), some (.int p1), some (.int v1), some (.int (iRem (rI σ3 67 23) v1)), some (.int 0)]) dX11_draws_48 (by decide) rfl q)))) ?_
      refine P_join (pc2 := 77) (fun j6 => [some (.ref 67), some (.int p1), none, none, some (.int j6)]) (fun j6 => []) (fun _ => σ3) ?_ (fun j6 => ?_)
      · skip
        refine P_less [some (.ref 67), some (.int p1), none, some (.int (iRem (rI σ3 67 23) v1)), some (.int 0)] (And.intro rfl (And.intro rfl (And.intro rfl (And.intro rfl trivial)))) ?_
        refine P_loop (fun s7 => [some (.ref 67), some (.int p1), none, some (.int s7.1), some (.int s7.2)]) (fun _ => σ3) (fun s7 => ?_) _ ((iRem (rI σ3 67 23) v1, 0))
        unfold b_X11_draws_50
        refine P_l (fun hJ _ _ q => E_iload_n dX11_draws_50 rfl (E_aload_n dX11_draws_51 rfl (E_getR (b := 82) clX11 21 (by decide) flX11_72 (Or.inr ⟨_, rfl⟩) dX11_draws_52 (kd67 hJ.1.1) (rf67_21 hJ.1.1) (by decide) (E_iload dX11_draws_55 rfl q)))) ?_
        refine P_g (fun g8 => ?_)
        refine P_l (fun hJ _ _ q => E_iald dX11_draws_57 (kd82 hJ.1.1) (inB_vp g8) q) ?_
        refine P_if (fun hJ _ _ h1 h2 => E_icmp_lt 77 dX11_draws_58 (by decide) h1 h2) ?_ ?_
        · skip
          refine P_less [some (.ref 67), some (.int p1), none, none, some (.int s7.2)] (And.intro rfl (And.intro rfl (And.intro rfl trivial))) ?_
          exact P_inl (P_back s7.2)
        · skip
          refine P_l (fun hJ _ _ q => E_iload_n dX11_draws_61 rfl (E_aload_n dX11_draws_62 rfl (E_getR (b := 82) clX11 21 (by decide) flX11_72 (Or.inr ⟨_, rfl⟩) dX11_draws_63 (kd67 hJ.1.1) (rf67_21 hJ.1.1) (by decide) (E_iload dX11_draws_66 rfl (E_iald dX11_draws_68 (kd82 hJ.1.1) (inB_vp g8) (E_isub dX11_draws_69 (E_istore_n (ls2 := [some (.ref 67), some (.int p1), none, some (.int (s7.1 - (rI σ3 82 (s7.2 : Int32).toNatClampNeg))), some (.int s7.2)]) dX11_draws_70 (by decide) rfl q))))))) ?_
          refine P_v (s7.1 - (rI σ3 82 (s7.2 : Int32).toNatClampNeg)) (fun x => [some (.ref 67), some (.int p1), none, some (.int x), some (.int s7.2)]) (fun x9 => ?_)
          refine P_l (fun hJ _ _ q => E_iinc (v := 1) (ls2 := [some (.ref 67), some (.int p1), none, some (.int x9), some (.int (s7.2 + 1))]) dX11_draws_71 rfl (by decide) (by decide) rfl (E_goto 50 dX11_draws_74 (by decide) q)) ?_
          exact P_back ((x9, s7.2 + 1))
      · skip
        refine P_l (fun hJ _ _ q => E_aload_n dX11_draws_77 rfl (E_getR (b := 82) clX11 21 (by decide) flX11_72 (Or.inr ⟨_, rfl⟩) dX11_draws_78 (kd67 hJ.1.1) (rf67_21 hJ.1.1) (by decide) (E_iload dX11_draws_81 rfl (E_dup2 dX11_draws_83 rfl rfl q)))) ?_
        refine P_g (fun g10 => ?_)
        refine P_l (fun hJ _ _ q => E_iald dX11_draws_84 (kd82 hJ.1.1) (inB_vp g10) (E_iconst (v := 1) dX11_draws_85 (by decide) (E_isub dX11_draws_86 q))) ?_
        refine P_w (fun hJ _ _ q => E_iast dX11_draws_87 (kd82 hJ.1.1) (by decide) (inB_vp g10) q) (fun hJ => Sy_wI hJ.1) rfl rfl rfl (fun σ11 hσ11 => ?_)
        refine P_l (fun hJ _ _ q => E_aload_n dX11_draws_88 rfl (E_getR (b := 79) clX11 18 (by decide) flX11_63 (Or.inr ⟨_, rfl⟩) dX11_draws_89 (kd67 hJ.1.1) (rf67_18 hJ.1.1) (by decide) (E_bipush (v := 53) dX11_draws_92 (by decide) (E_iload_n dX11_draws_94 rfl (E_imul dX11_draws_95 (E_iload dX11_draws_96 rfl (E_iadd dX11_draws_98 (E_dup2 dX11_draws_99 rfl rfl q)))))))) ?_
        refine P_g (fun g12 => ?_)
        refine P_l (fun hJ _ _ q => E_iald dX11_draws_100 (kd79 hJ.1.1) (inB_vp g12) (E_iconst (v := 1) dX11_draws_101 (by decide) (E_iadd dX11_draws_102 q))) ?_
        refine P_w (fun hJ _ _ q => E_iast dX11_draws_103 (kd79 hJ.1.1) (by decide) (inB_vp g12) q) (fun hJ => Sy_wI hJ.1) rfl rfl rfl (fun σ13 hσ13 => ?_)
        refine P_l (fun hJ _ _ q => E_iconst (v := 1) dX11_draws_104 (by decide) q) ?_
        exact P_ret (fun _ _ => E_iret rfl dX11_draws_105)

def b_X11_deal_101 (s9 : Int32 × rS) : Option (((Int32 × rS) ⊕ (rS)) ⊕ (Int32 × rS)) := if 52 ≤ s9.1 then (some (.inl (.inr s9.2))) else (if inB s9.1 53 then (oLet (wI s9.2 82 (s9.1 : Int32).toNatClampNeg ((if (rI s9.2 67 1) ≤ (iRem s9.1 13) then 0 else 2 : Int32))) fun σ11 => some (.inr ((s9.1 + 1, σ11)))) else none)
def b_X11_deal_162 (s17 : Int32 × rS) : Option (((Int32 × rS) ⊕ (rS)) ⊕ (Int32 × rS)) := if 208 ≤ s17.1 then (some (.inl (.inr s17.2))) else (if inB s17.1 208 then (oLet (wI s17.2 78 (s17.1 : Int32).toNatClampNeg 0) fun σ19 => some (.inr ((s17.1 + 1, σ19)))) else none)
def b_X11_deal_187 (s22 : Int32 × rS) : Option (((Int32 × rS) ⊕ (rS)) ⊕ (Int32 × rS)) := if 4 ≤ s22.1 then (some (.inl (.inr s22.2))) else (if inB s22.1 4 then (oLet (wI s22.2 72 (s22.1 : Int32).toNatClampNeg 0) fun σ24 => oLet (wL σ24 75 (s22.1 : Int32).toNatClampNeg (0 : Int64)) fun σ25 => oLet (wI σ25 76 (s22.1 : Int32).toNatClampNeg 0) fun σ26 => oLet (wI σ26 77 (s22.1 : Int32).toNatClampNeg 0) fun σ27 => some (.inr ((s22.1 + 1, σ27)))) else none)
def b_X11_deal_254 (p2 : Int32) (s28 : Int32 × rS) (s33 : Int32 × rS) : Option (((Int32 × rS) ⊕ (Int32 × rS)) ⊕ (Int32 × rS)) := if p2 ≤ s33.1 then (some (.inl (.inr ((s28.1 + 1, s33.2))))) else (oB (f_X11_draws s33.2 s28.1) fun v34 σ35 => some (.inr ((s33.1 + 1, σ35))))
def b_X11_deal_234 (p2 : Int32) (p3 : Int32) (s28 : Int32 × rS) : Option ((Int32 × rS) ⊕ (Int32 × rS)) := if (rI s28.2 67 6) ≤ s28.1 then (oLet (wI s28.2 67 24 0) fun σ29 => (f_X11_inPool σ29).bind fun v30 => some (.inl ((v30, σ29)))) else (if inB s28.1 4 then (oLet (wI s28.2 71 (s28.1 : Int32).toNatClampNeg p3) fun σ32 => oLoop (b_X11_deal_254 p2 s28) oFuel ((0, σ32))) else none)
def f_X11_deal (σ : rS) (p1 : Int32) (p2 : Int32) (p3 : Int32) : Option (Int32 × rS) := if (if (v_X11_in σ p1 0 65535) = 0 then true else (if (v_X11_in σ p2 1 14) = 0 then true else (if (v_X11_in σ p3 1 9999) = 0 then true else false))) = true then (oB (f_X11_holds σ 1) fun v1 σ2 => some (((-1), σ2))) else (oB (f_X11_holds σ ((if (rI σ 67 24) = ((-1)) then (if (rI σ 67 6) < 2 then 2 else (if ((rI σ 67 6) * p2) ≤ ((8 * (rI σ 67 1)) + (rI σ 67 3)) then 0 else 2)) else 2 : Int32))) fun v3 σ4 => if v3 = 0 then (oB (f_X11_empties σ4) fun _ σ6 => oJoin (oLoop (b_X11_deal_101) oFuel ((0, σ6))) fun j8 => oLet (wI j8 82 (52 : Int32).toNatClampNeg (rI j8 67 3)) fun σ12 => oLet (wI σ12 67 23 p1) fun σ13 => oLet (wI σ13 67 25 0) fun σ14 => oJoin (oLoop (b_X11_deal_162) oFuel ((0, σ14))) fun j16 => oJoin (oLoop (b_X11_deal_187) oFuel ((0, j16))) fun j21 => oLoop (b_X11_deal_234 p2 p3) oFuel ((0, j21))) else (some (((-1), σ4))))
set_option maxRecDepth 20000 in
set_option maxHeartbeats 2000000 in
theorem ok_X11_deal {σ : rS} {p1 : Int32} {p2 : Int32} {p3 : Int32}   : rFn Sy yX11_deal mX11_deal 2 [.ref 67, .int p1, .int p2, .int p3] σ 0 0 (fun v => .inl (some (.int v))) (f_X11_deal σ p1 p2 p3) := by
  refine rF_of (ls := [some (.ref 67), some (.int p1), some (.int p2), some (.int p3), none, none]) yfX11_deal rfl (Nat.le_of_ble_eq_true rfl) (fun o τ => ?_)
  unfold f_X11_deal
  refine P_l (fun hJ _ _ q => E_aload_n dX11_deal_0 rfl (E_iload_n dX11_deal_1 rfl (E_iconst (v := 0) dX11_deal_2 (by decide) (E_ldcw dX11_deal_3 kcX11_321 (E_callV (as := [.int p1, .int 0, .int 65535]) (b := 67) (st := []) (ok_X11_in (σ := σ) (p1 := p1) (p2 := 0) (p3 := 65535) hJ ) (by decide) yfX11_in mlX11_182 imX11_in seX11_in clX11 (kd67 hJ.1.1) rfl (Nat.le_of_ble_eq_true rfl) rfl dX11_deal_6 q))))) ?_
  refine P_if (c := (if (v_X11_in σ p1 0 65535) = 0 then true else (if (v_X11_in σ p2 1 14) = 0 then true else (if (v_X11_in σ p3 1 9999) = 0 then true else false))) = true) (pc1 := 35) (ls1 := [some (.ref 67), some (.int p1), some (.int p2), some (.int p3), none, none]) (st1 := []) (pc2 := 43) (ls2 := [some (.ref 67), some (.int p1), some (.int p2), some (.int p3), none, none]) (st2 := []) (fun hJ _ _ hX hY => ?_) ?_ ?_
  · skip
    refine E_if_eq 35 dX11_deal_9 (by decide) (fun c_9_0 => ?_) (fun c_9_0 => ?_)
    · skip
      exact hX (by simp only [if_pos c_9_0])
    · skip
      refine E_aload_n dX11_deal_12 rfl ?_
      refine E_iload_n dX11_deal_13 rfl ?_
      refine E_iconst (v := 1) dX11_deal_14 (by decide) ?_
      refine E_bipush (v := 14) dX11_deal_15 (by decide) ?_
      refine E_callV (as := [.int p2, .int 1, .int 14]) (b := 67) (st := []) (ok_X11_in (σ := σ) (p1 := p2) (p2 := 1) (p3 := 14) hJ ) (by decide) yfX11_in mlX11_182 imX11_in seX11_in clX11 (kd67 hJ.1.1) rfl (Nat.le_of_ble_eq_true rfl) rfl dX11_deal_17 ?_
      refine E_if_eq 35 dX11_deal_20 (by decide) (fun c_20_1 => ?_) (fun c_20_1 => ?_)
      · skip
        exact hX (by simp only [if_neg c_9_0, if_pos c_20_1])
      · skip
        refine E_aload_n dX11_deal_23 rfl ?_
        refine E_iload_n dX11_deal_24 rfl ?_
        refine E_iconst (v := 1) dX11_deal_25 (by decide) ?_
        refine E_sipush (v := 9999) dX11_deal_26 (by decide) ?_
        refine E_callV (as := [.int p3, .int 1, .int 9999]) (b := 67) (st := []) (ok_X11_in (σ := σ) (p1 := p3) (p2 := 1) (p3 := 9999) hJ ) (by decide) yfX11_in mlX11_182 imX11_in seX11_in clX11 (kd67 hJ.1.1) rfl (Nat.le_of_ble_eq_true rfl) rfl dX11_deal_29 ?_
        refine E_if_ne 43 dX11_deal_32 (by decide) (fun c_32_2 => ?_) (fun c_32_2 => ?_)
        · skip
          exact hY (by simp only [if_neg c_9_0, if_neg c_20_1, if_neg c_32_2]; exact Bool.false_ne_true)
        · skip
          exact hX (by simp only [if_neg c_9_0, if_neg c_20_1, if_pos c_32_2])
  · skip
    refine P_l (fun hJ _ _ q => E_aload_n dX11_deal_35 rfl (E_iconst (v := 1) dX11_deal_36 (by decide) q)) ?_
    refine P_call (t := fun v => some (.int v)) (st2 := fun v => .int v :: []) (kc2 := 0) (ks2 := 0) (fun hJ => (ok_X11_holds (σ := σ) (p1 := 1) )) (fun hJ _ _ _ _ v τ1 hM q => E_callV (as := [.int 1]) (b := 67) (st := []) hM (by decide) yfX11_holds mlX11_265 imX11_holds seX11_holds clX11 (kd67 hJ.1.1) rfl (Nat.le_of_ble_eq_true rfl) rfl dX11_deal_37 q) (by decide) (by decide) (fun v1 σ2 => ?_)
    refine P_l (fun hJ _ _ q => E_pop dX11_deal_40 rfl (E_iconst (v := (-1)) dX11_deal_41 (by decide) q)) ?_
    exact P_ret (fun _ _ => E_iret rfl dX11_deal_42)
  · skip
    refine P_l (fun hJ _ _ q => E_aload_n dX11_deal_43 rfl (E_aload_n dX11_deal_44 rfl (E_getI clX11 24 (by decide) flX11_75 (Or.inl rfl) dX11_deal_45 (kd67 hJ.1.1) (E_iconst (v := (-1)) dX11_deal_48 (by decide) q)))) ?_
    refine P_l (pc2 := 86) (ls2 := [some (.ref 67), some (.int p1), some (.int p2), some (.int p3), none, none]) (st2 := [.int ((if (rI σ 67 24) = ((-1)) then (if (rI σ 67 6) < 2 then 2 else (if ((rI σ 67 6) * p2) ≤ ((8 * (rI σ 67 1)) + (rI σ 67 3)) then 0 else 2)) else 2 : Int32)), .ref 67]) (fun hJ _ _ hq => ?_) ?_
    · skip
      refine E_icmp_ne 81 dX11_deal_49 (by decide) (fun c_49_0 => ?_) (fun c_49_0 => ?_)
      · skip
        refine E_iconst (v := 2) dX11_deal_81 (by decide) ?_
        refine E_goto 86 dX11_deal_82 (by decide) ?_
        simp only [if_neg c_49_0] at hq
        exact hq
      · skip
        refine E_aload_n dX11_deal_52 rfl ?_
        refine E_getI clX11 6 (by decide) flX11_186 (Or.inl rfl) dX11_deal_53 (kd67 hJ.1.1) ?_
        refine E_iconst (v := 2) dX11_deal_56 (by decide) ?_
        refine E_icmp_lt 81 dX11_deal_57 (by decide) (fun c_57_1 => ?_) (fun c_57_1 => ?_)
        · skip
          refine E_iconst (v := 2) dX11_deal_81 (by decide) ?_
          refine E_goto 86 dX11_deal_82 (by decide) ?_
          simp only [if_pos c_49_0, if_pos c_57_1] at hq
          exact hq
        · skip
          refine E_aload_n dX11_deal_60 rfl ?_
          refine E_getI clX11 6 (by decide) flX11_186 (Or.inl rfl) dX11_deal_61 (kd67 hJ.1.1) ?_
          refine E_iload_n dX11_deal_64 rfl ?_
          refine E_imul dX11_deal_65 ?_
          refine E_bipush (v := 8) dX11_deal_66 (by decide) ?_
          refine E_aload_n dX11_deal_68 rfl ?_
          refine E_getI clX11 1 (by decide) flX11_9 (Or.inl rfl) dX11_deal_69 (kd67 hJ.1.1) ?_
          refine E_imul dX11_deal_72 ?_
          refine E_aload_n dX11_deal_73 rfl ?_
          refine E_getI clX11 3 (by decide) flX11_18 (Or.inl rfl) dX11_deal_74 (kd67 hJ.1.1) ?_
          refine E_iadd dX11_deal_77 ?_
          refine E_icmp_le 85 dX11_deal_78 (by decide) (fun c_78_2 => ?_) (fun c_78_2 => ?_)
          · skip
            refine E_iconst (v := 0) dX11_deal_85 (by decide) ?_
            simp only [if_pos c_49_0, if_neg c_57_1, if_pos c_78_2] at hq
            exact hq
          · skip
            refine E_iconst (v := 2) dX11_deal_81 (by decide) ?_
            refine E_goto 86 dX11_deal_82 (by decide) ?_
            simp only [if_pos c_49_0, if_neg c_57_1, if_neg c_78_2] at hq
            exact hq
    · skip
      refine P_call (t := fun v => some (.int v)) (st2 := fun v => .int v :: []) (kc2 := 0) (ks2 := 0) (fun hJ => (ok_X11_holds (σ := σ) (p1 := (if (rI σ 67 24) = ((-1)) then (if (rI σ 67 6) < 2 then 2 else (if ((rI σ 67 6) * p2) ≤ ((8 * (rI σ 67 1)) + (rI σ 67 3)) then 0 else 2)) else 2 : Int32)) )) (fun hJ _ _ _ _ v τ1 hM q => E_callV (as := [.int ((if (rI σ 67 24) = ((-1)) then (if (rI σ 67 6) < 2 then 2 else (if ((rI σ 67 6) * p2) ≤ ((8 * (rI σ 67 1)) + (rI σ 67 3)) then 0 else 2)) else 2 : Int32))]) (b := 67) (st := []) hM (by decide) yfX11_holds mlX11_265 imX11_holds seX11_holds clX11 (kd67 hJ.1.1) rfl (Nat.le_of_ble_eq_true rfl) rfl dX11_deal_86 q) (by decide) (by decide) (fun v3 σ4 => ?_)
      refine P_if (fun hJ _ _ h1 h2 => E_if_eq 94 dX11_deal_89 (by decide) h1 h2) ?_ ?_
      · skip
        refine P_l (fun hJ _ _ q => E_aload_n dX11_deal_94 rfl q) ?_
        refine P_call (t := fun _ => none) (st2 := fun _ => []) (kc2 := 0) (ks2 := 0) (fun hJ => (ok_X11_empties (σ := σ4)  )) (fun hJ _ _ _ _ v τ1 hM q => E_callV (as := []) (b := 67) (st := []) hM (by decide) yfX11_empties mlX11_309 imX11_empties seX11_empties clX11 (kd67 hJ.1.1) rfl (Nat.le_of_ble_eq_true rfl) rfl dX11_deal_95 q) (by decide) (by decide) (fun v5 σ6 => ?_)
        refine P_l (fun hJ _ _ q => E_iconst (v := 0) dX11_deal_98 (by decide) (E_istore (ls2 := [some (.ref 67), some (.int p1), some (.int p2), some (.int p3), some (.int 0), none]) dX11_deal_99 (by decide) rfl q)) ?_
        refine P_join (pc2 := 138) (fun j8 => [some (.ref 67), some (.int p1), some (.int p2), some (.int p3), none, none]) (fun j8 => []) (fun j8 => j8) ?_ (fun j8 => ?_)
        · skip
          refine P_loop (fun s9 => [some (.ref 67), some (.int p1), some (.int p2), some (.int p3), some (.int s9.1), none]) (fun s9 => s9.2) (fun s9 => ?_) _ ((0, σ6))
          unfold b_X11_deal_101
          refine P_l (fun hJ _ _ q => E_iload dX11_deal_101 rfl (E_bipush (v := 52) dX11_deal_103 (by decide) q)) ?_
          refine P_if (fun hJ _ _ h1 h2 => E_icmp_ge 138 dX11_deal_105 (by decide) h1 h2) ?_ ?_
          · skip
            refine P_less [some (.ref 67), some (.int p1), some (.int p2), some (.int p3), none, none] (And.intro rfl (And.intro rfl (And.intro rfl (And.intro rfl trivial)))) ?_
            exact P_inl (P_back s9.2)
          · skip
            refine P_l (fun hJ _ _ q => E_aload_n dX11_deal_108 rfl (E_getR (b := 82) clX11 21 (by decide) flX11_72 (Or.inr ⟨_, rfl⟩) dX11_deal_109 (kd67 hJ.1.1) (rf67_21 hJ.1.1) (by decide) (E_iload dX11_deal_112 rfl (E_iload dX11_deal_114 rfl (E_bipush (v := 13) dX11_deal_116 (by decide) (E_irem dX11_deal_118 (by decide) (E_aload_n dX11_deal_119 rfl (E_getI clX11 1 (by decide) flX11_9 (Or.inl rfl) dX11_deal_120 (kd67 hJ.1.1) q)))))))) ?_
            refine P_l (pc2 := 131) (ls2 := [some (.ref 67), some (.int p1), some (.int p2), some (.int p3), some (.int s9.1), none]) (st2 := [.int ((if (rI s9.2 67 1) ≤ (iRem s9.1 13) then 0 else 2 : Int32)), .int s9.1, .ref 82]) (fun hJ _ _ hq => ?_) ?_
            · skip
              refine E_icmp_ge 130 dX11_deal_123 (by decide) (fun c_123_0 => ?_) (fun c_123_0 => ?_)
              · skip
                refine E_iconst (v := 0) dX11_deal_130 (by decide) ?_
                simp only [if_pos c_123_0] at hq
                exact hq
              · skip
                refine E_iconst (v := 2) dX11_deal_126 (by decide) ?_
                refine E_goto 131 dX11_deal_127 (by decide) ?_
                simp only [if_neg c_123_0] at hq
                exact hq
            · skip
              refine P_g (fun g10 => ?_)
              refine P_w (fun hJ _ _ q => E_iast dX11_deal_131 (kd82 hJ.1.1) (by decide) (inB_vp g10) q) (fun hJ => Sy_wI hJ.1) rfl rfl rfl (fun σ11 hσ11 => ?_)
              refine P_l (fun hJ _ _ q => E_iinc (v := 1) (ls2 := [some (.ref 67), some (.int p1), some (.int p2), some (.int p3), some (.int (s9.1 + 1)), none]) dX11_deal_132 rfl (by decide) (by decide) rfl (E_goto 101 dX11_deal_135 (by decide) q)) ?_
              exact P_back ((s9.1 + 1, σ11))
        · skip
          refine P_l (fun hJ _ _ q => E_aload_n dX11_deal_138 rfl (E_getR (b := 82) clX11 21 (by decide) flX11_72 (Or.inr ⟨_, rfl⟩) dX11_deal_139 (kd67 hJ.1.1) (rf67_21 hJ.1.1) (by decide) (E_bipush (v := 52) dX11_deal_142 (by decide) (E_aload_n dX11_deal_144 rfl (E_getI clX11 3 (by decide) flX11_18 (Or.inl rfl) dX11_deal_145 (kd67 hJ.1.1) q))))) ?_
          refine P_w (fun hJ _ _ q => E_iast dX11_deal_148 (kd82 hJ.1.1) (by decide) (inB_vp (by decide)) q) (fun hJ => Sy_wI hJ.1) rfl rfl rfl (fun σ12 hσ12 => ?_)
          refine P_l (fun hJ _ _ q => E_aload_n dX11_deal_149 rfl (E_iload_n dX11_deal_150 rfl q)) ?_
          refine P_w (fun hJ _ _ q => E_putI clX11 23 (by decide) flX11_318 (Or.inl rfl) rfl dX11_deal_151 (kd67 hJ.1.1) q) (fun hJ => Sy_wI hJ.1) rfl rfl rfl (fun σ13 hσ13 => ?_)
          refine P_l (fun hJ _ _ q => E_aload_n dX11_deal_154 rfl (E_iconst (v := 0) dX11_deal_155 (by decide) q)) ?_
          refine P_w (fun hJ _ _ q => E_putI clX11 25 (by decide) flX11_322 (Or.inl rfl) rfl dX11_deal_156 (kd67 hJ.1.1) q) (fun hJ => Sy_wI hJ.1) rfl rfl rfl (fun σ14 hσ14 => ?_)
          refine P_l (fun hJ _ _ q => E_iconst (v := 0) dX11_deal_159 (by decide) (E_istore (ls2 := [some (.ref 67), some (.int p1), some (.int p2), some (.int p3), some (.int 0), none]) dX11_deal_160 (by decide) rfl q)) ?_
          refine P_join (pc2 := 184) (fun j16 => [some (.ref 67), none, some (.int p2), some (.int p3), none, none]) (fun j16 => []) (fun j16 => j16) ?_ (fun j16 => ?_)
          · skip
            refine P_less [some (.ref 67), none, some (.int p2), some (.int p3), some (.int 0), none] (And.intro rfl (And.intro rfl (And.intro rfl (And.intro rfl trivial)))) ?_
            refine P_loop (fun s17 => [some (.ref 67), none, some (.int p2), some (.int p3), some (.int s17.1), none]) (fun s17 => s17.2) (fun s17 => ?_) _ ((0, σ14))
            unfold b_X11_deal_162
            refine P_l (fun hJ _ _ q => E_iload dX11_deal_162 rfl (E_sipush (v := 208) dX11_deal_164 (by decide) q)) ?_
            refine P_if (fun hJ _ _ h1 h2 => E_icmp_ge 184 dX11_deal_167 (by decide) h1 h2) ?_ ?_
            · skip
              refine P_less [some (.ref 67), none, some (.int p2), some (.int p3), none, none] (And.intro rfl (And.intro rfl (And.intro rfl trivial))) ?_
              exact P_inl (P_back s17.2)
            · skip
              refine P_l (fun hJ _ _ q => E_aload_n dX11_deal_170 rfl (E_getR (b := 78) clX11 17 (by decide) flX11_60 (Or.inr ⟨_, rfl⟩) dX11_deal_171 (kd67 hJ.1.1) (rf67_17 hJ.1.1) (by decide) (E_iload dX11_deal_174 rfl (E_iconst (v := 0) dX11_deal_176 (by decide) q)))) ?_
              refine P_g (fun g18 => ?_)
              refine P_w (fun hJ _ _ q => E_iast dX11_deal_177 (kd78 hJ.1.1) (by decide) (inB_vp g18) q) (fun hJ => Sy_wI hJ.1) rfl rfl rfl (fun σ19 hσ19 => ?_)
              refine P_l (fun hJ _ _ q => E_iinc (v := 1) (ls2 := [some (.ref 67), none, some (.int p2), some (.int p3), some (.int (s17.1 + 1)), none]) dX11_deal_178 rfl (by decide) (by decide) rfl (E_goto 162 dX11_deal_181 (by decide) q)) ?_
              exact P_back ((s17.1 + 1, σ19))
          · skip
            refine P_l (fun hJ _ _ q => E_iconst (v := 0) dX11_deal_184 (by decide) (E_istore (ls2 := [some (.ref 67), none, some (.int p2), some (.int p3), some (.int 0), none]) dX11_deal_185 (by decide) rfl q)) ?_
            refine P_join (pc2 := 231) (fun j21 => [some (.ref 67), none, some (.int p2), some (.int p3), none, none]) (fun j21 => []) (fun j21 => j21) ?_ (fun j21 => ?_)
            · skip
              refine P_loop (fun s22 => [some (.ref 67), none, some (.int p2), some (.int p3), some (.int s22.1), none]) (fun s22 => s22.2) (fun s22 => ?_) _ ((0, j16))
              unfold b_X11_deal_187
              refine P_l (fun hJ _ _ q => E_iload dX11_deal_187 rfl (E_iconst (v := 4) dX11_deal_189 (by decide) q)) ?_
              refine P_if (fun hJ _ _ h1 h2 => E_icmp_ge 231 dX11_deal_190 (by decide) h1 h2) ?_ ?_
              · skip
                refine P_less [some (.ref 67), none, some (.int p2), some (.int p3), none, none] (And.intro rfl (And.intro rfl (And.intro rfl trivial))) ?_
                exact P_inl (P_back s22.2)
              · skip
                refine P_l (fun hJ _ _ q => E_aload_n dX11_deal_193 rfl (E_getR (b := 72) clX11 11 (by decide) flX11_40 (Or.inr ⟨_, rfl⟩) dX11_deal_194 (kd67 hJ.1.1) (rf67_11 hJ.1.1) (by decide) (E_iload dX11_deal_197 rfl (E_iconst (v := 0) dX11_deal_199 (by decide) q)))) ?_
                refine P_g (fun g23 => ?_)
                refine P_w (fun hJ _ _ q => E_zast dX11_deal_200 (kd72 hJ.1.1) (by decide) (inB_vp g23) q) (fun hJ => Sy_wI hJ.1) rfl rfl rfl (fun σ24 hσ24 => ?_)
                refine P_l (fun hJ _ _ q => E_aload_n dX11_deal_201 rfl (E_getR (b := 75) clX11 14 (by decide) flX11_50 (Or.inr ⟨_, rfl⟩) dX11_deal_202 (kd67 hJ.1.1) (rf67_14 hJ.1.1) (by decide) (E_iload dX11_deal_205 rfl (E_lconst (v := 0) dX11_deal_207 (by decide) q)))) ?_
                refine P_w (fun hJ _ _ q => E_last dX11_deal_208 (kd75 hJ.1.1) (inB_vp g23) q) (fun hJ => Sy_wL hJ.1) rfl rfl rfl (fun σ25 hσ25 => ?_)
                refine P_l (fun hJ _ _ q => E_aload_n dX11_deal_209 rfl (E_getR (b := 76) clX11 15 (by decide) flX11_54 (Or.inr ⟨_, rfl⟩) dX11_deal_210 (kd67 hJ.1.1) (rf67_15 hJ.1.1) (by decide) (E_iload dX11_deal_213 rfl (E_iconst (v := 0) dX11_deal_215 (by decide) q)))) ?_
                refine P_w (fun hJ _ _ q => E_zast dX11_deal_216 (kd76 hJ.1.1) (by decide) (inB_vp g23) q) (fun hJ => Sy_wI hJ.1) rfl rfl rfl (fun σ26 hσ26 => ?_)
                refine P_l (fun hJ _ _ q => E_aload_n dX11_deal_217 rfl (E_getR (b := 77) clX11 16 (by decide) flX11_57 (Or.inr ⟨_, rfl⟩) dX11_deal_218 (kd67 hJ.1.1) (rf67_16 hJ.1.1) (by decide) (E_iload dX11_deal_221 rfl (E_iconst (v := 0) dX11_deal_223 (by decide) q)))) ?_
                refine P_w (fun hJ _ _ q => E_iast dX11_deal_224 (kd77 hJ.1.1) (by decide) (inB_vp g23) q) (fun hJ => Sy_wI hJ.1) rfl rfl rfl (fun σ27 hσ27 => ?_)
                refine P_l (fun hJ _ _ q => E_iinc (v := 1) (ls2 := [some (.ref 67), none, some (.int p2), some (.int p3), some (.int (s22.1 + 1)), none]) dX11_deal_225 rfl (by decide) (by decide) rfl (E_goto 187 dX11_deal_228 (by decide) q)) ?_
                exact P_back ((s22.1 + 1, σ27))
            · skip
              refine P_l (fun hJ _ _ q => E_iconst (v := 0) dX11_deal_231 (by decide) (E_istore (ls2 := [some (.ref 67), none, some (.int p2), some (.int p3), some (.int 0), none]) dX11_deal_232 (by decide) rfl q)) ?_
              refine P_loop (fun s28 => [some (.ref 67), none, some (.int p2), some (.int p3), some (.int s28.1), none]) (fun s28 => s28.2) (fun s28 => ?_) _ ((0, j21))
              unfold b_X11_deal_234
              refine P_l (fun hJ _ _ q => E_iload dX11_deal_234 rfl (E_aload_n dX11_deal_236 rfl (E_getI clX11 6 (by decide) flX11_186 (Or.inl rfl) dX11_deal_237 (kd67 hJ.1.1) q))) ?_
              refine P_if (fun hJ _ _ h1 h2 => E_icmp_ge 279 dX11_deal_240 (by decide) h1 h2) ?_ ?_
              · skip
                refine P_l (fun hJ _ _ q => E_aload_n dX11_deal_279 rfl (E_iconst (v := 0) dX11_deal_280 (by decide) q)) ?_
                refine P_w (fun hJ _ _ q => E_putI clX11 24 (by decide) flX11_75 (Or.inl rfl) rfl dX11_deal_281 (kd67 hJ.1.1) q) (fun hJ => Sy_wI hJ.1) rfl rfl rfl (fun σ29 hσ29 => ?_)
                refine P_l (fun hJ _ _ q => E_aload_n dX11_deal_284 rfl q) ?_
                refine P_callr (t := fun v => some (.int v)) (st2 := fun v => .int v :: []) (fun hJ => (ok_X11_inPool (σ := σ29)  )) (fun hJ _ _ v hM q => E_callV (as := []) (b := 67) (st := []) hM (by decide) yfX11_inPool mlX11_312 imX11_inPool seX11_inPool clX11 (kd67 hJ.1.1) rfl (Nat.le_of_ble_eq_true rfl) rfl dX11_deal_285 q) (fun v30 => ?_)
                exact P_inl (P_ret (fun _ _ => E_iret rfl dX11_deal_288))
              · skip
                refine P_l (fun hJ _ _ q => E_aload_n dX11_deal_243 rfl (E_getR (b := 71) clX11 10 (by decide) flX11_37 (Or.inr ⟨_, rfl⟩) dX11_deal_244 (kd67 hJ.1.1) (rf67_10 hJ.1.1) (by decide) (E_iload dX11_deal_247 rfl (E_iload_n dX11_deal_249 rfl q)))) ?_
                refine P_g (fun g31 => ?_)
                refine P_w (fun hJ _ _ q => E_iast dX11_deal_250 (kd71 hJ.1.1) (by decide) (inB_vp g31) q) (fun hJ => Sy_wI hJ.1) rfl rfl rfl (fun σ32 hσ32 => ?_)
                refine P_l (fun hJ _ _ q => E_iconst (v := 0) dX11_deal_251 (by decide) (E_istore (ls2 := [some (.ref 67), none, some (.int p2), some (.int p3), some (.int s28.1), some (.int 0)]) dX11_deal_252 (by decide) rfl q)) ?_
                refine P_loop (fun s33 => [some (.ref 67), none, some (.int p2), some (.int p3), some (.int s28.1), some (.int s33.1)]) (fun s33 => s33.2) (fun s33 => ?_) _ ((0, σ32))
                unfold b_X11_deal_254
                refine P_l (fun hJ _ _ q => E_iload dX11_deal_254 rfl (E_iload_n dX11_deal_256 rfl q)) ?_
                refine P_if (fun hJ _ _ h1 h2 => E_icmp_ge 273 dX11_deal_257 (by decide) h1 h2) ?_ ?_
                · skip
                  refine P_l (fun hJ _ _ q => E_iinc (v := 1) (ls2 := [some (.ref 67), none, some (.int p2), some (.int p3), some (.int (s28.1 + 1)), some (.int s33.1)]) dX11_deal_273 rfl (by decide) (by decide) rfl (E_goto 234 dX11_deal_276 (by decide) q)) ?_
                  refine P_less [some (.ref 67), none, some (.int p2), some (.int p3), some (.int (s28.1 + 1)), none] (And.intro rfl (And.intro rfl (And.intro rfl (And.intro rfl trivial)))) ?_
                  exact P_inl (P_back ((s28.1 + 1, s33.2)))
                · skip
                  refine P_l (fun hJ _ _ q => E_aload_n dX11_deal_260 rfl (E_iload dX11_deal_261 rfl q)) ?_
                  refine P_call (t := fun v => some (.int v)) (st2 := fun v => .int v :: []) (kc2 := 0) (ks2 := 0) (fun hJ => (ok_X11_draws (σ := s33.2) (p1 := s28.1) )) (fun hJ _ _ _ _ v τ1 hM q => E_callV (as := [.int s28.1]) (b := 67) (st := []) hM (by decide) yfX11_draws mlX11_325 imX11_draws seX11_draws clX11 (kd67 hJ.1.1) rfl (Nat.le_of_ble_eq_true rfl) rfl dX11_deal_263 q) (by decide) (by decide) (fun v34 σ35 => ?_)
                  refine P_l (fun hJ _ _ q => E_pop dX11_deal_266 rfl (E_iinc (v := 1) (ls2 := [some (.ref 67), none, some (.int p2), some (.int p3), some (.int s28.1), some (.int (s33.1 + 1))]) dX11_deal_267 rfl (by decide) (by decide) rfl (E_goto 254 dX11_deal_270 (by decide) q))) ?_
                  exact P_back ((s33.1 + 1, σ35))
      · skip
        refine P_l (fun hJ _ _ q => E_iconst (v := (-1)) dX11_deal_92 (by decide) q) ?_
        exact P_ret (fun _ _ => E_iret rfl dX11_deal_93)

def f_X11_isFull (σ : rS) (p1 : Int32) : Option Int32 := if inB p1 52 then (some ((if ((rI σ 80 (p1 : Int32).toNatClampNeg) + (rI σ 81 (p1 : Int32).toNatClampNeg)) < 2 then 0 else 1 : Int32))) else none
set_option maxRecDepth 20000 in
set_option maxHeartbeats 2000000 in
theorem ok_X11_isFull {σ : rS} {p1 : Int32}   : rFr Sy yX11_isFull mX11_isFull 0 [.ref 67, .int p1] σ (fun v => some (.int v)) (f_X11_isFull σ p1) := by
  refine rFr_of (ls := [some (.ref 67), some (.int p1)]) yfX11_isFull rfl (Nat.le_of_ble_eq_true rfl) (fun o τ => ?_)
  unfold f_X11_isFull
  refine P_l (fun hJ _ _ q => E_aload_n dX11_isFull_0 rfl (E_getR (b := 80) clX11 19 (by decide) flX11_66 (Or.inr ⟨_, rfl⟩) dX11_isFull_1 (kd67 hJ.1.1) (rf67_19 hJ.1.1) (by decide) (E_iload_n dX11_isFull_4 rfl q))) ?_
  refine P_g (fun g1 => ?_)
  refine P_l (fun hJ _ _ q => E_iald dX11_isFull_5 (kd80 hJ.1.1) (inB_vp g1) (E_aload_n dX11_isFull_6 rfl (E_getR (b := 81) clX11 20 (by decide) flX11_69 (Or.inr ⟨_, rfl⟩) dX11_isFull_7 (kd67 hJ.1.1) (rf67_20 hJ.1.1) (by decide) (E_iload_n dX11_isFull_10 rfl (E_iald dX11_isFull_11 (kd81 hJ.1.1) (inB_vp g1) (E_iadd dX11_isFull_12 (E_iconst (v := 2) dX11_isFull_13 (by decide) q))))))) ?_
  refine P_l (pc2 := 22) (ls2 := [none, none]) (st2 := [.int ((if ((rI σ 80 (p1 : Int32).toNatClampNeg) + (rI σ 81 (p1 : Int32).toNatClampNeg)) < 2 then 0 else 1 : Int32))]) (fun hJ _ _ hq => ?_) ?_
  · skip
    refine E_icmp_lt 21 dX11_isFull_14 (by decide) (fun c_14_0 => ?_) (fun c_14_0 => ?_)
    · skip
      refine E_iconst (v := 0) dX11_isFull_21 (by decide) ?_
      simp only [if_pos c_14_0] at hq
      exact E_less (ls2 := [none, none]) hq (rLe_at [none, none] [some (.ref 67), some (.int p1)] trivial)
    · skip
      refine E_iconst (v := 1) dX11_isFull_17 (by decide) ?_
      refine E_goto 22 dX11_isFull_18 (by decide) ?_
      simp only [if_neg c_14_0] at hq
      exact E_less (ls2 := [none, none]) hq (rLe_at [none, none] [some (.ref 67), some (.int p1)] trivial)
  · skip
    exact P_retr (fun _ _ => E_zret01 rfl (by split <;> decide) dX11_isFull_22)

def f_X11_enter (σ : rS) (p1 : Int32) (p2 : Int32) (p3 : Int32) (p4 : Int32) : Option (Unit × rS) := if inB (4 * (rI σ 67 32)) 100000 then (oLet (wI σ 85 (4 * (rI σ 67 32) : Int32).toNatClampNeg p1) fun σ2 => if inB ((4 * (rI σ2 67 32)) + 1) 100000 then (oLet (wI σ2 85 ((4 * (rI σ2 67 32)) + 1 : Int32).toNatClampNeg p2) fun σ4 => if inB ((4 * (rI σ4 67 32)) + 2) 100000 then (oLet (wI σ4 85 ((4 * (rI σ4 67 32)) + 2 : Int32).toNatClampNeg p3) fun σ6 => if inB ((4 * (rI σ6 67 32)) + 3) 100000 then (oLet (wI σ6 85 ((4 * (rI σ6 67 32)) + 3 : Int32).toNatClampNeg p4) fun σ8 => oLet (wI σ8 67 32 ((rI σ8 67 32) + 1)) fun σ9 => some (((), σ9))) else none) else none) else none) else none
set_option maxRecDepth 20000 in
set_option maxHeartbeats 2000000 in
theorem ok_X11_enter {σ : rS} {p1 : Int32} {p2 : Int32} {p3 : Int32} {p4 : Int32}   : rFn Sy yX11_enter mX11_enter 0 [.ref 67, .int p1, .int p2, .int p3, .int p4] σ 0 0 (fun _ => .inl none) (f_X11_enter σ p1 p2 p3 p4) := by
  refine rF_of (ls := [some (.ref 67), some (.int p1), some (.int p2), some (.int p3), some (.int p4)]) yfX11_enter rfl (Nat.le_of_ble_eq_true rfl) (fun o τ => ?_)
  unfold f_X11_enter
  refine P_l (fun hJ _ _ q => E_aload_n dX11_enter_0 rfl (E_getR (b := 85) clX11 31 (by decide) flX11_88 (Or.inr ⟨_, rfl⟩) dX11_enter_1 (kd67 hJ.1.1) (rf67_31 hJ.1.1) (by decide) (E_iconst (v := 4) dX11_enter_4 (by decide) (E_aload_n dX11_enter_5 rfl (E_getI clX11 32 (by decide) flX11_306 (Or.inl rfl) dX11_enter_6 (kd67 hJ.1.1) (E_imul dX11_enter_9 (E_iload_n dX11_enter_10 rfl q))))))) ?_
  refine P_g (fun g1 => ?_)
  refine P_w (fun hJ _ _ q => E_iast dX11_enter_11 (kd85 hJ.1.1) (by decide) (inB_vp g1) q) (fun hJ => Sy_wI hJ.1) rfl rfl rfl (fun σ2 hσ2 => ?_)
  refine P_l (fun hJ _ _ q => E_aload_n dX11_enter_12 rfl (E_getR (b := 85) clX11 31 (by decide) flX11_88 (Or.inr ⟨_, rfl⟩) dX11_enter_13 (kd67 hJ.1.1) (rf67_31 hJ.1.1) (by decide) (E_iconst (v := 4) dX11_enter_16 (by decide) (E_aload_n dX11_enter_17 rfl (E_getI clX11 32 (by decide) flX11_306 (Or.inl rfl) dX11_enter_18 (kd67 hJ.1.1) (E_imul dX11_enter_21 (E_iconst (v := 1) dX11_enter_22 (by decide) (E_iadd dX11_enter_23 (E_iload_n dX11_enter_24 rfl q))))))))) ?_
  refine P_g (fun g3 => ?_)
  refine P_w (fun hJ _ _ q => E_iast dX11_enter_25 (kd85 hJ.1.1) (by decide) (inB_vp g3) q) (fun hJ => Sy_wI hJ.1) rfl rfl rfl (fun σ4 hσ4 => ?_)
  refine P_l (fun hJ _ _ q => E_aload_n dX11_enter_26 rfl (E_getR (b := 85) clX11 31 (by decide) flX11_88 (Or.inr ⟨_, rfl⟩) dX11_enter_27 (kd67 hJ.1.1) (rf67_31 hJ.1.1) (by decide) (E_iconst (v := 4) dX11_enter_30 (by decide) (E_aload_n dX11_enter_31 rfl (E_getI clX11 32 (by decide) flX11_306 (Or.inl rfl) dX11_enter_32 (kd67 hJ.1.1) (E_imul dX11_enter_35 (E_iconst (v := 2) dX11_enter_36 (by decide) (E_iadd dX11_enter_37 (E_iload_n dX11_enter_38 rfl q))))))))) ?_
  refine P_g (fun g5 => ?_)
  refine P_w (fun hJ _ _ q => E_iast dX11_enter_39 (kd85 hJ.1.1) (by decide) (inB_vp g5) q) (fun hJ => Sy_wI hJ.1) rfl rfl rfl (fun σ6 hσ6 => ?_)
  refine P_l (fun hJ _ _ q => E_aload_n dX11_enter_40 rfl (E_getR (b := 85) clX11 31 (by decide) flX11_88 (Or.inr ⟨_, rfl⟩) dX11_enter_41 (kd67 hJ.1.1) (rf67_31 hJ.1.1) (by decide) (E_iconst (v := 4) dX11_enter_44 (by decide) (E_aload_n dX11_enter_45 rfl (E_getI clX11 32 (by decide) flX11_306 (Or.inl rfl) dX11_enter_46 (kd67 hJ.1.1) (E_imul dX11_enter_49 (E_iconst (v := 3) dX11_enter_50 (by decide) (E_iadd dX11_enter_51 (E_iload dX11_enter_52 rfl q))))))))) ?_
  refine P_g (fun g7 => ?_)
  refine P_w (fun hJ _ _ q => E_iast dX11_enter_54 (kd85 hJ.1.1) (by decide) (inB_vp g7) q) (fun hJ => Sy_wI hJ.1) rfl rfl rfl (fun σ8 hσ8 => ?_)
  refine P_l (fun hJ _ _ q => E_aload_n dX11_enter_55 rfl (E_dup dX11_enter_56 rfl (E_getI clX11 32 (by decide) flX11_306 (Or.inl rfl) dX11_enter_57 (kd67 hJ.1.1) (E_iconst (v := 1) dX11_enter_60 (by decide) (E_iadd dX11_enter_61 q))))) ?_
  refine P_w (fun hJ _ _ q => E_putI clX11 32 (by decide) flX11_306 (Or.inl rfl) rfl dX11_enter_62 (kd67 hJ.1.1) q) (fun hJ => Sy_wI hJ.1) rfl rfl rfl (fun σ9 hσ9 => ?_)
  exact P_ret (fun _ _ => E_vret rfl dX11_enter_65)

def f_X11_thing (σ : rS) (p1 : Int32) (p2 : Int32) : Option (Unit × rS) := if inB (rI σ 67 30) 128 then (oLet (wI σ 83 (rI σ 67 30 : Int32).toNatClampNeg p1) fun σ2 => if inB (rI σ2 67 30) 128 then (oLet (wI σ2 84 (rI σ2 67 30 : Int32).toNatClampNeg p2) fun σ4 => oLet (wI σ4 67 30 ((rI σ4 67 30) + 1)) fun σ5 => oB (f_X11_enter σ5 ((if p1 = 4 then 2 else p1 : Int32)) (rI σ5 67 24) p2 0) fun _ σ7 => some (((), σ7))) else none) else none
set_option maxRecDepth 20000 in
set_option maxHeartbeats 2000000 in
theorem ok_X11_thing {σ : rS} {p1 : Int32} {p2 : Int32}   : rFn Sy yX11_thing mX11_thing 1 [.ref 67, .int p1, .int p2] σ 0 0 (fun _ => .inl none) (f_X11_thing σ p1 p2) := by
  refine rF_of (ls := [some (.ref 67), some (.int p1), some (.int p2)]) yfX11_thing rfl (Nat.le_of_ble_eq_true rfl) (fun o τ => ?_)
  unfold f_X11_thing
  refine P_l (fun hJ _ _ q => E_aload_n dX11_thing_0 rfl (E_getR (b := 83) clX11 28 (by decide) flX11_81 (Or.inr ⟨_, rfl⟩) dX11_thing_1 (kd67 hJ.1.1) (rf67_28 hJ.1.1) (by decide) (E_aload_n dX11_thing_4 rfl (E_getI clX11 30 (by decide) flX11_303 (Or.inl rfl) dX11_thing_5 (kd67 hJ.1.1) (E_iload_n dX11_thing_8 rfl q))))) ?_
  refine P_g (fun g1 => ?_)
  refine P_w (fun hJ _ _ q => E_iast dX11_thing_9 (kd83 hJ.1.1) (by decide) (inB_vp g1) q) (fun hJ => Sy_wI hJ.1) rfl rfl rfl (fun σ2 hσ2 => ?_)
  refine P_l (fun hJ _ _ q => E_aload_n dX11_thing_10 rfl (E_getR (b := 84) clX11 29 (by decide) flX11_84 (Or.inr ⟨_, rfl⟩) dX11_thing_11 (kd67 hJ.1.1) (rf67_29 hJ.1.1) (by decide) (E_aload_n dX11_thing_14 rfl (E_getI clX11 30 (by decide) flX11_303 (Or.inl rfl) dX11_thing_15 (kd67 hJ.1.1) (E_iload_n dX11_thing_18 rfl q))))) ?_
  refine P_g (fun g3 => ?_)
  refine P_w (fun hJ _ _ q => E_iast dX11_thing_19 (kd84 hJ.1.1) (by decide) (inB_vp g3) q) (fun hJ => Sy_wI hJ.1) rfl rfl rfl (fun σ4 hσ4 => ?_)
  refine P_l (fun hJ _ _ q => E_aload_n dX11_thing_20 rfl (E_dup dX11_thing_21 rfl (E_getI clX11 30 (by decide) flX11_303 (Or.inl rfl) dX11_thing_22 (kd67 hJ.1.1) (E_iconst (v := 1) dX11_thing_25 (by decide) (E_iadd dX11_thing_26 q))))) ?_
  refine P_w (fun hJ _ _ q => E_putI clX11 30 (by decide) flX11_303 (Or.inl rfl) rfl dX11_thing_27 (kd67 hJ.1.1) q) (fun hJ => Sy_wI hJ.1) rfl rfl rfl (fun σ5 hσ5 => ?_)
  refine P_l (fun hJ _ _ q => E_aload_n dX11_thing_30 rfl (E_iload_n dX11_thing_31 rfl (E_iconst (v := 4) dX11_thing_32 (by decide) q))) ?_
  refine P_l (pc2 := 41) (ls2 := [some (.ref 67), none, some (.int p2)]) (st2 := [.int ((if p1 = 4 then 2 else p1 : Int32)), .ref 67]) (fun hJ _ _ hq => ?_) ?_
  · skip
    refine E_icmp_ne 40 dX11_thing_33 (by decide) (fun c_33_0 => ?_) (fun c_33_0 => ?_)
    · skip
      refine E_iload_n dX11_thing_40 rfl ?_
      simp only [if_neg c_33_0] at hq
      exact E_less (ls2 := [some (.ref 67), none, some (.int p2)]) hq (rLe_at [some (.ref 67), none, some (.int p2)] [some (.ref 67), some (.int p1), some (.int p2)] (And.intro rfl (And.intro rfl trivial)))
    · skip
      refine E_iconst (v := 2) dX11_thing_36 (by decide) ?_
      refine E_goto 41 dX11_thing_37 (by decide) ?_
      simp only [if_pos c_33_0] at hq
      exact E_less (ls2 := [some (.ref 67), none, some (.int p2)]) hq (rLe_at [some (.ref 67), none, some (.int p2)] [some (.ref 67), some (.int p1), some (.int p2)] (And.intro rfl (And.intro rfl trivial)))
  · skip
    refine P_l (fun hJ _ _ q => E_aload_n dX11_thing_41 rfl (E_getI clX11 24 (by decide) flX11_75 (Or.inl rfl) dX11_thing_42 (kd67 hJ.1.1) (E_iload_n dX11_thing_45 rfl (E_iconst (v := 0) dX11_thing_46 (by decide) q)))) ?_
    refine P_call (t := fun _ => none) (st2 := fun _ => []) (kc2 := 0) (ks2 := 0) (fun hJ => (ok_X11_enter (σ := σ5) (p1 := (if p1 = 4 then 2 else p1 : Int32)) (p2 := rI σ5 67 24) (p3 := p2) (p4 := 0) )) (fun hJ _ _ _ _ v τ1 hM q => E_callV (as := [.int ((if p1 = 4 then 2 else p1 : Int32)), .int (rI σ5 67 24), .int p2, .int 0]) (b := 67) (st := []) hM (by decide) yfX11_enter mlX11_328 imX11_enter seX11_enter clX11 (kd67 hJ.1.1) rfl (Nat.le_of_ble_eq_true rfl) rfl dX11_thing_47 q) (by decide) (by decide) (fun v6 σ7 => ?_)
    exact P_ret (fun _ _ => E_vret rfl dX11_thing_50)

def f_X11_lays (σ : rS) (p1 : Int32) : Option (Int32 × rS) := if (rI σ 67 24) = ((-1)) then (some ((0, σ))) else (if inB ((53 * (rI σ 67 24)) + p1) 212 then (if (rI σ 79 ((53 * (rI σ 67 24)) + p1 : Int32).toNatClampNeg) = 0 then (some ((0, σ))) else ((f_X11_isFull σ p1).bind fun v2 => if v2 = 0 then (oLet (wI σ 79 ((53 * (rI σ 67 24)) + p1 : Int32).toNatClampNeg ((rI σ 79 ((53 * (rI σ 67 24)) + p1 : Int32).toNatClampNeg) - 1)) fun σ3 => if inB p1 52 then (oLet (wI σ3 80 (p1 : Int32).toNatClampNeg ((rI σ3 80 (p1 : Int32).toNatClampNeg) + 1)) fun σ5 => oB (f_X11_thing σ5 1 p1) fun _ σ7 => some ((1, σ7))) else none) else (some ((0, σ))))) else none)
set_option maxRecDepth 20000 in
set_option maxHeartbeats 2000000 in
theorem ok_X11_lays {σ : rS} {p1 : Int32}   : rFn Sy yX11_lays mX11_lays 2 [.ref 67, .int p1] σ 0 0 (fun v => .inl (some (.int v))) (f_X11_lays σ p1) := by
  refine rF_of (ls := [some (.ref 67), some (.int p1)]) yfX11_lays rfl (Nat.le_of_ble_eq_true rfl) (fun o τ => ?_)
  unfold f_X11_lays
  refine P_l (fun hJ _ _ q => E_aload_n dX11_lays_0 rfl (E_getI clX11 24 (by decide) flX11_75 (Or.inl rfl) dX11_lays_1 (kd67 hJ.1.1) (E_iconst (v := (-1)) dX11_lays_4 (by decide) q))) ?_
  refine P_if (fun hJ _ _ h1 h2 => E_icmp_eq 33 dX11_lays_5 (by decide) h1 h2) ?_ ?_
  · skip
    refine P_l (fun hJ _ _ q => E_iconst (v := 0) dX11_lays_33 (by decide) q) ?_
    exact P_ret (fun _ _ => E_zret01 rfl (by decide) dX11_lays_34)
  · skip
    refine P_l (fun hJ _ _ q => E_aload_n dX11_lays_8 rfl (E_getR (b := 79) clX11 18 (by decide) flX11_63 (Or.inr ⟨_, rfl⟩) dX11_lays_9 (kd67 hJ.1.1) (rf67_18 hJ.1.1) (by decide) (E_bipush (v := 53) dX11_lays_12 (by decide) (E_aload_n dX11_lays_14 rfl (E_getI clX11 24 (by decide) flX11_75 (Or.inl rfl) dX11_lays_15 (kd67 hJ.1.1) (E_imul dX11_lays_18 (E_iload_n dX11_lays_19 rfl (E_iadd dX11_lays_20 q)))))))) ?_
    refine P_g (fun g1 => ?_)
    refine P_l (fun hJ _ _ q => E_iald dX11_lays_21 (kd79 hJ.1.1) (inB_vp g1) q) ?_
    refine P_if (fun hJ _ _ h1 h2 => E_if_eq 33 dX11_lays_22 (by decide) h1 h2) ?_ ?_
    · skip
      refine P_l (fun hJ _ _ q => E_iconst (v := 0) dX11_lays_33 (by decide) q) ?_
      exact P_ret (fun _ _ => E_zret01 rfl (by decide) dX11_lays_34)
    · skip
      refine P_l (fun hJ _ _ q => E_aload_n dX11_lays_25 rfl (E_iload_n dX11_lays_26 rfl q)) ?_
      refine P_callr (t := fun v => some (.int v)) (st2 := fun v => .int v :: []) (fun hJ => (ok_X11_isFull (σ := σ) (p1 := p1) )) (fun hJ _ _ v hM q => E_callV (as := [.int p1]) (b := 67) (st := []) hM (by decide) yfX11_isFull mlX11_332 imX11_isFull seX11_isFull clX11 (kd67 hJ.1.1) rfl (Nat.le_of_ble_eq_true rfl) rfl dX11_lays_27 q) (fun v2 => ?_)
      refine P_if (fun hJ _ _ h1 h2 => E_if_eq 35 dX11_lays_30 (by decide) h1 h2) ?_ ?_
      · skip
        refine P_l (fun hJ _ _ q => E_aload_n dX11_lays_35 rfl (E_getR (b := 79) clX11 18 (by decide) flX11_63 (Or.inr ⟨_, rfl⟩) dX11_lays_36 (kd67 hJ.1.1) (rf67_18 hJ.1.1) (by decide) (E_bipush (v := 53) dX11_lays_39 (by decide) (E_aload_n dX11_lays_41 rfl (E_getI clX11 24 (by decide) flX11_75 (Or.inl rfl) dX11_lays_42 (kd67 hJ.1.1) (E_imul dX11_lays_45 (E_iload_n dX11_lays_46 rfl (E_iadd dX11_lays_47 (E_dup2 dX11_lays_48 rfl rfl (E_iald dX11_lays_49 (kd79 hJ.1.1) (inB_vp g1) (E_iconst (v := 1) dX11_lays_50 (by decide) (E_isub dX11_lays_51 q)))))))))))) ?_
        refine P_w (fun hJ _ _ q => E_iast dX11_lays_52 (kd79 hJ.1.1) (by decide) (inB_vp g1) q) (fun hJ => Sy_wI hJ.1) rfl rfl rfl (fun σ3 hσ3 => ?_)
        refine P_l (fun hJ _ _ q => E_aload_n dX11_lays_53 rfl (E_getR (b := 80) clX11 19 (by decide) flX11_66 (Or.inr ⟨_, rfl⟩) dX11_lays_54 (kd67 hJ.1.1) (rf67_19 hJ.1.1) (by decide) (E_iload_n dX11_lays_57 rfl (E_dup2 dX11_lays_58 rfl rfl q)))) ?_
        refine P_g (fun g4 => ?_)
        refine P_l (fun hJ _ _ q => E_iald dX11_lays_59 (kd80 hJ.1.1) (inB_vp g4) (E_iconst (v := 1) dX11_lays_60 (by decide) (E_iadd dX11_lays_61 q))) ?_
        refine P_w (fun hJ _ _ q => E_iast dX11_lays_62 (kd80 hJ.1.1) (by decide) (inB_vp g4) q) (fun hJ => Sy_wI hJ.1) rfl rfl rfl (fun σ5 hσ5 => ?_)
        refine P_l (fun hJ _ _ q => E_aload_n dX11_lays_63 rfl (E_iconst (v := 1) dX11_lays_64 (by decide) (E_iload_n dX11_lays_65 rfl q))) ?_
        refine P_call (t := fun _ => none) (st2 := fun _ => []) (kc2 := 0) (ks2 := 0) (fun hJ => (ok_X11_thing (σ := σ5) (p1 := 1) (p2 := p1) )) (fun hJ _ _ _ _ v τ1 hM q => E_callV (as := [.int 1, .int p1]) (b := 67) (st := []) hM (by decide) yfX11_thing mlX11_335 imX11_thing seX11_thing clX11 (kd67 hJ.1.1) rfl (Nat.le_of_ble_eq_true rfl) rfl dX11_lays_66 q) (by decide) (by decide) (fun v6 σ7 => ?_)
        refine P_l (fun hJ _ _ q => E_iconst (v := 1) dX11_lays_69 (by decide) q) ?_
        exact P_ret (fun _ _ => E_zret01 rfl (by decide) dX11_lays_70)
      · skip
        refine P_l (fun hJ _ _ q => E_iconst (v := 0) dX11_lays_33 (by decide) q) ?_
        exact P_ret (fun _ _ => E_zret01 rfl (by decide) dX11_lays_34)

def f_X11_lay (σ : rS) (p1 : Int32) : Option (Int32 × rS) := oJoin (if (v_X11_isKind σ p1) = 0 then (some (.inr (((1 : Int32), σ)))) else (oB (f_X11_lays σ p1) fun v2 σ3 => if v2 = 0 then (some (.inr (((2 : Int32), σ3)))) else (some (.inr (((0 : Int32), σ3)))))) fun j1 => oB (f_X11_holds j1.2 j1.1) fun v4 σ5 => if v4 = 0 then (if inB p1 52 then (some (((rI σ5 80 (p1 : Int32).toNatClampNeg) + (rI σ5 81 (p1 : Int32).toNatClampNeg), σ5))) else none) else (some (((-1), σ5)))
set_option maxRecDepth 20000 in
set_option maxHeartbeats 2000000 in
theorem ok_X11_lay {σ : rS} {p1 : Int32}   : rFn Sy yX11_lay mX11_lay 3 [.ref 67, .int p1] σ 0 0 (fun v => .inl (some (.int v))) (f_X11_lay σ p1) := by
  refine rF_of (ls := [some (.ref 67), some (.int p1)]) yfX11_lay rfl (Nat.le_of_ble_eq_true rfl) (fun o τ => ?_)
  unfold f_X11_lay
  refine P_l (fun hJ _ _ q => E_aload_n dX11_lay_0 rfl (E_aload_n dX11_lay_1 rfl (E_iload_n dX11_lay_2 rfl (E_callV (as := [.int p1]) (b := 67) (st := [.ref 67]) (ok_X11_isKind (σ := σ) (p1 := p1) hJ ) (by decide) yfX11_isKind mlX11_294 imX11_isKind seX11_isKind clX11 (kd67 hJ.1.1) rfl (Nat.le_of_ble_eq_true rfl) rfl dX11_lay_3 q)))) ?_
  refine P_join (pc2 := 26) (fun j1 => [some (.ref 67), some (.int p1)]) (fun j1 => [.int j1.1, .ref 67]) (fun j1 => j1.2) ?_ (fun j1 => ?_)
  · skip
    refine P_if (fun hJ _ _ h1 h2 => E_if_ne 13 dX11_lay_6 (by decide) h2 h1) ?_ ?_
    · skip
      refine P_l (fun hJ _ _ q => E_iconst (v := 1) dX11_lay_9 (by decide) (E_goto 26 dX11_lay_10 (by decide) q)) ?_
      exact P_back (((1 : Int32), σ))
    · skip
      refine P_l (fun hJ _ _ q => E_aload_n dX11_lay_13 rfl (E_iload_n dX11_lay_14 rfl q)) ?_
      refine P_call (t := fun v => some (.int v)) (st2 := fun v => .int v :: [.ref 67]) (kc2 := 0) (ks2 := 0) (fun hJ => (ok_X11_lays (σ := σ) (p1 := p1) )) (fun hJ _ _ _ _ v τ1 hM q => E_callV (as := [.int p1]) (b := 67) (st := [.ref 67]) hM (by decide) yfX11_lays mlX11_338 imX11_lays seX11_lays clX11 (kd67 hJ.1.1) rfl (Nat.le_of_ble_eq_true rfl) rfl dX11_lay_15 q) (by decide) (by decide) (fun v2 σ3 => ?_)
      refine P_if (fun hJ _ _ h1 h2 => E_if_eq 25 dX11_lay_18 (by decide) h1 h2) ?_ ?_
      · skip
        refine P_l (fun hJ _ _ q => E_iconst (v := 2) dX11_lay_25 (by decide) q) ?_
        exact P_back (((2 : Int32), σ3))
      · skip
        refine P_l (fun hJ _ _ q => E_iconst (v := 0) dX11_lay_21 (by decide) (E_goto 26 dX11_lay_22 (by decide) q)) ?_
        exact P_back (((0 : Int32), σ3))
  · skip
    refine P_call (t := fun v => some (.int v)) (st2 := fun v => .int v :: []) (kc2 := 0) (ks2 := 0) (fun hJ => (ok_X11_holds (σ := j1.2) (p1 := j1.1) )) (fun hJ _ _ _ _ v τ1 hM q => E_callV (as := [.int j1.1]) (b := 67) (st := []) hM (by decide) yfX11_holds mlX11_265 imX11_holds seX11_holds clX11 (kd67 hJ.1.1) rfl (Nat.le_of_ble_eq_true rfl) rfl dX11_lay_26 q) (by decide) (by decide) (fun v4 σ5 => ?_)
    refine P_if (fun hJ _ _ h1 h2 => E_if_eq 34 dX11_lay_29 (by decide) h1 h2) ?_ ?_
    · skip
      refine P_l (fun hJ _ _ q => E_aload_n dX11_lay_34 rfl (E_getR (b := 80) clX11 19 (by decide) flX11_66 (Or.inr ⟨_, rfl⟩) dX11_lay_35 (kd67 hJ.1.1) (rf67_19 hJ.1.1) (by decide) (E_iload_n dX11_lay_38 rfl q))) ?_
      refine P_g (fun g6 => ?_)
      refine P_l (fun hJ _ _ q => E_iald dX11_lay_39 (kd80 hJ.1.1) (inB_vp g6) (E_aload_n dX11_lay_40 rfl (E_getR (b := 81) clX11 20 (by decide) flX11_69 (Or.inr ⟨_, rfl⟩) dX11_lay_41 (kd67 hJ.1.1) (rf67_20 hJ.1.1) (by decide) (E_iload_n dX11_lay_44 rfl (E_iald dX11_lay_45 (kd81 hJ.1.1) (inB_vp g6) (E_iadd dX11_lay_46 q)))))) ?_
      exact P_ret (fun _ _ => E_iret rfl dX11_lay_47)
    · skip
      refine P_l (fun hJ _ _ q => E_iconst (v := (-1)) dX11_lay_32 (by decide) q) ?_
      exact P_ret (fun _ _ => E_iret rfl dX11_lay_33)

def f_X11_laysJoker (σ : rS) (p1 : Int32) : Option (Int32 × rS) := if (rI σ 67 24) = ((-1)) then (some ((0, σ))) else (if (rI σ 67 22) = 0 then (if inB ((53 * (rI σ 67 24)) + 52) 212 then (if (rI σ 79 ((53 * (rI σ 67 24)) + 52 : Int32).toNatClampNeg) = 0 then (some ((0, σ))) else ((f_X11_isFull σ p1).bind fun v2 => if v2 = 0 then (oLet ((if (rI σ 67 22) ≤ 0 then 0 else 1 : Int32) : Int32) fun x3 => oJoin (if x3 = 0 then (oLet (wI σ 79 ((53 * (rI σ 67 24)) + 52 : Int32).toNatClampNeg ((rI σ 79 ((53 * (rI σ 67 24)) + 52 : Int32).toNatClampNeg) - 1)) fun σ5 => some (.inr σ5)) else (oLet (wI σ 67 22 ((rI σ 67 22) - 1)) fun σ6 => some (.inr σ6))) fun j4 => if inB p1 52 then (oLet (wI j4 81 (p1 : Int32).toNatClampNeg ((rI j4 81 (p1 : Int32).toNatClampNeg) + 1)) fun σ8 => oB (f_X11_thing σ8 ((if x3 = 0 then 2 else 4 : Int32)) p1) fun _ σ10 => some ((1, σ10))) else none) else (some ((0, σ))))) else none) else ((f_X11_isFull σ p1).bind fun v11 => if v11 = 0 then (oLet ((if (rI σ 67 22) ≤ 0 then 0 else 1 : Int32) : Int32) fun x12 => oJoin (if x12 = 0 then (if inB ((53 * (rI σ 67 24)) + 52) 212 then (oLet (wI σ 79 ((53 * (rI σ 67 24)) + 52 : Int32).toNatClampNeg ((rI σ 79 ((53 * (rI σ 67 24)) + 52 : Int32).toNatClampNeg) - 1)) fun σ15 => some (.inr σ15)) else none) else (oLet (wI σ 67 22 ((rI σ 67 22) - 1)) fun σ16 => some (.inr σ16))) fun j13 => if inB p1 52 then (oLet (wI j13 81 (p1 : Int32).toNatClampNeg ((rI j13 81 (p1 : Int32).toNatClampNeg) + 1)) fun σ18 => oB (f_X11_thing σ18 ((if x12 = 0 then 2 else 4 : Int32)) p1) fun _ σ20 => some ((1, σ20))) else none) else (some ((0, σ)))))
set_option maxRecDepth 20000 in
set_option maxHeartbeats 2000000 in
theorem ok_X11_laysJoker {σ : rS} {p1 : Int32}   : rFn Sy yX11_laysJoker mX11_laysJoker 2 [.ref 67, .int p1] σ 0 0 (fun v => .inl (some (.int v))) (f_X11_laysJoker σ p1) := by
  refine rF_of (ls := [some (.ref 67), some (.int p1), none]) yfX11_laysJoker rfl (Nat.le_of_ble_eq_true rfl) (fun o τ => ?_)
  unfold f_X11_laysJoker
  refine P_l (fun hJ _ _ q => E_aload_n dX11_laysJoker_0 rfl (E_getI clX11 24 (by decide) flX11_75 (Or.inl rfl) dX11_laysJoker_1 (kd67 hJ.1.1) (E_iconst (v := (-1)) dX11_laysJoker_4 (by decide) q))) ?_
  refine P_if (fun hJ _ _ h1 h2 => E_icmp_eq 41 dX11_laysJoker_5 (by decide) h1 h2) ?_ ?_
  · skip
    refine P_l (fun hJ _ _ q => E_iconst (v := 0) dX11_laysJoker_41 (by decide) q) ?_
    exact P_ret (fun _ _ => E_zret01 rfl (by decide) dX11_laysJoker_42)
  · skip
    refine P_l (fun hJ _ _ q => E_aload_n dX11_laysJoker_8 rfl (E_getI clX11 22 (by decide) flX11_300 (Or.inl rfl) dX11_laysJoker_9 (kd67 hJ.1.1) q)) ?_
    refine P_if (fun hJ _ _ h1 h2 => E_if_ne 33 dX11_laysJoker_12 (by decide) h2 h1) ?_ ?_
    · skip
      refine P_l (fun hJ _ _ q => E_aload_n dX11_laysJoker_15 rfl (E_getR (b := 79) clX11 18 (by decide) flX11_63 (Or.inr ⟨_, rfl⟩) dX11_laysJoker_16 (kd67 hJ.1.1) (rf67_18 hJ.1.1) (by decide) (E_bipush (v := 53) dX11_laysJoker_19 (by decide) (E_aload_n dX11_laysJoker_21 rfl (E_getI clX11 24 (by decide) flX11_75 (Or.inl rfl) dX11_laysJoker_22 (kd67 hJ.1.1) (E_imul dX11_laysJoker_25 (E_bipush (v := 52) dX11_laysJoker_26 (by decide) (E_iadd dX11_laysJoker_28 q)))))))) ?_
      refine P_g (fun g1 => ?_)
      refine P_l (fun hJ _ _ q => E_iald dX11_laysJoker_29 (kd79 hJ.1.1) (inB_vp g1) q) ?_
      refine P_if (fun hJ _ _ h1 h2 => E_if_eq 41 dX11_laysJoker_30 (by decide) h1 h2) ?_ ?_
      · skip
        refine P_l (fun hJ _ _ q => E_iconst (v := 0) dX11_laysJoker_41 (by decide) q) ?_
        exact P_ret (fun _ _ => E_zret01 rfl (by decide) dX11_laysJoker_42)
      · skip
        refine P_l (fun hJ _ _ q => E_aload_n dX11_laysJoker_33 rfl (E_iload_n dX11_laysJoker_34 rfl q)) ?_
        refine P_callr (t := fun v => some (.int v)) (st2 := fun v => .int v :: []) (fun hJ => (ok_X11_isFull (σ := σ) (p1 := p1) )) (fun hJ _ _ v hM q => E_callV (as := [.int p1]) (b := 67) (st := []) hM (by decide) yfX11_isFull mlX11_332 imX11_isFull seX11_isFull clX11 (kd67 hJ.1.1) rfl (Nat.le_of_ble_eq_true rfl) rfl dX11_laysJoker_35 q) (fun v2 => ?_)
        refine P_if (fun hJ _ _ h1 h2 => E_if_eq 43 dX11_laysJoker_38 (by decide) h1 h2) ?_ ?_
        · skip
          refine P_l (fun hJ _ _ q => E_aload_n dX11_laysJoker_43 rfl (E_getI clX11 22 (by decide) flX11_300 (Or.inl rfl) dX11_laysJoker_44 (kd67 hJ.1.1) q)) ?_
          refine P_l (pc2 := 55) (ls2 := [some (.ref 67), some (.int p1), none]) (st2 := [.int ((if (rI σ 67 22) ≤ 0 then 0 else 1 : Int32))]) (fun hJ _ _ hq => ?_) ?_
          · skip
            refine E_if_le 54 dX11_laysJoker_47 (by decide) (fun c_47_0 => ?_) (fun c_47_0 => ?_)
            · skip
              refine E_iconst (v := 0) dX11_laysJoker_54 (by decide) ?_
              simp only [if_pos c_47_0] at hq
              exact hq
            · skip
              refine E_iconst (v := 1) dX11_laysJoker_50 (by decide) ?_
              refine E_goto 55 dX11_laysJoker_51 (by decide) ?_
              simp only [if_neg c_47_0] at hq
              exact hq
          · skip
            refine P_l (fun hJ _ _ q => E_istore_n (ls2 := [some (.ref 67), some (.int p1), some (.int ((if (rI σ 67 22) ≤ 0 then 0 else 1 : Int32)))]) dX11_laysJoker_55 (by decide) rfl q) ?_
            refine P_v ((if (rI σ 67 22) ≤ 0 then 0 else 1 : Int32)) (fun x => [some (.ref 67), some (.int p1), some (.int x)]) (fun x3 => ?_)
            refine P_l (fun hJ _ _ q => E_iload_n dX11_laysJoker_56 rfl q) ?_
            refine P_join (pc2 := 92) (fun j4 => [some (.ref 67), some (.int p1), some (.int x3)]) (fun j4 => []) (fun j4 => j4) ?_ (fun j4 => ?_)
            · skip
              refine P_if (fun hJ _ _ h1 h2 => E_if_eq 73 dX11_laysJoker_57 (by decide) h1 h2) ?_ ?_
              · skip
                refine P_l (fun hJ _ _ q => E_aload_n dX11_laysJoker_73 rfl (E_getR (b := 79) clX11 18 (by decide) flX11_63 (Or.inr ⟨_, rfl⟩) dX11_laysJoker_74 (kd67 hJ.1.1) (rf67_18 hJ.1.1) (by decide) (E_bipush (v := 53) dX11_laysJoker_77 (by decide) (E_aload_n dX11_laysJoker_79 rfl (E_getI clX11 24 (by decide) flX11_75 (Or.inl rfl) dX11_laysJoker_80 (kd67 hJ.1.1) (E_imul dX11_laysJoker_83 (E_bipush (v := 52) dX11_laysJoker_84 (by decide) (E_iadd dX11_laysJoker_86 (E_dup2 dX11_laysJoker_87 rfl rfl (E_iald dX11_laysJoker_88 (kd79 hJ.1.1) (inB_vp g1) (E_iconst (v := 1) dX11_laysJoker_89 (by decide) (E_isub dX11_laysJoker_90 q)))))))))))) ?_
                refine P_w (fun hJ _ _ q => E_iast dX11_laysJoker_91 (kd79 hJ.1.1) (by decide) (inB_vp g1) q) (fun hJ => Sy_wI hJ.1) rfl rfl rfl (fun σ5 hσ5 => ?_)
                exact P_back σ5
              · skip
                refine P_l (fun hJ _ _ q => E_aload_n dX11_laysJoker_60 rfl (E_dup dX11_laysJoker_61 rfl (E_getI clX11 22 (by decide) flX11_300 (Or.inl rfl) dX11_laysJoker_62 (kd67 hJ.1.1) (E_iconst (v := 1) dX11_laysJoker_65 (by decide) (E_isub dX11_laysJoker_66 q))))) ?_
                refine P_w (fun hJ _ _ q => E_putI clX11 22 (by decide) flX11_300 (Or.inl rfl) rfl dX11_laysJoker_67 (kd67 hJ.1.1) q) (fun hJ => Sy_wI hJ.1) rfl rfl rfl (fun σ6 hσ6 => ?_)
                refine P_l (fun hJ _ _ q => E_goto 92 dX11_laysJoker_70 (by decide) q) ?_
                exact P_back σ6
            · skip
              refine P_l (fun hJ _ _ q => E_aload_n dX11_laysJoker_92 rfl (E_getR (b := 81) clX11 20 (by decide) flX11_69 (Or.inr ⟨_, rfl⟩) dX11_laysJoker_93 (kd67 hJ.1.1) (rf67_20 hJ.1.1) (by decide) (E_iload_n dX11_laysJoker_96 rfl (E_dup2 dX11_laysJoker_97 rfl rfl q)))) ?_
              refine P_g (fun g7 => ?_)
              refine P_l (fun hJ _ _ q => E_iald dX11_laysJoker_98 (kd81 hJ.1.1) (inB_vp g7) (E_iconst (v := 1) dX11_laysJoker_99 (by decide) (E_iadd dX11_laysJoker_100 q))) ?_
              refine P_w (fun hJ _ _ q => E_iast dX11_laysJoker_101 (kd81 hJ.1.1) (by decide) (inB_vp g7) q) (fun hJ => Sy_wI hJ.1) rfl rfl rfl (fun σ8 hσ8 => ?_)
              refine P_l (fun hJ _ _ q => E_aload_n dX11_laysJoker_102 rfl (E_iload_n dX11_laysJoker_103 rfl q)) ?_
              refine P_l (pc2 := 112) (ls2 := [none, some (.int p1), none]) (st2 := [.int ((if x3 = 0 then 2 else 4 : Int32)), .ref 67]) (fun hJ _ _ hq => ?_) ?_
              · skip
                refine E_if_eq 111 dX11_laysJoker_104 (by decide) (fun c_104_0 => ?_) (fun c_104_0 => ?_)
                · skip
                  refine E_iconst (v := 2) dX11_laysJoker_111 (by decide) ?_
                  simp only [if_pos c_104_0] at hq
                  exact E_less (ls2 := [none, some (.int p1), none]) hq (rLe_at [none, some (.int p1), none] [some (.ref 67), some (.int p1), some (.int x3)] (And.intro rfl trivial))
                · skip
                  refine E_iconst (v := 4) dX11_laysJoker_107 (by decide) ?_
                  refine E_goto 112 dX11_laysJoker_108 (by decide) ?_
                  simp only [if_neg c_104_0] at hq
                  exact E_less (ls2 := [none, some (.int p1), none]) hq (rLe_at [none, some (.int p1), none] [some (.ref 67), some (.int p1), some (.int x3)] (And.intro rfl trivial))
              · skip
                refine P_l (fun hJ _ _ q => E_iload_n dX11_laysJoker_112 rfl q) ?_
                refine P_call (t := fun _ => none) (st2 := fun _ => []) (kc2 := 0) (ks2 := 0) (fun hJ => (ok_X11_thing (σ := σ8) (p1 := (if x3 = 0 then 2 else 4 : Int32)) (p2 := p1) )) (fun hJ _ _ _ _ v τ1 hM q => E_callV (as := [.int ((if x3 = 0 then 2 else 4 : Int32)), .int p1]) (b := 67) (st := []) hM (by decide) yfX11_thing mlX11_335 imX11_thing seX11_thing clX11 (kd67 hJ.1.1) rfl (Nat.le_of_ble_eq_true rfl) rfl dX11_laysJoker_113 q) (by decide) (by decide) (fun v9 σ10 => ?_)
                refine P_l (fun hJ _ _ q => E_iconst (v := 1) dX11_laysJoker_116 (by decide) q) ?_
                exact P_ret (fun _ _ => E_zret01 rfl (by decide) dX11_laysJoker_117)
        · skip
          refine P_l (fun hJ _ _ q => E_iconst (v := 0) dX11_laysJoker_41 (by decide) q) ?_
          exact P_ret (fun _ _ => E_zret01 rfl (by decide) dX11_laysJoker_42)
    · skip
      refine P_l (fun hJ _ _ q => E_aload_n dX11_laysJoker_33 rfl (E_iload_n dX11_laysJoker_34 rfl q)) ?_
      refine P_callr (t := fun v => some (.int v)) (st2 := fun v => .int v :: []) (fun hJ => (ok_X11_isFull (σ := σ) (p1 := p1) )) (fun hJ _ _ v hM q => E_callV (as := [.int p1]) (b := 67) (st := []) hM (by decide) yfX11_isFull mlX11_332 imX11_isFull seX11_isFull clX11 (kd67 hJ.1.1) rfl (Nat.le_of_ble_eq_true rfl) rfl dX11_laysJoker_35 q) (fun v11 => ?_)
      refine P_if (fun hJ _ _ h1 h2 => E_if_eq 43 dX11_laysJoker_38 (by decide) h1 h2) ?_ ?_
      · skip
        refine P_l (fun hJ _ _ q => E_aload_n dX11_laysJoker_43 rfl (E_getI clX11 22 (by decide) flX11_300 (Or.inl rfl) dX11_laysJoker_44 (kd67 hJ.1.1) q)) ?_
        refine P_l (pc2 := 55) (ls2 := [some (.ref 67), some (.int p1), none]) (st2 := [.int ((if (rI σ 67 22) ≤ 0 then 0 else 1 : Int32))]) (fun hJ _ _ hq => ?_) ?_
        · skip
          refine E_if_le 54 dX11_laysJoker_47 (by decide) (fun c_47_0 => ?_) (fun c_47_0 => ?_)
          · skip
            refine E_iconst (v := 0) dX11_laysJoker_54 (by decide) ?_
            simp only [if_pos c_47_0] at hq
            exact hq
          · skip
            refine E_iconst (v := 1) dX11_laysJoker_50 (by decide) ?_
            refine E_goto 55 dX11_laysJoker_51 (by decide) ?_
            simp only [if_neg c_47_0] at hq
            exact hq
        · skip
          refine P_l (fun hJ _ _ q => E_istore_n (ls2 := [some (.ref 67), some (.int p1), some (.int ((if (rI σ 67 22) ≤ 0 then 0 else 1 : Int32)))]) dX11_laysJoker_55 (by decide) rfl q) ?_
          refine P_v ((if (rI σ 67 22) ≤ 0 then 0 else 1 : Int32)) (fun x => [some (.ref 67), some (.int p1), some (.int x)]) (fun x12 => ?_)
          refine P_l (fun hJ _ _ q => E_iload_n dX11_laysJoker_56 rfl q) ?_
          refine P_join (pc2 := 92) (fun j13 => [some (.ref 67), some (.int p1), some (.int x12)]) (fun j13 => []) (fun j13 => j13) ?_ (fun j13 => ?_)
          · skip
            refine P_if (fun hJ _ _ h1 h2 => E_if_eq 73 dX11_laysJoker_57 (by decide) h1 h2) ?_ ?_
            · skip
              refine P_l (fun hJ _ _ q => E_aload_n dX11_laysJoker_73 rfl (E_getR (b := 79) clX11 18 (by decide) flX11_63 (Or.inr ⟨_, rfl⟩) dX11_laysJoker_74 (kd67 hJ.1.1) (rf67_18 hJ.1.1) (by decide) (E_bipush (v := 53) dX11_laysJoker_77 (by decide) (E_aload_n dX11_laysJoker_79 rfl (E_getI clX11 24 (by decide) flX11_75 (Or.inl rfl) dX11_laysJoker_80 (kd67 hJ.1.1) (E_imul dX11_laysJoker_83 (E_bipush (v := 52) dX11_laysJoker_84 (by decide) (E_iadd dX11_laysJoker_86 (E_dup2 dX11_laysJoker_87 rfl rfl q))))))))) ?_
              refine P_g (fun g14 => ?_)
              refine P_l (fun hJ _ _ q => E_iald dX11_laysJoker_88 (kd79 hJ.1.1) (inB_vp g14) (E_iconst (v := 1) dX11_laysJoker_89 (by decide) (E_isub dX11_laysJoker_90 q))) ?_
              refine P_w (fun hJ _ _ q => E_iast dX11_laysJoker_91 (kd79 hJ.1.1) (by decide) (inB_vp g14) q) (fun hJ => Sy_wI hJ.1) rfl rfl rfl (fun σ15 hσ15 => ?_)
              exact P_back σ15
            · skip
              refine P_l (fun hJ _ _ q => E_aload_n dX11_laysJoker_60 rfl (E_dup dX11_laysJoker_61 rfl (E_getI clX11 22 (by decide) flX11_300 (Or.inl rfl) dX11_laysJoker_62 (kd67 hJ.1.1) (E_iconst (v := 1) dX11_laysJoker_65 (by decide) (E_isub dX11_laysJoker_66 q))))) ?_
              refine P_w (fun hJ _ _ q => E_putI clX11 22 (by decide) flX11_300 (Or.inl rfl) rfl dX11_laysJoker_67 (kd67 hJ.1.1) q) (fun hJ => Sy_wI hJ.1) rfl rfl rfl (fun σ16 hσ16 => ?_)
              refine P_l (fun hJ _ _ q => E_goto 92 dX11_laysJoker_70 (by decide) q) ?_
              exact P_back σ16
          · skip
            refine P_l (fun hJ _ _ q => E_aload_n dX11_laysJoker_92 rfl (E_getR (b := 81) clX11 20 (by decide) flX11_69 (Or.inr ⟨_, rfl⟩) dX11_laysJoker_93 (kd67 hJ.1.1) (rf67_20 hJ.1.1) (by decide) (E_iload_n dX11_laysJoker_96 rfl (E_dup2 dX11_laysJoker_97 rfl rfl q)))) ?_
            refine P_g (fun g17 => ?_)
            refine P_l (fun hJ _ _ q => E_iald dX11_laysJoker_98 (kd81 hJ.1.1) (inB_vp g17) (E_iconst (v := 1) dX11_laysJoker_99 (by decide) (E_iadd dX11_laysJoker_100 q))) ?_
            refine P_w (fun hJ _ _ q => E_iast dX11_laysJoker_101 (kd81 hJ.1.1) (by decide) (inB_vp g17) q) (fun hJ => Sy_wI hJ.1) rfl rfl rfl (fun σ18 hσ18 => ?_)
            refine P_l (fun hJ _ _ q => E_aload_n dX11_laysJoker_102 rfl (E_iload_n dX11_laysJoker_103 rfl q)) ?_
            refine P_l (pc2 := 112) (ls2 := [none, some (.int p1), none]) (st2 := [.int ((if x12 = 0 then 2 else 4 : Int32)), .ref 67]) (fun hJ _ _ hq => ?_) ?_
            · skip
              refine E_if_eq 111 dX11_laysJoker_104 (by decide) (fun c_104_0 => ?_) (fun c_104_0 => ?_)
              · skip
                refine E_iconst (v := 2) dX11_laysJoker_111 (by decide) ?_
                simp only [if_pos c_104_0] at hq
                exact E_less (ls2 := [none, some (.int p1), none]) hq (rLe_at [none, some (.int p1), none] [some (.ref 67), some (.int p1), some (.int x12)] (And.intro rfl trivial))
              · skip
                refine E_iconst (v := 4) dX11_laysJoker_107 (by decide) ?_
                refine E_goto 112 dX11_laysJoker_108 (by decide) ?_
                simp only [if_neg c_104_0] at hq
                exact E_less (ls2 := [none, some (.int p1), none]) hq (rLe_at [none, some (.int p1), none] [some (.ref 67), some (.int p1), some (.int x12)] (And.intro rfl trivial))
            · skip
              refine P_l (fun hJ _ _ q => E_iload_n dX11_laysJoker_112 rfl q) ?_
              refine P_call (t := fun _ => none) (st2 := fun _ => []) (kc2 := 0) (ks2 := 0) (fun hJ => (ok_X11_thing (σ := σ18) (p1 := (if x12 = 0 then 2 else 4 : Int32)) (p2 := p1) )) (fun hJ _ _ _ _ v τ1 hM q => E_callV (as := [.int ((if x12 = 0 then 2 else 4 : Int32)), .int p1]) (b := 67) (st := []) hM (by decide) yfX11_thing mlX11_335 imX11_thing seX11_thing clX11 (kd67 hJ.1.1) rfl (Nat.le_of_ble_eq_true rfl) rfl dX11_laysJoker_113 q) (by decide) (by decide) (fun v19 σ20 => ?_)
              refine P_l (fun hJ _ _ q => E_iconst (v := 1) dX11_laysJoker_116 (by decide) q) ?_
              exact P_ret (fun _ _ => E_zret01 rfl (by decide) dX11_laysJoker_117)
      · skip
        refine P_l (fun hJ _ _ q => E_iconst (v := 0) dX11_laysJoker_41 (by decide) q) ?_
        exact P_ret (fun _ _ => E_zret01 rfl (by decide) dX11_laysJoker_42)

def b_X11_jokersLaid_4 (σ : rS) (s1 : Int32 × Int32) : Option (Int32 ⊕ (Int32 × Int32)) := if 52 ≤ s1.2 then (some (.inl s1.1)) else (if inB s1.2 52 then (oLet (s1.1 + (rI σ 81 (s1.2 : Int32).toNatClampNeg) : Int32) fun x3 => some (.inr ((x3, s1.2 + 1)))) else none)
def f_X11_jokersLaid (σ : rS) : Option Int32 := oLoop (b_X11_jokersLaid_4 σ) oFuel ((0, 0))
set_option maxRecDepth 20000 in
set_option maxHeartbeats 2000000 in
theorem ok_X11_jokersLaid {σ : rS}   : rFr Sy yX11_jokersLaid mX11_jokersLaid 0 [.ref 67] σ (fun v => some (.int v)) (f_X11_jokersLaid σ) := by
  refine rFr_of (ls := [some (.ref 67), none, none]) yfX11_jokersLaid rfl (Nat.le_of_ble_eq_true rfl) (fun o τ => ?_)
  unfold f_X11_jokersLaid
  refine P_l (fun hJ _ _ q => E_iconst (v := 0) dX11_jokersLaid_0 (by decide) (E_istore_n (ls2 := [some (.ref 67), some (.int 0), none]) dX11_jokersLaid_1 (by decide) rfl (E_iconst (v := 0) dX11_jokersLaid_2 (by decide) (E_istore_n (ls2 := [some (.ref 67), some (.int 0), some (.int 0)]) dX11_jokersLaid_3 (by decide) rfl q)))) ?_
  refine P_loop (fun s1 => [some (.ref 67), some (.int s1.1), some (.int s1.2)]) (fun _ => σ) (fun s1 => ?_) _ ((0, 0))
  unfold b_X11_jokersLaid_4
  refine P_l (fun hJ _ _ q => E_iload_n dX11_jokersLaid_4 rfl (E_bipush (v := 52) dX11_jokersLaid_5 (by decide) q)) ?_
  refine P_if (fun hJ _ _ h1 h2 => E_icmp_ge 25 dX11_jokersLaid_7 (by decide) h1 h2) ?_ ?_
  · skip
    refine P_l (fun hJ _ _ q => E_iload_n dX11_jokersLaid_25 rfl q) ?_
    exact P_inl (P_retr (fun _ _ => E_iret rfl dX11_jokersLaid_26))
  · skip
    refine P_l (fun hJ _ _ q => E_iload_n dX11_jokersLaid_10 rfl (E_aload_n dX11_jokersLaid_11 rfl (E_getR (b := 81) clX11 20 (by decide) flX11_69 (Or.inr ⟨_, rfl⟩) dX11_jokersLaid_12 (kd67 hJ.1.1) (rf67_20 hJ.1.1) (by decide) (E_iload_n dX11_jokersLaid_15 rfl q)))) ?_
    refine P_g (fun g2 => ?_)
    refine P_l (fun hJ _ _ q => E_iald dX11_jokersLaid_16 (kd81 hJ.1.1) (inB_vp g2) (E_iadd dX11_jokersLaid_17 (E_istore_n (ls2 := [some (.ref 67), some (.int (s1.1 + (rI σ 81 (s1.2 : Int32).toNatClampNeg))), some (.int s1.2)]) dX11_jokersLaid_18 (by decide) rfl q))) ?_
    refine P_v (s1.1 + (rI σ 81 (s1.2 : Int32).toNatClampNeg)) (fun x => [some (.ref 67), some (.int x), some (.int s1.2)]) (fun x3 => ?_)
    refine P_l (fun hJ _ _ q => E_iinc (v := 1) (ls2 := [some (.ref 67), some (.int x3), some (.int (s1.2 + 1))]) dX11_jokersLaid_19 rfl (by decide) (by decide) rfl (E_goto 4 dX11_jokersLaid_22 (by decide) q)) ?_
    exact P_back ((x3, s1.2 + 1))

def f_X11_joker (σ : rS) (p1 : Int32) : Option (Int32 × rS) := if (v_X11_isKind σ p1) = 0 then (oB (f_X11_holds σ 1) fun v1 σ2 => if v1 = 0 then ((f_X11_jokersLaid σ2).bind fun v3 => some ((v3, σ2))) else (some (((-1), σ2)))) else (oB (f_X11_laysJoker σ p1) fun v4 σ5 => oB (f_X11_holds σ5 ((if v4 = 0 then 2 else 0 : Int32))) fun v6 σ7 => if v6 = 0 then ((f_X11_jokersLaid σ7).bind fun v8 => some ((v8, σ7))) else (some (((-1), σ7))))
set_option maxRecDepth 20000 in
set_option maxHeartbeats 2000000 in
theorem ok_X11_joker {σ : rS} {p1 : Int32}   : rFn Sy yX11_joker mX11_joker 3 [.ref 67, .int p1] σ 0 0 (fun v => .inl (some (.int v))) (f_X11_joker σ p1) := by
  refine rF_of (ls := [some (.ref 67), some (.int p1)]) yfX11_joker rfl (Nat.le_of_ble_eq_true rfl) (fun o τ => ?_)
  unfold f_X11_joker
  refine P_l (fun hJ _ _ q => E_aload_n dX11_joker_0 rfl (E_aload_n dX11_joker_1 rfl (E_iload_n dX11_joker_2 rfl (E_callV (as := [.int p1]) (b := 67) (st := [.ref 67]) (ok_X11_isKind (σ := σ) (p1 := p1) hJ ) (by decide) yfX11_isKind mlX11_294 imX11_isKind seX11_isKind clX11 (kd67 hJ.1.1) rfl (Nat.le_of_ble_eq_true rfl) rfl dX11_joker_3 q)))) ?_
  refine P_if (fun hJ _ _ h1 h2 => E_if_ne 13 dX11_joker_6 (by decide) h2 h1) ?_ ?_
  · skip
    refine P_l (fun hJ _ _ q => E_iconst (v := 1) dX11_joker_9 (by decide) (E_goto 26 dX11_joker_10 (by decide) q)) ?_
    refine P_call (t := fun v => some (.int v)) (st2 := fun v => .int v :: []) (kc2 := 0) (ks2 := 0) (fun hJ => (ok_X11_holds (σ := σ) (p1 := 1) )) (fun hJ _ _ _ _ v τ1 hM q => E_callV (as := [.int 1]) (b := 67) (st := []) hM (by decide) yfX11_holds mlX11_265 imX11_holds seX11_holds clX11 (kd67 hJ.1.1) rfl (Nat.le_of_ble_eq_true rfl) rfl dX11_joker_26 q) (by decide) (by decide) (fun v1 σ2 => ?_)
    refine P_if (fun hJ _ _ h1 h2 => E_if_eq 34 dX11_joker_29 (by decide) h1 h2) ?_ ?_
    · skip
      refine P_l (fun hJ _ _ q => E_aload_n dX11_joker_34 rfl q) ?_
      refine P_callr (t := fun v => some (.int v)) (st2 := fun v => .int v :: []) (fun hJ => (ok_X11_jokersLaid (σ := σ2)  )) (fun hJ _ _ v hM q => E_callV (as := []) (b := 67) (st := []) hM (by decide) yfX11_jokersLaid mlX11_344 imX11_jokersLaid seX11_jokersLaid clX11 (kd67 hJ.1.1) rfl (Nat.le_of_ble_eq_true rfl) rfl dX11_joker_35 q) (fun v3 => ?_)
      exact P_ret (fun _ _ => E_iret rfl dX11_joker_38)
    · skip
      refine P_l (fun hJ _ _ q => E_iconst (v := (-1)) dX11_joker_32 (by decide) q) ?_
      exact P_ret (fun _ _ => E_iret rfl dX11_joker_33)
  · skip
    refine P_l (fun hJ _ _ q => E_aload_n dX11_joker_13 rfl (E_iload_n dX11_joker_14 rfl q)) ?_
    refine P_call (t := fun v => some (.int v)) (st2 := fun v => .int v :: [.ref 67]) (kc2 := 0) (ks2 := 0) (fun hJ => (ok_X11_laysJoker (σ := σ) (p1 := p1) )) (fun hJ _ _ _ _ v τ1 hM q => E_callV (as := [.int p1]) (b := 67) (st := [.ref 67]) hM (by decide) yfX11_laysJoker mlX11_341 imX11_laysJoker seX11_laysJoker clX11 (kd67 hJ.1.1) rfl (Nat.le_of_ble_eq_true rfl) rfl dX11_joker_15 q) (by decide) (by decide) (fun v4 σ5 => ?_)
    refine P_l (pc2 := 26) (ls2 := [some (.ref 67), none]) (st2 := [.int ((if v4 = 0 then 2 else 0 : Int32)), .ref 67]) (fun hJ _ _ hq => ?_) ?_
    · skip
      refine E_if_eq 25 dX11_joker_18 (by decide) (fun c_18_0 => ?_) (fun c_18_0 => ?_)
      · skip
        refine E_iconst (v := 2) dX11_joker_25 (by decide) ?_
        simp only [if_pos c_18_0] at hq
        exact E_less (ls2 := [some (.ref 67), none]) hq (rLe_at [some (.ref 67), none] [some (.ref 67), some (.int p1)] (And.intro rfl trivial))
      · skip
        refine E_iconst (v := 0) dX11_joker_21 (by decide) ?_
        refine E_goto 26 dX11_joker_22 (by decide) ?_
        simp only [if_neg c_18_0] at hq
        exact E_less (ls2 := [some (.ref 67), none]) hq (rLe_at [some (.ref 67), none] [some (.ref 67), some (.int p1)] (And.intro rfl trivial))
    · skip
      refine P_call (t := fun v => some (.int v)) (st2 := fun v => .int v :: []) (kc2 := 0) (ks2 := 0) (fun hJ => (ok_X11_holds (σ := σ5) (p1 := (if v4 = 0 then 2 else 0 : Int32)) )) (fun hJ _ _ _ _ v τ1 hM q => E_callV (as := [.int ((if v4 = 0 then 2 else 0 : Int32))]) (b := 67) (st := []) hM (by decide) yfX11_holds mlX11_265 imX11_holds seX11_holds clX11 (kd67 hJ.1.1) rfl (Nat.le_of_ble_eq_true rfl) rfl dX11_joker_26 q) (by decide) (by decide) (fun v6 σ7 => ?_)
      refine P_if (fun hJ _ _ h1 h2 => E_if_eq 34 dX11_joker_29 (by decide) h1 h2) ?_ ?_
      · skip
        refine P_l (fun hJ _ _ q => E_aload_n dX11_joker_34 rfl q) ?_
        refine P_callr (t := fun v => some (.int v)) (st2 := fun v => .int v :: []) (fun hJ => (ok_X11_jokersLaid (σ := σ7)  )) (fun hJ _ _ v hM q => E_callV (as := []) (b := 67) (st := []) hM (by decide) yfX11_jokersLaid mlX11_344 imX11_jokersLaid seX11_jokersLaid clX11 (kd67 hJ.1.1) rfl (Nat.le_of_ble_eq_true rfl) rfl dX11_joker_35 q) (fun v8 => ?_)
        exact P_ret (fun _ _ => E_iret rfl dX11_joker_38)
      · skip
        refine P_l (fun hJ _ _ q => E_iconst (v := (-1)) dX11_joker_32 (by decide) q) ?_
        exact P_ret (fun _ _ => E_iret rfl dX11_joker_33)

def f_X11_swaps (σ : rS) (p1 : Int32) : Option (Int32 × rS) := if (rI σ 67 24) = ((-1)) then (some ((0, σ))) else (if inB (rI σ 67 24) 4 then (if (rI σ 72 (rI σ 67 24 : Int32).toNatClampNeg) = 0 then (some ((0, σ))) else (if inB ((53 * (rI σ 67 24)) + p1) 212 then (if (rI σ 79 ((53 * (rI σ 67 24)) + p1 : Int32).toNatClampNeg) = 0 then (some ((0, σ))) else (if inB p1 52 then (if (rI σ 81 (p1 : Int32).toNatClampNeg) = 0 then (some ((0, σ))) else (oLet (wI σ 79 ((53 * (rI σ 67 24)) + p1 : Int32).toNatClampNeg ((rI σ 79 ((53 * (rI σ 67 24)) + p1 : Int32).toNatClampNeg) - 1)) fun σ4 => oLet (wI σ4 80 (p1 : Int32).toNatClampNeg ((rI σ4 80 (p1 : Int32).toNatClampNeg) + 1)) fun σ5 => oLet (wI σ5 81 (p1 : Int32).toNatClampNeg ((rI σ5 81 (p1 : Int32).toNatClampNeg) - 1)) fun σ6 => oLet (wI σ6 67 22 ((rI σ6 67 22) + 1)) fun σ7 => oB (f_X11_thing σ7 3 p1) fun _ σ9 => some ((1, σ9)))) else none)) else none)) else none)
set_option maxRecDepth 20000 in
set_option maxHeartbeats 2000000 in
theorem ok_X11_swaps {σ : rS} {p1 : Int32}   : rFn Sy yX11_swaps mX11_swaps 2 [.ref 67, .int p1] σ 0 0 (fun v => .inl (some (.int v))) (f_X11_swaps σ p1) := by
  refine rF_of (ls := [some (.ref 67), some (.int p1)]) yfX11_swaps rfl (Nat.le_of_ble_eq_true rfl) (fun o τ => ?_)
  unfold f_X11_swaps
  refine P_l (fun hJ _ _ q => E_aload_n dX11_swaps_0 rfl (E_getI clX11 24 (by decide) flX11_75 (Or.inl rfl) dX11_swaps_1 (kd67 hJ.1.1) (E_iconst (v := (-1)) dX11_swaps_4 (by decide) q))) ?_
  refine P_if (fun hJ _ _ h1 h2 => E_icmp_eq 46 dX11_swaps_5 (by decide) h1 h2) ?_ ?_
  · skip
    refine P_l (fun hJ _ _ q => E_iconst (v := 0) dX11_swaps_46 (by decide) q) ?_
    exact P_ret (fun _ _ => E_zret01 rfl (by decide) dX11_swaps_47)
  · skip
    refine P_l (fun hJ _ _ q => E_aload_n dX11_swaps_8 rfl (E_getR (b := 72) clX11 11 (by decide) flX11_40 (Or.inr ⟨_, rfl⟩) dX11_swaps_9 (kd67 hJ.1.1) (rf67_11 hJ.1.1) (by decide) (E_aload_n dX11_swaps_12 rfl (E_getI clX11 24 (by decide) flX11_75 (Or.inl rfl) dX11_swaps_13 (kd67 hJ.1.1) q)))) ?_
    refine P_g (fun g1 => ?_)
    refine P_l (fun hJ _ _ q => E_zald dX11_swaps_16 (kd72 hJ.1.1) (inB_vp g1) q) ?_
    refine P_if (fun hJ _ _ h1 h2 => E_if_eq 46 dX11_swaps_17 (by decide) h1 h2) ?_ ?_
    · skip
      refine P_l (fun hJ _ _ q => E_iconst (v := 0) dX11_swaps_46 (by decide) q) ?_
      exact P_ret (fun _ _ => E_zret01 rfl (by decide) dX11_swaps_47)
    · skip
      refine P_l (fun hJ _ _ q => E_aload_n dX11_swaps_20 rfl (E_getR (b := 79) clX11 18 (by decide) flX11_63 (Or.inr ⟨_, rfl⟩) dX11_swaps_21 (kd67 hJ.1.1) (rf67_18 hJ.1.1) (by decide) (E_bipush (v := 53) dX11_swaps_24 (by decide) (E_aload_n dX11_swaps_26 rfl (E_getI clX11 24 (by decide) flX11_75 (Or.inl rfl) dX11_swaps_27 (kd67 hJ.1.1) (E_imul dX11_swaps_30 (E_iload_n dX11_swaps_31 rfl (E_iadd dX11_swaps_32 q)))))))) ?_
      refine P_g (fun g2 => ?_)
      refine P_l (fun hJ _ _ q => E_iald dX11_swaps_33 (kd79 hJ.1.1) (inB_vp g2) q) ?_
      refine P_if (fun hJ _ _ h1 h2 => E_if_eq 46 dX11_swaps_34 (by decide) h1 h2) ?_ ?_
      · skip
        refine P_l (fun hJ _ _ q => E_iconst (v := 0) dX11_swaps_46 (by decide) q) ?_
        exact P_ret (fun _ _ => E_zret01 rfl (by decide) dX11_swaps_47)
      · skip
        refine P_l (fun hJ _ _ q => E_aload_n dX11_swaps_37 rfl (E_getR (b := 81) clX11 20 (by decide) flX11_69 (Or.inr ⟨_, rfl⟩) dX11_swaps_38 (kd67 hJ.1.1) (rf67_20 hJ.1.1) (by decide) (E_iload_n dX11_swaps_41 rfl q))) ?_
        refine P_g (fun g3 => ?_)
        refine P_l (fun hJ _ _ q => E_iald dX11_swaps_42 (kd81 hJ.1.1) (inB_vp g3) q) ?_
        refine P_if (fun hJ _ _ h1 h2 => E_if_ne 48 dX11_swaps_43 (by decide) h2 h1) ?_ ?_
        · skip
          refine P_l (fun hJ _ _ q => E_iconst (v := 0) dX11_swaps_46 (by decide) q) ?_
          exact P_ret (fun _ _ => E_zret01 rfl (by decide) dX11_swaps_47)
        · skip
          refine P_l (fun hJ _ _ q => E_aload_n dX11_swaps_48 rfl (E_getR (b := 79) clX11 18 (by decide) flX11_63 (Or.inr ⟨_, rfl⟩) dX11_swaps_49 (kd67 hJ.1.1) (rf67_18 hJ.1.1) (by decide) (E_bipush (v := 53) dX11_swaps_52 (by decide) (E_aload_n dX11_swaps_54 rfl (E_getI clX11 24 (by decide) flX11_75 (Or.inl rfl) dX11_swaps_55 (kd67 hJ.1.1) (E_imul dX11_swaps_58 (E_iload_n dX11_swaps_59 rfl (E_iadd dX11_swaps_60 (E_dup2 dX11_swaps_61 rfl rfl (E_iald dX11_swaps_62 (kd79 hJ.1.1) (inB_vp g2) (E_iconst (v := 1) dX11_swaps_63 (by decide) (E_isub dX11_swaps_64 q)))))))))))) ?_
          refine P_w (fun hJ _ _ q => E_iast dX11_swaps_65 (kd79 hJ.1.1) (by decide) (inB_vp g2) q) (fun hJ => Sy_wI hJ.1) rfl rfl rfl (fun σ4 hσ4 => ?_)
          refine P_l (fun hJ _ _ q => E_aload_n dX11_swaps_66 rfl (E_getR (b := 80) clX11 19 (by decide) flX11_66 (Or.inr ⟨_, rfl⟩) dX11_swaps_67 (kd67 hJ.1.1) (rf67_19 hJ.1.1) (by decide) (E_iload_n dX11_swaps_70 rfl (E_dup2 dX11_swaps_71 rfl rfl (E_iald dX11_swaps_72 (kd80 hJ.1.1) (inB_vp g3) (E_iconst (v := 1) dX11_swaps_73 (by decide) (E_iadd dX11_swaps_74 q))))))) ?_
          refine P_w (fun hJ _ _ q => E_iast dX11_swaps_75 (kd80 hJ.1.1) (by decide) (inB_vp g3) q) (fun hJ => Sy_wI hJ.1) rfl rfl rfl (fun σ5 hσ5 => ?_)
          refine P_l (fun hJ _ _ q => E_aload_n dX11_swaps_76 rfl (E_getR (b := 81) clX11 20 (by decide) flX11_69 (Or.inr ⟨_, rfl⟩) dX11_swaps_77 (kd67 hJ.1.1) (rf67_20 hJ.1.1) (by decide) (E_iload_n dX11_swaps_80 rfl (E_dup2 dX11_swaps_81 rfl rfl (E_iald dX11_swaps_82 (kd81 hJ.1.1) (inB_vp g3) (E_iconst (v := 1) dX11_swaps_83 (by decide) (E_isub dX11_swaps_84 q))))))) ?_
          refine P_w (fun hJ _ _ q => E_iast dX11_swaps_85 (kd81 hJ.1.1) (by decide) (inB_vp g3) q) (fun hJ => Sy_wI hJ.1) rfl rfl rfl (fun σ6 hσ6 => ?_)
          refine P_l (fun hJ _ _ q => E_aload_n dX11_swaps_86 rfl (E_dup dX11_swaps_87 rfl (E_getI clX11 22 (by decide) flX11_300 (Or.inl rfl) dX11_swaps_88 (kd67 hJ.1.1) (E_iconst (v := 1) dX11_swaps_91 (by decide) (E_iadd dX11_swaps_92 q))))) ?_
          refine P_w (fun hJ _ _ q => E_putI clX11 22 (by decide) flX11_300 (Or.inl rfl) rfl dX11_swaps_93 (kd67 hJ.1.1) q) (fun hJ => Sy_wI hJ.1) rfl rfl rfl (fun σ7 hσ7 => ?_)
          refine P_l (fun hJ _ _ q => E_aload_n dX11_swaps_96 rfl (E_iconst (v := 3) dX11_swaps_97 (by decide) (E_iload_n dX11_swaps_98 rfl q))) ?_
          refine P_call (t := fun _ => none) (st2 := fun _ => []) (kc2 := 0) (ks2 := 0) (fun hJ => (ok_X11_thing (σ := σ7) (p1 := 3) (p2 := p1) )) (fun hJ _ _ _ _ v τ1 hM q => E_callV (as := [.int 3, .int p1]) (b := 67) (st := []) hM (by decide) yfX11_thing mlX11_335 imX11_thing seX11_thing clX11 (kd67 hJ.1.1) rfl (Nat.le_of_ble_eq_true rfl) rfl dX11_swaps_99 q) (by decide) (by decide) (fun v8 σ9 => ?_)
          refine P_l (fun hJ _ _ q => E_iconst (v := 1) dX11_swaps_102 (by decide) q) ?_
          exact P_ret (fun _ _ => E_zret01 rfl (by decide) dX11_swaps_103)

def f_X11_swap (σ : rS) (p1 : Int32) : Option (Int32 × rS) := if (v_X11_isKind σ p1) = 0 then (oB (f_X11_holds σ 1) fun v1 σ2 => if v1 = 0 then (some ((rI σ2 67 22, σ2))) else (some (((-1), σ2)))) else (oB (f_X11_swaps σ p1) fun v3 σ4 => oB (f_X11_holds σ4 ((if v3 = 0 then 2 else 0 : Int32))) fun v5 σ6 => if v5 = 0 then (some ((rI σ6 67 22, σ6))) else (some (((-1), σ6))))
set_option maxRecDepth 20000 in
set_option maxHeartbeats 2000000 in
theorem ok_X11_swap {σ : rS} {p1 : Int32}   : rFn Sy yX11_swap mX11_swap 3 [.ref 67, .int p1] σ 0 0 (fun v => .inl (some (.int v))) (f_X11_swap σ p1) := by
  refine rF_of (ls := [some (.ref 67), some (.int p1)]) yfX11_swap rfl (Nat.le_of_ble_eq_true rfl) (fun o τ => ?_)
  unfold f_X11_swap
  refine P_l (fun hJ _ _ q => E_aload_n dX11_swap_0 rfl (E_aload_n dX11_swap_1 rfl (E_iload_n dX11_swap_2 rfl (E_callV (as := [.int p1]) (b := 67) (st := [.ref 67]) (ok_X11_isKind (σ := σ) (p1 := p1) hJ ) (by decide) yfX11_isKind mlX11_294 imX11_isKind seX11_isKind clX11 (kd67 hJ.1.1) rfl (Nat.le_of_ble_eq_true rfl) rfl dX11_swap_3 q)))) ?_
  refine P_if (fun hJ _ _ h1 h2 => E_if_ne 13 dX11_swap_6 (by decide) h2 h1) ?_ ?_
  · skip
    refine P_l (fun hJ _ _ q => E_iconst (v := 1) dX11_swap_9 (by decide) (E_goto 26 dX11_swap_10 (by decide) q)) ?_
    refine P_call (t := fun v => some (.int v)) (st2 := fun v => .int v :: []) (kc2 := 0) (ks2 := 0) (fun hJ => (ok_X11_holds (σ := σ) (p1 := 1) )) (fun hJ _ _ _ _ v τ1 hM q => E_callV (as := [.int 1]) (b := 67) (st := []) hM (by decide) yfX11_holds mlX11_265 imX11_holds seX11_holds clX11 (kd67 hJ.1.1) rfl (Nat.le_of_ble_eq_true rfl) rfl dX11_swap_26 q) (by decide) (by decide) (fun v1 σ2 => ?_)
    refine P_if (fun hJ _ _ h1 h2 => E_if_eq 34 dX11_swap_29 (by decide) h1 h2) ?_ ?_
    · skip
      refine P_l (fun hJ _ _ q => E_aload_n dX11_swap_34 rfl (E_getI clX11 22 (by decide) flX11_300 (Or.inl rfl) dX11_swap_35 (kd67 hJ.1.1) q)) ?_
      exact P_ret (fun _ _ => E_iret rfl dX11_swap_38)
    · skip
      refine P_l (fun hJ _ _ q => E_iconst (v := (-1)) dX11_swap_32 (by decide) q) ?_
      exact P_ret (fun _ _ => E_iret rfl dX11_swap_33)
  · skip
    refine P_l (fun hJ _ _ q => E_aload_n dX11_swap_13 rfl (E_iload_n dX11_swap_14 rfl q)) ?_
    refine P_call (t := fun v => some (.int v)) (st2 := fun v => .int v :: [.ref 67]) (kc2 := 0) (ks2 := 0) (fun hJ => (ok_X11_swaps (σ := σ) (p1 := p1) )) (fun hJ _ _ _ _ v τ1 hM q => E_callV (as := [.int p1]) (b := 67) (st := [.ref 67]) hM (by decide) yfX11_swaps mlX11_347 imX11_swaps seX11_swaps clX11 (kd67 hJ.1.1) rfl (Nat.le_of_ble_eq_true rfl) rfl dX11_swap_15 q) (by decide) (by decide) (fun v3 σ4 => ?_)
    refine P_l (pc2 := 26) (ls2 := [some (.ref 67), none]) (st2 := [.int ((if v3 = 0 then 2 else 0 : Int32)), .ref 67]) (fun hJ _ _ hq => ?_) ?_
    · skip
      refine E_if_eq 25 dX11_swap_18 (by decide) (fun c_18_0 => ?_) (fun c_18_0 => ?_)
      · skip
        refine E_iconst (v := 2) dX11_swap_25 (by decide) ?_
        simp only [if_pos c_18_0] at hq
        exact E_less (ls2 := [some (.ref 67), none]) hq (rLe_at [some (.ref 67), none] [some (.ref 67), some (.int p1)] (And.intro rfl trivial))
      · skip
        refine E_iconst (v := 0) dX11_swap_21 (by decide) ?_
        refine E_goto 26 dX11_swap_22 (by decide) ?_
        simp only [if_neg c_18_0] at hq
        exact E_less (ls2 := [some (.ref 67), none]) hq (rLe_at [some (.ref 67), none] [some (.ref 67), some (.int p1)] (And.intro rfl trivial))
    · skip
      refine P_call (t := fun v => some (.int v)) (st2 := fun v => .int v :: []) (kc2 := 0) (ks2 := 0) (fun hJ => (ok_X11_holds (σ := σ4) (p1 := (if v3 = 0 then 2 else 0 : Int32)) )) (fun hJ _ _ _ _ v τ1 hM q => E_callV (as := [.int ((if v3 = 0 then 2 else 0 : Int32))]) (b := 67) (st := []) hM (by decide) yfX11_holds mlX11_265 imX11_holds seX11_holds clX11 (kd67 hJ.1.1) rfl (Nat.le_of_ble_eq_true rfl) rfl dX11_swap_26 q) (by decide) (by decide) (fun v5 σ6 => ?_)
      refine P_if (fun hJ _ _ h1 h2 => E_if_eq 34 dX11_swap_29 (by decide) h1 h2) ?_ ?_
      · skip
        refine P_l (fun hJ _ _ q => E_aload_n dX11_swap_34 rfl (E_getI clX11 22 (by decide) flX11_300 (Or.inl rfl) dX11_swap_35 (kd67 hJ.1.1) q)) ?_
        exact P_ret (fun _ _ => E_iret rfl dX11_swap_38)
      · skip
        refine P_l (fun hJ _ _ q => E_iconst (v := (-1)) dX11_swap_32 (by decide) q) ?_
        exact P_ret (fun _ _ => E_iret rfl dX11_swap_33)

def f_X11_undoes (σ : rS) : Option (Int32 × rS) := oLet (wI σ 67 30 ((rI σ 67 30) - 1)) fun σ1 => if inB (rI σ1 67 30) 128 then (oLet (rI σ1 83 (rI σ1 67 30 : Int32).toNatClampNeg : Int32) fun x3 => oLet (rI σ1 84 (rI σ1 67 30 : Int32).toNatClampNeg : Int32) fun x4 => oJoin (if (if x3 = 1 then true else (if x3 = 3 then true else false)) = true then (if inB x4 52 then (oLet (wI σ1 80 (x4 : Int32).toNatClampNeg ((rI σ1 80 (x4 : Int32).toNatClampNeg) - 1)) fun σ7 => if inB ((53 * (rI σ7 67 24)) + x4) 212 then (oLet (wI σ7 79 ((53 * (rI σ7 67 24)) + x4 : Int32).toNatClampNeg ((rI σ7 79 ((53 * (rI σ7 67 24)) + x4 : Int32).toNatClampNeg) + 1)) fun σ9 => some (.inr σ9)) else none) else none) else (some (.inr σ1))) fun j5 => oJoin (if (if x3 = 2 then true else (if x3 = 4 then true else false)) = true then (if inB x4 52 then (oLet (wI j5 81 (x4 : Int32).toNatClampNeg ((rI j5 81 (x4 : Int32).toNatClampNeg) - 1)) fun σ12 => some (.inr σ12)) else none) else (some (.inr j5))) fun j10 => oJoin (if x3 = 2 then (if inB ((53 * (rI j10 67 24)) + 52) 212 then (oLet (wI j10 79 ((53 * (rI j10 67 24)) + 52 : Int32).toNatClampNeg ((rI j10 79 ((53 * (rI j10 67 24)) + 52 : Int32).toNatClampNeg) + 1)) fun σ15 => some (.inr σ15)) else none) else (some (.inr j10))) fun j13 => oLet (wI j13 67 22 ((rI j13 67 22) + ((if x3 = 4 then 1 else (if x3 = 3 then ((-1)) else 0) : Int32)))) fun σ16 => if inB x4 52 then (oLet (wI σ16 81 (x4 : Int32).toNatClampNeg ((rI σ16 81 (x4 : Int32).toNatClampNeg) + ((if x3 = 3 then 1 else 0 : Int32)))) fun σ18 => some ((x4, σ18))) else none) else none
set_option maxRecDepth 20000 in
set_option maxHeartbeats 2000000 in
theorem ok_X11_undoes {σ : rS}   : rFn Sy yX11_undoes mX11_undoes 0 [.ref 67] σ 0 0 (fun v => .inl (some (.int v))) (f_X11_undoes σ) := by
  refine rF_of (ls := [some (.ref 67), none, none]) yfX11_undoes rfl (Nat.le_of_ble_eq_true rfl) (fun o τ => ?_)
  unfold f_X11_undoes
  refine P_l (fun hJ _ _ q => E_aload_n dX11_undoes_0 rfl (E_dup dX11_undoes_1 rfl (E_getI clX11 30 (by decide) flX11_303 (Or.inl rfl) dX11_undoes_2 (kd67 hJ.1.1) (E_iconst (v := 1) dX11_undoes_5 (by decide) (E_isub dX11_undoes_6 q))))) ?_
  refine P_w (fun hJ _ _ q => E_putI clX11 30 (by decide) flX11_303 (Or.inl rfl) rfl dX11_undoes_7 (kd67 hJ.1.1) q) (fun hJ => Sy_wI hJ.1) rfl rfl rfl (fun σ1 hσ1 => ?_)
  refine P_l (fun hJ _ _ q => E_aload_n dX11_undoes_10 rfl (E_getR (b := 83) clX11 28 (by decide) flX11_81 (Or.inr ⟨_, rfl⟩) dX11_undoes_11 (kd67 hJ.1.1) (rf67_28 hJ.1.1) (by decide) (E_aload_n dX11_undoes_14 rfl (E_getI clX11 30 (by decide) flX11_303 (Or.inl rfl) dX11_undoes_15 (kd67 hJ.1.1) q)))) ?_
  refine P_g (fun g2 => ?_)
  refine P_l (fun hJ _ _ q => E_iald dX11_undoes_18 (kd83 hJ.1.1) (inB_vp g2) (E_istore_n (ls2 := [some (.ref 67), some (.int (rI σ1 83 (rI σ1 67 30 : Int32).toNatClampNeg)), none]) dX11_undoes_19 (by decide) rfl q)) ?_
  refine P_v (rI σ1 83 (rI σ1 67 30 : Int32).toNatClampNeg) (fun x => [some (.ref 67), some (.int x), none]) (fun x3 => ?_)
  refine P_l (fun hJ _ _ q => E_aload_n dX11_undoes_20 rfl (E_getR (b := 84) clX11 29 (by decide) flX11_84 (Or.inr ⟨_, rfl⟩) dX11_undoes_21 (kd67 hJ.1.1) (rf67_29 hJ.1.1) (by decide) (E_aload_n dX11_undoes_24 rfl (E_getI clX11 30 (by decide) flX11_303 (Or.inl rfl) dX11_undoes_25 (kd67 hJ.1.1) (E_iald dX11_undoes_28 (kd84 hJ.1.1) (inB_vp g2) (E_istore_n (ls2 := [some (.ref 67), some (.int x3), some (.int (rI σ1 84 (rI σ1 67 30 : Int32).toNatClampNeg))]) dX11_undoes_29 (by decide) rfl q)))))) ?_
  refine P_v (rI σ1 84 (rI σ1 67 30 : Int32).toNatClampNeg) (fun x => [some (.ref 67), some (.int x3), some (.int x)]) (fun x4 => ?_)
  refine P_l (fun hJ _ _ q => E_iload_n dX11_undoes_30 rfl (E_iconst (v := 1) dX11_undoes_31 (by decide) q)) ?_
  refine P_join (pc2 := 68) (fun j5 => [some (.ref 67), some (.int x3), some (.int x4)]) (fun j5 => []) (fun j5 => j5) ?_ (fun j5 => ?_)
  · skip
    refine P_if (c := (if x3 = 1 then true else (if x3 = 3 then true else false)) = true) (pc1 := 40) (ls1 := [some (.ref 67), some (.int x3), some (.int x4)]) (st1 := []) (pc2 := 68) (ls2 := [some (.ref 67), some (.int x3), some (.int x4)]) (st2 := []) (fun hJ _ _ hX hY => ?_) ?_ ?_
    · skip
      refine E_icmp_eq 40 dX11_undoes_32 (by decide) (fun c_32_0 => ?_) (fun c_32_0 => ?_)
      · skip
        exact hX (by simp only [if_pos c_32_0])
      · skip
        refine E_iload_n dX11_undoes_35 rfl ?_
        refine E_iconst (v := 3) dX11_undoes_36 (by decide) ?_
        refine E_icmp_ne 68 dX11_undoes_37 (by decide) (fun c_37_1 => ?_) (fun c_37_1 => ?_)
        · skip
          exact hY (by simp only [if_neg c_32_0, if_neg c_37_1]; exact Bool.false_ne_true)
        · skip
          exact hX (by simp only [if_neg c_32_0, if_pos c_37_1])
    · skip
      refine P_l (fun hJ _ _ q => E_aload_n dX11_undoes_40 rfl (E_getR (b := 80) clX11 19 (by decide) flX11_66 (Or.inr ⟨_, rfl⟩) dX11_undoes_41 (kd67 hJ.1.1) (rf67_19 hJ.1.1) (by decide) (E_iload_n dX11_undoes_44 rfl (E_dup2 dX11_undoes_45 rfl rfl q)))) ?_
      refine P_g (fun g6 => ?_)
      refine P_l (fun hJ _ _ q => E_iald dX11_undoes_46 (kd80 hJ.1.1) (inB_vp g6) (E_iconst (v := 1) dX11_undoes_47 (by decide) (E_isub dX11_undoes_48 q))) ?_
      refine P_w (fun hJ _ _ q => E_iast dX11_undoes_49 (kd80 hJ.1.1) (by decide) (inB_vp g6) q) (fun hJ => Sy_wI hJ.1) rfl rfl rfl (fun σ7 hσ7 => ?_)
      refine P_l (fun hJ _ _ q => E_aload_n dX11_undoes_50 rfl (E_getR (b := 79) clX11 18 (by decide) flX11_63 (Or.inr ⟨_, rfl⟩) dX11_undoes_51 (kd67 hJ.1.1) (rf67_18 hJ.1.1) (by decide) (E_bipush (v := 53) dX11_undoes_54 (by decide) (E_aload_n dX11_undoes_56 rfl (E_getI clX11 24 (by decide) flX11_75 (Or.inl rfl) dX11_undoes_57 (kd67 hJ.1.1) (E_imul dX11_undoes_60 (E_iload_n dX11_undoes_61 rfl (E_iadd dX11_undoes_62 (E_dup2 dX11_undoes_63 rfl rfl q))))))))) ?_
      refine P_g (fun g8 => ?_)
      refine P_l (fun hJ _ _ q => E_iald dX11_undoes_64 (kd79 hJ.1.1) (inB_vp g8) (E_iconst (v := 1) dX11_undoes_65 (by decide) (E_iadd dX11_undoes_66 q))) ?_
      refine P_w (fun hJ _ _ q => E_iast dX11_undoes_67 (kd79 hJ.1.1) (by decide) (inB_vp g8) q) (fun hJ => Sy_wI hJ.1) rfl rfl rfl (fun σ9 hσ9 => ?_)
      exact P_back σ9
    · skip
      exact P_back σ1
  · skip
    refine P_l (fun hJ _ _ q => E_iload_n dX11_undoes_68 rfl (E_iconst (v := 2) dX11_undoes_69 (by decide) q)) ?_
    refine P_join (pc2 := 88) (fun j10 => [some (.ref 67), some (.int x3), some (.int x4)]) (fun j10 => []) (fun j10 => j10) ?_ (fun j10 => ?_)
    · skip
      refine P_if (c := (if x3 = 2 then true else (if x3 = 4 then true else false)) = true) (pc1 := 78) (ls1 := [some (.ref 67), some (.int x3), some (.int x4)]) (st1 := []) (pc2 := 88) (ls2 := [some (.ref 67), some (.int x3), some (.int x4)]) (st2 := []) (fun hJ _ _ hX hY => ?_) ?_ ?_
      · skip
        refine E_icmp_eq 78 dX11_undoes_70 (by decide) (fun c_70_0 => ?_) (fun c_70_0 => ?_)
        · skip
          exact hX (by simp only [if_pos c_70_0])
        · skip
          refine E_iload_n dX11_undoes_73 rfl ?_
          refine E_iconst (v := 4) dX11_undoes_74 (by decide) ?_
          refine E_icmp_ne 88 dX11_undoes_75 (by decide) (fun c_75_1 => ?_) (fun c_75_1 => ?_)
          · skip
            exact hY (by simp only [if_neg c_70_0, if_neg c_75_1]; exact Bool.false_ne_true)
          · skip
            exact hX (by simp only [if_neg c_70_0, if_pos c_75_1])
      · skip
        refine P_l (fun hJ _ _ q => E_aload_n dX11_undoes_78 rfl (E_getR (b := 81) clX11 20 (by decide) flX11_69 (Or.inr ⟨_, rfl⟩) dX11_undoes_79 (kd67 hJ.1.1) (rf67_20 hJ.1.1) (by decide) (E_iload_n dX11_undoes_82 rfl (E_dup2 dX11_undoes_83 rfl rfl q)))) ?_
        refine P_g (fun g11 => ?_)
        refine P_l (fun hJ _ _ q => E_iald dX11_undoes_84 (kd81 hJ.1.1) (inB_vp g11) (E_iconst (v := 1) dX11_undoes_85 (by decide) (E_isub dX11_undoes_86 q))) ?_
        refine P_w (fun hJ _ _ q => E_iast dX11_undoes_87 (kd81 hJ.1.1) (by decide) (inB_vp g11) q) (fun hJ => Sy_wI hJ.1) rfl rfl rfl (fun σ12 hσ12 => ?_)
        exact P_back σ12
      · skip
        exact P_back j5
    · skip
      refine P_l (fun hJ _ _ q => E_iload_n dX11_undoes_88 rfl (E_iconst (v := 2) dX11_undoes_89 (by decide) q)) ?_
      refine P_join (pc2 := 112) (fun j13 => [some (.ref 67), some (.int x3), some (.int x4)]) (fun j13 => []) (fun j13 => j13) ?_ (fun j13 => ?_)
      · skip
        refine P_if (fun hJ _ _ h1 h2 => E_icmp_ne 112 dX11_undoes_90 (by decide) h2 h1) ?_ ?_
        · skip
          refine P_l (fun hJ _ _ q => E_aload_n dX11_undoes_93 rfl (E_getR (b := 79) clX11 18 (by decide) flX11_63 (Or.inr ⟨_, rfl⟩) dX11_undoes_94 (kd67 hJ.1.1) (rf67_18 hJ.1.1) (by decide) (E_bipush (v := 53) dX11_undoes_97 (by decide) (E_aload_n dX11_undoes_99 rfl (E_getI clX11 24 (by decide) flX11_75 (Or.inl rfl) dX11_undoes_100 (kd67 hJ.1.1) (E_imul dX11_undoes_103 (E_bipush (v := 52) dX11_undoes_104 (by decide) (E_iadd dX11_undoes_106 (E_dup2 dX11_undoes_107 rfl rfl q))))))))) ?_
          refine P_g (fun g14 => ?_)
          refine P_l (fun hJ _ _ q => E_iald dX11_undoes_108 (kd79 hJ.1.1) (inB_vp g14) (E_iconst (v := 1) dX11_undoes_109 (by decide) (E_iadd dX11_undoes_110 q))) ?_
          refine P_w (fun hJ _ _ q => E_iast dX11_undoes_111 (kd79 hJ.1.1) (by decide) (inB_vp g14) q) (fun hJ => Sy_wI hJ.1) rfl rfl rfl (fun σ15 hσ15 => ?_)
          exact P_back σ15
        · skip
          exact P_back j10
      · skip
        refine P_l (fun hJ _ _ q => E_aload_n dX11_undoes_112 rfl (E_dup dX11_undoes_113 rfl (E_getI clX11 22 (by decide) flX11_300 (Or.inl rfl) dX11_undoes_114 (kd67 hJ.1.1) (E_iload_n dX11_undoes_117 rfl (E_iconst (v := 4) dX11_undoes_118 (by decide) q))))) ?_
        refine P_l (pc2 := 136) (ls2 := [some (.ref 67), some (.int x3), some (.int x4)]) (st2 := [.int ((if x3 = 4 then 1 else (if x3 = 3 then ((-1)) else 0) : Int32)), .int (rI j13 67 22), .ref 67]) (fun hJ _ _ hq => ?_) ?_
        · skip
          refine E_icmp_ne 126 dX11_undoes_119 (by decide) (fun c_119_0 => ?_) (fun c_119_0 => ?_)
          · skip
            refine E_iload_n dX11_undoes_126 rfl ?_
            refine E_iconst (v := 3) dX11_undoes_127 (by decide) ?_
            refine E_icmp_ne 135 dX11_undoes_128 (by decide) (fun c_128_1 => ?_) (fun c_128_1 => ?_)
            · skip
              refine E_iconst (v := 0) dX11_undoes_135 (by decide) ?_
              simp only [if_neg c_119_0, if_neg c_128_1] at hq
              exact hq
            · skip
              refine E_iconst (v := (-1)) dX11_undoes_131 (by decide) ?_
              refine E_goto 136 dX11_undoes_132 (by decide) ?_
              simp only [if_neg c_119_0, if_pos c_128_1] at hq
              exact hq
          · skip
            refine E_iconst (v := 1) dX11_undoes_122 (by decide) ?_
            refine E_goto 136 dX11_undoes_123 (by decide) ?_
            simp only [if_pos c_119_0] at hq
            exact hq
        · skip
          refine P_l (fun hJ _ _ q => E_iadd dX11_undoes_136 q) ?_
          refine P_w (fun hJ _ _ q => E_putI clX11 22 (by decide) flX11_300 (Or.inl rfl) rfl dX11_undoes_137 (kd67 hJ.1.1) q) (fun hJ => Sy_wI hJ.1) rfl rfl rfl (fun σ16 hσ16 => ?_)
          refine P_l (fun hJ _ _ q => E_aload_n dX11_undoes_140 rfl (E_getR (b := 81) clX11 20 (by decide) flX11_69 (Or.inr ⟨_, rfl⟩) dX11_undoes_141 (kd67 hJ.1.1) (rf67_20 hJ.1.1) (by decide) (E_iload_n dX11_undoes_144 rfl (E_dup2 dX11_undoes_145 rfl rfl q)))) ?_
          refine P_g (fun g17 => ?_)
          refine P_l (fun hJ _ _ q => E_iald dX11_undoes_146 (kd81 hJ.1.1) (inB_vp g17) (E_iload_n dX11_undoes_147 rfl (E_iconst (v := 3) dX11_undoes_148 (by decide) q))) ?_
          refine P_l (pc2 := 157) (ls2 := [none, none, some (.int x4)]) (st2 := [.int ((if x3 = 3 then 1 else 0 : Int32)), .int (rI σ16 81 (x4 : Int32).toNatClampNeg), .int x4, .ref 81]) (fun hJ _ _ hq => ?_) ?_
          · skip
            refine E_icmp_ne 156 dX11_undoes_149 (by decide) (fun c_149_0 => ?_) (fun c_149_0 => ?_)
            · skip
              refine E_iconst (v := 0) dX11_undoes_156 (by decide) ?_
              simp only [if_neg c_149_0] at hq
              exact E_less (ls2 := [none, none, some (.int x4)]) hq (rLe_at [none, none, some (.int x4)] [some (.ref 67), some (.int x3), some (.int x4)] (And.intro rfl trivial))
            · skip
              refine E_iconst (v := 1) dX11_undoes_152 (by decide) ?_
              refine E_goto 157 dX11_undoes_153 (by decide) ?_
              simp only [if_pos c_149_0] at hq
              exact E_less (ls2 := [none, none, some (.int x4)]) hq (rLe_at [none, none, some (.int x4)] [some (.ref 67), some (.int x3), some (.int x4)] (And.intro rfl trivial))
          · skip
            refine P_l (fun hJ _ _ q => E_iadd dX11_undoes_157 q) ?_
            refine P_w (fun hJ _ _ q => E_iast dX11_undoes_158 (kd81 hJ.1.1) (by decide) (inB_vp g17) q) (fun hJ => Sy_wI hJ.1) rfl rfl rfl (fun σ18 hσ18 => ?_)
            refine P_l (fun hJ _ _ q => E_iload_n dX11_undoes_159 rfl q) ?_
            exact P_ret (fun _ _ => E_iret rfl dX11_undoes_160)

def f_X11_takesBack (σ : rS) : Option (Int32 × rS) := if (if (rI σ 67 24) = ((-1)) then true else (if (rI σ 67 30) = 0 then true else false)) = true then (some ((0, σ))) else (oB (f_X11_undoes σ) fun v1 σ2 => oB (f_X11_enter σ2 4 (rI σ 67 24) v1 0) fun _ σ4 => some ((1, σ4)))
set_option maxRecDepth 20000 in
set_option maxHeartbeats 2000000 in
theorem ok_X11_takesBack {σ : rS}   : rFn Sy yX11_takesBack mX11_takesBack 1 [.ref 67] σ 0 0 (fun v => .inl (some (.int v))) (f_X11_takesBack σ) := by
  refine rF_of (ls := [some (.ref 67)]) yfX11_takesBack rfl (Nat.le_of_ble_eq_true rfl) (fun o τ => ?_)
  unfold f_X11_takesBack
  refine P_l (fun hJ _ _ q => E_aload_n dX11_takesBack_0 rfl (E_getI clX11 24 (by decide) flX11_75 (Or.inl rfl) dX11_takesBack_1 (kd67 hJ.1.1) (E_iconst (v := (-1)) dX11_takesBack_4 (by decide) q))) ?_
  refine P_if (c := (if (rI σ 67 24) = ((-1)) then true else (if (rI σ 67 30) = 0 then true else false)) = true) (pc1 := 15) (ls1 := [some (.ref 67)]) (st1 := []) (pc2 := 17) (ls2 := [some (.ref 67)]) (st2 := []) (fun hJ _ _ hX hY => ?_) ?_ ?_
  · skip
    refine E_icmp_eq 15 dX11_takesBack_5 (by decide) (fun c_5_0 => ?_) (fun c_5_0 => ?_)
    · skip
      exact hX (by simp only [if_pos c_5_0])
    · skip
      refine E_aload_n dX11_takesBack_8 rfl ?_
      refine E_getI clX11 30 (by decide) flX11_303 (Or.inl rfl) dX11_takesBack_9 (kd67 hJ.1.1) ?_
      refine E_if_ne 17 dX11_takesBack_12 (by decide) (fun c_12_1 => ?_) (fun c_12_1 => ?_)
      · skip
        exact hY (by simp only [if_neg c_5_0, if_neg c_12_1]; exact Bool.false_ne_true)
      · skip
        exact hX (by simp only [if_neg c_5_0, if_pos c_12_1])
  · skip
    refine P_l (fun hJ _ _ q => E_iconst (v := 0) dX11_takesBack_15 (by decide) q) ?_
    exact P_ret (fun _ _ => E_zret01 rfl (by decide) dX11_takesBack_16)
  · skip
    refine P_l (fun hJ _ _ q => E_aload_n dX11_takesBack_17 rfl (E_iconst (v := 4) dX11_takesBack_18 (by decide) (E_aload_n dX11_takesBack_19 rfl (E_getI clX11 24 (by decide) flX11_75 (Or.inl rfl) dX11_takesBack_20 (kd67 hJ.1.1) (E_aload_n dX11_takesBack_23 rfl q))))) ?_
    refine P_call (t := fun v => some (.int v)) (st2 := fun v => .int v :: [.int (rI σ 67 24), .int 4, .ref 67]) (kc2 := 0) (ks2 := 0) (fun hJ => (ok_X11_undoes (σ := σ)  )) (fun hJ _ _ _ _ v τ1 hM q => E_callV (as := []) (b := 67) (st := [.int (rI σ 67 24), .int 4, .ref 67]) hM (by decide) yfX11_undoes mlX11_350 imX11_undoes seX11_undoes clX11 (kd67 hJ.1.1) rfl (Nat.le_of_ble_eq_true rfl) rfl dX11_takesBack_24 q) (by decide) (by decide) (fun v1 σ2 => ?_)
    refine P_l (fun hJ _ _ q => E_iconst (v := 0) dX11_takesBack_27 (by decide) q) ?_
    refine P_call (t := fun _ => none) (st2 := fun _ => []) (kc2 := 0) (ks2 := 0) (fun hJ => (ok_X11_enter (σ := σ2) (p1 := 4) (p2 := rI σ 67 24) (p3 := v1) (p4 := 0) )) (fun hJ _ _ _ _ v τ1 hM q => E_callV (as := [.int 4, .int (rI σ 67 24), .int v1, .int 0]) (b := 67) (st := []) hM (by decide) yfX11_enter mlX11_328 imX11_enter seX11_enter clX11 (kd67 hJ.1.1) rfl (Nat.le_of_ble_eq_true rfl) rfl dX11_takesBack_28 q) (by decide) (by decide) (fun v3 σ4 => ?_)
    refine P_l (fun hJ _ _ q => E_iconst (v := 1) dX11_takesBack_31 (by decide) q) ?_
    exact P_ret (fun _ _ => E_zret01 rfl (by decide) dX11_takesBack_32)

def f_X11_back (σ : rS) : Option (Int32 × rS) := oB (f_X11_takesBack σ) fun v1 σ2 => oB (f_X11_holds σ2 ((if v1 = 0 then 1 else 0 : Int32))) fun v3 σ4 => if v3 = 0 then (some ((rI σ4 67 30, σ4))) else (some (((-1), σ4)))
set_option maxRecDepth 20000 in
set_option maxHeartbeats 2000000 in
theorem ok_X11_back {σ : rS}   : rFn Sy yX11_back mX11_back 2 [.ref 67] σ 0 0 (fun v => .inl (some (.int v))) (f_X11_back σ) := by
  refine rF_of (ls := [some (.ref 67)]) yfX11_back rfl (Nat.le_of_ble_eq_true rfl) (fun o τ => ?_)
  unfold f_X11_back
  refine P_l (fun hJ _ _ q => E_aload_n dX11_back_0 rfl (E_aload_n dX11_back_1 rfl q)) ?_
  refine P_call (t := fun v => some (.int v)) (st2 := fun v => .int v :: [.ref 67]) (kc2 := 0) (ks2 := 0) (fun hJ => (ok_X11_takesBack (σ := σ)  )) (fun hJ _ _ _ _ v τ1 hM q => E_callV (as := []) (b := 67) (st := [.ref 67]) hM (by decide) yfX11_takesBack mlX11_353 imX11_takesBack seX11_takesBack clX11 (kd67 hJ.1.1) rfl (Nat.le_of_ble_eq_true rfl) rfl dX11_back_2 q) (by decide) (by decide) (fun v1 σ2 => ?_)
  refine P_l (pc2 := 13) (ls2 := [some (.ref 67)]) (st2 := [.int ((if v1 = 0 then 1 else 0 : Int32)), .ref 67]) (fun hJ _ _ hq => ?_) ?_
  · skip
    refine E_if_eq 12 dX11_back_5 (by decide) (fun c_5_0 => ?_) (fun c_5_0 => ?_)
    · skip
      refine E_iconst (v := 1) dX11_back_12 (by decide) ?_
      simp only [if_pos c_5_0] at hq
      exact hq
    · skip
      refine E_iconst (v := 0) dX11_back_8 (by decide) ?_
      refine E_goto 13 dX11_back_9 (by decide) ?_
      simp only [if_neg c_5_0] at hq
      exact hq
  · skip
    refine P_call (t := fun v => some (.int v)) (st2 := fun v => .int v :: []) (kc2 := 0) (ks2 := 0) (fun hJ => (ok_X11_holds (σ := σ2) (p1 := (if v1 = 0 then 1 else 0 : Int32)) )) (fun hJ _ _ _ _ v τ1 hM q => E_callV (as := [.int ((if v1 = 0 then 1 else 0 : Int32))]) (b := 67) (st := []) hM (by decide) yfX11_holds mlX11_265 imX11_holds seX11_holds clX11 (kd67 hJ.1.1) rfl (Nat.le_of_ble_eq_true rfl) rfl dX11_back_13 q) (by decide) (by decide) (fun v3 σ4 => ?_)
    refine P_if (fun hJ _ _ h1 h2 => E_if_eq 21 dX11_back_16 (by decide) h1 h2) ?_ ?_
    · skip
      refine P_l (fun hJ _ _ q => E_aload_n dX11_back_21 rfl (E_getI clX11 30 (by decide) flX11_303 (Or.inl rfl) dX11_back_22 (kd67 hJ.1.1) q)) ?_
      exact P_ret (fun _ _ => E_iret rfl dX11_back_25)
    · skip
      refine P_l (fun hJ _ _ q => E_iconst (v := (-1)) dX11_back_19 (by decide) q) ?_
      exact P_ret (fun _ _ => E_iret rfl dX11_back_20)

def b_X11_mayEnd_55 (s8 : Int32 × rS) : Option (((Int32 × rS) ⊕ (rS)) ⊕ (Int32 × rS)) := if 52 ≤ s8.1 then (some (.inl (.inr s8.2))) else (if inB s8.1 52 then (oLet (wI s8.2 91 (s8.1 : Int32).toNatClampNeg 0) fun σ10 => some (.inr ((s8.1 + 1, σ10)))) else none)
def b_X11_mayEnd_76 (s13 : Int32 × Int32 × rS) : Option (((Int32 × rS) ⊕ (Int32 × rS)) ⊕ (Int32 × Int32 × rS)) := if (rI s13.2.2 67 30) ≤ s13.2.1 then (some (.inl (.inr ((s13.1, s13.2.2))))) else (if inB s13.2.1 128 then (if inB (rI s13.2.2 84 (s13.2.1 : Int32).toNatClampNeg) 52 then (oLet (wI s13.2.2 91 (rI s13.2.2 84 (s13.2.1 : Int32).toNatClampNeg : Int32).toNatClampNeg ((rI s13.2.2 91 (rI s13.2.2 84 (s13.2.1 : Int32).toNatClampNeg : Int32).toNatClampNeg) + 1)) fun σ16 => oLet (s13.1 + ((if (rI σ16 83 (s13.2.1 : Int32).toNatClampNeg) = 1 then ((iRem (rI σ16 84 (s13.2.1 : Int32).toNatClampNeg) 13) + 1) else 0 : Int32)) : Int32) fun x17 => some (.inr ((x17, s13.2.1 + 1, σ16)))) else none) else none)
def f_X11_mayEnd (σ : rS) : Option (Int32 × rS) := if (if (rI σ 67 24) = ((-1)) then true else (if (rI σ 67 30) = 0 then true else (if (rI σ 67 22) ≤ 0 then false else true))) = true then (some ((0, σ))) else (oB (f_X11_laysTable σ) fun _ σ2 => oB (f_X11_canBeCut σ2) fun v3 σ4 => if v3 = 0 then (some ((0, σ4))) else (if inB (rI σ4 67 24) 4 then (if (rI σ4 72 (rI σ4 67 24 : Int32).toNatClampNeg) = 0 then (oJoin (oLoop (b_X11_mayEnd_55) oFuel ((0, σ4))) fun j7 => oJoin (oLoop (b_X11_mayEnd_76) oFuel ((0, 0, j7))) fun j12 => if j12.1 < (rI j12.2 67 4) then (some ((0, j12.2))) else (oB (f_X11_canBeCut j12.2) fun v18 σ19 => some (((if v18 = 0 then 0 else 1 : Int32), σ19)))) else (some ((1, σ4)))) else none))
set_option maxRecDepth 20000 in
set_option maxHeartbeats 2000000 in
theorem ok_X11_mayEnd {σ : rS}   : rFn Sy yX11_mayEnd mX11_mayEnd 7 [.ref 67] σ 0 0 (fun v => .inl (some (.int v))) (f_X11_mayEnd σ) := by
  refine rF_of (ls := [some (.ref 67), none, none]) yfX11_mayEnd rfl (Nat.le_of_ble_eq_true rfl) (fun o τ => ?_)
  unfold f_X11_mayEnd
  refine P_l (fun hJ _ _ q => E_aload_n dX11_mayEnd_0 rfl (E_getI clX11 24 (by decide) flX11_75 (Or.inl rfl) dX11_mayEnd_1 (kd67 hJ.1.1) (E_iconst (v := (-1)) dX11_mayEnd_4 (by decide) q))) ?_
  refine P_if (c := (if (rI σ 67 24) = ((-1)) then true else (if (rI σ 67 30) = 0 then true else (if (rI σ 67 22) ≤ 0 then false else true))) = true) (pc1 := 22) (ls1 := [some (.ref 67), none, none]) (st1 := []) (pc2 := 24) (ls2 := [some (.ref 67), none, none]) (st2 := []) (fun hJ _ _ hX hY => ?_) ?_ ?_
  · skip
    refine E_icmp_eq 22 dX11_mayEnd_5 (by decide) (fun c_5_0 => ?_) (fun c_5_0 => ?_)
    · skip
      exact hX (by simp only [if_pos c_5_0])
    · skip
      refine E_aload_n dX11_mayEnd_8 rfl ?_
      refine E_getI clX11 30 (by decide) flX11_303 (Or.inl rfl) dX11_mayEnd_9 (kd67 hJ.1.1) ?_
      refine E_if_eq 22 dX11_mayEnd_12 (by decide) (fun c_12_1 => ?_) (fun c_12_1 => ?_)
      · skip
        exact hX (by simp only [if_neg c_5_0, if_pos c_12_1])
      · skip
        refine E_aload_n dX11_mayEnd_15 rfl ?_
        refine E_getI clX11 22 (by decide) flX11_300 (Or.inl rfl) dX11_mayEnd_16 (kd67 hJ.1.1) ?_
        refine E_if_le 24 dX11_mayEnd_19 (by decide) (fun c_19_2 => ?_) (fun c_19_2 => ?_)
        · skip
          exact hY (by simp only [if_neg c_5_0, if_neg c_12_1, if_pos c_19_2]; exact Bool.false_ne_true)
        · skip
          exact hX (by simp only [if_neg c_5_0, if_neg c_12_1, if_neg c_19_2])
  · skip
    refine P_l (fun hJ _ _ q => E_iconst (v := 0) dX11_mayEnd_22 (by decide) q) ?_
    exact P_ret (fun _ _ => E_zret01 rfl (by decide) dX11_mayEnd_23)
  · skip
    refine P_l (fun hJ _ _ q => E_aload_n dX11_mayEnd_24 rfl q) ?_
    refine P_call (t := fun _ => none) (st2 := fun _ => []) (kc2 := 0) (ks2 := 0) (fun hJ => (ok_X11_laysTable (σ := σ)  )) (fun hJ _ _ _ _ v τ1 hM q => E_callV (as := []) (b := 67) (st := []) hM (by decide) yfX11_laysTable mlX11_268 imX11_laysTable seX11_laysTable clX11 (kd67 hJ.1.1) rfl (Nat.le_of_ble_eq_true rfl) rfl dX11_mayEnd_25 q) (by decide) (by decide) (fun v1 σ2 => ?_)
    refine P_l (fun hJ _ _ q => E_aload_n dX11_mayEnd_28 rfl q) ?_
    refine P_call (t := fun v => some (.int v)) (st2 := fun v => .int v :: []) (kc2 := 0) (ks2 := 0) (fun hJ => (ok_X11_canBeCut (σ := σ2)  )) (fun hJ _ _ _ _ v τ1 hM q => E_callV (as := []) (b := 67) (st := []) hM (by decide) yfX11_canBeCut mlX11_271 imX11_canBeCut seX11_canBeCut clX11 (kd67 hJ.1.1) rfl (Nat.le_of_ble_eq_true rfl) rfl dX11_mayEnd_29 q) (by decide) (by decide) (fun v3 σ4 => ?_)
    refine P_if (fun hJ _ _ h1 h2 => E_if_ne 37 dX11_mayEnd_32 (by decide) h2 h1) ?_ ?_
    · skip
      refine P_l (fun hJ _ _ q => E_iconst (v := 0) dX11_mayEnd_35 (by decide) q) ?_
      exact P_ret (fun _ _ => E_zret01 rfl (by decide) dX11_mayEnd_36)
    · skip
      refine P_l (fun hJ _ _ q => E_aload_n dX11_mayEnd_37 rfl (E_getR (b := 72) clX11 11 (by decide) flX11_40 (Or.inr ⟨_, rfl⟩) dX11_mayEnd_38 (kd67 hJ.1.1) (rf67_11 hJ.1.1) (by decide) (E_aload_n dX11_mayEnd_41 rfl (E_getI clX11 24 (by decide) flX11_75 (Or.inl rfl) dX11_mayEnd_42 (kd67 hJ.1.1) q)))) ?_
      refine P_g (fun g5 => ?_)
      refine P_l (fun hJ _ _ q => E_zald dX11_mayEnd_45 (kd72 hJ.1.1) (inB_vp g5) q) ?_
      refine P_if (fun hJ _ _ h1 h2 => E_if_eq 51 dX11_mayEnd_46 (by decide) h1 h2) ?_ ?_
      · skip
        refine P_l (fun hJ _ _ q => E_iconst (v := 0) dX11_mayEnd_51 (by decide) (E_istore_n (ls2 := [some (.ref 67), some (.int 0), none]) dX11_mayEnd_52 (by decide) rfl (E_iconst (v := 0) dX11_mayEnd_53 (by decide) (E_istore_n (ls2 := [some (.ref 67), some (.int 0), some (.int 0)]) dX11_mayEnd_54 (by decide) rfl q)))) ?_
        refine P_join (pc2 := 74) (fun j7 => [some (.ref 67), some (.int 0), none]) (fun j7 => []) (fun j7 => j7) ?_ (fun j7 => ?_)
        · skip
          refine P_loop (fun s8 => [some (.ref 67), some (.int 0), some (.int s8.1)]) (fun s8 => s8.2) (fun s8 => ?_) _ ((0, σ4))
          unfold b_X11_mayEnd_55
          refine P_l (fun hJ _ _ q => E_iload_n dX11_mayEnd_55 rfl (E_bipush (v := 52) dX11_mayEnd_56 (by decide) q)) ?_
          refine P_if (fun hJ _ _ h1 h2 => E_icmp_ge 74 dX11_mayEnd_58 (by decide) h1 h2) ?_ ?_
          · skip
            refine P_less [some (.ref 67), some (.int 0), none] (And.intro rfl (And.intro rfl trivial)) ?_
            exact P_inl (P_back s8.2)
          · skip
            refine P_l (fun hJ _ _ q => E_aload_n dX11_mayEnd_61 rfl (E_getR (b := 91) clX11 40 (by decide) flX11_106 (Or.inr ⟨_, rfl⟩) dX11_mayEnd_62 (kd67 hJ.1.1) (rf67_40 hJ.1.1) (by decide) (E_iload_n dX11_mayEnd_65 rfl (E_iconst (v := 0) dX11_mayEnd_66 (by decide) q)))) ?_
            refine P_g (fun g9 => ?_)
            refine P_w (fun hJ _ _ q => E_iast dX11_mayEnd_67 (kd91 hJ.1.1) (by decide) (inB_vp g9) q) (fun hJ => Sy_wI hJ.1) rfl rfl rfl (fun σ10 hσ10 => ?_)
            refine P_l (fun hJ _ _ q => E_iinc (v := 1) (ls2 := [some (.ref 67), some (.int 0), some (.int (s8.1 + 1))]) dX11_mayEnd_68 rfl (by decide) (by decide) rfl (E_goto 55 dX11_mayEnd_71 (by decide) q)) ?_
            exact P_back ((s8.1 + 1, σ10))
        · skip
          refine P_l (fun hJ _ _ q => E_iconst (v := 0) dX11_mayEnd_74 (by decide) (E_istore_n (ls2 := [some (.ref 67), some (.int 0), some (.int 0)]) dX11_mayEnd_75 (by decide) rfl q)) ?_
          refine P_join (pc2 := 133) (fun j12 => [some (.ref 67), some (.int j12.1), none]) (fun j12 => []) (fun j12 => j12.2) ?_ (fun j12 => ?_)
          · skip
            refine P_loop (fun s13 => [some (.ref 67), some (.int s13.1), some (.int s13.2.1)]) (fun s13 => s13.2.2) (fun s13 => ?_) _ ((0, 0, j7))
            unfold b_X11_mayEnd_76
            refine P_l (fun hJ _ _ q => E_iload_n dX11_mayEnd_76 rfl (E_aload_n dX11_mayEnd_77 rfl (E_getI clX11 30 (by decide) flX11_303 (Or.inl rfl) dX11_mayEnd_78 (kd67 hJ.1.1) q))) ?_
            refine P_if (fun hJ _ _ h1 h2 => E_icmp_ge 133 dX11_mayEnd_81 (by decide) h1 h2) ?_ ?_
            · skip
              refine P_less [some (.ref 67), some (.int s13.1), none] (And.intro rfl (And.intro rfl trivial)) ?_
              exact P_inl (P_back ((s13.1, s13.2.2)))
            · skip
              refine P_l (fun hJ _ _ q => E_aload_n dX11_mayEnd_84 rfl (E_getR (b := 91) clX11 40 (by decide) flX11_106 (Or.inr ⟨_, rfl⟩) dX11_mayEnd_85 (kd67 hJ.1.1) (rf67_40 hJ.1.1) (by decide) (E_aload_n dX11_mayEnd_88 rfl (E_getR (b := 84) clX11 29 (by decide) flX11_84 (Or.inr ⟨_, rfl⟩) dX11_mayEnd_89 (kd67 hJ.1.1) (rf67_29 hJ.1.1) (by decide) (E_iload_n dX11_mayEnd_92 rfl q))))) ?_
              refine P_g (fun g14 => ?_)
              refine P_l (fun hJ _ _ q => E_iald dX11_mayEnd_93 (kd84 hJ.1.1) (inB_vp g14) (E_dup2 dX11_mayEnd_94 rfl rfl q)) ?_
              refine P_g (fun g15 => ?_)
              refine P_l (fun hJ _ _ q => E_iald dX11_mayEnd_95 (kd91 hJ.1.1) (inB_vp g15) (E_iconst (v := 1) dX11_mayEnd_96 (by decide) (E_iadd dX11_mayEnd_97 q))) ?_
              refine P_w (fun hJ _ _ q => E_iast dX11_mayEnd_98 (kd91 hJ.1.1) (by decide) (inB_vp g15) q) (fun hJ => Sy_wI hJ.1) rfl rfl rfl (fun σ16 hσ16 => ?_)
              refine P_l (fun hJ _ _ q => E_iload_n dX11_mayEnd_99 rfl (E_aload_n dX11_mayEnd_100 rfl (E_getR (b := 83) clX11 28 (by decide) flX11_81 (Or.inr ⟨_, rfl⟩) dX11_mayEnd_101 (kd67 hJ.1.1) (rf67_28 hJ.1.1) (by decide) (E_iload_n dX11_mayEnd_104 rfl (E_iald dX11_mayEnd_105 (kd83 hJ.1.1) (inB_vp g14) (E_iconst (v := 1) dX11_mayEnd_106 (by decide) q)))))) ?_
              refine P_l (pc2 := 125) (ls2 := [some (.ref 67), none, some (.int s13.2.1)]) (st2 := [.int ((if (rI σ16 83 (s13.2.1 : Int32).toNatClampNeg) = 1 then ((iRem (rI σ16 84 (s13.2.1 : Int32).toNatClampNeg) 13) + 1) else 0 : Int32)), .int s13.1]) (fun hJ _ _ hq => ?_) ?_
              · skip
                refine E_icmp_ne 124 dX11_mayEnd_107 (by decide) (fun c_107_0 => ?_) (fun c_107_0 => ?_)
                · skip
                  refine E_iconst (v := 0) dX11_mayEnd_124 (by decide) ?_
                  simp only [if_neg c_107_0] at hq
                  exact E_less (ls2 := [some (.ref 67), none, some (.int s13.2.1)]) hq (rLe_at [some (.ref 67), none, some (.int s13.2.1)] [some (.ref 67), some (.int s13.1), some (.int s13.2.1)] (And.intro rfl (And.intro rfl trivial)))
                · skip
                  refine E_aload_n dX11_mayEnd_110 rfl ?_
                  refine E_getR (b := 84) clX11 29 (by decide) flX11_84 (Or.inr ⟨_, rfl⟩) dX11_mayEnd_111 (kd67 hJ.1.1) (rf67_29 hJ.1.1) (by decide) ?_
                  refine E_iload_n dX11_mayEnd_114 rfl ?_
                  refine E_iald dX11_mayEnd_115 (kd84 hJ.1.1) (inB_vp g14) ?_
                  refine E_bipush (v := 13) dX11_mayEnd_116 (by decide) ?_
                  refine E_irem dX11_mayEnd_118 (by decide) ?_
                  refine E_iconst (v := 1) dX11_mayEnd_119 (by decide) ?_
                  refine E_iadd dX11_mayEnd_120 ?_
                  refine E_goto 125 dX11_mayEnd_121 (by decide) ?_
                  simp only [if_pos c_107_0] at hq
                  exact E_less (ls2 := [some (.ref 67), none, some (.int s13.2.1)]) hq (rLe_at [some (.ref 67), none, some (.int s13.2.1)] [some (.ref 67), some (.int s13.1), some (.int s13.2.1)] (And.intro rfl (And.intro rfl trivial)))
              · skip
                refine P_l (fun hJ _ _ q => E_iadd dX11_mayEnd_125 (E_istore_n (ls2 := [some (.ref 67), some (.int (s13.1 + ((if (rI σ16 83 (s13.2.1 : Int32).toNatClampNeg) = 1 then ((iRem (rI σ16 84 (s13.2.1 : Int32).toNatClampNeg) 13) + 1) else 0 : Int32)))), some (.int s13.2.1)]) dX11_mayEnd_126 (by decide) rfl q)) ?_
                refine P_v (s13.1 + ((if (rI σ16 83 (s13.2.1 : Int32).toNatClampNeg) = 1 then ((iRem (rI σ16 84 (s13.2.1 : Int32).toNatClampNeg) 13) + 1) else 0 : Int32))) (fun x => [some (.ref 67), some (.int x), some (.int s13.2.1)]) (fun x17 => ?_)
                refine P_l (fun hJ _ _ q => E_iinc (v := 1) (ls2 := [some (.ref 67), some (.int x17), some (.int (s13.2.1 + 1))]) dX11_mayEnd_127 rfl (by decide) (by decide) rfl (E_goto 76 dX11_mayEnd_130 (by decide) q)) ?_
                exact P_back ((x17, s13.2.1 + 1, σ16))
          · skip
            refine P_l (fun hJ _ _ q => E_iload_n dX11_mayEnd_133 rfl (E_aload_n dX11_mayEnd_134 rfl (E_getI clX11 4 (by decide) flX11_21 (Or.inl rfl) dX11_mayEnd_135 (kd67 hJ.1.1) q))) ?_
            refine P_if (fun hJ _ _ h1 h2 => E_icmp_lt 152 dX11_mayEnd_138 (by decide) h1 h2) ?_ ?_
            · skip
              refine P_l (fun hJ _ _ q => E_iconst (v := 0) dX11_mayEnd_152 (by decide) q) ?_
              exact P_ret (fun _ _ => E_zret01 rfl (by decide) dX11_mayEnd_153)
            · skip
              refine P_l (fun hJ _ _ q => E_aload_n dX11_mayEnd_141 rfl q) ?_
              refine P_call (t := fun v => some (.int v)) (st2 := fun v => .int v :: []) (kc2 := 0) (ks2 := 0) (fun hJ => (ok_X11_canBeCut (σ := j12.2)  )) (fun hJ _ _ _ _ v τ1 hM q => E_callV (as := []) (b := 67) (st := []) hM (by decide) yfX11_canBeCut mlX11_271 imX11_canBeCut seX11_canBeCut clX11 (kd67 hJ.1.1) rfl (Nat.le_of_ble_eq_true rfl) rfl dX11_mayEnd_142 q) (by decide) (by decide) (fun v18 σ19 => ?_)
              refine P_l (pc2 := 153) (ls2 := [none, none, none]) (st2 := [.int ((if v18 = 0 then 0 else 1 : Int32))]) (fun hJ _ _ hq => ?_) ?_
              · skip
                refine E_if_eq 152 dX11_mayEnd_145 (by decide) (fun c_145_0 => ?_) (fun c_145_0 => ?_)
                · skip
                  refine E_iconst (v := 0) dX11_mayEnd_152 (by decide) ?_
                  simp only [if_pos c_145_0] at hq
                  exact E_less (ls2 := [none, none, none]) hq (rLe_at [none, none, none] [some (.ref 67), some (.int j12.1), none] trivial)
                · skip
                  refine E_iconst (v := 1) dX11_mayEnd_148 (by decide) ?_
                  refine E_goto 153 dX11_mayEnd_149 (by decide) ?_
                  simp only [if_neg c_145_0] at hq
                  exact E_less (ls2 := [none, none, none]) hq (rLe_at [none, none, none] [some (.ref 67), some (.int j12.1), none] trivial)
              · skip
                exact P_ret (fun _ _ => E_zret01 rfl (by split <;> decide) dX11_mayEnd_153)
      · skip
        refine P_l (fun hJ _ _ q => E_iconst (v := 1) dX11_mayEnd_49 (by decide) q) ?_
        exact P_ret (fun _ _ => E_zret01 rfl (by decide) dX11_mayEnd_50)

def b_X11_worthOf_18 (σ : rS) (p1 : Int32) (s3 : Int32 × Int32) : Option (Int32 ⊕ (Int32 × Int32)) := if 52 ≤ s3.2 then (some (.inl s3.1)) else (if inB ((53 * p1) + s3.2) 212 then (oLet (s3.1 + ((rI σ 79 ((53 * p1) + s3.2 : Int32).toNatClampNeg) * ((iRem s3.2 13) + 1)) : Int32) fun x5 => some (.inr ((x5, s3.2 + 1)))) else none)
def f_X11_worthOf (σ : rS) (p1 : Int32) : Option Int32 := if inB ((53 * p1) + 52) 212 then (oLet (30 * (rI σ 79 ((53 * p1) + 52 : Int32).toNatClampNeg) : Int32) fun x2 => oLoop (b_X11_worthOf_18 σ p1) oFuel ((x2, 0))) else none
set_option maxRecDepth 20000 in
set_option maxHeartbeats 2000000 in
theorem ok_X11_worthOf {σ : rS} {p1 : Int32}   : rFr Sy yX11_worthOf mX11_worthOf 0 [.ref 67, .int p1] σ (fun v => some (.int v)) (f_X11_worthOf σ p1) := by
  refine rFr_of (ls := [some (.ref 67), some (.int p1), none, none]) yfX11_worthOf rfl (Nat.le_of_ble_eq_true rfl) (fun o τ => ?_)
  unfold f_X11_worthOf
  refine P_l (fun hJ _ _ q => E_bipush (v := 30) dX11_worthOf_0 (by decide) (E_aload_n dX11_worthOf_2 rfl (E_getR (b := 79) clX11 18 (by decide) flX11_63 (Or.inr ⟨_, rfl⟩) dX11_worthOf_3 (kd67 hJ.1.1) (rf67_18 hJ.1.1) (by decide) (E_bipush (v := 53) dX11_worthOf_6 (by decide) (E_iload_n dX11_worthOf_8 rfl (E_imul dX11_worthOf_9 (E_bipush (v := 52) dX11_worthOf_10 (by decide) (E_iadd dX11_worthOf_12 q)))))))) ?_
  refine P_g (fun g1 => ?_)
  refine P_l (fun hJ _ _ q => E_iald dX11_worthOf_13 (kd79 hJ.1.1) (inB_vp g1) (E_imul dX11_worthOf_14 (E_istore_n (ls2 := [some (.ref 67), some (.int p1), some (.int (30 * (rI σ 79 ((53 * p1) + 52 : Int32).toNatClampNeg))), none]) dX11_worthOf_15 (by decide) rfl q))) ?_
  refine P_v (30 * (rI σ 79 ((53 * p1) + 52 : Int32).toNatClampNeg)) (fun x => [some (.ref 67), some (.int p1), some (.int x), none]) (fun x2 => ?_)
  refine P_l (fun hJ _ _ q => E_iconst (v := 0) dX11_worthOf_16 (by decide) (E_istore_n (ls2 := [some (.ref 67), some (.int p1), some (.int x2), some (.int 0)]) dX11_worthOf_17 (by decide) rfl q)) ?_
  refine P_loop (fun s3 => [some (.ref 67), some (.int p1), some (.int s3.1), some (.int s3.2)]) (fun _ => σ) (fun s3 => ?_) _ ((x2, 0))
  unfold b_X11_worthOf_18
  refine P_l (fun hJ _ _ q => E_iload_n dX11_worthOf_18 rfl (E_bipush (v := 52) dX11_worthOf_19 (by decide) q)) ?_
  refine P_if (fun hJ _ _ h1 h2 => E_icmp_ge 51 dX11_worthOf_21 (by decide) h1 h2) ?_ ?_
  · skip
    refine P_l (fun hJ _ _ q => E_iload_n dX11_worthOf_51 rfl q) ?_
    exact P_inl (P_retr (fun _ _ => E_iret rfl dX11_worthOf_52))
  · skip
    refine P_l (fun hJ _ _ q => E_iload_n dX11_worthOf_24 rfl (E_aload_n dX11_worthOf_25 rfl (E_getR (b := 79) clX11 18 (by decide) flX11_63 (Or.inr ⟨_, rfl⟩) dX11_worthOf_26 (kd67 hJ.1.1) (rf67_18 hJ.1.1) (by decide) (E_bipush (v := 53) dX11_worthOf_29 (by decide) (E_iload_n dX11_worthOf_31 rfl (E_imul dX11_worthOf_32 (E_iload_n dX11_worthOf_33 rfl (E_iadd dX11_worthOf_34 q)))))))) ?_
    refine P_g (fun g4 => ?_)
    refine P_l (fun hJ _ _ q => E_iald dX11_worthOf_35 (kd79 hJ.1.1) (inB_vp g4) (E_iload_n dX11_worthOf_36 rfl (E_bipush (v := 13) dX11_worthOf_37 (by decide) (E_irem dX11_worthOf_39 (by decide) (E_iconst (v := 1) dX11_worthOf_40 (by decide) (E_iadd dX11_worthOf_41 (E_imul dX11_worthOf_42 (E_iadd dX11_worthOf_43 (E_istore_n (ls2 := [some (.ref 67), some (.int p1), some (.int (s3.1 + ((rI σ 79 ((53 * p1) + s3.2 : Int32).toNatClampNeg) * ((iRem s3.2 13) + 1)))), some (.int s3.2)]) dX11_worthOf_44 (by decide) rfl q))))))))) ?_
    refine P_v (s3.1 + ((rI σ 79 ((53 * p1) + s3.2 : Int32).toNatClampNeg) * ((iRem s3.2 13) + 1))) (fun x => [some (.ref 67), some (.int p1), some (.int x), some (.int s3.2)]) (fun x5 => ?_)
    refine P_l (fun hJ _ _ q => E_iinc (v := 1) (ls2 := [some (.ref 67), some (.int p1), some (.int x5), some (.int (s3.2 + 1))]) dX11_worthOf_45 rfl (by decide) (by decide) rfl (E_goto 18 dX11_worthOf_48 (by decide) q)) ?_
    exact P_back ((x5, s3.2 + 1))

def b_X11_placeOf_2 (σ : rS) (p1 : Int32) (s1 : Int32) : Option (Int32 ⊕ (Int32)) := if inB s1 4 then (if (rI σ 74 (s1 : Int32).toNatClampNeg) = p1 then (some (.inl s1)) else (some (.inr (s1 + 1)))) else none
def f_X11_placeOf (σ : rS) (p1 : Int32) : Option Int32 := oLoop (b_X11_placeOf_2 σ p1) oFuel 0
set_option maxRecDepth 20000 in
set_option maxHeartbeats 2000000 in
theorem ok_X11_placeOf {σ : rS} {p1 : Int32}   : rFr Sy yX11_placeOf mX11_placeOf 0 [.ref 67, .int p1] σ (fun v => some (.int v)) (f_X11_placeOf σ p1) := by
  refine rFr_of (ls := [some (.ref 67), some (.int p1), none]) yfX11_placeOf rfl (Nat.le_of_ble_eq_true rfl) (fun o τ => ?_)
  unfold f_X11_placeOf
  refine P_l (fun hJ _ _ q => E_iconst (v := 0) dX11_placeOf_0 (by decide) (E_istore_n (ls2 := [some (.ref 67), some (.int p1), some (.int 0)]) dX11_placeOf_1 (by decide) rfl q)) ?_
  refine P_loop (fun s1 => [some (.ref 67), some (.int p1), some (.int s1)]) (fun _ => σ) (fun s1 => ?_) _ 0
  unfold b_X11_placeOf_2
  refine P_l (fun hJ _ _ q => E_aload_n dX11_placeOf_2 rfl (E_getR (b := 74) clX11 13 (by decide) flX11_47 (Or.inr ⟨_, rfl⟩) dX11_placeOf_3 (kd67 hJ.1.1) (rf67_13 hJ.1.1) (by decide) (E_iload_n dX11_placeOf_6 rfl q))) ?_
  refine P_g (fun g2 => ?_)
  refine P_l (fun hJ _ _ q => E_iald dX11_placeOf_7 (kd74 hJ.1.1) (inB_vp g2) (E_iload_n dX11_placeOf_8 rfl q)) ?_
  refine P_if (fun hJ _ _ h1 h2 => E_icmp_eq 18 dX11_placeOf_9 (by decide) h1 h2) ?_ ?_
  · skip
    refine P_l (fun hJ _ _ q => E_iload_n dX11_placeOf_18 rfl q) ?_
    exact P_inl (P_retr (fun _ _ => E_iret rfl dX11_placeOf_19))
  · skip
    refine P_l (fun hJ _ _ q => E_iinc (v := 1) (ls2 := [some (.ref 67), some (.int p1), some (.int (s1 + 1))]) dX11_placeOf_12 rfl (by decide) (by decide) rfl (E_goto 2 dX11_placeOf_15 (by decide) q)) ?_
    exact P_back (s1 + 1)

