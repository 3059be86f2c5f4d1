def f_X10_findCuts (σ : rS) : Option (Unit × rS) := if (rI σ 3 12) = (rI σ 5 12) then (some (((), σ))) else (oB (f_X10_takeTable σ) fun _ σ2 => oB (f_X9_go σ2 2 ((rI σ2 4 0) + 1)) fun v3 σ4 => oLet ((if v3 ≤ 0 then 0 else 1 : Int32) : Int32) fun x5 => oJoin (if x5 = 0 then (some (.inr ((0 : Int32)))) else (if inB 0 ((rK σ4 (rR σ4 (rR σ4 37 5) 0)).2) then (some (.inr (((rL σ4 (rR σ4 (rR σ4 37 5) 1) (0 : Int32).toNatClampNeg : Int64)).toInt32))) else none)) fun j6 => oLet (wI σ4 3 13 j6) fun σ8 => oJoin (if x5 = 0 then (some (.inr (((-1) : Int32)))) else (if inB 0 ((rK σ8 (rR σ8 (rR σ8 37 5) 0)).2) then (some (.inr (((((rL σ8 (rR σ8 (rR σ8 37 5) 2) (0 : Int32).toNatClampNeg).toUInt64 >>> (((32 : Int32)).toInt64.toUInt64 &&& Int64.toUInt64 63)).toInt64 : Int64)).toInt32))) else none)) fun j9 => oLet (wI σ8 3 14 j9) fun σ11 => if x5 = 0 then (oLet (wI σ11 3 15 ((-1))) fun σ12 => oLet (wI σ12 3 12 (rI σ12 5 12)) fun σ13 => some (((), σ13))) else (if inB 0 ((rK σ11 (rR σ11 (rR σ11 37 5) 0)).2) then (oLet (wI σ11 3 15 (((rL σ11 (rR σ11 (rR σ11 37 5) 2) (0 : Int32).toNatClampNeg : Int64)).toInt32)) fun σ15 => oLet (wI σ15 3 12 (rI σ15 5 12)) fun σ16 => some (((), σ16))) else none))
set_option maxRecDepth 20000 in
set_option maxHeartbeats 2000000 in
theorem ok_X10_findCuts {σ : rS}   : rFn Sy yX10_findCuts mX10_findCuts 5 [.ref 3] σ 0 0 (fun _ => .inl none) (f_X10_findCuts σ) := by
  refine rF_of (ls := [some (.ref 3), none]) yfX10_findCuts rfl (Nat.le_of_ble_eq_true rfl) (fun o τ => ?_)
  unfold f_X10_findCuts
  refine P_l (fun hJ _ _ q => E_aload_n dX10_findCuts_0 rfl (E_getI clX10 12 (by decide) flX10_68 (Or.inl rfl) dX10_findCuts_1 (kd3 hJ.1.1) (E_aload_n dX10_findCuts_4 rfl (E_getR (b := 5) clX10 1 (by decide) flX10_19 (Or.inl ⟨_, rfl⟩) dX10_findCuts_5 (kd3 hJ.1.1) (rf3_1 hJ.1.1) (by decide) (E_getIN clX1 12 (by decide) flX10_460 (Or.inl rfl) dX10_findCuts_8 (kd5 hJ.1.1) q))))) ?_
  refine P_if (fun hJ _ _ h1 h2 => E_icmp_ne 15 dX10_findCuts_11 (by decide) h2 h1) ?_ ?_
  · skip
    exact P_ret (fun _ _ => E_vret rfl dX10_findCuts_14)
  · skip
    refine P_l (fun hJ _ _ q => E_aload_n dX10_findCuts_15 rfl q) ?_
    refine P_call (t := fun _ => none) (st2 := fun _ => []) (kc2 := 0) (ks2 := 0) (fun hJ => (ok_X10_takeTable (σ := σ)  )) (fun hJ _ _ _ _ v τ1 hM q => E_callV (as := []) (b := 3) (st := []) hM (by decide) yfX10_takeTable mlX10_242 imX10_takeTable seX10_takeTable clX10 (kd3 hJ.1.1) rfl (Nat.le_of_ble_eq_true rfl) rfl dX10_findCuts_16 q) (by decide) (by decide) (fun v1 σ2 => ?_)
    refine P_l (fun hJ _ _ q => E_aload_n dX10_findCuts_19 rfl (E_getR (b := 37) clX10 6 (by decide) flX10_50 (Or.inl ⟨_, rfl⟩) dX10_findCuts_20 (kd3 hJ.1.1) (rf3_6 hJ.1.1) (by decide) (E_aload_n dX10_findCuts_23 rfl (E_getR (b := 4) clX10 0 (by decide) flX10_12 (Or.inl ⟨_, rfl⟩) dX10_findCuts_24 (kd3 hJ.1.1) (rf3_0 hJ.1.1) (by decide) (E_iconst (v := 2) dX10_findCuts_27 (by decide) (E_aload_n dX10_findCuts_28 rfl (E_getR (b := 4) clX10 0 (by decide) flX10_12 (Or.inl ⟨_, rfl⟩) dX10_findCuts_29 (kd3 hJ.1.1) (rf3_0 hJ.1.1) (by decide) (E_getIN clX5 0 (by decide) flX10_88 (Or.inl rfl) dX10_findCuts_32 (kd4 hJ.1.1) (E_iconst (v := 1) dX10_findCuts_35 (by decide) (E_iadd dX10_findCuts_36 q)))))))))) ?_
    refine P_call (t := fun v => some (.int v)) (st2 := fun v => .int v :: []) (kc2 := 0) (ks2 := 0) (fun hJ => (ok_X9_go (σ := σ2) (p2 := 2) (p3 := (rI σ2 4 0) + 1) )) (fun hJ _ _ _ _ v τ1 hM q => E_callVN (as := [.ref 4, .int 2, .int ((rI σ2 4 0) + 1)]) (b := 37) (st := []) hM (by decide) yfX9_go mlX10_245 imX9_go seX9_go clX9 (kd37 hJ.1.1) rfl (Nat.le_of_ble_eq_true rfl) rfl dX10_findCuts_37 q) (by decide) (by decide) (fun v3 σ4 => ?_)
    refine P_l (pc2 := 48) (ls2 := [some (.ref 3), none]) (st2 := [.int ((if v3 ≤ 0 then 0 else 1 : Int32))]) (fun hJ _ _ hq => ?_) ?_
    · skip
      refine E_if_le 47 dX10_findCuts_40 (by decide) (fun c_40_0 => ?_) (fun c_40_0 => ?_)
      · skip
        refine E_iconst (v := 0) dX10_findCuts_47 (by decide) ?_
        simp only [if_pos c_40_0] at hq
        exact hq
      · skip
        refine E_iconst (v := 1) dX10_findCuts_43 (by decide) ?_
        refine E_goto 48 dX10_findCuts_44 (by decide) ?_
        simp only [if_neg c_40_0] at hq
        exact hq
    · skip
      refine P_l (fun hJ _ _ q => E_istore_n (ls2 := [some (.ref 3), some (.int ((if v3 ≤ 0 then 0 else 1 : Int32)))]) dX10_findCuts_48 (by decide) rfl q) ?_
      refine P_v ((if v3 ≤ 0 then 0 else 1 : Int32)) (fun x => [some (.ref 3), some (.int x)]) (fun x5 => ?_)
      refine P_l (fun hJ _ _ q => E_aload_n dX10_findCuts_49 rfl (E_iload_n dX10_findCuts_50 rfl q)) ?_
      refine P_join (pc2 := 71) (fun j6 => [some (.ref 3), some (.int x5)]) (fun j6 => [.int j6, .ref 3]) (fun _ => σ4) ?_ (fun j6 => ?_)
      · skip
        refine P_if (fun hJ _ _ h1 h2 => E_if_eq 70 dX10_findCuts_51 (by decide) h1 h2) ?_ ?_
        · skip
          refine P_l (fun hJ _ _ q => E_iconst (v := 0) dX10_findCuts_70 (by decide) q) ?_
          exact P_back ((0 : Int32))
        · skip
          refine P_l (fun hJ _ _ q => E_aload_n dX10_findCuts_54 rfl (E_getR (b := 37) clX10 6 (by decide) flX10_50 (Or.inl ⟨_, rfl⟩) dX10_findCuts_55 (kd3 hJ.1.1) (rf3_6 hJ.1.1) (by decide) (E_getRN (b := rR σ4 37 5) clX9 5 (by decide) flX10_463 (Or.inl ⟨_, rfl⟩) dX10_findCuts_58 (kd37 hJ.1.1) rfl (Nat.pos_iff_ne_zero.mp (Nat.lt_of_lt_of_le (by decide : 0 < 3) (Sy_here hJ.1).2)) (E_getRN (b := rR σ4 (rR σ4 37 5) 1) clX3 1 (by decide) flX10_467 (Or.inr ⟨_, rfl⟩) dX10_findCuts_61 (Sy_here hJ.1).1 rfl (Nat.pos_iff_ne_zero.mp (Nat.lt_of_lt_of_le (by decide : 0 < 3) (Sy_here1 hJ.1).2)) (E_iconst (v := 0) dX10_findCuts_64 (by decide) q))))) ?_
          refine P_g (fun g7 => ?_)
          refine P_l (fun hJ _ _ q => E_lald dX10_findCuts_65 (Sy_here1 hJ.1).1 (inB_vp g7) (E_l2i dX10_findCuts_66 (E_goto 71 dX10_findCuts_67 (by decide) q))) ?_
          exact P_back (((rL σ4 (rR σ4 (rR σ4 37 5) 1) (0 : Int32).toNatClampNeg : Int64)).toInt32)
      · skip
        refine P_w (fun hJ _ _ q => E_putI clX10 13 (by decide) flX10_252 (Or.inl rfl) rfl dX10_findCuts_71 (kd3 hJ.1.1) q) (fun hJ => Sy_wI hJ.1) rfl rfl rfl (fun σ8 hσ8 => ?_)
        refine P_l (fun hJ _ _ q => E_aload_n dX10_findCuts_74 rfl (E_iload_n dX10_findCuts_75 rfl q)) ?_
        refine P_join (pc2 := 99) (fun j9 => [some (.ref 3), some (.int x5)]) (fun j9 => [.int j9, .ref 3]) (fun _ => σ8) ?_ (fun j9 => ?_)
        · skip
          refine P_if (fun hJ _ _ h1 h2 => E_if_eq 98 dX10_findCuts_76 (by decide) h1 h2) ?_ ?_
          · skip
            refine P_l (fun hJ _ _ q => E_iconst (v := (-1)) dX10_findCuts_98 (by decide) q) ?_
            exact P_back (((-1) : Int32))
          · skip
            refine P_l (fun hJ _ _ q => E_aload_n dX10_findCuts_79 rfl (E_getR (b := 37) clX10 6 (by decide) flX10_50 (Or.inl ⟨_, rfl⟩) dX10_findCuts_80 (kd3 hJ.1.1) (rf3_6 hJ.1.1) (by decide) (E_getRN (b := rR σ8 37 5) clX9 5 (by decide) flX10_463 (Or.inl ⟨_, rfl⟩) dX10_findCuts_83 (kd37 hJ.1.1) rfl (Nat.pos_iff_ne_zero.mp (Nat.lt_of_lt_of_le (by decide : 0 < 3) (Sy_here hJ.1).2)) (E_getRN (b := rR σ8 (rR σ8 37 5) 2) clX3 2 (by decide) flX10_473 (Or.inr ⟨_, rfl⟩) dX10_findCuts_86 (Sy_here hJ.1).1 rfl (Nat.pos_iff_ne_zero.mp (Nat.lt_of_lt_of_le (by decide : 0 < 3) (Sy_here2 hJ.1).2)) (E_iconst (v := 0) dX10_findCuts_89 (by decide) q))))) ?_
            refine P_g (fun g10 => ?_)
            refine P_l (fun hJ _ _ q => E_lald dX10_findCuts_90 (Sy_here2 hJ.1).1 (inB_vp g10) (E_bipush (v := 32) dX10_findCuts_91 (by decide) (E_lushr dX10_findCuts_93 (E_l2i dX10_findCuts_94 (E_goto 99 dX10_findCuts_95 (by decide) q))))) ?_
            exact P_back (((((rL σ8 (rR σ8 (rR σ8 37 5) 2) (0 : Int32).toNatClampNeg).toUInt64 >>> (((32 : Int32)).toInt64.toUInt64 &&& Int64.toUInt64 63)).toInt64 : Int64)).toInt32)
        · skip
          refine P_w (fun hJ _ _ q => E_putI clX10 14 (by decide) flX10_255 (Or.inl rfl) rfl dX10_findCuts_99 (kd3 hJ.1.1) q) (fun hJ => Sy_wI hJ.1) rfl rfl rfl (fun σ11 hσ11 => ?_)
          refine P_l (fun hJ _ _ q => E_aload_n dX10_findCuts_102 rfl (E_iload_n dX10_findCuts_103 rfl q)) ?_
          refine P_if (fun hJ _ _ h1 h2 => E_if_eq 123 dX10_findCuts_104 (by decide) h1 h2) ?_ ?_
          · skip
            refine P_l (fun hJ _ _ q => E_iconst (v := (-1)) dX10_findCuts_123 (by decide) q) ?_
            refine P_w (fun hJ _ _ q => E_putI clX10 15 (by decide) flX10_258 (Or.inl rfl) rfl dX10_findCuts_124 (kd3 hJ.1.1) q) (fun hJ => Sy_wI hJ.1) rfl rfl rfl (fun σ12 hσ12 => ?_)
            refine P_l (fun hJ _ _ q => E_aload_n dX10_findCuts_127 rfl (E_aload_n dX10_findCuts_128 rfl (E_getR (b := 5) clX10 1 (by decide) flX10_19 (Or.inl ⟨_, rfl⟩) dX10_findCuts_129 (kd3 hJ.1.1) (rf3_1 hJ.1.1) (by decide) (E_getIN clX1 12 (by decide) flX10_460 (Or.inl rfl) dX10_findCuts_132 (kd5 hJ.1.1) q)))) ?_
            refine P_w (fun hJ _ _ q => E_putI clX10 12 (by decide) flX10_68 (Or.inl rfl) rfl dX10_findCuts_135 (kd3 hJ.1.1) q) (fun hJ => Sy_wI hJ.1) rfl rfl rfl (fun σ13 hσ13 => ?_)
            exact P_ret (fun _ _ => E_vret rfl dX10_findCuts_138)
          · skip
            refine P_l (fun hJ _ _ q => E_aload_n dX10_findCuts_107 rfl (E_getR (b := 37) clX10 6 (by decide) flX10_50 (Or.inl ⟨_, rfl⟩) dX10_findCuts_108 (kd3 hJ.1.1) (rf3_6 hJ.1.1) (by decide) (E_getRN (b := rR σ11 37 5) clX9 5 (by decide) flX10_463 (Or.inl ⟨_, rfl⟩) dX10_findCuts_111 (kd37 hJ.1.1) rfl (Nat.pos_iff_ne_zero.mp (Nat.lt_of_lt_of_le (by decide : 0 < 3) (Sy_here hJ.1).2)) (E_getRN (b := rR σ11 (rR σ11 37 5) 2) clX3 2 (by decide) flX10_473 (Or.inr ⟨_, rfl⟩) dX10_findCuts_114 (Sy_here hJ.1).1 rfl (Nat.pos_iff_ne_zero.mp (Nat.lt_of_lt_of_le (by decide : 0 < 3) (Sy_here2 hJ.1).2)) (E_iconst (v := 0) dX10_findCuts_117 (by decide) q))))) ?_
            refine P_g (fun g14 => ?_)
            refine P_l (fun hJ _ _ q => E_lald dX10_findCuts_118 (Sy_here2 hJ.1).1 (inB_vp g14) (E_l2i dX10_findCuts_119 (E_goto 124 dX10_findCuts_120 (by decide) q))) ?_
            refine P_w (fun hJ _ _ q => E_putI clX10 15 (by decide) flX10_258 (Or.inl rfl) rfl dX10_findCuts_124 (kd3 hJ.1.1) q) (fun hJ => Sy_wI hJ.1) rfl rfl rfl (fun σ15 hσ15 => ?_)
            refine P_l (fun hJ _ _ q => E_aload_n dX10_findCuts_127 rfl (E_aload_n dX10_findCuts_128 rfl (E_getR (b := 5) clX10 1 (by decide) flX10_19 (Or.inl ⟨_, rfl⟩) dX10_findCuts_129 (kd3 hJ.1.1) (rf3_1 hJ.1.1) (by decide) (E_getIN clX1 12 (by decide) flX10_460 (Or.inl rfl) dX10_findCuts_132 (kd5 hJ.1.1) q)))) ?_
            refine P_w (fun hJ _ _ q => E_putI clX10 12 (by decide) flX10_68 (Or.inl rfl) rfl dX10_findCuts_135 (kd3 hJ.1.1) q) (fun hJ => Sy_wI hJ.1) rfl rfl rfl (fun σ16 hσ16 => ?_)
            exact P_ret (fun _ _ => E_vret rfl dX10_findCuts_138)

def f_X10_cuts (σ : rS) (p1 : Int32) : Option ((Int32 ⊕ String) × rS) := if (vIn p1 0 2) = 0 then (some ((.inr "java/lang/IllegalArgumentException", σ))) else (oB (f_X10_findCuts σ) fun _ σ2 => some ((.inl ((if p1 = 0 then (rI σ2 3 13) else (if p1 = 1 then (rI σ2 3 14) else (rI σ2 3 15)) : Int32)), σ2)))
set_option maxRecDepth 20000 in
set_option maxHeartbeats 2000000 in
theorem ok_X10_cuts {σ : rS} {p1 : Int32}   : rFn Sy yX10_cuts mX10_cuts 6 [.ref 3, .int p1] σ 1 6 (tX (fun v => .inl (some (.int v)))) (f_X10_cuts σ p1) := by
  refine rF_of (ls := [some (.ref 3), some (.int p1)]) yfX10_cuts rfl (Nat.le_of_ble_eq_true rfl) (fun o τ => ?_)
  unfold f_X10_cuts
  refine P_l (fun hJ _ _ q => E_iload_n dX10_cuts_0 rfl (E_iconst (v := 0) dX10_cuts_1 (by decide) (E_iconst (v := 2) dX10_cuts_2 (by decide) (E_callS (as := [.int p1, .int 0, .int 2]) (st := []) (ok_within (σ := σ) (v := p1) (a := 0) (b := 2)) (by decide) yfX10_within mlX10_74 stX10_within rfl (Nat.le_of_ble_eq_true rfl) rfl dX10_cuts_3 q)))) ?_
  refine P_if (fun hJ _ _ h1 h2 => E_if_ne 17 dX10_cuts_6 (by decide) h2 h1) ?_ ?_
  · skip
    exact P_thr (fun kc ks => xt_IllegalArgumentException (M := mX10_cuts) (pc := 9) rfl rfl (by decide) (Nat.le_of_ble_eq_true rfl) dX10_cuts_9 dX10_cuts_12 dX10_cuts_13 dX10_cuts_16 kc ks) (by decide) (by decide)
  · skip
    refine P_l (fun hJ _ _ q => E_aload_n dX10_cuts_17 rfl q) ?_
    refine P_call (t := fun _ => none) (st2 := fun _ => []) (kc2 := 1) (ks2 := 6) (fun hJ => (ok_X10_findCuts (σ := σ)  )) (fun hJ _ _ _ _ v τ1 hM q => E_callV (as := []) (b := 3) (st := []) hM (by decide) yfX10_findCuts mlX10_249 imX10_findCuts seX10_findCuts clX10 (kd3 hJ.1.1) rfl (Nat.le_of_ble_eq_true rfl) rfl dX10_cuts_18 q) (by decide) (by decide) (fun v1 σ2 => ?_)
    refine P_l (fun hJ _ _ q => E_iload_n dX10_cuts_21 rfl q) ?_
    refine P_l (pc2 := 48) (ls2 := [none, none]) (st2 := [.int ((if p1 = 0 then (rI σ2 3 13) else (if p1 = 1 then (rI σ2 3 14) else (rI σ2 3 15)) : Int32))]) (fun hJ _ _ hq => ?_) ?_
    · skip
      refine E_if_ne 32 dX10_cuts_22 (by decide) (fun c_22_0 => ?_) (fun c_22_0 => ?_)
      · skip
        refine E_iload_n dX10_cuts_32 rfl ?_
        refine E_iconst (v := 1) dX10_cuts_33 (by decide) ?_
        refine E_icmp_ne 44 dX10_cuts_34 (by decide) (fun c_34_1 => ?_) (fun c_34_1 => ?_)
        · skip
          refine E_aload_n dX10_cuts_44 rfl ?_
          refine E_getI clX10 15 (by decide) flX10_258 (Or.inl rfl) dX10_cuts_45 (kd3 hJ.1.1) ?_
          simp only [if_neg c_22_0, if_neg c_34_1] at hq
          exact E_less (ls2 := [none, none]) hq (rLe_at [none, none] [some (.ref 3), some (.int p1)] trivial)
        · skip
          refine E_aload_n dX10_cuts_37 rfl ?_
          refine E_getI clX10 14 (by decide) flX10_255 (Or.inl rfl) dX10_cuts_38 (kd3 hJ.1.1) ?_
          refine E_goto 48 dX10_cuts_41 (by decide) ?_
          simp only [if_neg c_22_0, if_pos c_34_1] at hq
          exact E_less (ls2 := [none, none]) hq (rLe_at [none, none] [some (.ref 3), some (.int p1)] trivial)
      · skip
        refine E_aload_n dX10_cuts_25 rfl ?_
        refine E_getI clX10 13 (by decide) flX10_252 (Or.inl rfl) dX10_cuts_26 (kd3 hJ.1.1) ?_
        refine E_goto 48 dX10_cuts_29 (by decide) ?_
        simp only [if_pos c_22_0] at hq
        exact E_less (ls2 := [none, none]) hq (rLe_at [none, none] [some (.ref 3), some (.int p1)] trivial)
    · skip
      exact P_ret (fun _ _ => E_iret rfl dX10_cuts_48)

def f_X10_cutsAnew (σ : rS) : Option ((Int32 ⊕ String) × rS) := if (rI σ 5 8) ≤ 14 then (oB (f_X10_takeTable σ) fun _ σ2 => oB (f_X0_count 20 σ2 0 0 (rI σ2 4 1) 0) fun v3 σ4 => some ((.inl (iRem v3 1000000007), σ4))) else (some ((.inr "java/lang/IllegalStateException", σ)))
set_option maxRecDepth 20000 in
set_option maxHeartbeats 2000000 in
theorem ok_X10_cutsAnew {σ : rS}   : rFn Sy yX10_cutsAnew mX10_cutsAnew 23 [.ref 3] σ 1 6 (tX (fun v => .inl (some (.int v)))) (f_X10_cutsAnew σ) := by
  refine rF_of (ls := [some (.ref 3)]) yfX10_cutsAnew rfl (Nat.le_of_ble_eq_true rfl) (fun o τ => ?_)
  unfold f_X10_cutsAnew
  refine P_l (fun hJ _ _ q => E_aload_n dX10_cutsAnew_0 rfl (E_getR (b := 5) clX10 1 (by decide) flX10_19 (Or.inl ⟨_, rfl⟩) dX10_cutsAnew_1 (kd3 hJ.1.1) (rf3_1 hJ.1.1) (by decide) (E_getIN clX1 8 (by decide) flX10_261 (Or.inl rfl) dX10_cutsAnew_4 (kd5 hJ.1.1) (E_bipush (v := 14) dX10_cutsAnew_7 (by decide) q)))) ?_
  refine P_if (fun hJ _ _ h1 h2 => E_icmp_le 20 dX10_cutsAnew_9 (by decide) h1 h2) ?_ ?_
  · skip
    refine P_l (fun hJ _ _ q => E_aload_n dX10_cutsAnew_20 rfl q) ?_
    refine P_call (t := fun _ => none) (st2 := fun _ => []) (kc2 := 1) (ks2 := 6) (fun hJ => (ok_X10_takeTable (σ := σ)  )) (fun hJ _ _ _ _ v τ1 hM q => E_callV (as := []) (b := 3) (st := []) hM (by decide) yfX10_takeTable mlX10_242 imX10_takeTable seX10_takeTable clX10 (kd3 hJ.1.1) rfl (Nat.le_of_ble_eq_true rfl) rfl dX10_cutsAnew_21 q) (by decide) (by decide) (fun v1 σ2 => ?_)
    refine P_l (fun hJ _ _ q => E_aload_n dX10_cutsAnew_24 rfl (E_getR (b := 37) clX10 6 (by decide) flX10_50 (Or.inl ⟨_, rfl⟩) dX10_cutsAnew_25 (kd3 hJ.1.1) (rf3_6 hJ.1.1) (by decide) (E_getRN (b := 48) clX9 2 (by decide) flX10_264 (Or.inr ⟨_, rfl⟩) dX10_cutsAnew_28 (kd37 hJ.1.1) (rf37_2 hJ.1.1) (by decide) (E_iconst (v := 0) dX10_cutsAnew_31 (by decide) (E_iconst (v := 0) dX10_cutsAnew_32 (by decide) (E_aload_n dX10_cutsAnew_33 rfl (E_getR (b := 4) clX10 0 (by decide) flX10_12 (Or.inl ⟨_, rfl⟩) dX10_cutsAnew_34 (kd3 hJ.1.1) (rf3_0 hJ.1.1) (by decide) (E_getIN clX5 1 (by decide) flX10_91 (Or.inl rfl) dX10_cutsAnew_37 (kd4 hJ.1.1) (E_iconst (v := 0) dX10_cutsAnew_40 (by decide) q))))))))) ?_
    refine P_call (t := fun v => some (.int v)) (st2 := fun v => .int v :: []) (kc2 := 1) (ks2 := 6) (fun hJ => (ok_X0_count 20 σ2 0 0 (rI σ2 4 1) 0)) (fun hJ _ _ _ _ v τ1 hM q => E_callSN (as := [.ref 48, .int 0, .int 0, .int (rI σ2 4 1), .int 0]) (st := []) hM (by decide) yfX0_count mlX10_267 stX0_count rfl (Nat.le_of_ble_eq_true rfl) rfl dX10_cutsAnew_41 q) (by decide) (by decide) (fun v3 σ4 => ?_)
    refine P_l (fun hJ _ _ q => E_ldcw dX10_cutsAnew_44 kcX10_272 (E_irem dX10_cutsAnew_47 (by decide) q)) ?_
    exact P_ret (fun _ _ => E_iret rfl dX10_cutsAnew_48)
  · skip
    exact P_thr (fun kc ks => xt_IllegalStateException (M := mX10_cutsAnew) (pc := 12) rfl rfl (by decide) (Nat.le_of_ble_eq_true rfl) dX10_cutsAnew_12 dX10_cutsAnew_15 dX10_cutsAnew_16 dX10_cutsAnew_19 kc ks) (by decide) (by decide)

def f_X10_states (σ : rS) (p1 : Int32) : Option ((Int32 ⊕ String) × rS) := if (vIn p1 1 (rI σ 4 0)) = 0 then (some ((.inr "java/lang/IllegalArgumentException", σ))) else (oB (f_X10_takeTable σ) fun _ σ2 => oB (f_X9_go σ2 0 p1) fun v3 σ4 => some ((.inl v3, σ4)))
set_option maxRecDepth 20000 in
set_option maxHeartbeats 2000000 in
theorem ok_X10_states {σ : rS} {p1 : Int32}   : rFn Sy yX10_states mX10_states 6 [.ref 3, .int p1] σ 1 6 (tX (fun v => .inl (some (.int v)))) (f_X10_states σ p1) := by
  refine rF_of (ls := [some (.ref 3), some (.int p1)]) yfX10_states rfl (Nat.le_of_ble_eq_true rfl) (fun o τ => ?_)
  unfold f_X10_states
  refine P_l (fun hJ _ _ q => E_iload_n dX10_states_0 rfl (E_iconst (v := 1) dX10_states_1 (by decide) (E_aload_n dX10_states_2 rfl (E_getR (b := 4) clX10 0 (by decide) flX10_12 (Or.inl ⟨_, rfl⟩) dX10_states_3 (kd3 hJ.1.1) (rf3_0 hJ.1.1) (by decide) (E_getIN clX5 0 (by decide) flX10_88 (Or.inl rfl) dX10_states_6 (kd4 hJ.1.1) (E_callS (as := [.int p1, .int 1, .int (rI σ 4 0)]) (st := []) (ok_within (σ := σ) (v := p1) (a := 1) (b := rI σ 4 0)) (by decide) yfX10_within mlX10_74 stX10_within rfl (Nat.le_of_ble_eq_true rfl) rfl dX10_states_9 q)))))) ?_
  refine P_if (fun hJ _ _ h1 h2 => E_if_ne 23 dX10_states_12 (by decide) h2 h1) ?_ ?_
  · skip
    exact P_thr (fun kc ks => xt_IllegalArgumentException (M := mX10_states) (pc := 15) rfl rfl (by decide) (Nat.le_of_ble_eq_true rfl) dX10_states_15 dX10_states_18 dX10_states_19 dX10_states_22 kc ks) (by decide) (by decide)
  · skip
    refine P_l (fun hJ _ _ q => E_aload_n dX10_states_23 rfl q) ?_
    refine P_call (t := fun _ => none) (st2 := fun _ => []) (kc2 := 1) (ks2 := 6) (fun hJ => (ok_X10_takeTable (σ := σ)  )) (fun hJ _ _ _ _ v τ1 hM q => E_callV (as := []) (b := 3) (st := []) hM (by decide) yfX10_takeTable mlX10_242 imX10_takeTable seX10_takeTable clX10 (kd3 hJ.1.1) rfl (Nat.le_of_ble_eq_true rfl) rfl dX10_states_24 q) (by decide) (by decide) (fun v1 σ2 => ?_)
    refine P_l (fun hJ _ _ q => E_aload_n dX10_states_27 rfl (E_getR (b := 37) clX10 6 (by decide) flX10_50 (Or.inl ⟨_, rfl⟩) dX10_states_28 (kd3 hJ.1.1) (rf3_6 hJ.1.1) (by decide) (E_aload_n dX10_states_31 rfl (E_getR (b := 4) clX10 0 (by decide) flX10_12 (Or.inl ⟨_, rfl⟩) dX10_states_32 (kd3 hJ.1.1) (rf3_0 hJ.1.1) (by decide) (E_iconst (v := 0) dX10_states_35 (by decide) (E_iload_n dX10_states_36 rfl q)))))) ?_
    refine P_call (t := fun v => some (.int v)) (st2 := fun v => .int v :: []) (kc2 := 1) (ks2 := 6) (fun hJ => (ok_X9_go (σ := σ2) (p2 := 0) (p3 := p1) )) (fun hJ _ _ _ _ v τ1 hM q => E_callVN (as := [.ref 4, .int 0, .int p1]) (b := 37) (st := []) hM (by decide) yfX9_go mlX10_245 imX9_go seX9_go clX9 (kd37 hJ.1.1) rfl (Nat.le_of_ble_eq_true rfl) rfl dX10_states_37 q) (by decide) (by decide) (fun v3 σ4 => ?_)
    exact P_ret (fun _ _ => E_iret rfl dX10_states_40)

def f_X10_needPlayer (σ : rS) (p1 : Int32) : Option ((Unit ⊕ String) × rS) := if (vIn p1 0 ((rI σ 19 0) - 1)) = 0 then (some ((.inr "java/lang/IndexOutOfBoundsException", σ))) else (some ((.inl (()), σ)))
set_option maxRecDepth 20000 in
set_option maxHeartbeats 2000000 in
theorem ok_X10_needPlayer {σ : rS} {p1 : Int32}   : rFn Sy yX10_needPlayer mX10_needPlayer 6 [.ref 3, .int p1] σ 1 6 (tX (fun _ => .inl none)) (f_X10_needPlayer σ p1) := by
  refine rF_of (ls := [some (.ref 3), some (.int p1)]) yfX10_needPlayer rfl (Nat.le_of_ble_eq_true rfl) (fun o τ => ?_)
  unfold f_X10_needPlayer
  refine P_l (fun hJ _ _ q => E_iload_n dX10_needPlayer_0 rfl (E_iconst (v := 0) dX10_needPlayer_1 (by decide) (E_aload_n dX10_needPlayer_2 rfl (E_getR (b := 19) clX10 3 (by decide) flX10_29 (Or.inl ⟨_, rfl⟩) dX10_needPlayer_3 (kd3 hJ.1.1) (rf3_3 hJ.1.1) (by decide) (E_getIN clX6 0 (by decide) flX10_111 (Or.inl rfl) dX10_needPlayer_6 (kd19 hJ.1.1) (E_iconst (v := 1) dX10_needPlayer_9 (by decide) (E_isub dX10_needPlayer_10 (E_callS (as := [.int p1, .int 0, .int ((rI σ 19 0) - 1)]) (st := []) (ok_within (σ := σ) (v := p1) (a := 0) (b := (rI σ 19 0) - 1)) (by decide) yfX10_within mlX10_74 stX10_within rfl (Nat.le_of_ble_eq_true rfl) rfl dX10_needPlayer_11 q)))))))) ?_
  refine P_if (fun hJ _ _ h1 h2 => E_if_ne 25 dX10_needPlayer_14 (by decide) h2 h1) ?_ ?_
  · skip
    exact P_thr (fun kc ks => xt_IndexOutOfBoundsException (M := mX10_needPlayer) (pc := 17) rfl rfl (by decide) (Nat.le_of_ble_eq_true rfl) dX10_needPlayer_17 dX10_needPlayer_20 dX10_needPlayer_21 dX10_needPlayer_24 kc ks) (by decide) (by decide)
  · skip
    exact P_ret (fun _ _ => E_vret rfl dX10_needPlayer_25)

def f_X10_best (σ : rS) (p1 : Int32) (p2 : Int32) : Option ((Int32 ⊕ String) × rS) := oBx (f_X10_needPlayer σ p1) fun _ σ2 => if (vIn p2 0 1) = 0 then (some ((.inr "java/lang/IllegalArgumentException", σ2))) else (oB (f_X10_findPlan σ2 p1) fun _ σ4 => if (rI σ4 65 3) = 0 then (some ((.inl ((-1)), σ4))) else (some ((.inl ((if p2 = 0 then (rI σ4 65 4) else (rI σ4 65 5) : Int32)), σ4))))
set_option maxRecDepth 20000 in
set_option maxHeartbeats 2000000 in
theorem ok_X10_best {σ : rS} {p1 : Int32} {p2 : Int32}   : rFn Sy yX10_best mX10_best 7 [.ref 3, .int p1, .int p2] σ 2 12 (tX (fun v => .inl (some (.int v)))) (f_X10_best σ p1 p2) := by
  refine rF_of (ls := [some (.ref 3), some (.int p1), some (.int p2)]) yfX10_best rfl (Nat.le_of_ble_eq_true rfl) (fun o τ => ?_)
  unfold f_X10_best
  refine P_l (fun hJ _ _ q => E_aload_n dX10_best_0 rfl (E_iload_n dX10_best_1 rfl q)) ?_
  refine P_callx (t2 := fun _ => none) (st2 := fun _ => []) (kc2 := 1) (ks2 := 6) (fun hJ => (ok_X10_needPlayer (σ := σ) (p1 := p1) )) (fun hJ _ _ _ _ v τ1 hM q => E_callV (as := [.int p1]) (b := 3) (st := []) hM (by decide) yfX10_needPlayer mlX10_273 imX10_needPlayer seX10_needPlayer clX10 (kd3 hJ.1.1) rfl (Nat.le_of_ble_eq_true rfl) rfl dX10_best_2 q) (fun hJ _ _ _ _ E τ1 hM => E_callVx (τ := τ1) (as := [.int p1]) (b := 3) (st := []) hM (by decide) yfX10_needPlayer mlX10_273 imX10_needPlayer seX10_needPlayer clX10 (kd3 hJ.1.1) rfl (Nat.le_of_ble_eq_true rfl) rfl dX10_best_2 rfl) (by decide) (by decide) (fun v1 σ2 => ?_)
  refine P_l (fun hJ _ _ q => E_iload_n dX10_best_5 rfl (E_iconst (v := 0) dX10_best_6 (by decide) (E_iconst (v := 1) dX10_best_7 (by decide) (E_callS (as := [.int p2, .int 0, .int 1]) (st := []) (ok_within (σ := σ2) (v := p2) (a := 0) (b := 1)) (by decide) yfX10_within mlX10_74 stX10_within rfl (Nat.le_of_ble_eq_true rfl) rfl dX10_best_8 q)))) ?_
  refine P_if (fun hJ _ _ h1 h2 => E_if_ne 22 dX10_best_11 (by decide) h2 h1) ?_ ?_
  · skip
    exact P_thr (fun kc ks => xt_IllegalArgumentException (M := mX10_best) (pc := 14) rfl rfl (by decide) (Nat.le_of_ble_eq_true rfl) dX10_best_14 dX10_best_17 dX10_best_18 dX10_best_21 kc ks) (by decide) (by decide)
  · skip
    refine P_l (fun hJ _ _ q => E_aload_n dX10_best_22 rfl (E_iload_n dX10_best_23 rfl q)) ?_
    refine P_call (t := fun _ => none) (st2 := fun _ => []) (kc2 := 1) (ks2 := 6) (fun hJ => (ok_X10_findPlan (σ := σ2) (p1 := p1) )) (fun hJ _ _ _ _ v τ1 hM q => E_callV (as := [.int p1]) (b := 3) (st := []) hM (by decide) yfX10_findPlan mlX10_276 imX10_findPlan seX10_findPlan clX10 (kd3 hJ.1.1) rfl (Nat.le_of_ble_eq_true rfl) rfl dX10_best_24 q) (by decide) (by decide) (fun v3 σ4 => ?_)
    refine P_l (fun hJ _ _ q => E_aload_n dX10_best_27 rfl (E_getR (b := 65) clX10 7 (by decide) flX10_57 (Or.inl ⟨_, rfl⟩) dX10_best_28 (kd3 hJ.1.1) (rf3_7 hJ.1.1) (by decide) (E_getIN clX4 3 (by decide) flX10_279 (Or.inr rfl) dX10_best_31 (kd65 hJ.1.1) q))) ?_
    refine P_if (fun hJ _ _ h1 h2 => E_if_ne 39 dX10_best_34 (by decide) h2 h1) ?_ ?_
    · skip
      refine P_l (fun hJ _ _ q => E_iconst (v := (-1)) dX10_best_37 (by decide) q) ?_
      exact P_ret (fun _ _ => E_iret rfl dX10_best_38)
    · skip
      refine P_l (fun hJ _ _ q => E_iload_n dX10_best_39 rfl q) ?_
      refine P_l (pc2 := 60) (ls2 := [none, none, none]) (st2 := [.int ((if p2 = 0 then (rI σ4 65 4) else (rI σ4 65 5) : Int32))]) (fun hJ _ _ hq => ?_) ?_
      · skip
        refine E_if_ne 53 dX10_best_40 (by decide) (fun c_40_0 => ?_) (fun c_40_0 => ?_)
        · skip
          refine E_aload_n dX10_best_53 rfl ?_
          refine E_getR (b := 65) clX10 7 (by decide) flX10_57 (Or.inl ⟨_, rfl⟩) dX10_best_54 (kd3 hJ.1.1) (rf3_7 hJ.1.1) (by decide) ?_
          refine E_getIN clX4 5 (by decide) flX10_284 (Or.inl rfl) dX10_best_57 (kd65 hJ.1.1) ?_
          simp only [if_neg c_40_0] at hq
          exact E_less (ls2 := [none, none, none]) hq (rLe_at [none, none, none] [some (.ref 3), some (.int p1), some (.int p2)] trivial)
        · skip
          refine E_aload_n dX10_best_43 rfl ?_
          refine E_getR (b := 65) clX10 7 (by decide) flX10_57 (Or.inl ⟨_, rfl⟩) dX10_best_44 (kd3 hJ.1.1) (rf3_7 hJ.1.1) (by decide) ?_
          refine E_getIN clX4 4 (by decide) flX10_283 (Or.inl rfl) dX10_best_47 (kd65 hJ.1.1) ?_
          refine E_goto 60 dX10_best_50 (by decide) ?_
          simp only [if_pos c_40_0] at hq
          exact E_less (ls2 := [none, none, none]) hq (rLe_at [none, none, none] [some (.ref 3), some (.int p1), some (.int p2)] trivial)
      · skip
        exact P_ret (fun _ _ => E_iret rfl dX10_best_60)

def f_X10_plan (σ : rS) (p1 : Int32) (p2 : Int32) : Option ((Int32 ⊕ String) × rS) := oBx (f_X10_needPlayer σ p1) fun _ σ2 => if 0 ≤ p2 then (oB (f_X10_findPlan σ2 p1) fun _ σ4 => some ((.inl (v_X4_kindAt σ4 p2), σ4))) else (some ((.inr "java/lang/IllegalArgumentException", σ2)))
set_option maxRecDepth 20000 in
set_option maxHeartbeats 2000000 in
theorem ok_X10_plan {σ : rS} {p1 : Int32} {p2 : Int32}   : rFn Sy yX10_plan mX10_plan 7 [.ref 3, .int p1, .int p2] σ 2 12 (tX (fun v => .inl (some (.int v)))) (f_X10_plan σ p1 p2) := by
  refine rF_of (ls := [some (.ref 3), some (.int p1), some (.int p2)]) yfX10_plan rfl (Nat.le_of_ble_eq_true rfl) (fun o τ => ?_)
  unfold f_X10_plan
  refine P_l (fun hJ _ _ q => E_aload_n dX10_plan_0 rfl (E_iload_n dX10_plan_1 rfl q)) ?_
  refine P_callx (t2 := fun _ => none) (st2 := fun _ => []) (kc2 := 1) (ks2 := 6) (fun hJ => (ok_X10_needPlayer (σ := σ) (p1 := p1) )) (fun hJ _ _ _ _ v τ1 hM q => E_callV (as := [.int p1]) (b := 3) (st := []) hM (by decide) yfX10_needPlayer mlX10_273 imX10_needPlayer seX10_needPlayer clX10 (kd3 hJ.1.1) rfl (Nat.le_of_ble_eq_true rfl) rfl dX10_plan_2 q) (fun hJ _ _ _ _ E τ1 hM => E_callVx (τ := τ1) (as := [.int p1]) (b := 3) (st := []) hM (by decide) yfX10_needPlayer mlX10_273 imX10_needPlayer seX10_needPlayer clX10 (kd3 hJ.1.1) rfl (Nat.le_of_ble_eq_true rfl) rfl dX10_plan_2 rfl) (by decide) (by decide) (fun v1 σ2 => ?_)
  refine P_l (fun hJ _ _ q => E_iload_n dX10_plan_5 rfl q) ?_
  refine P_if (fun hJ _ _ h1 h2 => E_if_ge 17 dX10_plan_6 (by decide) h1 h2) ?_ ?_
  · skip
    refine P_l (fun hJ _ _ q => E_aload_n dX10_plan_17 rfl (E_iload_n dX10_plan_18 rfl q)) ?_
    refine P_call (t := fun _ => none) (st2 := fun _ => []) (kc2 := 1) (ks2 := 6) (fun hJ => (ok_X10_findPlan (σ := σ2) (p1 := p1) )) (fun hJ _ _ _ _ v τ1 hM q => E_callV (as := [.int p1]) (b := 3) (st := []) hM (by decide) yfX10_findPlan mlX10_276 imX10_findPlan seX10_findPlan clX10 (kd3 hJ.1.1) rfl (Nat.le_of_ble_eq_true rfl) rfl dX10_plan_19 q) (by decide) (by decide) (fun v3 σ4 => ?_)
    refine P_l (fun hJ _ _ q => E_aload_n dX10_plan_22 rfl (E_getR (b := 65) clX10 7 (by decide) flX10_57 (Or.inl ⟨_, rfl⟩) dX10_plan_23 (kd3 hJ.1.1) (rf3_7 hJ.1.1) (by decide) (E_iload_n dX10_plan_26 rfl (E_callVN (as := [.int p2]) (b := 65) (st := []) (ok_X4_kindAt (σ := σ4) (p1 := p2) hJ ) (by decide) yfX4_kindAt mlX10_287 imX4_kindAt seX4_kindAt clX4 (kd65 hJ.1.1) rfl (Nat.le_of_ble_eq_true rfl) rfl dX10_plan_27 q)))) ?_
    exact P_ret (fun _ _ => E_iret rfl dX10_plan_30)
  · skip
    exact P_thr (fun kc ks => xt_IllegalArgumentException (M := mX10_plan) (pc := 9) rfl rfl (by decide) (Nat.le_of_ble_eq_true rfl) dX10_plan_9 dX10_plan_12 dX10_plan_13 dX10_plan_16 kc ks) (by decide) (by decide)

def f_X10_alone (σ : rS) (p1 : Int32) : Option ((Int32 ⊕ String) × rS) := oBx (f_X10_needKind σ p1) fun _ σ2 => oB (f_X10_findAlone σ2) fun v3 σ4 => some ((.inl (vBit v3 p1), σ4))
set_option maxRecDepth 20000 in
set_option maxHeartbeats 2000000 in
theorem ok_X10_alone {σ : rS} {p1 : Int32}   : rFn Sy yX10_alone mX10_alone 7 [.ref 3, .int p1] σ 1 6 (tX (fun v => .inl (some (.int v)))) (f_X10_alone σ p1) := by
  refine rF_of (ls := [some (.ref 3), some (.int p1)]) yfX10_alone rfl (Nat.le_of_ble_eq_true rfl) (fun o τ => ?_)
  unfold f_X10_alone
  refine P_l (fun hJ _ _ q => E_aload_n dX10_alone_0 rfl (E_iload_n dX10_alone_1 rfl q)) ?_
  refine P_callx (t2 := fun _ => none) (st2 := fun _ => []) (kc2 := 0) (ks2 := 0) (fun hJ => (ok_X10_needKind (σ := σ) (p1 := p1) )) (fun hJ _ _ _ _ v τ1 hM q => E_callV (as := [.int p1]) (b := 3) (st := []) hM (by decide) yfX10_needKind mlX10_136 imX10_needKind seX10_needKind clX10 (kd3 hJ.1.1) rfl (Nat.le_of_ble_eq_true rfl) rfl dX10_alone_2 q) (fun hJ _ _ _ _ E τ1 hM => E_callVx (τ := τ1) (as := [.int p1]) (b := 3) (st := []) hM (by decide) yfX10_needKind mlX10_136 imX10_needKind seX10_needKind clX10 (kd3 hJ.1.1) rfl (Nat.le_of_ble_eq_true rfl) rfl dX10_alone_2 rfl) (by decide) (by decide) (fun v1 σ2 => ?_)
  refine P_l (fun hJ _ _ q => E_aload_n dX10_alone_5 rfl q) ?_
  refine P_call (t := fun v => some (.long v)) (st2 := fun v => .long v :: []) (kc2 := 0) (ks2 := 0) (fun hJ => (ok_X10_findAlone (σ := σ2)  )) (fun hJ _ _ _ _ v τ1 hM q => E_callV (as := []) (b := 3) (st := []) hM (by decide) yfX10_findAlone mlX10_290 imX10_findAlone seX10_findAlone clX10 (kd3 hJ.1.1) rfl (Nat.le_of_ble_eq_true rfl) rfl dX10_alone_6 q) (by decide) (by decide) (fun v3 σ4 => ?_)
  refine P_l (fun hJ _ _ q => E_iload_n dX10_alone_9 rfl (E_callS (as := [.long v3, .int p1]) (st := []) (ok_isIn (σ := σ4) (s := v3) (k := p1)) (by decide) yfX10_isIn mlX10_294 stX10_isIn rfl (Nat.le_of_ble_eq_true rfl) rfl dX10_alone_10 q)) ?_
  exact P_ret (fun _ _ => E_zret01 rfl (vBit_01 _ _) dX10_alone_13)

def f_X10_needPiece (σ : rS) (p1 : Int32) : Option ((Unit ⊕ String) × rS) := if (if p1 = 52 then true else (if (v_X5_isKind σ p1) = 0 then false else true)) = true then (some ((.inl (()), σ))) else (some ((.inr "java/lang/IllegalArgumentException", σ)))
set_option maxRecDepth 20000 in
set_option maxHeartbeats 2000000 in
theorem ok_X10_needPiece {σ : rS} {p1 : Int32}   : rFn Sy yX10_needPiece mX10_needPiece 6 [.ref 3, .int p1] σ 1 6 (tX (fun _ => .inl none)) (f_X10_needPiece σ p1) := by
  refine rF_of (ls := [some (.ref 3), some (.int p1)]) yfX10_needPiece rfl (Nat.le_of_ble_eq_true rfl) (fun o τ => ?_)
  unfold f_X10_needPiece
  refine P_l (fun hJ _ _ q => E_iload_n dX10_needPiece_0 rfl (E_bipush (v := 52) dX10_needPiece_1 (by decide) q)) ?_
  refine P_if (c := (if p1 = 52 then true else (if (v_X5_isKind σ p1) = 0 then false else true)) = true) (pc1 := 25) (ls1 := [some (.ref 3), some (.int p1)]) (st1 := []) (pc2 := 17) (ls2 := [some (.ref 3), some (.int p1)]) (st2 := []) (fun hJ _ _ hX hY => ?_) ?_ ?_
  · skip
    refine E_icmp_eq 25 dX10_needPiece_3 (by decide) (fun c_3_0 => ?_) (fun c_3_0 => ?_)
    · skip
      exact hX (by simp only [if_pos c_3_0])
    · skip
      refine E_aload_n dX10_needPiece_6 rfl ?_
      refine E_getR (b := 4) clX10 0 (by decide) flX10_12 (Or.inl ⟨_, rfl⟩) dX10_needPiece_7 (kd3 hJ.1.1) (rf3_0 hJ.1.1) (by decide) ?_
      refine E_iload_n dX10_needPiece_10 rfl ?_
      refine E_callVN (as := [.int p1]) (b := 4) (st := []) (ok_X5_isKind (σ := σ) (k := p1) hJ ) (by decide) yfX5_isKind mlX10_398 imX5_isKind seX5_isKind clX5 (kd4 hJ.1.1) rfl (Nat.le_of_ble_eq_true rfl) rfl dX10_needPiece_11 ?_
      refine E_if_ne 25 dX10_needPiece_14 (by decide) (fun c_14_1 => ?_) (fun c_14_1 => ?_)
      · skip
        exact hX (by simp only [if_neg c_3_0, if_neg c_14_1])
      · skip
        exact hY (by simp only [if_neg c_3_0, if_pos c_14_1]; exact Bool.false_ne_true)
  · skip
    exact P_ret (fun _ _ => E_vret rfl dX10_needPiece_25)
  · skip
    exact P_thr (fun kc ks => xt_IllegalArgumentException (M := mX10_needPiece) (pc := 17) rfl rfl (by decide) (Nat.le_of_ble_eq_true rfl) dX10_needPiece_17 dX10_needPiece_20 dX10_needPiece_21 dX10_needPiece_24 kc ks) (by decide) (by decide)

def b_X10_thousandths_8 (p1 : Int32) (p2 : Int32) (p3 : Int32) (s3 : Int64 × Int64 × Int32) : Option ((Int32 ⊕ (Int64 × Int64)) ⊕ (Int64 × Int64 × Int32)) := if p2 ≤ s3.2.2 then (some (.inl (.inr ((s3.1, s3.2.1))))) else (oLet (s3.1 * (((if 0 < p1 - s3.2.2 then p1 - s3.2.2 else 0 : Int32)).toInt64) : Int64) fun x4 => oLet (s3.2.1 * (((if 0 < (p1 - p3) - s3.2.2 then (p1 - p3) - s3.2.2 else 0 : Int32)).toInt64) : Int64) fun x5 => some (.inr ((x4, x5, s3.2.2 + 1))))
def f_X10_thousandths (σ : rS) (p1 : Int32) (p2 : Int32) (p3 : Int32) : Option Int32 := oJoin (oLoop (b_X10_thousandths_8 p1 p2 p3) oFuel (((1 : Int64), (1 : Int64), 0))) fun j2 => if 0 < (lg_cmp j2.1 (0 : Int64)) then (if ¬ j2.1 = 0 then (some (((((1000 : Int64) * (j2.1 - j2.2)) / j2.1 : Int64)).toInt32)) else none) else (some 0)
set_option maxRecDepth 20000 in
set_option maxHeartbeats 2000000 in
theorem ok_X10_thousandths {σ : rS} {p1 : Int32} {p2 : Int32} {p3 : Int32}   : rFr Sy yX10_thousandths mX10_thousandths 1 [.int p1, .int p2, .int p3] σ (fun v => some (.int v)) (f_X10_thousandths σ p1 p2 p3) := by
  refine rFr_of (ls := [some (.int p1), some (.int p2), some (.int p3), none, none, none, none, none]) yfX10_thousandths rfl (Nat.le_of_ble_eq_true rfl) (fun o τ => ?_)
  unfold f_X10_thousandths
  refine P_l (fun hJ _ _ q => E_lconst (v := 1) dX10_thousandths_0 (by decide) (E_lstore_n (ls2 := [some (.int p1), some (.int p2), some (.int p3), some (.long (1 : Int64)), none, none, none, none]) dX10_thousandths_1 (by decide) rfl (E_lconst (v := 1) dX10_thousandths_2 (by decide) (E_lstore (ls2 := [some (.int p1), some (.int p2), some (.int p3), some (.long (1 : Int64)), none, some (.long (1 : Int64)), none, none]) dX10_thousandths_3 (by decide) rfl (E_iconst (v := 0) dX10_thousandths_5 (by decide) (E_istore (ls2 := [some (.int p1), some (.int p2), some (.int p3), some (.long (1 : Int64)), none, some (.long (1 : Int64)), none, some (.int 0)]) dX10_thousandths_6 (by decide) rfl q)))))) ?_
  refine P_join (pc2 := 48) (fun j2 => [none, none, none, some (.long j2.1), none, some (.long j2.2), none, none]) (fun j2 => []) (fun _ => σ) ?_ (fun j2 => ?_)
  · skip
    refine P_loop (fun s3 => [some (.int p1), some (.int p2), some (.int p3), some (.long s3.1), none, some (.long s3.2.1), none, some (.int s3.2.2)]) (fun _ => σ) (fun s3 => ?_) _ (((1 : Int64), (1 : Int64), 0))
    unfold b_X10_thousandths_8
    refine P_l (fun hJ _ _ q => E_iload dX10_thousandths_8 rfl (E_iload_n dX10_thousandths_10 rfl q)) ?_
    refine P_if (fun hJ _ _ h1 h2 => E_icmp_ge 48 dX10_thousandths_11 (by decide) h1 h2) ?_ ?_
    · skip
      refine P_less [none, none, none, some (.long s3.1), none, some (.long s3.2.1), none, none] (And.intro rfl (And.intro rfl trivial)) ?_
      exact P_inl (P_back ((s3.1, s3.2.1)))
    · skip
      refine P_l (fun hJ _ _ q => E_lload_n dX10_thousandths_14 rfl (E_iconst (v := 0) dX10_thousandths_15 (by decide) (E_iload_n dX10_thousandths_16 rfl (E_iload dX10_thousandths_17 rfl (E_isub dX10_thousandths_19 (E_mmax mlX10_197 (by decide) (Nat.le_of_ble_eq_true rfl) dX10_thousandths_20 (E_i2l dX10_thousandths_23 (E_lmul dX10_thousandths_24 (E_lstore_n (ls2 := [some (.int p1), some (.int p2), some (.int p3), some (.long (s3.1 * (((if 0 < p1 - s3.2.2 then p1 - s3.2.2 else 0 : Int32)).toInt64))), none, some (.long s3.2.1), none, some (.int s3.2.2)]) dX10_thousandths_25 (by decide) rfl q))))))))) ?_
      refine P_v (s3.1 * (((if 0 < p1 - s3.2.2 then p1 - s3.2.2 else 0 : Int32)).toInt64)) (fun x => [some (.int p1), some (.int p2), some (.int p3), some (.long x), none, some (.long s3.2.1), none, some (.int s3.2.2)]) (fun x4 => ?_)
      refine P_l (fun hJ _ _ q => E_lload dX10_thousandths_26 rfl (E_iconst (v := 0) dX10_thousandths_28 (by decide) (E_iload_n dX10_thousandths_29 rfl (E_iload_n dX10_thousandths_30 rfl (E_isub dX10_thousandths_31 (E_iload dX10_thousandths_32 rfl (E_isub dX10_thousandths_34 (E_mmax mlX10_197 (by decide) (Nat.le_of_ble_eq_true rfl) dX10_thousandths_35 (E_i2l dX10_thousandths_38 (E_lmul dX10_thousandths_39 (E_lstore (ls2 := [some (.int p1), some (.int p2), some (.int p3), some (.long x4), none, some (.long (s3.2.1 * (((if 0 < (p1 - p3) - s3.2.2 then (p1 - p3) - s3.2.2 else 0 : Int32)).toInt64))), none, some (.int s3.2.2)]) dX10_thousandths_40 (by decide) rfl q))))))))))) ?_
      refine P_v (s3.2.1 * (((if 0 < (p1 - p3) - s3.2.2 then (p1 - p3) - s3.2.2 else 0 : Int32)).toInt64)) (fun x => [some (.int p1), some (.int p2), some (.int p3), some (.long x4), none, some (.long x), none, some (.int s3.2.2)]) (fun x5 => ?_)
      refine P_l (fun hJ _ _ q => E_iinc (v := 1) (ls2 := [some (.int p1), some (.int p2), some (.int p3), some (.long x4), none, some (.long x5), none, some (.int (s3.2.2 + 1))]) dX10_thousandths_42 rfl (by decide) (by decide) rfl (E_goto 8 dX10_thousandths_45 (by decide) q)) ?_
      exact P_back ((x4, x5, s3.2.2 + 1))
  · skip
    refine P_l (fun hJ _ _ q => E_lload_n dX10_thousandths_48 rfl (E_lconst (v := 0) dX10_thousandths_49 (by decide) (E_lcmp dX10_thousandths_50 q))) ?_
    refine P_if (fun hJ _ _ h1 h2 => E_if_gt 58 dX10_thousandths_51 (by decide) h1 h2) ?_ ?_
    · skip
      refine P_l (fun hJ _ _ q => E_ldc2 dX10_thousandths_58 kcX10_496 (E_lload_n dX10_thousandths_61 rfl (E_lload dX10_thousandths_62 rfl (E_lsub dX10_thousandths_64 (E_lmul dX10_thousandths_65 (E_lload_n dX10_thousandths_66 rfl q)))))) ?_
      refine P_g (fun g6 => ?_)
      refine P_l (fun hJ _ _ q => E_ldiv dX10_thousandths_67 g6 (E_l2i dX10_thousandths_68 q)) ?_
      exact P_retr (fun _ _ => E_iret rfl dX10_thousandths_69)
    · skip
      refine P_l (fun hJ _ _ q => E_iconst (v := 0) dX10_thousandths_54 (by decide) (E_goto 69 dX10_thousandths_55 (by decide) q)) ?_
      exact P_retr (fun _ _ => E_iret rfl dX10_thousandths_69)

