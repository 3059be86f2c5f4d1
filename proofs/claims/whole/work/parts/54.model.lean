def f_X11_passed (σ : rS) (p1 : Int32) (p2 : Int32) : Option (Int32 × rS) := oB (f_X11_holds σ ((if (v_X11_isPlayer σ p1) = 0 then 1 else (if (v_X11_isKind σ p2) = 0 then 2 else 0) : Int32))) fun v1 σ2 => if v1 = 0 then (if inB p1 4 then (some (((if (lg_cmp (((rL σ2 75 (p1 : Int32).toNatClampNeg) >>> (((p2 : Int32)).toInt64 &&& 63)) &&& (1 : Int64)) (1 : Int64)) = 0 then 1 else 0 : Int32), σ2))) else none) else (some ((0, σ2)))
set_option maxRecDepth 20000 in
set_option maxHeartbeats 2000000 in
theorem ok_X11_passed {σ : rS} {p1 : Int32} {p2 : Int32}   : rFn Sy yX11_passed mX11_passed 2 [.ref 67, .int p1, .int p2] σ 0 0 (fun v => .inl (some (.int v))) (f_X11_passed σ p1 p2) := by
  refine rF_of (ls := [some (.ref 67), some (.int p1), some (.int p2)]) yfX11_passed rfl (Nat.le_of_ble_eq_true rfl) (fun o τ => ?_)
  unfold f_X11_passed
  refine P_l (fun hJ _ _ q => E_aload_n dX11_passed_0 rfl (E_aload_n dX11_passed_1 rfl (E_iload_n dX11_passed_2 rfl (E_callV (as := [.int p1]) (b := 67) (st := [.ref 67]) (ok_X11_isPlayer (σ := σ) (p1 := p1) hJ ) (by decide) yfX11_isPlayer mlX11_282 imX11_isPlayer seX11_isPlayer clX11 (kd67 hJ.1.1) rfl (Nat.le_of_ble_eq_true rfl) rfl dX11_passed_3 q)))) ?_
  refine P_l (pc2 := 26) (ls2 := [some (.ref 67), some (.int p1), some (.int p2)]) (st2 := [.int ((if (v_X11_isPlayer σ p1) = 0 then 1 else (if (v_X11_isKind σ p2) = 0 then 2 else 0) : Int32)), .ref 67]) (fun hJ _ _ hq => ?_) ?_
  · skip
    refine E_if_ne 13 dX11_passed_6 (by decide) (fun c_6_0 => ?_) (fun c_6_0 => ?_)
    · skip
      refine E_aload_n dX11_passed_13 rfl ?_
      refine E_iload_n dX11_passed_14 rfl ?_
      refine E_callV (as := [.int p2]) (b := 67) (st := [.ref 67]) (ok_X11_isKind (σ := σ) (p1 := p2) hJ ) (by decide) yfX11_isKind mlX11_294 imX11_isKind seX11_isKind clX11 (kd67 hJ.1.1) rfl (Nat.le_of_ble_eq_true rfl) rfl dX11_passed_15 ?_
      refine E_if_eq 25 dX11_passed_18 (by decide) (fun c_18_1 => ?_) (fun c_18_1 => ?_)
      · skip
        refine E_iconst (v := 2) dX11_passed_25 (by decide) ?_
        simp only [if_neg c_6_0, if_pos c_18_1] at hq
        exact hq
      · skip
        refine E_iconst (v := 0) dX11_passed_21 (by decide) ?_
        refine E_goto 26 dX11_passed_22 (by decide) ?_
        simp only [if_neg c_6_0, if_neg c_18_1] at hq
        exact hq
    · skip
      refine E_iconst (v := 1) dX11_passed_9 (by decide) ?_
      refine E_goto 26 dX11_passed_10 (by decide) ?_
      simp only [if_pos c_6_0] at hq
      exact hq
  · skip
    refine P_call (t := fun v => some (.int v)) (st2 := fun v => .int v :: []) (kc2 := 0) (ks2 := 0) (fun hJ => (ok_X11_holds (σ := σ) (p1 := (if (v_X11_isPlayer σ p1) = 0 then 1 else (if (v_X11_isKind σ p2) = 0 then 2 else 0) : Int32)) )) (fun hJ _ _ _ _ v τ1 hM q => E_callV (as := [.int ((if (v_X11_isPlayer σ p1) = 0 then 1 else (if (v_X11_isKind σ p2) = 0 then 2 else 0) : Int32))]) (b := 67) (st := []) hM (by decide) yfX11_holds mlX11_265 imX11_holds seX11_holds clX11 (kd67 hJ.1.1) rfl (Nat.le_of_ble_eq_true rfl) rfl dX11_passed_26 q) (by decide) (by decide) (fun v1 σ2 => ?_)
    refine P_if (fun hJ _ _ h1 h2 => E_if_eq 34 dX11_passed_29 (by decide) h1 h2) ?_ ?_
    · skip
      refine P_l (fun hJ _ _ q => E_aload_n dX11_passed_34 rfl (E_getR (b := 75) clX11 14 (by decide) flX11_50 (Or.inr ⟨_, rfl⟩) dX11_passed_35 (kd67 hJ.1.1) (rf67_14 hJ.1.1) (by decide) (E_iload_n dX11_passed_38 rfl q))) ?_
      refine P_g (fun g3 => ?_)
      refine P_l (fun hJ _ _ q => E_lald dX11_passed_39 (kd75 hJ.1.1) (inB_vp g3) (E_iload_n dX11_passed_40 rfl (E_lshr dX11_passed_41 (E_lconst (v := 1) dX11_passed_42 (by decide) (E_land dX11_passed_43 (E_lconst (v := 1) dX11_passed_44 (by decide) (E_lcmp dX11_passed_45 q))))))) ?_
      refine P_l (pc2 := 54) (ls2 := [none, none, none]) (st2 := [.int ((if (lg_cmp (((rL σ2 75 (p1 : Int32).toNatClampNeg) >>> (((p2 : Int32)).toInt64 &&& 63)) &&& (1 : Int64)) (1 : Int64)) = 0 then 1 else 0 : Int32))]) (fun hJ _ _ hq => ?_) ?_
      · skip
        refine E_if_ne 53 dX11_passed_46 (by decide) (fun c_46_0 => ?_) (fun c_46_0 => ?_)
        · skip
          refine E_iconst (v := 0) dX11_passed_53 (by decide) ?_
          simp only [if_neg c_46_0] at hq
          exact E_less (ls2 := [none, none, none]) hq (rLe_at [none, none, none] [some (.ref 67), some (.int p1), some (.int p2)] trivial)
        · skip
          refine E_iconst (v := 1) dX11_passed_49 (by decide) ?_
          refine E_goto 54 dX11_passed_50 (by decide) ?_
          simp only [if_pos c_46_0] at hq
          exact E_less (ls2 := [none, none, none]) hq (rLe_at [none, none, none] [some (.ref 67), some (.int p1), some (.int p2)] trivial)
      · skip
        exact P_ret (fun _ _ => E_zret01 rfl (by split <;> decide) dX11_passed_54)
    · skip
      refine P_l (fun hJ _ _ q => E_iconst (v := 0) dX11_passed_32 (by decide) q) ?_
      exact P_ret (fun _ _ => E_zret01 rfl (by decide) dX11_passed_33)

def f_X11_claim (σ : rS) (p1 : Int32) (p2 : Int32) (p3 : Int32) : Option (Int32 × rS) := oB (f_X11_holds σ ((if (v_X11_isPlayer σ p1) = 0 then 1 else (if (v_X11_isKind σ p2) = 0 then 2 else (if (v_X11_in σ p3 0 2) = 0 then 2 else 0)) : Int32))) fun v1 σ2 => if v1 = 0 then (if inB ((52 * p1) + p2) 208 then (oLet (rI σ2 78 ((52 * p1) + p2 : Int32).toNatClampNeg : Int32) fun x4 => oLet (wI σ2 78 ((52 * p1) + p2 : Int32).toNatClampNeg p3) fun σ5 => some ((x4, σ5))) else none) else (some (((-1), σ2)))
set_option maxRecDepth 20000 in
set_option maxHeartbeats 2000000 in
theorem ok_X11_claim {σ : rS} {p1 : Int32} {p2 : Int32} {p3 : Int32}   : rFn Sy yX11_claim mX11_claim 2 [.ref 67, .int p1, .int p2, .int p3] σ 0 0 (fun v => .inl (some (.int v))) (f_X11_claim σ p1 p2 p3) := by
  refine rF_of (ls := [some (.ref 67), some (.int p1), some (.int p2), some (.int p3), none]) yfX11_claim rfl (Nat.le_of_ble_eq_true rfl) (fun o τ => ?_)
  unfold f_X11_claim
  refine P_l (fun hJ _ _ q => E_aload_n dX11_claim_0 rfl (E_aload_n dX11_claim_1 rfl (E_iload_n dX11_claim_2 rfl (E_callV (as := [.int p1]) (b := 67) (st := [.ref 67]) (ok_X11_isPlayer (σ := σ) (p1 := p1) hJ ) (by decide) yfX11_isPlayer mlX11_282 imX11_isPlayer seX11_isPlayer clX11 (kd67 hJ.1.1) rfl (Nat.le_of_ble_eq_true rfl) rfl dX11_claim_3 q)))) ?_
  refine P_l (pc2 := 36) (ls2 := [some (.ref 67), some (.int p1), some (.int p2), some (.int p3), none]) (st2 := [.int ((if (v_X11_isPlayer σ p1) = 0 then 1 else (if (v_X11_isKind σ p2) = 0 then 2 else (if (v_X11_in σ p3 0 2) = 0 then 2 else 0)) : Int32)), .ref 67]) (fun hJ _ _ hq => ?_) ?_
  · skip
    refine E_if_ne 13 dX11_claim_6 (by decide) (fun c_6_0 => ?_) (fun c_6_0 => ?_)
    · skip
      refine E_aload_n dX11_claim_13 rfl ?_
      refine E_iload_n dX11_claim_14 rfl ?_
      refine E_callV (as := [.int p2]) (b := 67) (st := [.ref 67]) (ok_X11_isKind (σ := σ) (p1 := p2) hJ ) (by decide) yfX11_isKind mlX11_294 imX11_isKind seX11_isKind clX11 (kd67 hJ.1.1) rfl (Nat.le_of_ble_eq_true rfl) rfl dX11_claim_15 ?_
      refine E_if_eq 31 dX11_claim_18 (by decide) (fun c_18_1 => ?_) (fun c_18_1 => ?_)
      · skip
        refine E_iconst (v := 2) dX11_claim_31 (by decide) ?_
        refine E_goto 36 dX11_claim_32 (by decide) ?_
        simp only [if_neg c_6_0, if_pos c_18_1] at hq
        exact hq
      · skip
        refine E_aload_n dX11_claim_21 rfl ?_
        refine E_iload_n dX11_claim_22 rfl ?_
        refine E_iconst (v := 0) dX11_claim_23 (by decide) ?_
        refine E_iconst (v := 2) dX11_claim_24 (by decide) ?_
        refine E_callV (as := [.int p3, .int 0, .int 2]) (b := 67) (st := [.ref 67]) (ok_X11_in (σ := σ) (p1 := p3) (p2 := 0) (p3 := 2) hJ ) (by decide) yfX11_in mlX11_182 imX11_in seX11_in clX11 (kd67 hJ.1.1) rfl (Nat.le_of_ble_eq_true rfl) rfl dX11_claim_25 ?_
        refine E_if_ne 35 dX11_claim_28 (by decide) (fun c_28_2 => ?_) (fun c_28_2 => ?_)
        · skip
          refine E_iconst (v := 0) dX11_claim_35 (by decide) ?_
          simp only [if_neg c_6_0, if_neg c_18_1, if_neg c_28_2] at hq
          exact hq
        · skip
          refine E_iconst (v := 2) dX11_claim_31 (by decide) ?_
          refine E_goto 36 dX11_claim_32 (by decide) ?_
          simp only [if_neg c_6_0, if_neg c_18_1, if_pos c_28_2] at hq
          exact hq
    · skip
      refine E_iconst (v := 1) dX11_claim_9 (by decide) ?_
      refine E_goto 36 dX11_claim_10 (by decide) ?_
      simp only [if_pos c_6_0] at hq
      exact hq
  · skip
    refine P_call (t := fun v => some (.int v)) (st2 := fun v => .int v :: []) (kc2 := 0) (ks2 := 0) (fun hJ => (ok_X11_holds (σ := σ) (p1 := (if (v_X11_isPlayer σ p1) = 0 then 1 else (if (v_X11_isKind σ p2) = 0 then 2 else (if (v_X11_in σ p3 0 2) = 0 then 2 else 0)) : Int32)) )) (fun hJ _ _ _ _ v τ1 hM q => E_callV (as := [.int ((if (v_X11_isPlayer σ p1) = 0 then 1 else (if (v_X11_isKind σ p2) = 0 then 2 else (if (v_X11_in σ p3 0 2) = 0 then 2 else 0)) : Int32))]) (b := 67) (st := []) hM (by decide) yfX11_holds mlX11_265 imX11_holds seX11_holds clX11 (kd67 hJ.1.1) rfl (Nat.le_of_ble_eq_true rfl) rfl dX11_claim_36 q) (by decide) (by decide) (fun v1 σ2 => ?_)
    refine P_if (fun hJ _ _ h1 h2 => E_if_eq 44 dX11_claim_39 (by decide) h1 h2) ?_ ?_
    · skip
      refine P_l (fun hJ _ _ q => E_aload_n dX11_claim_44 rfl (E_getR (b := 78) clX11 17 (by decide) flX11_60 (Or.inr ⟨_, rfl⟩) dX11_claim_45 (kd67 hJ.1.1) (rf67_17 hJ.1.1) (by decide) (E_bipush (v := 52) dX11_claim_48 (by decide) (E_iload_n dX11_claim_50 rfl (E_imul dX11_claim_51 (E_iload_n dX11_claim_52 rfl (E_iadd dX11_claim_53 q))))))) ?_
      refine P_g (fun g3 => ?_)
      refine P_l (fun hJ _ _ q => E_iald dX11_claim_54 (kd78 hJ.1.1) (inB_vp g3) (E_istore (ls2 := [some (.ref 67), some (.int p1), some (.int p2), some (.int p3), some (.int (rI σ2 78 ((52 * p1) + p2 : Int32).toNatClampNeg))]) dX11_claim_55 (by decide) rfl q)) ?_
      refine P_v (rI σ2 78 ((52 * p1) + p2 : Int32).toNatClampNeg) (fun x => [some (.ref 67), some (.int p1), some (.int p2), some (.int p3), some (.int x)]) (fun x4 => ?_)
      refine P_l (fun hJ _ _ q => E_aload_n dX11_claim_57 rfl (E_getR (b := 78) clX11 17 (by decide) flX11_60 (Or.inr ⟨_, rfl⟩) dX11_claim_58 (kd67 hJ.1.1) (rf67_17 hJ.1.1) (by decide) (E_bipush (v := 52) dX11_claim_61 (by decide) (E_iload_n dX11_claim_63 rfl (E_imul dX11_claim_64 (E_iload_n dX11_claim_65 rfl (E_iadd dX11_claim_66 (E_iload_n dX11_claim_67 rfl q)))))))) ?_
      refine P_w (fun hJ _ _ q => E_iast dX11_claim_68 (kd78 hJ.1.1) (by decide) (inB_vp g3) q) (fun hJ => Sy_wI hJ.1) rfl rfl rfl (fun σ5 hσ5 => ?_)
      refine P_l (fun hJ _ _ q => E_iload dX11_claim_69 rfl q) ?_
      exact P_ret (fun _ _ => E_iret rfl dX11_claim_71)
    · skip
      refine P_l (fun hJ _ _ q => E_iconst (v := (-1)) dX11_claim_42 (by decide) q) ?_
      exact P_ret (fun _ _ => E_iret rfl dX11_claim_43)

def b_X11_copies_27 (σ2 : rS) (s3 : Int64 × Int32) (s8 : Int32 × Int32) : Option ((((Int64 × rS) ⊕ (Int64 × Int32)) ⊕ (Int32)) ⊕ (Int32 × Int32)) := if (rI σ2 67 6) ≤ s8.2 then (some (.inl (.inr s8.1))) else (if inB ((52 * s8.2) + s3.2) 208 then (oLet (s8.1 + (rI σ2 78 ((52 * s8.2) + s3.2 : Int32).toNatClampNeg) : Int32) fun x10 => some (.inr ((x10, s8.2 + 1)))) else none)
def b_X11_copies_10 (σ2 : rS) (s3 : Int64 × Int32) : Option ((Int64 × rS) ⊕ (Int64 × Int32)) := if 52 ≤ s3.2 then (some (.inl ((s3.1, σ2)))) else (if inB s3.2 52 then (oLet (rI σ2 80 (s3.2 : Int32).toNatClampNeg : Int32) fun x5 => oJoin (oLoop (b_X11_copies_27 σ2 s3) oFuel ((x5, 0))) fun j7 => oLet (s3.1 ||| ((if j7 ≤ 2 then (0 : Int64) else ((1 : Int64) <<< (((s3.2 : Int32)).toInt64 &&& 63)) : Int64)) : Int64) fun x11 => some (.inr ((x11, s3.2 + 1)))) else none)
def f_X11_copies (σ : rS) : Option (Int64 × rS) := oB (f_X11_holds σ 0) fun v1 σ2 => oLoop (b_X11_copies_10 σ2) oFuel (((0 : Int64), 0))
set_option maxRecDepth 20000 in
set_option maxHeartbeats 2000000 in
theorem ok_X11_copies {σ : rS}   : rFn Sy yX11_copies mX11_copies 1 [.ref 67] σ 0 0 (fun v => .inl (some (.long v))) (f_X11_copies σ) := by
  refine rF_of (ls := [some (.ref 67), none, none, none, none, none]) yfX11_copies rfl (Nat.le_of_ble_eq_true rfl) (fun o τ => ?_)
  unfold f_X11_copies
  refine P_l (fun hJ _ _ q => E_aload_n dX11_copies_0 rfl (E_iconst (v := 0) dX11_copies_1 (by decide) q)) ?_
  refine P_call (t := fun v => some (.int v)) (st2 := fun v => .int v :: []) (kc2 := 0) (ks2 := 0) (fun hJ => (ok_X11_holds (σ := σ) (p1 := 0) )) (fun hJ _ _ _ _ v τ1 hM q => E_callV (as := [.int 0]) (b := 67) (st := []) hM (by decide) yfX11_holds mlX11_265 imX11_holds seX11_holds clX11 (kd67 hJ.1.1) rfl (Nat.le_of_ble_eq_true rfl) rfl dX11_copies_2 q) (by decide) (by decide) (fun v1 σ2 => ?_)
  refine P_l (fun hJ _ _ q => E_pop dX11_copies_5 rfl (E_lconst (v := 0) dX11_copies_6 (by decide) (E_lstore_n (ls2 := [some (.ref 67), some (.long (0 : Int64)), none, none, none, none]) dX11_copies_7 (by decide) rfl (E_iconst (v := 0) dX11_copies_8 (by decide) (E_istore_n (ls2 := [some (.ref 67), some (.long (0 : Int64)), none, some (.int 0), none, none]) dX11_copies_9 (by decide) rfl q))))) ?_
  refine P_loop (fun s3 => [some (.ref 67), some (.long s3.1), none, some (.int s3.2), none, none]) (fun _ => σ2) (fun s3 => ?_) _ (((0 : Int64), 0))
  unfold b_X11_copies_10
  refine P_l (fun hJ _ _ q => E_iload_n dX11_copies_10 rfl (E_bipush (v := 52) dX11_copies_11 (by decide) q)) ?_
  refine P_if (fun hJ _ _ h1 h2 => E_icmp_ge 81 dX11_copies_13 (by decide) h1 h2) ?_ ?_
  · skip
    refine P_l (fun hJ _ _ q => E_lload_n dX11_copies_81 rfl q) ?_
    exact P_inl (P_ret (fun _ _ => E_lret rfl dX11_copies_82))
  · skip
    refine P_l (fun hJ _ _ q => E_aload_n dX11_copies_16 rfl (E_getR (b := 80) clX11 19 (by decide) flX11_66 (Or.inr ⟨_, rfl⟩) dX11_copies_17 (kd67 hJ.1.1) (rf67_19 hJ.1.1) (by decide) (E_iload_n dX11_copies_20 rfl q))) ?_
    refine P_g (fun g4 => ?_)
    refine P_l (fun hJ _ _ q => E_iald dX11_copies_21 (kd80 hJ.1.1) (inB_vp g4) (E_istore (ls2 := [some (.ref 67), some (.long s3.1), none, some (.int s3.2), some (.int (rI σ2 80 (s3.2 : Int32).toNatClampNeg)), none]) dX11_copies_22 (by decide) rfl q)) ?_
    refine P_v (rI σ2 80 (s3.2 : Int32).toNatClampNeg) (fun x => [some (.ref 67), some (.long s3.1), none, some (.int s3.2), some (.int x), none]) (fun x5 => ?_)
    refine P_l (fun hJ _ _ q => E_iconst (v := 0) dX11_copies_24 (by decide) (E_istore (ls2 := [some (.ref 67), some (.long s3.1), none, some (.int s3.2), some (.int x5), some (.int 0)]) dX11_copies_25 (by decide) rfl q)) ?_
    refine P_join (pc2 := 59) (fun j7 => [some (.ref 67), some (.long s3.1), none, some (.int s3.2), some (.int j7), none]) (fun j7 => []) (fun _ => σ2) ?_ (fun j7 => ?_)
    · skip
      refine P_loop (fun s8 => [some (.ref 67), some (.long s3.1), none, some (.int s3.2), some (.int s8.1), some (.int s8.2)]) (fun _ => σ2) (fun s8 => ?_) _ ((x5, 0))
      unfold b_X11_copies_27
      refine P_l (fun hJ _ _ q => E_iload dX11_copies_27 rfl (E_aload_n dX11_copies_29 rfl (E_getI clX11 6 (by decide) flX11_186 (Or.inl rfl) dX11_copies_30 (kd67 hJ.1.1) q))) ?_
      refine P_if (fun hJ _ _ h1 h2 => E_icmp_ge 59 dX11_copies_33 (by decide) h1 h2) ?_ ?_
      · skip
        refine P_less [some (.ref 67), some (.long s3.1), none, some (.int s3.2), some (.int s8.1), none] (And.intro rfl (And.intro rfl (And.intro rfl (And.intro rfl trivial)))) ?_
        exact P_inl (P_back s8.1)
      · skip
        refine P_l (fun hJ _ _ q => E_iload dX11_copies_36 rfl (E_aload_n dX11_copies_38 rfl (E_getR (b := 78) clX11 17 (by decide) flX11_60 (Or.inr ⟨_, rfl⟩) dX11_copies_39 (kd67 hJ.1.1) (rf67_17 hJ.1.1) (by decide) (E_bipush (v := 52) dX11_copies_42 (by decide) (E_iload dX11_copies_44 rfl (E_imul dX11_copies_46 (E_iload_n dX11_copies_47 rfl (E_iadd dX11_copies_48 q)))))))) ?_
        refine P_g (fun g9 => ?_)
        refine P_l (fun hJ _ _ q => E_iald dX11_copies_49 (kd78 hJ.1.1) (inB_vp g9) (E_iadd dX11_copies_50 (E_istore (ls2 := [some (.ref 67), some (.long s3.1), none, some (.int s3.2), some (.int (s8.1 + (rI σ2 78 ((52 * s8.2) + s3.2 : Int32).toNatClampNeg))), some (.int s8.2)]) dX11_copies_51 (by decide) rfl q))) ?_
        refine P_v (s8.1 + (rI σ2 78 ((52 * s8.2) + s3.2 : Int32).toNatClampNeg)) (fun x => [some (.ref 67), some (.long s3.1), none, some (.int s3.2), some (.int x), some (.int s8.2)]) (fun x10 => ?_)
        refine P_l (fun hJ _ _ q => E_iinc (v := 1) (ls2 := [some (.ref 67), some (.long s3.1), none, some (.int s3.2), some (.int x10), some (.int (s8.2 + 1))]) dX11_copies_53 rfl (by decide) (by decide) rfl (E_goto 27 dX11_copies_56 (by decide) q)) ?_
        exact P_back ((x10, s8.2 + 1))
    · skip
      refine P_l (fun hJ _ _ q => E_lload_n dX11_copies_59 rfl (E_iload dX11_copies_60 rfl (E_iconst (v := 2) dX11_copies_62 (by decide) q))) ?_
      refine P_l (pc2 := 73) (ls2 := [some (.ref 67), none, none, some (.int s3.2), none, none]) (st2 := [.long ((if j7 ≤ 2 then (0 : Int64) else ((1 : Int64) <<< (((s3.2 : Int32)).toInt64 &&& 63)) : Int64)), .long s3.1]) (fun hJ _ _ hq => ?_) ?_
      · skip
        refine E_icmp_le 72 dX11_copies_63 (by decide) (fun c_63_0 => ?_) (fun c_63_0 => ?_)
        · skip
          refine E_lconst (v := 0) dX11_copies_72 (by decide) ?_
          simp only [if_pos c_63_0] at hq
          exact E_less (ls2 := [some (.ref 67), none, none, some (.int s3.2), none, none]) hq (rLe_at [some (.ref 67), none, none, some (.int s3.2), none, none] [some (.ref 67), some (.long s3.1), none, some (.int s3.2), some (.int j7), none] (And.intro rfl (And.intro rfl trivial)))
        · skip
          refine E_lconst (v := 1) dX11_copies_66 (by decide) ?_
          refine E_iload_n dX11_copies_67 rfl ?_
          refine E_lshl dX11_copies_68 ?_
          refine E_goto 73 dX11_copies_69 (by decide) ?_
          simp only [if_neg c_63_0] at hq
          exact E_less (ls2 := [some (.ref 67), none, none, some (.int s3.2), none, none]) hq (rLe_at [some (.ref 67), none, none, some (.int s3.2), none, none] [some (.ref 67), some (.long s3.1), none, some (.int s3.2), some (.int j7), none] (And.intro rfl (And.intro rfl trivial)))
      · skip
        refine P_l (fun hJ _ _ q => E_lor dX11_copies_73 (E_lstore_n (ls2 := [some (.ref 67), some (.long (s3.1 ||| ((if j7 ≤ 2 then (0 : Int64) else ((1 : Int64) <<< (((s3.2 : Int32)).toInt64 &&& 63)) : Int64)))), none, some (.int s3.2), none, none]) dX11_copies_74 (by decide) rfl q)) ?_
        refine P_v (s3.1 ||| ((if j7 ≤ 2 then (0 : Int64) else ((1 : Int64) <<< (((s3.2 : Int32)).toInt64 &&& 63)) : Int64))) (fun x => [some (.ref 67), some (.long x), none, some (.int s3.2), none, none]) (fun x11 => ?_)
        refine P_l (fun hJ _ _ q => E_iinc (v := 1) (ls2 := [some (.ref 67), some (.long x11), none, some (.int (s3.2 + 1)), none, none]) dX11_copies_75 rfl (by decide) (by decide) rfl (E_goto 10 dX11_copies_78 (by decide) q)) ?_
        exact P_back ((x11, s3.2 + 1))

def f_X11_rackIs (σ : rS) (p1 : Int32) (p2 : Int32) : Option (Int32 × rS) := oB (f_X11_holds σ ((if (v_X11_isPlayer σ p1) = 0 then 1 else (if (v_X11_isKindOrJoker σ p2) = 0 then 2 else 0) : Int32))) fun v1 σ2 => if v1 = 0 then (if inB ((53 * p1) + p2) 212 then (some ((rI σ2 79 ((53 * p1) + p2 : Int32).toNatClampNeg, σ2))) else none) else (some (((-1), σ2)))
set_option maxRecDepth 20000 in
set_option maxHeartbeats 2000000 in
theorem ok_X11_rackIs {σ : rS} {p1 : Int32} {p2 : Int32}   : rFn Sy yX11_rackIs mX11_rackIs 3 [.ref 67, .int p1, .int p2] σ 0 0 (fun v => .inl (some (.int v))) (f_X11_rackIs σ p1 p2) := by
  refine rF_of (ls := [some (.ref 67), some (.int p1), some (.int p2)]) yfX11_rackIs rfl (Nat.le_of_ble_eq_true rfl) (fun o τ => ?_)
  unfold f_X11_rackIs
  refine P_l (fun hJ _ _ q => E_aload_n dX11_rackIs_0 rfl (E_aload_n dX11_rackIs_1 rfl (E_iload_n dX11_rackIs_2 rfl (E_callV (as := [.int p1]) (b := 67) (st := [.ref 67]) (ok_X11_isPlayer (σ := σ) (p1 := p1) hJ ) (by decide) yfX11_isPlayer mlX11_282 imX11_isPlayer seX11_isPlayer clX11 (kd67 hJ.1.1) rfl (Nat.le_of_ble_eq_true rfl) rfl dX11_rackIs_3 q)))) ?_
  refine P_l (pc2 := 26) (ls2 := [some (.ref 67), some (.int p1), some (.int p2)]) (st2 := [.int ((if (v_X11_isPlayer σ p1) = 0 then 1 else (if (v_X11_isKindOrJoker σ p2) = 0 then 2 else 0) : Int32)), .ref 67]) (fun hJ _ _ hq => ?_) ?_
  · skip
    refine E_if_ne 13 dX11_rackIs_6 (by decide) (fun c_6_0 => ?_) (fun c_6_0 => ?_)
    · skip
      refine E_aload_n dX11_rackIs_13 rfl ?_
      refine E_iload_n dX11_rackIs_14 rfl ?_
      refine E_callV (as := [.int p2]) (b := 67) (st := [.ref 67]) (ok_X11_isKindOrJoker (σ := σ) (p1 := p2) hJ ) (by decide) yfX11_isKindOrJoker mlX11_402 imX11_isKindOrJoker seX11_isKindOrJoker clX11 (kd67 hJ.1.1) rfl (Nat.le_of_ble_eq_true rfl) rfl dX11_rackIs_15 ?_
      refine E_if_eq 25 dX11_rackIs_18 (by decide) (fun c_18_1 => ?_) (fun c_18_1 => ?_)
      · skip
        refine E_iconst (v := 2) dX11_rackIs_25 (by decide) ?_
        simp only [if_neg c_6_0, if_pos c_18_1] at hq
        exact hq
      · skip
        refine E_iconst (v := 0) dX11_rackIs_21 (by decide) ?_
        refine E_goto 26 dX11_rackIs_22 (by decide) ?_
        simp only [if_neg c_6_0, if_neg c_18_1] at hq
        exact hq
    · skip
      refine E_iconst (v := 1) dX11_rackIs_9 (by decide) ?_
      refine E_goto 26 dX11_rackIs_10 (by decide) ?_
      simp only [if_pos c_6_0] at hq
      exact hq
  · skip
    refine P_call (t := fun v => some (.int v)) (st2 := fun v => .int v :: []) (kc2 := 0) (ks2 := 0) (fun hJ => (ok_X11_holds (σ := σ) (p1 := (if (v_X11_isPlayer σ p1) = 0 then 1 else (if (v_X11_isKindOrJoker σ p2) = 0 then 2 else 0) : Int32)) )) (fun hJ _ _ _ _ v τ1 hM q => E_callV (as := [.int ((if (v_X11_isPlayer σ p1) = 0 then 1 else (if (v_X11_isKindOrJoker σ p2) = 0 then 2 else 0) : Int32))]) (b := 67) (st := []) hM (by decide) yfX11_holds mlX11_265 imX11_holds seX11_holds clX11 (kd67 hJ.1.1) rfl (Nat.le_of_ble_eq_true rfl) rfl dX11_rackIs_26 q) (by decide) (by decide) (fun v1 σ2 => ?_)
    refine P_if (fun hJ _ _ h1 h2 => E_if_eq 34 dX11_rackIs_29 (by decide) h1 h2) ?_ ?_
    · skip
      refine P_l (fun hJ _ _ q => E_aload_n dX11_rackIs_34 rfl (E_getR (b := 79) clX11 18 (by decide) flX11_63 (Or.inr ⟨_, rfl⟩) dX11_rackIs_35 (kd67 hJ.1.1) (rf67_18 hJ.1.1) (by decide) (E_bipush (v := 53) dX11_rackIs_38 (by decide) (E_iload_n dX11_rackIs_40 rfl (E_imul dX11_rackIs_41 (E_iload_n dX11_rackIs_42 rfl (E_iadd dX11_rackIs_43 q))))))) ?_
      refine P_g (fun g3 => ?_)
      refine P_l (fun hJ _ _ q => E_iald dX11_rackIs_44 (kd79 hJ.1.1) (inB_vp g3) q) ?_
      exact P_ret (fun _ _ => E_iret rfl dX11_rackIs_45)
    · skip
      refine P_l (fun hJ _ _ q => E_iconst (v := (-1)) dX11_rackIs_32 (by decide) q) ?_
      exact P_ret (fun _ _ => E_iret rfl dX11_rackIs_33)

def f_X11_tableIs (σ : rS) (p1 : Int32) (p2 : Int32) : Option (Int32 × rS) := oB (f_X11_holds σ ((if (v_X11_isKind σ p1) = 0 then 1 else 0 : Int32))) fun v1 σ2 => if v1 = 0 then (if p2 = 0 then (if inB p1 52 then (some ((rI σ2 80 (p1 : Int32).toNatClampNeg, σ2))) else none) else (if inB p1 52 then (some ((rI σ2 81 (p1 : Int32).toNatClampNeg, σ2))) else none)) else (some (((-1), σ2)))
set_option maxRecDepth 20000 in
set_option maxHeartbeats 2000000 in
theorem ok_X11_tableIs {σ : rS} {p1 : Int32} {p2 : Int32}   : rFn Sy yX11_tableIs mX11_tableIs 2 [.ref 67, .int p1, .int p2] σ 0 0 (fun v => .inl (some (.int v))) (f_X11_tableIs σ p1 p2) := by
  refine rF_of (ls := [some (.ref 67), some (.int p1), some (.int p2)]) yfX11_tableIs rfl (Nat.le_of_ble_eq_true rfl) (fun o τ => ?_)
  unfold f_X11_tableIs
  refine P_l (fun hJ _ _ q => E_aload_n dX11_tableIs_0 rfl (E_aload_n dX11_tableIs_1 rfl (E_iload_n dX11_tableIs_2 rfl (E_callV (as := [.int p1]) (b := 67) (st := [.ref 67]) (ok_X11_isKind (σ := σ) (p1 := p1) hJ ) (by decide) yfX11_isKind mlX11_294 imX11_isKind seX11_isKind clX11 (kd67 hJ.1.1) rfl (Nat.le_of_ble_eq_true rfl) rfl dX11_tableIs_3 q)))) ?_
  refine P_l (pc2 := 14) (ls2 := [some (.ref 67), some (.int p1), some (.int p2)]) (st2 := [.int ((if (v_X11_isKind σ p1) = 0 then 1 else 0 : Int32)), .ref 67]) (fun hJ _ _ hq => ?_) ?_
  · skip
    refine E_if_eq 13 dX11_tableIs_6 (by decide) (fun c_6_0 => ?_) (fun c_6_0 => ?_)
    · skip
      refine E_iconst (v := 1) dX11_tableIs_13 (by decide) ?_
      simp only [if_pos c_6_0] at hq
      exact hq
    · skip
      refine E_iconst (v := 0) dX11_tableIs_9 (by decide) ?_
      refine E_goto 14 dX11_tableIs_10 (by decide) ?_
      simp only [if_neg c_6_0] at hq
      exact hq
  · skip
    refine P_call (t := fun v => some (.int v)) (st2 := fun v => .int v :: []) (kc2 := 0) (ks2 := 0) (fun hJ => (ok_X11_holds (σ := σ) (p1 := (if (v_X11_isKind σ p1) = 0 then 1 else 0 : Int32)) )) (fun hJ _ _ _ _ v τ1 hM q => E_callV (as := [.int ((if (v_X11_isKind σ p1) = 0 then 1 else 0 : Int32))]) (b := 67) (st := []) hM (by decide) yfX11_holds mlX11_265 imX11_holds seX11_holds clX11 (kd67 hJ.1.1) rfl (Nat.le_of_ble_eq_true rfl) rfl dX11_tableIs_14 q) (by decide) (by decide) (fun v1 σ2 => ?_)
    refine P_if (fun hJ _ _ h1 h2 => E_if_eq 22 dX11_tableIs_17 (by decide) h1 h2) ?_ ?_
    · skip
      refine P_l (fun hJ _ _ q => E_iload_n dX11_tableIs_22 rfl q) ?_
      refine P_if (fun hJ _ _ h1 h2 => E_if_eq 35 dX11_tableIs_23 (by decide) h1 h2) ?_ ?_
      · skip
        refine P_l (fun hJ _ _ q => E_aload_n dX11_tableIs_35 rfl (E_getR (b := 80) clX11 19 (by decide) flX11_66 (Or.inr ⟨_, rfl⟩) dX11_tableIs_36 (kd67 hJ.1.1) (rf67_19 hJ.1.1) (by decide) (E_iload_n dX11_tableIs_39 rfl q))) ?_
        refine P_g (fun g3 => ?_)
        refine P_l (fun hJ _ _ q => E_iald dX11_tableIs_40 (kd80 hJ.1.1) (inB_vp g3) q) ?_
        exact P_ret (fun _ _ => E_iret rfl dX11_tableIs_41)
      · skip
        refine P_l (fun hJ _ _ q => E_aload_n dX11_tableIs_26 rfl (E_getR (b := 81) clX11 20 (by decide) flX11_69 (Or.inr ⟨_, rfl⟩) dX11_tableIs_27 (kd67 hJ.1.1) (rf67_20 hJ.1.1) (by decide) (E_iload_n dX11_tableIs_30 rfl q))) ?_
        refine P_g (fun g4 => ?_)
        refine P_l (fun hJ _ _ q => E_iald dX11_tableIs_31 (kd81 hJ.1.1) (inB_vp g4) (E_goto 41 dX11_tableIs_32 (by decide) q)) ?_
        exact P_ret (fun _ _ => E_iret rfl dX11_tableIs_41)
    · skip
      refine P_l (fun hJ _ _ q => E_iconst (v := (-1)) dX11_tableIs_20 (by decide) q) ?_
      exact P_ret (fun _ _ => E_iret rfl dX11_tableIs_21)

def f_X11_poolIs (σ : rS) (p1 : Int32) : Option (Int32 × rS) := oB (f_X11_holds σ ((if (v_X11_isKindOrJoker σ p1) = 0 then 1 else 0 : Int32))) fun v1 σ2 => if v1 = 0 then (if inB p1 53 then (some ((rI σ2 82 (p1 : Int32).toNatClampNeg, σ2))) else none) else (some (((-1), σ2)))
set_option maxRecDepth 20000 in
set_option maxHeartbeats 2000000 in
theorem ok_X11_poolIs {σ : rS} {p1 : Int32}   : rFn Sy yX11_poolIs mX11_poolIs 3 [.ref 67, .int p1] σ 0 0 (fun v => .inl (some (.int v))) (f_X11_poolIs σ p1) := by
  refine rF_of (ls := [some (.ref 67), some (.int p1)]) yfX11_poolIs rfl (Nat.le_of_ble_eq_true rfl) (fun o τ => ?_)
  unfold f_X11_poolIs
  refine P_l (fun hJ _ _ q => E_aload_n dX11_poolIs_0 rfl (E_aload_n dX11_poolIs_1 rfl (E_iload_n dX11_poolIs_2 rfl (E_callV (as := [.int p1]) (b := 67) (st := [.ref 67]) (ok_X11_isKindOrJoker (σ := σ) (p1 := p1) hJ ) (by decide) yfX11_isKindOrJoker mlX11_402 imX11_isKindOrJoker seX11_isKindOrJoker clX11 (kd67 hJ.1.1) rfl (Nat.le_of_ble_eq_true rfl) rfl dX11_poolIs_3 q)))) ?_
  refine P_l (pc2 := 14) (ls2 := [some (.ref 67), some (.int p1)]) (st2 := [.int ((if (v_X11_isKindOrJoker σ p1) = 0 then 1 else 0 : Int32)), .ref 67]) (fun hJ _ _ hq => ?_) ?_
  · skip
    refine E_if_eq 13 dX11_poolIs_6 (by decide) (fun c_6_0 => ?_) (fun c_6_0 => ?_)
    · skip
      refine E_iconst (v := 1) dX11_poolIs_13 (by decide) ?_
      simp only [if_pos c_6_0] at hq
      exact hq
    · skip
      refine E_iconst (v := 0) dX11_poolIs_9 (by decide) ?_
      refine E_goto 14 dX11_poolIs_10 (by decide) ?_
      simp only [if_neg c_6_0] at hq
      exact hq
  · skip
    refine P_call (t := fun v => some (.int v)) (st2 := fun v => .int v :: []) (kc2 := 0) (ks2 := 0) (fun hJ => (ok_X11_holds (σ := σ) (p1 := (if (v_X11_isKindOrJoker σ p1) = 0 then 1 else 0 : Int32)) )) (fun hJ _ _ _ _ v τ1 hM q => E_callV (as := [.int ((if (v_X11_isKindOrJoker σ p1) = 0 then 1 else 0 : Int32))]) (b := 67) (st := []) hM (by decide) yfX11_holds mlX11_265 imX11_holds seX11_holds clX11 (kd67 hJ.1.1) rfl (Nat.le_of_ble_eq_true rfl) rfl dX11_poolIs_14 q) (by decide) (by decide) (fun v1 σ2 => ?_)
    refine P_if (fun hJ _ _ h1 h2 => E_if_eq 22 dX11_poolIs_17 (by decide) h1 h2) ?_ ?_
    · skip
      refine P_l (fun hJ _ _ q => E_aload_n dX11_poolIs_22 rfl (E_getR (b := 82) clX11 21 (by decide) flX11_72 (Or.inr ⟨_, rfl⟩) dX11_poolIs_23 (kd67 hJ.1.1) (rf67_21 hJ.1.1) (by decide) (E_iload_n dX11_poolIs_26 rfl q))) ?_
      refine P_g (fun g3 => ?_)
      refine P_l (fun hJ _ _ q => E_iald dX11_poolIs_27 (kd82 hJ.1.1) (inB_vp g3) q) ?_
      exact P_ret (fun _ _ => E_iret rfl dX11_poolIs_28)
    · skip
      refine P_l (fun hJ _ _ q => E_iconst (v := (-1)) dX11_poolIs_20 (by decide) q) ?_
      exact P_ret (fun _ _ => E_iret rfl dX11_poolIs_21)

def f_X11_playerIs (σ : rS) (p1 : Int32) (p2 : Int32) : Option (Int32 × rS) := oB (f_X11_holds σ ((if (v_X11_isPlayer σ p1) = 0 then 1 else (if (v_X11_in σ p2 0 9) = 0 then 2 else 0) : Int32))) fun v1 σ2 => if v1 = 0 then (if p2 = 0 then (if inB p1 4 then (some ((rI σ2 68 (p1 : Int32).toNatClampNeg, σ2))) else none) else (if p2 = 1 then (if inB p1 4 then (some ((rI σ2 69 (p1 : Int32).toNatClampNeg, σ2))) else none) else (if p2 = 2 then (if inB p1 4 then (some ((rI σ2 70 (p1 : Int32).toNatClampNeg, σ2))) else none) else (if p2 = 3 then (if inB p1 4 then (some ((rI σ2 71 (p1 : Int32).toNatClampNeg, σ2))) else none) else (if p2 = 4 then (if inB p1 4 then (some (((if (rI σ2 72 (p1 : Int32).toNatClampNeg) = 0 then 0 else 1 : Int32), σ2))) else none) else (if p2 = 5 then ((f_X11_inRack σ2 p1).bind fun v14 => some ((v14, σ2))) else (if p2 = 6 then ((f_X11_worthOf σ2 p1).bind fun v16 => some ((v16, σ2))) else (if p2 = 7 then ((f_X11_placeOf σ2 p1).bind fun v18 => some ((v18, σ2))) else (if p2 = 8 then (if inB p1 4 then (some ((rI σ2 77 (p1 : Int32).toNatClampNeg, σ2))) else none) else (if inB p1 4 then (some ((rI σ2 73 (p1 : Int32).toNatClampNeg, σ2))) else none)))))))))) else (some (((-1), σ2)))
set_option maxRecDepth 20000 in
set_option maxHeartbeats 2000000 in
theorem ok_X11_playerIs {σ : rS} {p1 : Int32} {p2 : Int32}   : rFn Sy yX11_playerIs mX11_playerIs 2 [.ref 67, .int p1, .int p2] σ 0 0 (fun v => .inl (some (.int v))) (f_X11_playerIs σ p1 p2) := by
  refine rF_of (ls := [some (.ref 67), some (.int p1), some (.int p2)]) yfX11_playerIs rfl (Nat.le_of_ble_eq_true rfl) (fun o τ => ?_)
  unfold f_X11_playerIs
  refine P_l (fun hJ _ _ q => E_aload_n dX11_playerIs_0 rfl (E_aload_n dX11_playerIs_1 rfl (E_iload_n dX11_playerIs_2 rfl (E_callV (as := [.int p1]) (b := 67) (st := [.ref 67]) (ok_X11_isPlayer (σ := σ) (p1 := p1) hJ ) (by decide) yfX11_isPlayer mlX11_282 imX11_isPlayer seX11_isPlayer clX11 (kd67 hJ.1.1) rfl (Nat.le_of_ble_eq_true rfl) rfl dX11_playerIs_3 q)))) ?_
  refine P_l (pc2 := 29) (ls2 := [some (.ref 67), some (.int p1), some (.int p2)]) (st2 := [.int ((if (v_X11_isPlayer σ p1) = 0 then 1 else (if (v_X11_in σ p2 0 9) = 0 then 2 else 0) : Int32)), .ref 67]) (fun hJ _ _ hq => ?_) ?_
  · skip
    refine E_if_ne 13 dX11_playerIs_6 (by decide) (fun c_6_0 => ?_) (fun c_6_0 => ?_)
    · skip
      refine E_aload_n dX11_playerIs_13 rfl ?_
      refine E_iload_n dX11_playerIs_14 rfl ?_
      refine E_iconst (v := 0) dX11_playerIs_15 (by decide) ?_
      refine E_bipush (v := 9) dX11_playerIs_16 (by decide) ?_
      refine E_callV (as := [.int p2, .int 0, .int 9]) (b := 67) (st := [.ref 67]) (ok_X11_in (σ := σ) (p1 := p2) (p2 := 0) (p3 := 9) hJ ) (by decide) yfX11_in mlX11_182 imX11_in seX11_in clX11 (kd67 hJ.1.1) rfl (Nat.le_of_ble_eq_true rfl) rfl dX11_playerIs_18 ?_
      refine E_if_eq 28 dX11_playerIs_21 (by decide) (fun c_21_1 => ?_) (fun c_21_1 => ?_)
      · skip
        refine E_iconst (v := 2) dX11_playerIs_28 (by decide) ?_
        simp only [if_neg c_6_0, if_pos c_21_1] at hq
        exact hq
      · skip
        refine E_iconst (v := 0) dX11_playerIs_24 (by decide) ?_
        refine E_goto 29 dX11_playerIs_25 (by decide) ?_
        simp only [if_neg c_6_0, if_neg c_21_1] at hq
        exact hq
    · skip
      refine E_iconst (v := 1) dX11_playerIs_9 (by decide) ?_
      refine E_goto 29 dX11_playerIs_10 (by decide) ?_
      simp only [if_pos c_6_0] at hq
      exact hq
  · skip
    refine P_call (t := fun v => some (.int v)) (st2 := fun v => .int v :: []) (kc2 := 0) (ks2 := 0) (fun hJ => (ok_X11_holds (σ := σ) (p1 := (if (v_X11_isPlayer σ p1) = 0 then 1 else (if (v_X11_in σ p2 0 9) = 0 then 2 else 0) : Int32)) )) (fun hJ _ _ _ _ v τ1 hM q => E_callV (as := [.int ((if (v_X11_isPlayer σ p1) = 0 then 1 else (if (v_X11_in σ p2 0 9) = 0 then 2 else 0) : Int32))]) (b := 67) (st := []) hM (by decide) yfX11_holds mlX11_265 imX11_holds seX11_holds clX11 (kd67 hJ.1.1) rfl (Nat.le_of_ble_eq_true rfl) rfl dX11_playerIs_29 q) (by decide) (by decide) (fun v1 σ2 => ?_)
    refine P_if (fun hJ _ _ h1 h2 => E_if_eq 37 dX11_playerIs_32 (by decide) h1 h2) ?_ ?_
    · skip
      refine P_l (fun hJ _ _ q => E_iload_n dX11_playerIs_37 rfl q) ?_
      refine P_case (fun h3 => ?_) (fun h3 => ?_)
      · skip
        refine P_l (fun hJ _ _ q => E_tableIn (off := 50) 88 dX11_playerIs_38 (by rw [h3]; decide) (by rw [h3]; decide) (by rw [h3]; rfl) (by decide) q) ?_
        refine P_l (fun hJ _ _ q => E_aload_n dX11_playerIs_88 rfl (E_getR (b := 68) clX11 7 (by decide) flX11_27 (Or.inr ⟨_, rfl⟩) dX11_playerIs_89 (kd67 hJ.1.1) (rf67_7 hJ.1.1) (by decide) (E_iload_n dX11_playerIs_92 rfl q))) ?_
        refine P_g (fun g4 => ?_)
        refine P_l (fun hJ _ _ q => E_iald dX11_playerIs_93 (kd68 hJ.1.1) (inB_vp g4) q) ?_
        exact P_ret (fun _ _ => E_iret rfl dX11_playerIs_94)
      · skip
        refine P_case (fun h5 => ?_) (fun h5 => ?_)
        · skip
          refine P_l (fun hJ _ _ q => E_tableIn (off := 57) 95 dX11_playerIs_38 (by rw [h5]; decide) (by rw [h5]; decide) (by rw [h5]; rfl) (by decide) q) ?_
          refine P_l (fun hJ _ _ q => E_aload_n dX11_playerIs_95 rfl (E_getR (b := 69) clX11 8 (by decide) flX11_31 (Or.inr ⟨_, rfl⟩) dX11_playerIs_96 (kd67 hJ.1.1) (rf67_8 hJ.1.1) (by decide) (E_iload_n dX11_playerIs_99 rfl q))) ?_
          refine P_g (fun g6 => ?_)
          refine P_l (fun hJ _ _ q => E_iald dX11_playerIs_100 (kd69 hJ.1.1) (inB_vp g6) q) ?_
          exact P_ret (fun _ _ => E_iret rfl dX11_playerIs_101)
        · skip
          refine P_case (fun h7 => ?_) (fun h7 => ?_)
          · skip
            refine P_l (fun hJ _ _ q => E_tableIn (off := 64) 102 dX11_playerIs_38 (by rw [h7]; decide) (by rw [h7]; decide) (by rw [h7]; rfl) (by decide) q) ?_
            refine P_l (fun hJ _ _ q => E_aload_n dX11_playerIs_102 rfl (E_getR (b := 70) clX11 9 (by decide) flX11_34 (Or.inr ⟨_, rfl⟩) dX11_playerIs_103 (kd67 hJ.1.1) (rf67_9 hJ.1.1) (by decide) (E_iload_n dX11_playerIs_106 rfl q))) ?_
            refine P_g (fun g8 => ?_)
            refine P_l (fun hJ _ _ q => E_iald dX11_playerIs_107 (kd70 hJ.1.1) (inB_vp g8) q) ?_
            exact P_ret (fun _ _ => E_iret rfl dX11_playerIs_108)
          · skip
            refine P_case (fun h9 => ?_) (fun h9 => ?_)
            · skip
              refine P_l (fun hJ _ _ q => E_tableIn (off := 71) 109 dX11_playerIs_38 (by rw [h9]; decide) (by rw [h9]; decide) (by rw [h9]; rfl) (by decide) q) ?_
              refine P_l (fun hJ _ _ q => E_aload_n dX11_playerIs_109 rfl (E_getR (b := 71) clX11 10 (by decide) flX11_37 (Or.inr ⟨_, rfl⟩) dX11_playerIs_110 (kd67 hJ.1.1) (rf67_10 hJ.1.1) (by decide) (E_iload_n dX11_playerIs_113 rfl q))) ?_
              refine P_g (fun g10 => ?_)
              refine P_l (fun hJ _ _ q => E_iald dX11_playerIs_114 (kd71 hJ.1.1) (inB_vp g10) q) ?_
              exact P_ret (fun _ _ => E_iret rfl dX11_playerIs_115)
            · skip
              refine P_case (fun h11 => ?_) (fun h11 => ?_)
              · skip
                refine P_l (fun hJ _ _ q => E_tableIn (off := 78) 116 dX11_playerIs_38 (by rw [h11]; decide) (by rw [h11]; decide) (by rw [h11]; rfl) (by decide) q) ?_
                refine P_l (fun hJ _ _ q => E_aload_n dX11_playerIs_116 rfl (E_getR (b := 72) clX11 11 (by decide) flX11_40 (Or.inr ⟨_, rfl⟩) dX11_playerIs_117 (kd67 hJ.1.1) (rf67_11 hJ.1.1) (by decide) (E_iload_n dX11_playerIs_120 rfl q))) ?_
                refine P_g (fun g12 => ?_)
                refine P_l (fun hJ _ _ q => E_zald dX11_playerIs_121 (kd72 hJ.1.1) (inB_vp g12) q) ?_
                refine P_l (pc2 := 130) (ls2 := [none, none, none]) (st2 := [.int ((if (rI σ2 72 (p1 : Int32).toNatClampNeg) = 0 then 0 else 1 : Int32))]) (fun hJ _ _ hq => ?_) ?_
                · skip
                  refine E_if_eq 129 dX11_playerIs_122 (by decide) (fun c_122_0 => ?_) (fun c_122_0 => ?_)
                  · skip
                    refine E_iconst (v := 0) dX11_playerIs_129 (by decide) ?_
                    simp only [if_pos c_122_0] at hq
                    exact E_less (ls2 := [none, none, none]) hq (rLe_at [none, none, none] [some (.ref 67), some (.int p1), some (.int p2)] trivial)
                  · skip
                    refine E_iconst (v := 1) dX11_playerIs_125 (by decide) ?_
                    refine E_goto 130 dX11_playerIs_126 (by decide) ?_
                    simp only [if_neg c_122_0] at hq
                    exact E_less (ls2 := [none, none, none]) hq (rLe_at [none, none, none] [some (.ref 67), some (.int p1), some (.int p2)] trivial)
                · skip
                  exact P_ret (fun _ _ => E_iret rfl dX11_playerIs_130)
              · skip
                refine P_case (fun h13 => ?_) (fun h13 => ?_)
                · skip
                  refine P_l (fun hJ _ _ q => E_tableIn (off := 93) 131 dX11_playerIs_38 (by rw [h13]; decide) (by rw [h13]; decide) (by rw [h13]; rfl) (by decide) q) ?_
                  refine P_l (fun hJ _ _ q => E_aload_n dX11_playerIs_131 rfl (E_iload_n dX11_playerIs_132 rfl q)) ?_
                  refine P_callr (t := fun v => some (.int v)) (st2 := fun v => .int v :: []) (fun hJ => (ok_X11_inRack (σ := σ2) (p1 := p1) )) (fun hJ _ _ v hM q => E_callV (as := [.int p1]) (b := 67) (st := []) hM (by decide) yfX11_inRack mlX11_315 imX11_inRack seX11_inRack clX11 (kd67 hJ.1.1) rfl (Nat.le_of_ble_eq_true rfl) rfl dX11_playerIs_133 q) (fun v14 => ?_)
                  exact P_ret (fun _ _ => E_iret rfl dX11_playerIs_136)
                · skip
                  refine P_case (fun h15 => ?_) (fun h15 => ?_)
                  · skip
                    refine P_l (fun hJ _ _ q => E_tableIn (off := 99) 137 dX11_playerIs_38 (by rw [h15]; decide) (by rw [h15]; decide) (by rw [h15]; rfl) (by decide) q) ?_
                    refine P_l (fun hJ _ _ q => E_aload_n dX11_playerIs_137 rfl (E_iload_n dX11_playerIs_138 rfl q)) ?_
                    refine P_callr (t := fun v => some (.int v)) (st2 := fun v => .int v :: []) (fun hJ => (ok_X11_worthOf (σ := σ2) (p1 := p1) )) (fun hJ _ _ v hM q => E_callV (as := [.int p1]) (b := 67) (st := []) hM (by decide) yfX11_worthOf mlX11_356 imX11_worthOf seX11_worthOf clX11 (kd67 hJ.1.1) rfl (Nat.le_of_ble_eq_true rfl) rfl dX11_playerIs_139 q) (fun v16 => ?_)
                    exact P_ret (fun _ _ => E_iret rfl dX11_playerIs_142)
                  · skip
                    refine P_case (fun h17 => ?_) (fun h17 => ?_)
                    · skip
                      refine P_l (fun hJ _ _ q => E_tableIn (off := 105) 143 dX11_playerIs_38 (by rw [h17]; decide) (by rw [h17]; decide) (by rw [h17]; rfl) (by decide) q) ?_
                      refine P_l (fun hJ _ _ q => E_aload_n dX11_playerIs_143 rfl (E_iload_n dX11_playerIs_144 rfl q)) ?_
                      refine P_callr (t := fun v => some (.int v)) (st2 := fun v => .int v :: []) (fun hJ => (ok_X11_placeOf (σ := σ2) (p1 := p1) )) (fun hJ _ _ v hM q => E_callV (as := [.int p1]) (b := 67) (st := []) hM (by decide) yfX11_placeOf mlX11_359 imX11_placeOf seX11_placeOf clX11 (kd67 hJ.1.1) rfl (Nat.le_of_ble_eq_true rfl) rfl dX11_playerIs_145 q) (fun v18 => ?_)
                      exact P_ret (fun _ _ => E_iret rfl dX11_playerIs_148)
                    · skip
                      refine P_case (fun h19 => ?_) (fun h19 => ?_)
                      · skip
                        refine P_l (fun hJ _ _ q => E_tableIn (off := 111) 149 dX11_playerIs_38 (by rw [h19]; decide) (by rw [h19]; decide) (by rw [h19]; rfl) (by decide) q) ?_
                        refine P_l (fun hJ _ _ q => E_aload_n dX11_playerIs_149 rfl (E_getR (b := 77) clX11 16 (by decide) flX11_57 (Or.inr ⟨_, rfl⟩) dX11_playerIs_150 (kd67 hJ.1.1) (rf67_16 hJ.1.1) (by decide) (E_iload_n dX11_playerIs_153 rfl q))) ?_
                        refine P_g (fun g20 => ?_)
                        refine P_l (fun hJ _ _ q => E_iald dX11_playerIs_154 (kd77 hJ.1.1) (inB_vp g20) q) ?_
                        exact P_ret (fun _ _ => E_iret rfl dX11_playerIs_155)
                      · skip
                        refine P_l (fun hJ _ _ q => E_tableOut 156 dX11_playerIs_38 (by have e0 := sw_ne h3; have e1 := sw_ne h5; have e2 := sw_ne h7; have e3 := sw_ne h9; have e4 := sw_ne h11; have e5 := sw_ne h13; have e6 := sw_ne h15; have e7 := sw_ne h17; have e8 := sw_ne h19; simp only [sw_l0, sw_l1, sw_l2, sw_l3, sw_l4, sw_l5, sw_l6, sw_l7, sw_l8] at *; omega) (by decide) q) ?_
                        refine P_l (fun hJ _ _ q => E_aload_n dX11_playerIs_156 rfl (E_getR (b := 73) clX11 12 (by decide) flX11_44 (Or.inr ⟨_, rfl⟩) dX11_playerIs_157 (kd67 hJ.1.1) (rf67_12 hJ.1.1) (by decide) (E_iload_n dX11_playerIs_160 rfl q))) ?_
                        refine P_g (fun g21 => ?_)
                        refine P_l (fun hJ _ _ q => E_iald dX11_playerIs_161 (kd73 hJ.1.1) (inB_vp g21) q) ?_
                        exact P_ret (fun _ _ => E_iret rfl dX11_playerIs_162)
    · skip
      refine P_l (fun hJ _ _ q => E_iconst (v := (-1)) dX11_playerIs_35 (by decide) q) ?_
      exact P_ret (fun _ _ => E_iret rfl dX11_playerIs_36)

def b_X11_team_28 (p1 : Int32) (σ2 : rS) (s3 : Int32 × Int32) : Option ((Int32 × rS) ⊕ (Int32 × Int32)) := if (rI σ2 67 6) ≤ s3.2 then (some (.inl ((s3.1, σ2)))) else (if inB s3.2 4 then (oLet (s3.1 + ((if (rI σ2 68 (s3.2 : Int32).toNatClampNeg) = p1 then (rI σ2 70 (s3.2 : Int32).toNatClampNeg) else 0 : Int32)) : Int32) fun x5 => some (.inr ((x5, s3.2 + 1)))) else none)
def f_X11_team (σ : rS) (p1 : Int32) : Option (Int32 × rS) := oB (f_X11_holds σ ((if (v_X11_in σ p1 0 1) = 0 then 1 else 0 : Int32))) fun v1 σ2 => if v1 = 0 then (oLoop (b_X11_team_28 p1 σ2) oFuel ((0, 0))) else (some (((-1), σ2)))
set_option maxRecDepth 20000 in
set_option maxHeartbeats 2000000 in
theorem ok_X11_team {σ : rS} {p1 : Int32}   : rFn Sy yX11_team mX11_team 1 [.ref 67, .int p1] σ 0 0 (fun v => .inl (some (.int v))) (f_X11_team σ p1) := by
  refine rF_of (ls := [some (.ref 67), some (.int p1), none, none]) yfX11_team rfl (Nat.le_of_ble_eq_true rfl) (fun o τ => ?_)
  unfold f_X11_team
  refine P_l (fun hJ _ _ q => E_aload_n dX11_team_0 rfl (E_aload_n dX11_team_1 rfl (E_iload_n dX11_team_2 rfl (E_iconst (v := 0) dX11_team_3 (by decide) (E_iconst (v := 1) dX11_team_4 (by decide) (E_callV (as := [.int p1, .int 0, .int 1]) (b := 67) (st := [.ref 67]) (ok_X11_in (σ := σ) (p1 := p1) (p2 := 0) (p3 := 1) hJ ) (by decide) yfX11_in mlX11_182 imX11_in seX11_in clX11 (kd67 hJ.1.1) rfl (Nat.le_of_ble_eq_true rfl) rfl dX11_team_5 q)))))) ?_
  refine P_l (pc2 := 16) (ls2 := [some (.ref 67), some (.int p1), none, none]) (st2 := [.int ((if (v_X11_in σ p1 0 1) = 0 then 1 else 0 : Int32)), .ref 67]) (fun hJ _ _ hq => ?_) ?_
  · skip
    refine E_if_eq 15 dX11_team_8 (by decide) (fun c_8_0 => ?_) (fun c_8_0 => ?_)
    · skip
      refine E_iconst (v := 1) dX11_team_15 (by decide) ?_
      simp only [if_pos c_8_0] at hq
      exact hq
    · skip
      refine E_iconst (v := 0) dX11_team_11 (by decide) ?_
      refine E_goto 16 dX11_team_12 (by decide) ?_
      simp only [if_neg c_8_0] at hq
      exact hq
  · skip
    refine P_call (t := fun v => some (.int v)) (st2 := fun v => .int v :: []) (kc2 := 0) (ks2 := 0) (fun hJ => (ok_X11_holds (σ := σ) (p1 := (if (v_X11_in σ p1 0 1) = 0 then 1 else 0 : Int32)) )) (fun hJ _ _ _ _ v τ1 hM q => E_callV (as := [.int ((if (v_X11_in σ p1 0 1) = 0 then 1 else 0 : Int32))]) (b := 67) (st := []) hM (by decide) yfX11_holds mlX11_265 imX11_holds seX11_holds clX11 (kd67 hJ.1.1) rfl (Nat.le_of_ble_eq_true rfl) rfl dX11_team_16 q) (by decide) (by decide) (fun v1 σ2 => ?_)
    refine P_if (fun hJ _ _ h1 h2 => E_if_eq 24 dX11_team_19 (by decide) h1 h2) ?_ ?_
    · skip
      refine P_l (fun hJ _ _ q => E_iconst (v := 0) dX11_team_24 (by decide) (E_istore_n (ls2 := [some (.ref 67), some (.int p1), some (.int 0), none]) dX11_team_25 (by decide) rfl (E_iconst (v := 0) dX11_team_26 (by decide) (E_istore_n (ls2 := [some (.ref 67), some (.int p1), some (.int 0), some (.int 0)]) dX11_team_27 (by decide) rfl q)))) ?_
      refine P_loop (fun s3 => [some (.ref 67), some (.int p1), some (.int s3.1), some (.int s3.2)]) (fun _ => σ2) (fun s3 => ?_) _ ((0, 0))
      unfold b_X11_team_28
      refine P_l (fun hJ _ _ q => E_iload_n dX11_team_28 rfl (E_aload_n dX11_team_29 rfl (E_getI clX11 6 (by decide) flX11_186 (Or.inl rfl) dX11_team_30 (kd67 hJ.1.1) q))) ?_
      refine P_if (fun hJ _ _ h1 h2 => E_icmp_ge 65 dX11_team_33 (by decide) h1 h2) ?_ ?_
      · skip
        refine P_l (fun hJ _ _ q => E_iload_n dX11_team_65 rfl q) ?_
        exact P_inl (P_ret (fun _ _ => E_iret rfl dX11_team_66))
      · skip
        refine P_l (fun hJ _ _ q => E_iload_n dX11_team_36 rfl (E_aload_n dX11_team_37 rfl (E_getR (b := 68) clX11 7 (by decide) flX11_27 (Or.inr ⟨_, rfl⟩) dX11_team_38 (kd67 hJ.1.1) (rf67_7 hJ.1.1) (by decide) (E_iload_n dX11_team_41 rfl q)))) ?_
        refine P_g (fun g4 => ?_)
        refine P_l (fun hJ _ _ q => E_iald dX11_team_42 (kd68 hJ.1.1) (inB_vp g4) (E_iload_n dX11_team_43 rfl q)) ?_
        refine P_l (pc2 := 57) (ls2 := [some (.ref 67), some (.int p1), none, some (.int s3.2)]) (st2 := [.int ((if (rI σ2 68 (s3.2 : Int32).toNatClampNeg) = p1 then (rI σ2 70 (s3.2 : Int32).toNatClampNeg) else 0 : Int32)), .int s3.1]) (fun hJ _ _ hq => ?_) ?_
        · skip
          refine E_icmp_ne 56 dX11_team_44 (by decide) (fun c_44_0 => ?_) (fun c_44_0 => ?_)
          · skip
            refine E_iconst (v := 0) dX11_team_56 (by decide) ?_
            simp only [if_neg c_44_0] at hq
            exact E_less (ls2 := [some (.ref 67), some (.int p1), none, some (.int s3.2)]) hq (rLe_at [some (.ref 67), some (.int p1), none, some (.int s3.2)] [some (.ref 67), some (.int p1), some (.int s3.1), some (.int s3.2)] (And.intro rfl (And.intro rfl (And.intro rfl trivial))))
          · skip
            refine E_aload_n dX11_team_47 rfl ?_
            refine E_getR (b := 70) clX11 9 (by decide) flX11_34 (Or.inr ⟨_, rfl⟩) dX11_team_48 (kd67 hJ.1.1) (rf67_9 hJ.1.1) (by decide) ?_
            refine E_iload_n dX11_team_51 rfl ?_
            refine E_iald dX11_team_52 (kd70 hJ.1.1) (inB_vp g4) ?_
            refine E_goto 57 dX11_team_53 (by decide) ?_
            simp only [if_pos c_44_0] at hq
            exact E_less (ls2 := [some (.ref 67), some (.int p1), none, some (.int s3.2)]) hq (rLe_at [some (.ref 67), some (.int p1), none, some (.int s3.2)] [some (.ref 67), some (.int p1), some (.int s3.1), some (.int s3.2)] (And.intro rfl (And.intro rfl (And.intro rfl trivial))))
        · skip
          refine P_l (fun hJ _ _ q => E_iadd dX11_team_57 (E_istore_n (ls2 := [some (.ref 67), some (.int p1), some (.int (s3.1 + ((if (rI σ2 68 (s3.2 : Int32).toNatClampNeg) = p1 then (rI σ2 70 (s3.2 : Int32).toNatClampNeg) else 0 : Int32)))), some (.int s3.2)]) dX11_team_58 (by decide) rfl q)) ?_
          refine P_v (s3.1 + ((if (rI σ2 68 (s3.2 : Int32).toNatClampNeg) = p1 then (rI σ2 70 (s3.2 : Int32).toNatClampNeg) else 0 : Int32))) (fun x => [some (.ref 67), some (.int p1), some (.int x), some (.int s3.2)]) (fun x5 => ?_)
          refine P_l (fun hJ _ _ q => E_iinc (v := 1) (ls2 := [some (.ref 67), some (.int p1), some (.int x5), some (.int (s3.2 + 1))]) dX11_team_59 rfl (by decide) (by decide) rfl (E_goto 28 dX11_team_62 (by decide) q)) ?_
          exact P_back ((x5, s3.2 + 1))
    · skip
      refine P_l (fun hJ _ _ q => E_iconst (v := (-1)) dX11_team_22 (by decide) q) ?_
      exact P_ret (fun _ _ => E_iret rfl dX11_team_23)

def f_X11_entry (σ : rS) (p1 : Int32) (p2 : Int32) : Option (Int32 × rS) := oB (f_X11_holds σ ((if (v_X11_in σ p1 0 ((rI σ 67 32) - 1)) = 0 then 1 else (if (v_X11_in σ p2 0 3) = 0 then 2 else 0) : Int32))) fun v1 σ2 => if v1 = 0 then (if inB ((4 * (((rI σ2 67 32) - 1) - p1)) + p2) 100000 then (some ((rI σ2 85 ((4 * (((rI σ2 67 32) - 1) - p1)) + p2 : Int32).toNatClampNeg, σ2))) else none) else (some (((-1), σ2)))
set_option maxRecDepth 20000 in
set_option maxHeartbeats 2000000 in
theorem ok_X11_entry {σ : rS} {p1 : Int32} {p2 : Int32}   : rFn Sy yX11_entry mX11_entry 1 [.ref 67, .int p1, .int p2] σ 0 0 (fun v => .inl (some (.int v))) (f_X11_entry σ p1 p2) := by
  refine rF_of (ls := [some (.ref 67), some (.int p1), some (.int p2)]) yfX11_entry rfl (Nat.le_of_ble_eq_true rfl) (fun o τ => ?_)
  unfold f_X11_entry
  refine P_l (fun hJ _ _ q => E_aload_n dX11_entry_0 rfl (E_aload_n dX11_entry_1 rfl (E_iload_n dX11_entry_2 rfl (E_iconst (v := 0) dX11_entry_3 (by decide) (E_aload_n dX11_entry_4 rfl (E_getI clX11 32 (by decide) flX11_306 (Or.inl rfl) dX11_entry_5 (kd67 hJ.1.1) (E_iconst (v := 1) dX11_entry_8 (by decide) (E_isub dX11_entry_9 (E_callV (as := [.int p1, .int 0, .int ((rI σ 67 32) - 1)]) (b := 67) (st := [.ref 67]) (ok_X11_in (σ := σ) (p1 := p1) (p2 := 0) (p3 := (rI σ 67 32) - 1) hJ ) (by decide) yfX11_in mlX11_182 imX11_in seX11_in clX11 (kd67 hJ.1.1) rfl (Nat.le_of_ble_eq_true rfl) rfl dX11_entry_10 q))))))))) ?_
  refine P_l (pc2 := 35) (ls2 := [some (.ref 67), some (.int p1), some (.int p2)]) (st2 := [.int ((if (v_X11_in σ p1 0 ((rI σ 67 32) - 1)) = 0 then 1 else (if (v_X11_in σ p2 0 3) = 0 then 2 else 0) : Int32)), .ref 67]) (fun hJ _ _ hq => ?_) ?_
  · skip
    refine E_if_ne 20 dX11_entry_13 (by decide) (fun c_13_0 => ?_) (fun c_13_0 => ?_)
    · skip
      refine E_aload_n dX11_entry_20 rfl ?_
      refine E_iload_n dX11_entry_21 rfl ?_
      refine E_iconst (v := 0) dX11_entry_22 (by decide) ?_
      refine E_iconst (v := 3) dX11_entry_23 (by decide) ?_
      refine E_callV (as := [.int p2, .int 0, .int 3]) (b := 67) (st := [.ref 67]) (ok_X11_in (σ := σ) (p1 := p2) (p2 := 0) (p3 := 3) hJ ) (by decide) yfX11_in mlX11_182 imX11_in seX11_in clX11 (kd67 hJ.1.1) rfl (Nat.le_of_ble_eq_true rfl) rfl dX11_entry_24 ?_
      refine E_if_eq 34 dX11_entry_27 (by decide) (fun c_27_1 => ?_) (fun c_27_1 => ?_)
      · skip
        refine E_iconst (v := 2) dX11_entry_34 (by decide) ?_
        simp only [if_neg c_13_0, if_pos c_27_1] at hq
        exact hq
      · skip
        refine E_iconst (v := 0) dX11_entry_30 (by decide) ?_
        refine E_goto 35 dX11_entry_31 (by decide) ?_
        simp only [if_neg c_13_0, if_neg c_27_1] at hq
        exact hq
    · skip
      refine E_iconst (v := 1) dX11_entry_16 (by decide) ?_
      refine E_goto 35 dX11_entry_17 (by decide) ?_
      simp only [if_pos c_13_0] at hq
      exact hq
  · skip
    refine P_call (t := fun v => some (.int v)) (st2 := fun v => .int v :: []) (kc2 := 0) (ks2 := 0) (fun hJ => (ok_X11_holds (σ := σ) (p1 := (if (v_X11_in σ p1 0 ((rI σ 67 32) - 1)) = 0 then 1 else (if (v_X11_in σ p2 0 3) = 0 then 2 else 0) : Int32)) )) (fun hJ _ _ _ _ v τ1 hM q => E_callV (as := [.int ((if (v_X11_in σ p1 0 ((rI σ 67 32) - 1)) = 0 then 1 else (if (v_X11_in σ p2 0 3) = 0 then 2 else 0) : Int32))]) (b := 67) (st := []) hM (by decide) yfX11_holds mlX11_265 imX11_holds seX11_holds clX11 (kd67 hJ.1.1) rfl (Nat.le_of_ble_eq_true rfl) rfl dX11_entry_35 q) (by decide) (by decide) (fun v1 σ2 => ?_)
    refine P_if (fun hJ _ _ h1 h2 => E_if_eq 43 dX11_entry_38 (by decide) h1 h2) ?_ ?_
    · skip
      refine P_l (fun hJ _ _ q => E_aload_n dX11_entry_43 rfl (E_getR (b := 85) clX11 31 (by decide) flX11_88 (Or.inr ⟨_, rfl⟩) dX11_entry_44 (kd67 hJ.1.1) (rf67_31 hJ.1.1) (by decide) (E_iconst (v := 4) dX11_entry_47 (by decide) (E_aload_n dX11_entry_48 rfl (E_getI clX11 32 (by decide) flX11_306 (Or.inl rfl) dX11_entry_49 (kd67 hJ.1.1) (E_iconst (v := 1) dX11_entry_52 (by decide) (E_isub dX11_entry_53 (E_iload_n dX11_entry_54 rfl (E_isub dX11_entry_55 (E_imul dX11_entry_56 (E_iload_n dX11_entry_57 rfl (E_iadd dX11_entry_58 q)))))))))))) ?_
      refine P_g (fun g3 => ?_)
      refine P_l (fun hJ _ _ q => E_iald dX11_entry_59 (kd85 hJ.1.1) (inB_vp g3) q) ?_
      exact P_ret (fun _ _ => E_iret rfl dX11_entry_60)
    · skip
      refine P_l (fun hJ _ _ q => E_iconst (v := (-1)) dX11_entry_41 (by decide) q) ?_
      exact P_ret (fun _ _ => E_iret rfl dX11_entry_42)

def f_X11_isReplayed (σ : rS) : Option (Int32 × rS) := oB (f_X11_holds σ 0) fun v1 σ2 => some ((1, σ2))
set_option maxRecDepth 20000 in
set_option maxHeartbeats 2000000 in
theorem ok_X11_isReplayed {σ : rS}   : rFn Sy yX11_isReplayed mX11_isReplayed 1 [.ref 67] σ 0 0 (fun v => .inl (some (.int v))) (f_X11_isReplayed σ) := by
  refine rF_of (ls := [some (.ref 67)]) yfX11_isReplayed rfl (Nat.le_of_ble_eq_true rfl) (fun o τ => ?_)
  unfold f_X11_isReplayed
  refine P_l (fun hJ _ _ q => E_aload_n dX11_isReplayed_0 rfl (E_iconst (v := 0) dX11_isReplayed_1 (by decide) q)) ?_
  refine P_call (t := fun v => some (.int v)) (st2 := fun v => .int v :: []) (kc2 := 0) (ks2 := 0) (fun hJ => (ok_X11_holds (σ := σ) (p1 := 0) )) (fun hJ _ _ _ _ v τ1 hM q => E_callV (as := [.int 0]) (b := 67) (st := []) hM (by decide) yfX11_holds mlX11_265 imX11_holds seX11_holds clX11 (kd67 hJ.1.1) rfl (Nat.le_of_ble_eq_true rfl) rfl dX11_isReplayed_2 q) (by decide) (by decide) (fun v1 σ2 => ?_)
  refine P_l (fun hJ _ _ q => E_pop dX11_isReplayed_5 rfl (E_iconst (v := 1) dX11_isReplayed_6 (by decide) q)) ?_
  exact P_ret (fun _ _ => E_zret01 rfl (by decide) dX11_isReplayed_7)

def f_X11_sum (σ : rS) (p1 : Int32) : Option (Int32 × rS) := oB (f_X11_holds σ ((if (v_X11_in σ p1 0 11) = 0 then 1 else 0 : Int32))) fun v1 σ2 => if v1 = 0 then (if p1 = 0 then (some ((rI σ2 67 24, σ2))) else (if p1 = 1 then ((f_X11_inPool σ2).bind fun v5 => some ((v5, σ2))) else (if p1 = 2 then ((f_X11_onTable σ2).bind fun v7 => some ((v7, σ2))) else (if p1 = 3 then ((f_X11_jokersLaid σ2).bind fun v9 => some ((v9, σ2))) else (if p1 = 4 then (some ((rI σ2 67 22, σ2))) else (if p1 = 5 then (some ((rI σ2 67 30, σ2))) else (if p1 = 6 then (some ((rI σ2 67 25, σ2))) else (if p1 = 7 then (some ((rI σ2 67 32, σ2))) else (if p1 = 8 then (some ((rI σ2 67 26, σ2))) else (if p1 = 9 then (some ((rI σ2 67 27, σ2))) else (if p1 = 10 then (some ((rI σ2 67 34, σ2))) else (some ((rI σ2 67 23, σ2)))))))))))))) else (some (((-1), σ2)))
set_option maxRecDepth 20000 in
set_option maxHeartbeats 2000000 in
theorem ok_X11_sum {σ : rS} {p1 : Int32}   : rFn Sy yX11_sum mX11_sum 1 [.ref 67, .int p1] σ 0 0 (fun v => .inl (some (.int v))) (f_X11_sum σ p1) := by
  refine rF_of (ls := [some (.ref 67), some (.int p1)]) yfX11_sum rfl (Nat.le_of_ble_eq_true rfl) (fun o τ => ?_)
  unfold f_X11_sum
  refine P_l (fun hJ _ _ q => E_aload_n dX11_sum_0 rfl (E_aload_n dX11_sum_1 rfl (E_iload_n dX11_sum_2 rfl (E_iconst (v := 0) dX11_sum_3 (by decide) (E_bipush (v := 11) dX11_sum_4 (by decide) (E_callV (as := [.int p1, .int 0, .int 11]) (b := 67) (st := [.ref 67]) (ok_X11_in (σ := σ) (p1 := p1) (p2 := 0) (p3 := 11) hJ ) (by decide) yfX11_in mlX11_182 imX11_in seX11_in clX11 (kd67 hJ.1.1) rfl (Nat.le_of_ble_eq_true rfl) rfl dX11_sum_6 q)))))) ?_
  refine P_l (pc2 := 17) (ls2 := [some (.ref 67), some (.int p1)]) (st2 := [.int ((if (v_X11_in σ p1 0 11) = 0 then 1 else 0 : Int32)), .ref 67]) (fun hJ _ _ hq => ?_) ?_
  · skip
    refine E_if_eq 16 dX11_sum_9 (by decide) (fun c_9_0 => ?_) (fun c_9_0 => ?_)
    · skip
      refine E_iconst (v := 1) dX11_sum_16 (by decide) ?_
      simp only [if_pos c_9_0] at hq
      exact hq
    · skip
      refine E_iconst (v := 0) dX11_sum_12 (by decide) ?_
      refine E_goto 17 dX11_sum_13 (by decide) ?_
      simp only [if_neg c_9_0] at hq
      exact hq
  · skip
    refine P_call (t := fun v => some (.int v)) (st2 := fun v => .int v :: []) (kc2 := 0) (ks2 := 0) (fun hJ => (ok_X11_holds (σ := σ) (p1 := (if (v_X11_in σ p1 0 11) = 0 then 1 else 0 : Int32)) )) (fun hJ _ _ _ _ v τ1 hM q => E_callV (as := [.int ((if (v_X11_in σ p1 0 11) = 0 then 1 else 0 : Int32))]) (b := 67) (st := []) hM (by decide) yfX11_holds mlX11_265 imX11_holds seX11_holds clX11 (kd67 hJ.1.1) rfl (Nat.le_of_ble_eq_true rfl) rfl dX11_sum_17 q) (by decide) (by decide) (fun v1 σ2 => ?_)
    refine P_if (fun hJ _ _ h1 h2 => E_if_eq 25 dX11_sum_20 (by decide) h1 h2) ?_ ?_
    · skip
      refine P_l (fun hJ _ _ q => E_iload_n dX11_sum_25 rfl q) ?_
      refine P_case (fun h3 => ?_) (fun h3 => ?_)
      · skip
        refine P_l (fun hJ _ _ q => E_tableIn (off := 58) 84 dX11_sum_26 (by rw [h3]; decide) (by rw [h3]; decide) (by rw [h3]; rfl) (by decide) q) ?_
        refine P_l (fun hJ _ _ q => E_aload_n dX11_sum_84 rfl (E_getI clX11 24 (by decide) flX11_75 (Or.inl rfl) dX11_sum_85 (kd67 hJ.1.1) q)) ?_
        exact P_ret (fun _ _ => E_iret rfl dX11_sum_88)
      · skip
        refine P_case (fun h4 => ?_) (fun h4 => ?_)
        · skip
          refine P_l (fun hJ _ _ q => E_tableIn (off := 63) 89 dX11_sum_26 (by rw [h4]; decide) (by rw [h4]; decide) (by rw [h4]; rfl) (by decide) q) ?_
          refine P_l (fun hJ _ _ q => E_aload_n dX11_sum_89 rfl q) ?_
          refine P_callr (t := fun v => some (.int v)) (st2 := fun v => .int v :: []) (fun hJ => (ok_X11_inPool (σ := σ2)  )) (fun hJ _ _ v hM q => E_callV (as := []) (b := 67) (st := []) hM (by decide) yfX11_inPool mlX11_312 imX11_inPool seX11_inPool clX11 (kd67 hJ.1.1) rfl (Nat.le_of_ble_eq_true rfl) rfl dX11_sum_90 q) (fun v5 => ?_)
          exact P_ret (fun _ _ => E_iret rfl dX11_sum_93)
        · skip
          refine P_case (fun h6 => ?_) (fun h6 => ?_)
          · skip
            refine P_l (fun hJ _ _ q => E_tableIn (off := 68) 94 dX11_sum_26 (by rw [h6]; decide) (by rw [h6]; decide) (by rw [h6]; rfl) (by decide) q) ?_
            refine P_l (fun hJ _ _ q => E_aload_n dX11_sum_94 rfl q) ?_
            refine P_callr (t := fun v => some (.int v)) (st2 := fun v => .int v :: []) (fun hJ => (ok_X11_onTable (σ := σ2)  )) (fun hJ _ _ v hM q => E_callV (as := []) (b := 67) (st := []) hM (by decide) yfX11_onTable mlX11_275 imX11_onTable seX11_onTable clX11 (kd67 hJ.1.1) rfl (Nat.le_of_ble_eq_true rfl) rfl dX11_sum_95 q) (fun v7 => ?_)
            exact P_ret (fun _ _ => E_iret rfl dX11_sum_98)
          · skip
            refine P_case (fun h8 => ?_) (fun h8 => ?_)
            · skip
              refine P_l (fun hJ _ _ q => E_tableIn (off := 73) 99 dX11_sum_26 (by rw [h8]; decide) (by rw [h8]; decide) (by rw [h8]; rfl) (by decide) q) ?_
              refine P_l (fun hJ _ _ q => E_aload_n dX11_sum_99 rfl q) ?_
              refine P_callr (t := fun v => some (.int v)) (st2 := fun v => .int v :: []) (fun hJ => (ok_X11_jokersLaid (σ := σ2)  )) (fun hJ _ _ v hM q => E_callV (as := []) (b := 67) (st := []) hM (by decide) yfX11_jokersLaid mlX11_344 imX11_jokersLaid seX11_jokersLaid clX11 (kd67 hJ.1.1) rfl (Nat.le_of_ble_eq_true rfl) rfl dX11_sum_100 q) (fun v9 => ?_)
              exact P_ret (fun _ _ => E_iret rfl dX11_sum_103)
            · skip
              refine P_case (fun h10 => ?_) (fun h10 => ?_)
              · skip
                refine P_l (fun hJ _ _ q => E_tableIn (off := 78) 104 dX11_sum_26 (by rw [h10]; decide) (by rw [h10]; decide) (by rw [h10]; rfl) (by decide) q) ?_
                refine P_l (fun hJ _ _ q => E_aload_n dX11_sum_104 rfl (E_getI clX11 22 (by decide) flX11_300 (Or.inl rfl) dX11_sum_105 (kd67 hJ.1.1) q)) ?_
                exact P_ret (fun _ _ => E_iret rfl dX11_sum_108)
              · skip
                refine P_case (fun h11 => ?_) (fun h11 => ?_)
                · skip
                  refine P_l (fun hJ _ _ q => E_tableIn (off := 83) 109 dX11_sum_26 (by rw [h11]; decide) (by rw [h11]; decide) (by rw [h11]; rfl) (by decide) q) ?_
                  refine P_l (fun hJ _ _ q => E_aload_n dX11_sum_109 rfl (E_getI clX11 30 (by decide) flX11_303 (Or.inl rfl) dX11_sum_110 (kd67 hJ.1.1) q)) ?_
                  exact P_ret (fun _ _ => E_iret rfl dX11_sum_113)
                · skip
                  refine P_case (fun h12 => ?_) (fun h12 => ?_)
                  · skip
                    refine P_l (fun hJ _ _ q => E_tableIn (off := 88) 114 dX11_sum_26 (by rw [h12]; decide) (by rw [h12]; decide) (by rw [h12]; rfl) (by decide) q) ?_
                    refine P_l (fun hJ _ _ q => E_aload_n dX11_sum_114 rfl (E_getI clX11 25 (by decide) flX11_322 (Or.inl rfl) dX11_sum_115 (kd67 hJ.1.1) q)) ?_
                    exact P_ret (fun _ _ => E_iret rfl dX11_sum_118)
                  · skip
                    refine P_case (fun h13 => ?_) (fun h13 => ?_)
                    · skip
                      refine P_l (fun hJ _ _ q => E_tableIn (off := 93) 119 dX11_sum_26 (by rw [h13]; decide) (by rw [h13]; decide) (by rw [h13]; rfl) (by decide) q) ?_
                      refine P_l (fun hJ _ _ q => E_aload_n dX11_sum_119 rfl (E_getI clX11 32 (by decide) flX11_306 (Or.inl rfl) dX11_sum_120 (kd67 hJ.1.1) q)) ?_
                      exact P_ret (fun _ _ => E_iret rfl dX11_sum_123)
                    · skip
                      refine P_case (fun h14 => ?_) (fun h14 => ?_)
                      · skip
                        refine P_l (fun hJ _ _ q => E_tableIn (off := 98) 124 dX11_sum_26 (by rw [h14]; decide) (by rw [h14]; decide) (by rw [h14]; rfl) (by decide) q) ?_
                        refine P_l (fun hJ _ _ q => E_aload_n dX11_sum_124 rfl (E_getI clX11 26 (by decide) flX11_362 (Or.inl rfl) dX11_sum_125 (kd67 hJ.1.1) q)) ?_
                        exact P_ret (fun _ _ => E_iret rfl dX11_sum_128)
                      · skip
                        refine P_case (fun h15 => ?_) (fun h15 => ?_)
                        · skip
                          refine P_l (fun hJ _ _ q => E_tableIn (off := 103) 129 dX11_sum_26 (by rw [h15]; decide) (by rw [h15]; decide) (by rw [h15]; rfl) (by decide) q) ?_
                          refine P_l (fun hJ _ _ q => E_aload_n dX11_sum_129 rfl (E_getI clX11 27 (by decide) flX11_78 (Or.inl rfl) dX11_sum_130 (kd67 hJ.1.1) q)) ?_
                          exact P_ret (fun _ _ => E_iret rfl dX11_sum_133)
                        · skip
                          refine P_case (fun h16 => ?_) (fun h16 => ?_)
                          · skip
                            refine P_l (fun hJ _ _ q => E_tableIn (off := 108) 134 dX11_sum_26 (by rw [h16]; decide) (by rw [h16]; decide) (by rw [h16]; rfl) (by decide) q) ?_
                            refine P_l (fun hJ _ _ q => E_aload_n dX11_sum_134 rfl (E_getI clX11 34 (by decide) flX11_387 (Or.inl rfl) dX11_sum_135 (kd67 hJ.1.1) q)) ?_
                            exact P_ret (fun _ _ => E_iret rfl dX11_sum_138)
                          · skip
                            refine P_l (fun hJ _ _ q => E_tableOut 139 dX11_sum_26 (by have e0 := sw_ne h3; have e1 := sw_ne h4; have e2 := sw_ne h6; have e3 := sw_ne h8; have e4 := sw_ne h10; have e5 := sw_ne h11; have e6 := sw_ne h12; have e7 := sw_ne h13; have e8 := sw_ne h14; have e9 := sw_ne h15; have e10 := sw_ne h16; simp only [sw_l0, sw_l1, sw_l2, sw_l3, sw_l4, sw_l5, sw_l6, sw_l7, sw_l8, sw_l9, sw_l10] at *; omega) (by decide) q) ?_
                            refine P_l (fun hJ _ _ q => E_aload_n dX11_sum_139 rfl (E_getI clX11 23 (by decide) flX11_318 (Or.inl rfl) dX11_sum_140 (kd67 hJ.1.1) q)) ?_
                            exact P_ret (fun _ _ => E_iret rfl dX11_sum_143)
    · skip
      refine P_l (fun hJ _ _ q => E_iconst (v := (-1)) dX11_sum_23 (by decide) q) ?_
      exact P_ret (fun _ _ => E_iret rfl dX11_sum_24)

