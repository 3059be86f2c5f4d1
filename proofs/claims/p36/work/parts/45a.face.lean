def b_X4_unpack_39 (p1 : Int64) (p2 : Int64) (s3 : Int32 × rS) (s4 : Int32 × rS) : Option (((Unit × rS) ⊕ (Int32 × rS)) ⊕ (Int32 × rS)) := if (v_X9_tilesOf s3.2 p1 p2 s3.1) ≤ s4.1 then (some (.inl (.inr ((s3.1 + 1, s4.2))))) else (oLet (rowI s4.2 66 (vSet (rI s4.2 66) 24 (rI s4.2 65 4) s3.1)) fun σ5 => oLet (wI σ5 65 4 ((rI σ5 65 4) + 1)) fun σ6 => oLet (wI σ6 65 5 ((rI σ6 65 5) + ((iRem s3.1 13) + 1))) fun σ7 => some (.inr ((s4.1 + 1, σ7))))
def b_X4_unpack_13 (p1 : Int64) (p2 : Int64) (s3 : Int32 × rS) : Option ((Unit × rS) ⊕ (Int32 × rS)) := if (if (rI s3.2 65 3) = 0 then true else (if 52 ≤ s3.1 then true else false)) = true then (some (.inl (((), s3.2)))) else (oLoop (b_X4_unpack_39 p1 p2 s3) oFuel ((0, s3.2)))
def f_X4_unpack (σ : rS) (p1 : Int64) (p2 : Int64) : Option (Unit × rS) := oLet (wI σ 65 4 0) fun σ1 => oLet (wI σ1 65 5 0) fun σ2 => oLoop (b_X4_unpack_13 p1 p2) oFuel ((0, σ2))
set_option maxRecDepth 20000 in
set_option maxHeartbeats 2000000 in
theorem ok_X4_unpack {σ : rS} {p1 : Int64} {p2 : Int64}   : rFn Sy yX4_unpack mX4_unpack 1 [.ref 65, .long p1, .long p2] σ 0 0 (fun _ => .inl none) (f_X4_unpack σ p1 p2) := by
  refine rF_of (ls := [some (.ref 65), some (.long p1), none, some (.long p2), none, none, none, none]) yfX4_unpack rfl (Nat.le_of_ble_eq_true rfl) (fun o τ => ?_)
  unfold f_X4_unpack
  refine P_l (fun hJ _ _ q => E_aload_n dX4_unpack_0 rfl (E_iconst (v := 0) dX4_unpack_1 (by decide) q)) ?_
  refine P_w (fun hJ _ _ q => E_putI clX4 4 (by decide) flX4_22 (Or.inl rfl) rfl dX4_unpack_2 (kd65 hJ.1.1) q) (fun hJ => Sy_wI hJ.1) rfl rfl rfl (fun σ1 hσ1 => ?_)
  refine P_l (fun hJ _ _ q => E_aload_n dX4_unpack_5 rfl (E_iconst (v := 0) dX4_unpack_6 (by decide) q)) ?_
  refine P_w (fun hJ _ _ q => E_putI clX4 5 (by decide) flX4_25 (Or.inl rfl) rfl dX4_unpack_7 (kd65 hJ.1.1) q) (fun hJ => Sy_wI hJ.1) rfl rfl rfl (fun σ2 hσ2 => ?_)
  refine P_l (fun hJ _ _ q => E_iconst (v := 0) dX4_unpack_10 (by decide) (E_istore (ls2 := [some (.ref 65), some (.long p1), none, some (.long p2), none, some (.int 0), none, none]) dX4_unpack_11 (by decide) rfl q)) ?_
  refine P_loop (fun s3 => [some (.ref 65), some (.long p1), none, some (.long p2), none, some (.int s3.1), none, none]) (fun s3 => s3.2) (fun s3 => ?_) _ ((0, σ2))
  unfold b_X4_unpack_13
  refine P_l (fun hJ _ _ q => E_aload_n dX4_unpack_13 rfl (E_getI clX4 3 (by decide) flX4_28 (Or.inr rfl) dX4_unpack_14 (kd65 hJ.1.1) q)) ?_
  refine P_if (c := (if (rI s3.2 65 3) = 0 then true else (if 52 ≤ s3.1 then true else false)) = true) (pc1 := 97) (ls1 := [some (.ref 65), some (.long p1), none, some (.long p2), none, some (.int s3.1), none, none]) (st1 := []) (pc2 := 27) (ls2 := [some (.ref 65), some (.long p1), none, some (.long p2), none, some (.int s3.1), none, none]) (st2 := []) (fun hJ _ _ hX hY => ?_) ?_ ?_
  · skip
    refine E_if_eq 97 dX4_unpack_17 (by decide) (fun c_17_0 => ?_) (fun c_17_0 => ?_)
    · skip
      exact hX (by simp only [if_pos c_17_0])
    · skip
      refine E_iload dX4_unpack_20 rfl ?_
      refine E_bipush (v := 52) dX4_unpack_22 (by decide) ?_
      refine E_icmp_ge 97 dX4_unpack_24 (by decide) (fun c_24_1 => ?_) (fun c_24_1 => ?_)
      · skip
        exact hX (by simp only [if_neg c_17_0, if_pos c_24_1])
      · skip
        exact hY (by simp only [if_neg c_17_0, if_neg c_24_1]; exact Bool.false_ne_true)
  · skip
    exact P_inl (P_ret (fun _ _ => E_vret rfl dX4_unpack_97))
  · skip
    refine P_l (fun hJ _ _ q => E_lload_n dX4_unpack_27 rfl (E_lload_n dX4_unpack_28 rfl (E_iload dX4_unpack_29 rfl (E_callSN (as := [.long p1, .long p2, .int s3.1]) (st := []) (ok_X9_tilesOf (σ := s3.2) (p1 := p1) (p2 := p2) (p3 := s3.1) hJ ) (by decide) yfX9_tilesOf mlX4_32 stX9_tilesOf rfl (Nat.le_of_ble_eq_true rfl) rfl dX4_unpack_31 (E_istore (ls2 := [some (.ref 65), some (.long p1), none, some (.long p2), none, some (.int s3.1), some (.int (v_X9_tilesOf s3.2 p1 p2 s3.1)), none]) dX4_unpack_34 (by decide) rfl (E_iconst (v := 0) dX4_unpack_36 (by decide) (E_istore (ls2 := [some (.ref 65), some (.long p1), none, some (.long p2), none, some (.int s3.1), some (.int (v_X9_tilesOf s3.2 p1 p2 s3.1)), some (.int 0)]) dX4_unpack_37 (by decide) rfl q))))))) ?_
    refine P_loop (fun s4 => [some (.ref 65), some (.long p1), none, some (.long p2), none, some (.int s3.1), some (.int (v_X9_tilesOf s3.2 p1 p2 s3.1)), some (.int s4.1)]) (fun s4 => s4.2) (fun s4 => ?_) _ ((0, s3.2))
    unfold b_X4_unpack_39
    refine P_l (fun hJ _ _ q => E_iload dX4_unpack_39 rfl (E_iload dX4_unpack_41 rfl q)) ?_
    refine P_if (fun hJ _ _ h1 h2 => E_icmp_ge 91 dX4_unpack_43 (by decide) h1 h2) ?_ ?_
    · skip
      refine P_l (fun hJ _ _ q => E_iinc (v := 1) (ls2 := [some (.ref 65), some (.long p1), none, some (.long p2), none, some (.int (s3.1 + 1)), some (.int (v_X9_tilesOf s3.2 p1 p2 s3.1)), some (.int s4.1)]) dX4_unpack_91 rfl (by decide) (by decide) rfl (E_goto 13 dX4_unpack_94 (by decide) q)) ?_
      refine P_less [some (.ref 65), some (.long p1), none, some (.long p2), none, some (.int (s3.1 + 1)), none, none] (And.intro rfl (And.intro rfl (And.intro rfl (And.intro rfl trivial)))) ?_
      exact P_inl (P_back ((s3.1 + 1, s4.2)))
    · skip
      refine P_l (fun hJ _ _ q => E_aload_n dX4_unpack_46 rfl (E_getR (b := 66) clX4 0 (by decide) flX4_9 (Or.inr ⟨_, rfl⟩) dX4_unpack_47 (kd65 hJ.1.1) (rf65_0 hJ.1.1) (by decide) (E_aload_n dX4_unpack_50 rfl (E_getI clX4 4 (by decide) flX4_22 (Or.inl rfl) dX4_unpack_51 (kd65 hJ.1.1) (E_iload dX4_unpack_54 rfl q))))) ?_
      refine P_w (fun hJ _ _ q => E_callSN (as := [.ref 66, .int (rI s4.2 65 4), .int s3.1]) (st := []) (ok_set (σ := s4.2) (a := 66) (i := rI s4.2 65 4) (x := s3.1) (f := rI s4.2 66) (kd66 hJ.1.1) (by decide) (by decide) rfl) (by decide) yfX10_set mlX4_38 stX10_set rfl (Nat.le_of_ble_eq_true rfl) rfl dX4_unpack_56 q) (fun hJ => Sy_rowI hJ.1) rfl rfl rfl (fun σ5 hσ5 => ?_)
      refine P_l (fun hJ _ _ q => E_aload_n dX4_unpack_59 rfl (E_dup dX4_unpack_60 rfl (E_getI clX4 4 (by decide) flX4_22 (Or.inl rfl) dX4_unpack_61 (kd65 hJ.1.1) (E_iconst (v := 1) dX4_unpack_64 (by decide) (E_iadd dX4_unpack_65 q))))) ?_
      refine P_w (fun hJ _ _ q => E_putI clX4 4 (by decide) flX4_22 (Or.inl rfl) rfl dX4_unpack_66 (kd65 hJ.1.1) q) (fun hJ => Sy_wI hJ.1) rfl rfl rfl (fun σ6 hσ6 => ?_)
      refine P_l (fun hJ _ _ q => E_aload_n dX4_unpack_69 rfl (E_dup dX4_unpack_70 rfl (E_getI clX4 5 (by decide) flX4_25 (Or.inl rfl) dX4_unpack_71 (kd65 hJ.1.1) (E_iload dX4_unpack_74 rfl (E_bipush (v := 13) dX4_unpack_76 (by decide) (E_irem dX4_unpack_78 (by decide) (E_iconst (v := 1) dX4_unpack_79 (by decide) (E_iadd dX4_unpack_80 (E_iadd dX4_unpack_81 q))))))))) ?_
      refine P_w (fun hJ _ _ q => E_putI clX4 5 (by decide) flX4_25 (Or.inl rfl) rfl dX4_unpack_82 (kd65 hJ.1.1) q) (fun hJ => Sy_wI hJ.1) rfl rfl rfl (fun σ7 hσ7 => ?_)
      refine P_l (fun hJ _ _ q => E_iinc (v := 1) (ls2 := [some (.ref 65), some (.long p1), none, some (.long p2), none, some (.int s3.1), some (.int (v_X9_tilesOf s3.2 p1 p2 s3.1)), some (.int (s4.1 + 1))]) dX4_unpack_85 rfl (by decide) (by decide) rfl (E_goto 39 dX4_unpack_88 (by decide) q)) ?_
      exact P_back ((s4.1 + 1, σ7))

def v_X4_kindAt (σ : rS) (p1 : Int32) : Int32 := if (rI σ 65 3) = 0 then ((-1)) else (if (rI σ 65 4) ≤ p1 then ((-1)) else (vAt (rI σ 66) 24 p1))
set_option maxRecDepth 20000 in
theorem ok_X4_kindAt {σ : rS} {p1 : Int32}  (hJ : J Sy σ)  : rMet yX4_kindAt mX4_kindAt 1 [.ref 65, .int p1] σ 0 0 (some (.int (v_X4_kindAt σ p1))) σ := by
  refine rMet_of (ls := [some (.ref 65), some (.int p1)]) yfX4_kindAt rfl (Nat.le_of_ble_eq_true rfl) ?_
  refine E_aload_n dX4_kindAt_0 rfl ?_
  refine E_getI clX4 3 (by decide) flX4_28 (Or.inr rfl) dX4_kindAt_1 (kd65 hJ.1.1) ?_
  refine E_if_eq 26 dX4_kindAt_4 (by decide) (fun c_4_0 => ?_) (fun c_4_0 => ?_)
  · skip
    refine E_iconst (v := (-1)) dX4_kindAt_26 (by decide) ?_
    exact E_iretE rfl dX4_kindAt_27 (by unfold v_X4_kindAt; simp only [if_pos c_4_0]) rfl
  · skip
    refine E_iload_n dX4_kindAt_7 rfl ?_
    refine E_aload_n dX4_kindAt_8 rfl ?_
    refine E_getI clX4 4 (by decide) flX4_22 (Or.inl rfl) dX4_kindAt_9 (kd65 hJ.1.1) ?_
    refine E_icmp_ge 26 dX4_kindAt_12 (by decide) (fun c_12_1 => ?_) (fun c_12_1 => ?_)
    · skip
      refine E_iconst (v := (-1)) dX4_kindAt_26 (by decide) ?_
      exact E_iretE rfl dX4_kindAt_27 (by unfold v_X4_kindAt; simp only [if_neg c_4_0, if_pos c_12_1]) rfl
    · skip
      refine E_aload_n dX4_kindAt_15 rfl ?_
      refine E_getR (b := 66) clX4 0 (by decide) flX4_9 (Or.inr ⟨_, rfl⟩) dX4_kindAt_16 (kd65 hJ.1.1) (rf65_0 hJ.1.1) (by decide) ?_
      refine E_iload_n dX4_kindAt_19 rfl ?_
      refine E_callSN (as := [.ref 66, .int p1]) (st := []) (ok_at (σ := σ) (a := 66) (i := p1) (f := rI σ 66) (kd66 hJ.1.1) (by decide) rfl) (by decide) yfX10_at mlX4_42 stX10_at rfl (Nat.le_of_ble_eq_true rfl) rfl dX4_kindAt_20 ?_
      refine E_goto 27 dX4_kindAt_23 (by decide) ?_
      exact E_iretE rfl dX4_kindAt_27 (by unfold v_X4_kindAt; simp only [if_neg c_4_0, if_neg c_12_1]) rfl

def f_X10_rules (σ : rS) (p1 : Int32) (p2 : Int32) (p3 : Int32) (p4 : Int32) (p5 : Int32) : Option ((Int32 ⊕ String) × rS) := oLet ((if (vIn p1 5 13) = 0 then 0 else (if (vIn p2 3 4) = 0 then 0 else (if (vIn p3 0 3) = 0 then 0 else (if (vIn p4 0 99) = 0 then 0 else (if (vIn p5 1 9) = 0 then 0 else 1)))) : Int32) : Int32) fun x1 => if x1 = 0 then (some ((.inr "java/lang/IllegalArgumentException", σ))) else (if (v_X10_isOn σ) = 0 then (oLet (wI σ 4 0 p1) fun σ2 => oLet (wI σ2 4 1 p2) fun σ3 => oLet (wI σ3 4 2 p3) fun σ4 => oLet (wI σ4 4 3 p4) fun σ5 => oLet (wI σ5 4 4 p5) fun σ6 => oB (f_X1_clear σ6 5) fun _ σ8 => oB (f_X2_clear σ8) fun _ σ10 => some ((.inl (v_X5_pieces σ10), σ10))) else (some ((.inr "java/lang/IllegalStateException", σ))))
set_option maxRecDepth 20000 in
set_option maxHeartbeats 2000000 in
theorem ok_X10_rules {σ : rS} {p1 : Int32} {p2 : Int32} {p3 : Int32} {p4 : Int32} {p5 : Int32}   : rFn Sy yX10_rules mX10_rules 6 [.ref 3, .int p1, .int p2, .int p3, .int p4, .int p5] σ 1 6 (tX (fun v => .inl (some (.int v)))) (f_X10_rules σ p1 p2 p3 p4 p5) := by
  refine rF_of (ls := [some (.ref 3), some (.int p1), some (.int p2), some (.int p3), some (.int p4), some (.int p5), none]) yfX10_rules rfl (Nat.le_of_ble_eq_true rfl) (fun o τ => ?_)
  unfold f_X10_rules
  refine P_l (fun hJ _ _ q => E_iload_n dX10_rules_0 rfl (E_iconst (v := 5) dX10_rules_1 (by decide) (E_bipush (v := 13) dX10_rules_2 (by decide) (E_callS (as := [.int p1, .int 5, .int 13]) (st := []) (ok_within (σ := σ) (v := p1) (a := 5) (b := 13)) (by decide) yfX10_within mlX10_74 stX10_within rfl (Nat.le_of_ble_eq_true rfl) rfl dX10_rules_4 q)))) ?_
  refine P_l (pc2 := 55) (ls2 := [some (.ref 3), some (.int p1), some (.int p2), some (.int p3), some (.int p4), some (.int p5), none]) (st2 := [.int ((if (vIn p1 5 13) = 0 then 0 else (if (vIn p2 3 4) = 0 then 0 else (if (vIn p3 0 3) = 0 then 0 else (if (vIn p4 0 99) = 0 then 0 else (if (vIn p5 1 9) = 0 then 0 else 1)))) : Int32))]) (fun hJ _ _ hq => ?_) ?_
  · skip
    refine E_if_eq 54 dX10_rules_7 (by decide) (fun c_7_0 => ?_) (fun c_7_0 => ?_)
    · skip
      refine E_iconst (v := 0) dX10_rules_54 (by decide) ?_
      simp only [if_pos c_7_0] at hq
      exact hq
    · skip
      refine E_iload_n dX10_rules_10 rfl ?_
      refine E_iconst (v := 3) dX10_rules_11 (by decide) ?_
      refine E_iconst (v := 4) dX10_rules_12 (by decide) ?_
      refine E_callS (as := [.int p2, .int 3, .int 4]) (st := []) (ok_within (σ := σ) (v := p2) (a := 3) (b := 4)) (by decide) yfX10_within mlX10_74 stX10_within rfl (Nat.le_of_ble_eq_true rfl) rfl dX10_rules_13 ?_
      refine E_if_eq 54 dX10_rules_16 (by decide) (fun c_16_1 => ?_) (fun c_16_1 => ?_)
      · skip
        refine E_iconst (v := 0) dX10_rules_54 (by decide) ?_
        simp only [if_neg c_7_0, if_pos c_16_1] at hq
        exact hq
      · skip
        refine E_iload_n dX10_rules_19 rfl ?_
        refine E_iconst (v := 0) dX10_rules_20 (by decide) ?_
        refine E_iconst (v := 3) dX10_rules_21 (by decide) ?_
        refine E_callS (as := [.int p3, .int 0, .int 3]) (st := []) (ok_within (σ := σ) (v := p3) (a := 0) (b := 3)) (by decide) yfX10_within mlX10_74 stX10_within rfl (Nat.le_of_ble_eq_true rfl) rfl dX10_rules_22 ?_
        refine E_if_eq 54 dX10_rules_25 (by decide) (fun c_25_2 => ?_) (fun c_25_2 => ?_)
        · skip
          refine E_iconst (v := 0) dX10_rules_54 (by decide) ?_
          simp only [if_neg c_7_0, if_neg c_16_1, if_pos c_25_2] at hq
          exact hq
        · skip
          refine E_iload dX10_rules_28 rfl ?_
          refine E_iconst (v := 0) dX10_rules_30 (by decide) ?_
          refine E_bipush (v := 99) dX10_rules_31 (by decide) ?_
          refine E_callS (as := [.int p4, .int 0, .int 99]) (st := []) (ok_within (σ := σ) (v := p4) (a := 0) (b := 99)) (by decide) yfX10_within mlX10_74 stX10_within rfl (Nat.le_of_ble_eq_true rfl) rfl dX10_rules_33 ?_
          refine E_if_eq 54 dX10_rules_36 (by decide) (fun c_36_3 => ?_) (fun c_36_3 => ?_)
          · skip
            refine E_iconst (v := 0) dX10_rules_54 (by decide) ?_
            simp only [if_neg c_7_0, if_neg c_16_1, if_neg c_25_2, if_pos c_36_3] at hq
            exact hq
          · skip
            refine E_iload dX10_rules_39 rfl ?_
            refine E_iconst (v := 1) dX10_rules_41 (by decide) ?_
            refine E_bipush (v := 9) dX10_rules_42 (by decide) ?_
            refine E_callS (as := [.int p5, .int 1, .int 9]) (st := []) (ok_within (σ := σ) (v := p5) (a := 1) (b := 9)) (by decide) yfX10_within mlX10_74 stX10_within rfl (Nat.le_of_ble_eq_true rfl) rfl dX10_rules_44 ?_
            refine E_if_eq 54 dX10_rules_47 (by decide) (fun c_47_4 => ?_) (fun c_47_4 => ?_)
            · skip
              refine E_iconst (v := 0) dX10_rules_54 (by decide) ?_
              simp only [if_neg c_7_0, if_neg c_16_1, if_neg c_25_2, if_neg c_36_3, if_pos c_47_4] at hq
              exact hq
            · skip
              refine E_iconst (v := 1) dX10_rules_50 (by decide) ?_
              refine E_goto 55 dX10_rules_51 (by decide) ?_
              simp only [if_neg c_7_0, if_neg c_16_1, if_neg c_25_2, if_neg c_36_3, if_neg c_47_4] at hq
              exact hq
  · skip
    refine P_l (fun hJ _ _ q => E_istore (ls2 := [some (.ref 3), some (.int p1), some (.int p2), some (.int p3), some (.int p4), some (.int p5), some (.int ((if (vIn p1 5 13) = 0 then 0 else (if (vIn p2 3 4) = 0 then 0 else (if (vIn p3 0 3) = 0 then 0 else (if (vIn p4 0 99) = 0 then 0 else (if (vIn p5 1 9) = 0 then 0 else 1)))) : Int32)))]) dX10_rules_55 (by decide) rfl q) ?_
    refine P_v ((if (vIn p1 5 13) = 0 then 0 else (if (vIn p2 3 4) = 0 then 0 else (if (vIn p3 0 3) = 0 then 0 else (if (vIn p4 0 99) = 0 then 0 else (if (vIn p5 1 9) = 0 then 0 else 1)))) : Int32)) (fun x => [some (.ref 3), some (.int p1), some (.int p2), some (.int p3), some (.int p4), some (.int p5), some (.int x)]) (fun x1 => ?_)
    refine P_l (fun hJ _ _ q => E_iload dX10_rules_57 rfl q) ?_
    refine P_if (fun hJ _ _ h1 h2 => E_if_ne 70 dX10_rules_59 (by decide) h2 h1) ?_ ?_
    · skip
      exact P_thr (fun kc ks => xt_IllegalArgumentException (M := mX10_rules) (pc := 62) rfl rfl (by decide) (Nat.le_of_ble_eq_true rfl) dX10_rules_62 dX10_rules_65 dX10_rules_66 dX10_rules_69 kc ks) (by decide) (by decide)
    · skip
      refine P_l (fun hJ _ _ q => E_aload_n dX10_rules_70 rfl (E_callV (as := []) (b := 3) (st := []) (ok_X10_isOn (σ := σ)  hJ ) (by decide) yfX10_isOn mlX10_81 imX10_isOn seX10_isOn clX10 (kd3 hJ.1.1) rfl (Nat.le_of_ble_eq_true rfl) rfl dX10_rules_71 q)) ?_
      refine P_if (fun hJ _ _ h1 h2 => E_if_eq 85 dX10_rules_74 (by decide) h1 h2) ?_ ?_
      · skip
        refine P_l (fun hJ _ _ q => E_aload_n dX10_rules_85 rfl (E_getR (b := 4) clX10 0 (by decide) flX10_12 (Or.inl ⟨_, rfl⟩) dX10_rules_86 (kd3 hJ.1.1) (rf3_0 hJ.1.1) (by decide) (E_iload_n dX10_rules_89 rfl q))) ?_
        refine P_w (fun hJ _ _ q => E_putIN clX5 0 (by decide) flX10_88 (Or.inl rfl) rfl dX10_rules_90 (kd4 hJ.1.1) q) (fun hJ => Sy_wI hJ.1) rfl rfl rfl (fun σ2 hσ2 => ?_)
        refine P_l (fun hJ _ _ q => E_aload_n dX10_rules_93 rfl (E_getR (b := 4) clX10 0 (by decide) flX10_12 (Or.inl ⟨_, rfl⟩) dX10_rules_94 (kd3 hJ.1.1) (rf3_0 hJ.1.1) (by decide) (E_iload_n dX10_rules_97 rfl q))) ?_
        refine P_w (fun hJ _ _ q => E_putIN clX5 1 (by decide) flX10_91 (Or.inl rfl) rfl dX10_rules_98 (kd4 hJ.1.1) q) (fun hJ => Sy_wI hJ.1) rfl rfl rfl (fun σ3 hσ3 => ?_)
        refine P_l (fun hJ _ _ q => E_aload_n dX10_rules_101 rfl (E_getR (b := 4) clX10 0 (by decide) flX10_12 (Or.inl ⟨_, rfl⟩) dX10_rules_102 (kd3 hJ.1.1) (rf3_0 hJ.1.1) (by decide) (E_iload_n dX10_rules_105 rfl q))) ?_
        refine P_w (fun hJ _ _ q => E_putIN clX5 2 (by decide) flX10_94 (Or.inl rfl) rfl dX10_rules_106 (kd4 hJ.1.1) q) (fun hJ => Sy_wI hJ.1) rfl rfl rfl (fun σ4 hσ4 => ?_)
        refine P_l (fun hJ _ _ q => E_aload_n dX10_rules_109 rfl (E_getR (b := 4) clX10 0 (by decide) flX10_12 (Or.inl ⟨_, rfl⟩) dX10_rules_110 (kd3 hJ.1.1) (rf3_0 hJ.1.1) (by decide) (E_iload dX10_rules_113 rfl q))) ?_
        refine P_w (fun hJ _ _ q => E_putIN clX5 3 (by decide) flX10_97 (Or.inl rfl) rfl dX10_rules_115 (kd4 hJ.1.1) q) (fun hJ => Sy_wI hJ.1) rfl rfl rfl (fun σ5 hσ5 => ?_)
        refine P_l (fun hJ _ _ q => E_aload_n dX10_rules_118 rfl (E_getR (b := 4) clX10 0 (by decide) flX10_12 (Or.inl ⟨_, rfl⟩) dX10_rules_119 (kd3 hJ.1.1) (rf3_0 hJ.1.1) (by decide) (E_iload dX10_rules_122 rfl q))) ?_
        refine P_w (fun hJ _ _ q => E_putIN clX5 4 (by decide) flX10_100 (Or.inl rfl) rfl dX10_rules_124 (kd4 hJ.1.1) q) (fun hJ => Sy_wI hJ.1) rfl rfl rfl (fun σ6 hσ6 => ?_)
        refine P_l (fun hJ _ _ q => E_aload_n dX10_rules_127 rfl (E_getR (b := 5) clX10 1 (by decide) flX10_19 (Or.inl ⟨_, rfl⟩) dX10_rules_128 (kd3 hJ.1.1) (rf3_1 hJ.1.1) (by decide) q)) ?_
        refine P_call (t := fun _ => none) (st2 := fun _ => []) (kc2 := 1) (ks2 := 6) (fun hJ => (ok_X1_clear (σ := σ6) (b := 5) (Or.inl rfl))) (fun hJ _ _ _ _ v τ1 hM q => E_callVN (as := []) (b := 5) (st := []) hM (by decide) yfX1_clear mlX10_103 imX1_clear seX1_clear clX1 (kd5 hJ.1.1) rfl (Nat.le_of_ble_eq_true rfl) rfl dX10_rules_131 q) (by decide) (by decide) (fun v7 σ8 => ?_)
        refine P_l (fun hJ _ _ q => E_aload_n dX10_rules_134 rfl (E_getR (b := 35) clX10 5 (by decide) flX10_43 (Or.inl ⟨_, rfl⟩) dX10_rules_135 (kd3 hJ.1.1) (rf3_5 hJ.1.1) (by decide) q)) ?_
        refine P_call (t := fun _ => none) (st2 := fun _ => []) (kc2 := 1) (ks2 := 6) (fun hJ => (ok_X2_clear (σ := σ8)  )) (fun hJ _ _ _ _ v τ1 hM q => E_callVN (as := []) (b := 35) (st := []) hM (by decide) yfX2_clear mlX10_106 imX2_clear seX2_clear clX2 (kd35 hJ.1.1) rfl (Nat.le_of_ble_eq_true rfl) rfl dX10_rules_138 q) (by decide) (by decide) (fun v9 σ10 => ?_)
        refine P_l (fun hJ _ _ q => E_aload_n dX10_rules_141 rfl (E_getR (b := 4) clX10 0 (by decide) flX10_12 (Or.inl ⟨_, rfl⟩) dX10_rules_142 (kd3 hJ.1.1) (rf3_0 hJ.1.1) (by decide) (E_callVN (as := []) (b := 4) (st := []) (ok_X5_pieces (σ := σ10)  hJ ) (by decide) yfX5_pieces mlX10_107 imX5_pieces seX5_pieces clX5 (kd4 hJ.1.1) rfl (Nat.le_of_ble_eq_true rfl) rfl dX10_rules_145 q))) ?_
        exact P_ret (fun _ _ => E_iret rfl dX10_rules_148)
      · skip
        exact P_thr (fun kc ks => xt_IllegalStateException (M := mX10_rules) (pc := 77) rfl rfl (by decide) (Nat.le_of_ble_eq_true rfl) dX10_rules_77 dX10_rules_80 dX10_rules_81 dX10_rules_84 kc ks) (by decide) (by decide)

def f_X10_player (σ : rS) (p1 : Int32) (p2 : Int32) : Option ((Int32 ⊕ String) × rS) := if (if (vIn p1 0 1) = 0 then true else (if (vIn p2 0 3) = 0 then true else false)) = true then (some ((.inr "java/lang/IllegalArgumentException", σ))) else (if (if (v_X10_isOn σ) = 0 then (if (rI σ 19 0) < 4 then false else true) else true) = true then (some ((.inr "java/lang/IllegalStateException", σ))) else (oB (f_X6_add σ p1 p2) fun v1 σ2 => some ((.inl v1, σ2))))
set_option maxRecDepth 20000 in
set_option maxHeartbeats 2000000 in
theorem ok_X10_player {σ : rS} {p1 : Int32} {p2 : Int32}   : rFn Sy yX10_player mX10_player 6 [.ref 3, .int p1, .int p2] σ 1 6 (tX (fun v => .inl (some (.int v)))) (f_X10_player σ p1 p2) := by
  refine rF_of (ls := [some (.ref 3), some (.int p1), some (.int p2)]) yfX10_player rfl (Nat.le_of_ble_eq_true rfl) (fun o τ => ?_)
  unfold f_X10_player
  refine P_l (fun hJ _ _ q => E_iload_n dX10_player_0 rfl (E_iconst (v := 0) dX10_player_1 (by decide) (E_iconst (v := 1) dX10_player_2 (by decide) (E_callS (as := [.int p1, .int 0, .int 1]) (st := []) (ok_within (σ := σ) (v := p1) (a := 0) (b := 1)) (by decide) yfX10_within mlX10_74 stX10_within rfl (Nat.le_of_ble_eq_true rfl) rfl dX10_player_3 q)))) ?_
  refine P_if (c := (if (vIn p1 0 1) = 0 then true else (if (vIn p2 0 3) = 0 then true else false)) = true) (pc1 := 18) (ls1 := [some (.ref 3), some (.int p1), some (.int p2)]) (st1 := []) (pc2 := 26) (ls2 := [some (.ref 3), some (.int p1), some (.int p2)]) (st2 := []) (fun hJ _ _ hX hY => ?_) ?_ ?_
  · skip
    refine E_if_eq 18 dX10_player_6 (by decide) (fun c_6_0 => ?_) (fun c_6_0 => ?_)
    · skip
      exact hX (by simp only [if_pos c_6_0])
    · skip
      refine E_iload_n dX10_player_9 rfl ?_
      refine E_iconst (v := 0) dX10_player_10 (by decide) ?_
      refine E_iconst (v := 3) dX10_player_11 (by decide) ?_
      refine E_callS (as := [.int p2, .int 0, .int 3]) (st := []) (ok_within (σ := σ) (v := p2) (a := 0) (b := 3)) (by decide) yfX10_within mlX10_74 stX10_within rfl (Nat.le_of_ble_eq_true rfl) rfl dX10_player_12 ?_
      refine E_if_ne 26 dX10_player_15 (by decide) (fun c_15_1 => ?_) (fun c_15_1 => ?_)
      · skip
        exact hY (by simp only [if_neg c_6_0, if_neg c_15_1]; exact Bool.false_ne_true)
      · skip
        exact hX (by simp only [if_neg c_6_0, if_pos c_15_1])
  · skip
    exact P_thr (fun kc ks => xt_IllegalArgumentException (M := mX10_player) (pc := 18) rfl rfl (by decide) (Nat.le_of_ble_eq_true rfl) dX10_player_18 dX10_player_21 dX10_player_22 dX10_player_25 kc ks) (by decide) (by decide)
  · skip
    refine P_l (fun hJ _ _ q => E_aload_n dX10_player_26 rfl (E_callV (as := []) (b := 3) (st := []) (ok_X10_isOn (σ := σ)  hJ ) (by decide) yfX10_isOn mlX10_81 imX10_isOn seX10_isOn clX10 (kd3 hJ.1.1) rfl (Nat.le_of_ble_eq_true rfl) rfl dX10_player_27 q)) ?_
    refine P_if (c := (if (v_X10_isOn σ) = 0 then (if (rI σ 19 0) < 4 then false else true) else true) = true) (pc1 := 44) (ls1 := [some (.ref 3), some (.int p1), some (.int p2)]) (st1 := []) (pc2 := 52) (ls2 := [some (.ref 3), some (.int p1), some (.int p2)]) (st2 := []) (fun hJ _ _ hX hY => ?_) ?_ ?_
    · skip
      refine E_if_ne 44 dX10_player_30 (by decide) (fun c_30_0 => ?_) (fun c_30_0 => ?_)
      · skip
        exact hX (by simp only [if_neg c_30_0])
      · skip
        refine E_aload_n dX10_player_33 rfl ?_
        refine E_getR (b := 19) clX10 3 (by decide) flX10_29 (Or.inl ⟨_, rfl⟩) dX10_player_34 (kd3 hJ.1.1) (rf3_3 hJ.1.1) (by decide) ?_
        refine E_getIN clX6 0 (by decide) flX10_111 (Or.inl rfl) dX10_player_37 (kd19 hJ.1.1) ?_
        refine E_iconst (v := 4) dX10_player_40 (by decide) ?_
        refine E_icmp_lt 52 dX10_player_41 (by decide) (fun c_41_1 => ?_) (fun c_41_1 => ?_)
        · skip
          exact hY (by simp only [if_pos c_30_0, if_pos c_41_1]; exact Bool.false_ne_true)
        · skip
          exact hX (by simp only [if_pos c_30_0, if_neg c_41_1])
    · skip
      exact P_thr (fun kc ks => xt_IllegalStateException (M := mX10_player) (pc := 44) rfl rfl (by decide) (Nat.le_of_ble_eq_true rfl) dX10_player_44 dX10_player_47 dX10_player_48 dX10_player_51 kc ks) (by decide) (by decide)
    · skip
      refine P_l (fun hJ _ _ q => E_aload_n dX10_player_52 rfl (E_getR (b := 19) clX10 3 (by decide) flX10_29 (Or.inl ⟨_, rfl⟩) dX10_player_53 (kd3 hJ.1.1) (rf3_3 hJ.1.1) (by decide) (E_iload_n dX10_player_56 rfl (E_iload_n dX10_player_57 rfl q)))) ?_
      refine P_call (t := fun v => some (.int v)) (st2 := fun v => .int v :: []) (kc2 := 1) (ks2 := 6) (fun hJ => (ok_X6_add (σ := σ) (p1 := p1) (p2 := p2) )) (fun hJ _ _ _ _ v τ1 hM q => E_callVN (as := [.int p1, .int p2]) (b := 19) (st := []) hM (by decide) yfX6_add mlX10_114 imX6_add seX6_add clX6 (kd19 hJ.1.1) rfl (Nat.le_of_ble_eq_true rfl) rfl dX10_player_58 q) (by decide) (by decide) (fun v1 σ2 => ?_)
      exact P_ret (fun _ _ => E_iret rfl dX10_player_61)

def f_X10_deal (σ : rS) (p1 : Int32) (p2 : Int32) (p3 : Int32) : Option ((Int32 ⊕ String) × rS) := if (if (vIn p1 0 65535) = 0 then true else (if (vIn p2 1 14) = 0 then true else (if (vIn p3 1 9999) = 0 then true else false))) = true then (some ((.inr "java/lang/IllegalArgumentException", σ))) else (if (if (v_X10_isOn σ) = 0 then (if (rI σ 19 0) < 2 then true else (if ((rI σ 19 0) * p2) ≤ (v_X5_pieces σ) then false else true)) else true) = true then (some ((.inr "java/lang/IllegalStateException", σ))) else (oB (f_X6_startRound σ p3) fun _ σ2 => oB (f_X2_startRound σ2 p1 p2 (rI σ2 19 0)) fun _ σ4 => oB (f_X1_dealOut σ4 5 p1 p2 (rI σ4 19 0)) fun _ σ6 => oLet (wI σ6 3 9 0) fun σ7 => oLet (wI σ7 3 8 0) fun σ8 => some ((.inl (rI σ8 5 7), σ8))))
set_option maxRecDepth 20000 in
set_option maxHeartbeats 2000000 in
theorem ok_X10_deal {σ : rS} {p1 : Int32} {p2 : Int32} {p3 : Int32}   : rFn Sy yX10_deal mX10_deal 6 [.ref 3, .int p1, .int p2, .int p3] σ 1 6 (tX (fun v => .inl (some (.int v)))) (f_X10_deal σ p1 p2 p3) := by
  refine rF_of (ls := [some (.ref 3), some (.int p1), some (.int p2), some (.int p3)]) yfX10_deal rfl (Nat.le_of_ble_eq_true rfl) (fun o τ => ?_)
  unfold f_X10_deal
  refine P_l (fun hJ _ _ q => E_iload_n dX10_deal_0 rfl (E_iconst (v := 0) dX10_deal_1 (by decide) (E_ldc dX10_deal_2 kcX10_118 (E_callS (as := [.int p1, .int 0, .int 65535]) (st := []) (ok_within (σ := σ) (v := p1) (a := 0) (b := 65535)) (by decide) yfX10_within mlX10_74 stX10_within rfl (Nat.le_of_ble_eq_true rfl) rfl dX10_deal_4 q)))) ?_
  refine P_if (c := (if (vIn p1 0 65535) = 0 then true else (if (vIn p2 1 14) = 0 then true else (if (vIn p3 1 9999) = 0 then true else false))) = true) (pc1 := 31) (ls1 := [some (.ref 3), some (.int p1), some (.int p2), some (.int p3)]) (st1 := []) (pc2 := 39) (ls2 := [some (.ref 3), some (.int p1), some (.int p2), some (.int p3)]) (st2 := []) (fun hJ _ _ hX hY => ?_) ?_ ?_
  · skip
    refine E_if_eq 31 dX10_deal_7 (by decide) (fun c_7_0 => ?_) (fun c_7_0 => ?_)
    · skip
      exact hX (by simp only [if_pos c_7_0])
    · skip
      refine E_iload_n dX10_deal_10 rfl ?_
      refine E_iconst (v := 1) dX10_deal_11 (by decide) ?_
      refine E_bipush (v := 14) dX10_deal_12 (by decide) ?_
      refine E_callS (as := [.int p2, .int 1, .int 14]) (st := []) (ok_within (σ := σ) (v := p2) (a := 1) (b := 14)) (by decide) yfX10_within mlX10_74 stX10_within rfl (Nat.le_of_ble_eq_true rfl) rfl dX10_deal_14 ?_
      refine E_if_eq 31 dX10_deal_17 (by decide) (fun c_17_1 => ?_) (fun c_17_1 => ?_)
      · skip
        exact hX (by simp only [if_neg c_7_0, if_pos c_17_1])
      · skip
        refine E_iload_n dX10_deal_20 rfl ?_
        refine E_iconst (v := 1) dX10_deal_21 (by decide) ?_
        refine E_sipush (v := 9999) dX10_deal_22 (by decide) ?_
        refine E_callS (as := [.int p3, .int 1, .int 9999]) (st := []) (ok_within (σ := σ) (v := p3) (a := 1) (b := 9999)) (by decide) yfX10_within mlX10_74 stX10_within rfl (Nat.le_of_ble_eq_true rfl) rfl dX10_deal_25 ?_
        refine E_if_ne 39 dX10_deal_28 (by decide) (fun c_28_2 => ?_) (fun c_28_2 => ?_)
        · skip
          exact hY (by simp only [if_neg c_7_0, if_neg c_17_1, if_neg c_28_2]; exact Bool.false_ne_true)
        · skip
          exact hX (by simp only [if_neg c_7_0, if_neg c_17_1, if_pos c_28_2])
  · skip
    exact P_thr (fun kc ks => xt_IllegalArgumentException (M := mX10_deal) (pc := 31) rfl rfl (by decide) (Nat.le_of_ble_eq_true rfl) dX10_deal_31 dX10_deal_34 dX10_deal_35 dX10_deal_38 kc ks) (by decide) (by decide)
  · skip
    refine P_l (fun hJ _ _ q => E_aload_n dX10_deal_39 rfl (E_callV (as := []) (b := 3) (st := []) (ok_X10_isOn (σ := σ)  hJ ) (by decide) yfX10_isOn mlX10_81 imX10_isOn seX10_isOn clX10 (kd3 hJ.1.1) rfl (Nat.le_of_ble_eq_true rfl) rfl dX10_deal_40 q)) ?_
    refine P_if (c := (if (v_X10_isOn σ) = 0 then (if (rI σ 19 0) < 2 then true else (if ((rI σ 19 0) * p2) ≤ (v_X5_pieces σ) then false else true)) else true) = true) (pc1 := 76) (ls1 := [some (.ref 3), some (.int p1), some (.int p2), some (.int p3)]) (st1 := []) (pc2 := 84) (ls2 := [some (.ref 3), some (.int p1), some (.int p2), some (.int p3)]) (st2 := []) (fun hJ _ _ hX hY => ?_) ?_ ?_
    · skip
      refine E_if_ne 76 dX10_deal_43 (by decide) (fun c_43_0 => ?_) (fun c_43_0 => ?_)
      · skip
        exact hX (by simp only [if_neg c_43_0])
      · skip
        refine E_aload_n dX10_deal_46 rfl ?_
        refine E_getR (b := 19) clX10 3 (by decide) flX10_29 (Or.inl ⟨_, rfl⟩) dX10_deal_47 (kd3 hJ.1.1) (rf3_3 hJ.1.1) (by decide) ?_
        refine E_getIN clX6 0 (by decide) flX10_111 (Or.inl rfl) dX10_deal_50 (kd19 hJ.1.1) ?_
        refine E_iconst (v := 2) dX10_deal_53 (by decide) ?_
        refine E_icmp_lt 76 dX10_deal_54 (by decide) (fun c_54_1 => ?_) (fun c_54_1 => ?_)
        · skip
          exact hX (by simp only [if_pos c_43_0, if_pos c_54_1])
        · skip
          refine E_aload_n dX10_deal_57 rfl ?_
          refine E_getR (b := 4) clX10 0 (by decide) flX10_12 (Or.inl ⟨_, rfl⟩) dX10_deal_58 (kd3 hJ.1.1) (rf3_0 hJ.1.1) (by decide) ?_
          refine E_callVN (as := []) (b := 4) (st := []) (ok_X5_pieces (σ := σ)  hJ ) (by decide) yfX5_pieces mlX10_107 imX5_pieces seX5_pieces clX5 (kd4 hJ.1.1) rfl (Nat.le_of_ble_eq_true rfl) rfl dX10_deal_61 ?_
          refine E_aload_n dX10_deal_64 rfl ?_
          refine E_getR (b := 19) clX10 3 (by decide) flX10_29 (Or.inl ⟨_, rfl⟩) dX10_deal_65 (kd3 hJ.1.1) (rf3_3 hJ.1.1) (by decide) ?_
          refine E_getIN clX6 0 (by decide) flX10_111 (Or.inl rfl) dX10_deal_68 (kd19 hJ.1.1) ?_
          refine E_iload_n dX10_deal_71 rfl ?_
          refine E_imul dX10_deal_72 ?_
          refine E_icmp_ge 84 dX10_deal_73 (by decide) (fun c_73_2 => ?_) (fun c_73_2 => ?_)
          · skip
            exact hY (by simp only [if_pos c_43_0, if_neg c_54_1, if_pos c_73_2]; exact Bool.false_ne_true)
          · skip
            exact hX (by simp only [if_pos c_43_0, if_neg c_54_1, if_neg c_73_2])
    · skip
      exact P_thr (fun kc ks => xt_IllegalStateException (M := mX10_deal) (pc := 76) rfl rfl (by decide) (Nat.le_of_ble_eq_true rfl) dX10_deal_76 dX10_deal_79 dX10_deal_80 dX10_deal_83 kc ks) (by decide) (by decide)
    · skip
      refine P_l (fun hJ _ _ q => E_aload_n dX10_deal_84 rfl (E_getR (b := 19) clX10 3 (by decide) flX10_29 (Or.inl ⟨_, rfl⟩) dX10_deal_85 (kd3 hJ.1.1) (rf3_3 hJ.1.1) (by decide) (E_iload_n dX10_deal_88 rfl q))) ?_
      refine P_call (t := fun _ => none) (st2 := fun _ => []) (kc2 := 1) (ks2 := 6) (fun hJ => (ok_X6_startRound (σ := σ) (p1 := p3) )) (fun hJ _ _ _ _ v τ1 hM q => E_callVN (as := [.int p3]) (b := 19) (st := []) hM (by decide) yfX6_startRound mlX10_119 imX6_startRound seX6_startRound clX6 (kd19 hJ.1.1) rfl (Nat.le_of_ble_eq_true rfl) rfl dX10_deal_89 q) (by decide) (by decide) (fun v1 σ2 => ?_)
      refine P_l (fun hJ _ _ q => E_aload_n dX10_deal_92 rfl (E_getR (b := 35) clX10 5 (by decide) flX10_43 (Or.inl ⟨_, rfl⟩) dX10_deal_93 (kd3 hJ.1.1) (rf3_5 hJ.1.1) (by decide) (E_iload_n dX10_deal_96 rfl (E_iload_n dX10_deal_97 rfl (E_aload_n dX10_deal_98 rfl (E_getR (b := 19) clX10 3 (by decide) flX10_29 (Or.inl ⟨_, rfl⟩) dX10_deal_99 (kd3 hJ.1.1) (rf3_3 hJ.1.1) (by decide) (E_getIN clX6 0 (by decide) flX10_111 (Or.inl rfl) dX10_deal_102 (kd19 hJ.1.1) q))))))) ?_
      refine P_call (t := fun _ => none) (st2 := fun _ => []) (kc2 := 1) (ks2 := 6) (fun hJ => (ok_X2_startRound (σ := σ2) (p1 := p1) (p2 := p2) (p3 := rI σ2 19 0) )) (fun hJ _ _ _ _ v τ1 hM q => E_callVN (as := [.int p1, .int p2, .int (rI σ2 19 0)]) (b := 35) (st := []) hM (by decide) yfX2_startRound mlX10_123 imX2_startRound seX2_startRound clX2 (kd35 hJ.1.1) rfl (Nat.le_of_ble_eq_true rfl) rfl dX10_deal_105 q) (by decide) (by decide) (fun v3 σ4 => ?_)
      refine P_l (fun hJ _ _ q => E_aload_n dX10_deal_108 rfl (E_getR (b := 5) clX10 1 (by decide) flX10_19 (Or.inl ⟨_, rfl⟩) dX10_deal_109 (kd3 hJ.1.1) (rf3_1 hJ.1.1) (by decide) (E_aload_n dX10_deal_112 rfl (E_getR (b := 4) clX10 0 (by decide) flX10_12 (Or.inl ⟨_, rfl⟩) dX10_deal_113 (kd3 hJ.1.1) (rf3_0 hJ.1.1) (by decide) (E_iload_n dX10_deal_116 rfl (E_iload_n dX10_deal_117 rfl (E_aload_n dX10_deal_118 rfl (E_getR (b := 19) clX10 3 (by decide) flX10_29 (Or.inl ⟨_, rfl⟩) dX10_deal_119 (kd3 hJ.1.1) (rf3_3 hJ.1.1) (by decide) (E_getIN clX6 0 (by decide) flX10_111 (Or.inl rfl) dX10_deal_122 (kd19 hJ.1.1) q))))))))) ?_
      refine P_call (t := fun _ => none) (st2 := fun _ => []) (kc2 := 1) (ks2 := 6) (fun hJ => (ok_X1_dealOut (σ := σ4) (b := 5) (from_ := p1) (each_ := p2) (players := rI σ4 19 0) (Or.inl rfl))) (fun hJ _ _ _ _ v τ1 hM q => E_callVN (as := [.ref 4, .int p1, .int p2, .int (rI σ4 19 0)]) (b := 5) (st := []) hM (by decide) yfX1_dealOut mlX10_126 imX1_dealOut seX1_dealOut clX1 (kd5 hJ.1.1) rfl (Nat.le_of_ble_eq_true rfl) rfl dX10_deal_125 q) (by decide) (by decide) (fun v5 σ6 => ?_)
      refine P_l (fun hJ _ _ q => E_aload_n dX10_deal_128 rfl (E_iconst (v := 0) dX10_deal_129 (by decide) q)) ?_
      refine P_w (fun hJ _ _ q => E_putI clX10 9 (by decide) flX10_130 (Or.inl rfl) rfl dX10_deal_130 (kd3 hJ.1.1) q) (fun hJ => Sy_wI hJ.1) rfl rfl rfl (fun σ7 hσ7 => ?_)
      refine P_l (fun hJ _ _ q => E_aload_n dX10_deal_133 rfl (E_iconst (v := 0) dX10_deal_134 (by decide) q)) ?_
      refine P_w (fun hJ _ _ q => E_putI clX10 8 (by decide) flX10_61 (Or.inl rfl) rfl dX10_deal_135 (kd3 hJ.1.1) q) (fun hJ => Sy_wI hJ.1) rfl rfl rfl (fun σ8 hσ8 => ?_)
      refine P_l (fun hJ _ _ q => E_aload_n dX10_deal_138 rfl (E_getR (b := 5) clX10 1 (by decide) flX10_19 (Or.inl ⟨_, rfl⟩) dX10_deal_139 (kd3 hJ.1.1) (rf3_1 hJ.1.1) (by decide) (E_getIN clX1 7 (by decide) flX10_133 (Or.inl rfl) dX10_deal_142 (kd5 hJ.1.1) q))) ?_
      exact P_ret (fun _ _ => E_iret rfl dX10_deal_145)

def f_X10_needKind (σ : rS) (p1 : Int32) : Option ((Unit ⊕ String) × rS) := if (v_X5_isKind σ p1) = 0 then (some ((.inr "java/lang/IllegalArgumentException", σ))) else (some ((.inl (()), σ)))
set_option maxRecDepth 20000 in
set_option maxHeartbeats 2000000 in
theorem ok_X10_needKind {σ : rS} {p1 : Int32}   : rFn Sy yX10_needKind mX10_needKind 6 [.ref 3, .int p1] σ 1 6 (tX (fun _ => .inl none)) (f_X10_needKind σ p1) := by
  refine rF_of (ls := [some (.ref 3), some (.int p1)]) yfX10_needKind rfl (Nat.le_of_ble_eq_true rfl) (fun o τ => ?_)
  unfold f_X10_needKind
  refine P_l (fun hJ _ _ q => E_aload_n dX10_needKind_0 rfl (E_getR (b := 4) clX10 0 (by decide) flX10_12 (Or.inl ⟨_, rfl⟩) dX10_needKind_1 (kd3 hJ.1.1) (rf3_0 hJ.1.1) (by decide) (E_iload_n dX10_needKind_4 rfl (E_callVN (as := [.int p1]) (b := 4) (st := []) (ok_X5_isKind (σ := σ) (k := p1) hJ ) (by decide) yfX5_isKind mlX10_398 imX5_isKind seX5_isKind clX5 (kd4 hJ.1.1) rfl (Nat.le_of_ble_eq_true rfl) rfl dX10_needKind_5 q)))) ?_
  refine P_if (fun hJ _ _ h1 h2 => E_if_ne 19 dX10_needKind_8 (by decide) h2 h1) ?_ ?_
  · skip
    exact P_thr (fun kc ks => xt_IllegalArgumentException (M := mX10_needKind) (pc := 11) rfl rfl (by decide) (Nat.le_of_ble_eq_true rfl) dX10_needKind_11 dX10_needKind_14 dX10_needKind_15 dX10_needKind_18 kc ks) (by decide) (by decide)
  · skip
    exact P_ret (fun _ _ => E_vret rfl dX10_needKind_19)

def v_X10_mayLay (σ : rS) (p1 : Int32) : Int32 := if (v_X10_isOn σ) = 0 then 0 else (if (v_X1_rackOf σ 5 (rI σ 3 8) p1) ≤ 0 then 0 else (if 2 ≤ (v_X1_lies σ 5 p1) then 0 else 1))
set_option maxRecDepth 20000 in
theorem ok_X10_mayLay {σ : rS} {p1 : Int32}  (hJ : J Sy σ)  : rMet yX10_mayLay mX10_mayLay 2 [.ref 3, .int p1] σ 0 0 (some (.int (v_X10_mayLay σ p1))) σ := by
  refine rMet_of (ls := [some (.ref 3), some (.int p1)]) yfX10_mayLay rfl (Nat.le_of_ble_eq_true rfl) ?_
  refine E_aload_n dX10_mayLay_0 rfl ?_
  refine E_callV (as := []) (b := 3) (st := []) (ok_X10_isOn (σ := σ)  hJ ) (by decide) yfX10_isOn mlX10_81 imX10_isOn seX10_isOn clX10 (kd3 hJ.1.1) rfl (Nat.le_of_ble_eq_true rfl) rfl dX10_mayLay_1 ?_
  refine E_if_eq 38 dX10_mayLay_4 (by decide) (fun c_4_0 => ?_) (fun c_4_0 => ?_)
  · skip
    refine E_iconst (v := 0) dX10_mayLay_38 (by decide) ?_
    exact E_zretE rfl dX10_mayLay_39 (by decide) (by unfold v_X10_mayLay; simp only [if_pos c_4_0]) rfl
  · skip
    refine E_aload_n dX10_mayLay_7 rfl ?_
    refine E_getR (b := 5) clX10 1 (by decide) flX10_19 (Or.inl ⟨_, rfl⟩) dX10_mayLay_8 (kd3 hJ.1.1) (rf3_1 hJ.1.1) (by decide) ?_
    refine E_aload_n dX10_mayLay_11 rfl ?_
    refine E_getI clX10 8 (by decide) flX10_61 (Or.inl rfl) dX10_mayLay_12 (kd3 hJ.1.1) ?_
    refine E_iload_n dX10_mayLay_15 rfl ?_
    refine E_callVN (as := [.int (rI σ 3 8), .int p1]) (b := 5) (st := []) (ok_X1_rackOf (σ := σ) (b := 5) (p := rI σ 3 8) (k := p1) hJ (Or.inl rfl)) (by decide) yfX1_rackOf mlX10_333 imX1_rackOf seX1_rackOf clX1 (kd5 hJ.1.1) rfl (Nat.le_of_ble_eq_true rfl) rfl dX10_mayLay_16 ?_
    refine E_if_le 38 dX10_mayLay_19 (by decide) (fun c_19_1 => ?_) (fun c_19_1 => ?_)
    · skip
      refine E_iconst (v := 0) dX10_mayLay_38 (by decide) ?_
      exact E_zretE rfl dX10_mayLay_39 (by decide) (by unfold v_X10_mayLay; simp only [if_neg c_4_0, if_pos c_19_1]) rfl
    · skip
      refine E_aload_n dX10_mayLay_22 rfl ?_
      refine E_getR (b := 5) clX10 1 (by decide) flX10_19 (Or.inl ⟨_, rfl⟩) dX10_mayLay_23 (kd3 hJ.1.1) (rf3_1 hJ.1.1) (by decide) ?_
      refine E_iload_n dX10_mayLay_26 rfl ?_
      refine E_callVN (as := [.int p1]) (b := 5) (st := []) (ok_X1_lies (σ := σ) (b := 5) (k := p1) hJ (Or.inl rfl)) (by decide) yfX1_lies mlX10_146 imX1_lies seX1_lies clX1 (kd5 hJ.1.1) rfl (Nat.le_of_ble_eq_true rfl) rfl dX10_mayLay_27 ?_
      refine E_iconst (v := 2) dX10_mayLay_30 (by decide) ?_
      refine E_icmp_ge 38 dX10_mayLay_31 (by decide) (fun c_31_2 => ?_) (fun c_31_2 => ?_)
      · skip
        refine E_iconst (v := 0) dX10_mayLay_38 (by decide) ?_
        exact E_zretE rfl dX10_mayLay_39 (by decide) (by unfold v_X10_mayLay; simp only [if_neg c_4_0, if_neg c_19_1, if_pos c_31_2]) rfl
      · skip
        refine E_iconst (v := 1) dX10_mayLay_34 (by decide) ?_
        refine E_goto 39 dX10_mayLay_35 (by decide) ?_
        exact E_zretE rfl dX10_mayLay_39 (by decide) (by unfold v_X10_mayLay; simp only [if_neg c_4_0, if_neg c_19_1, if_neg c_31_2]) rfl
theorem z_X10_mayLay (σ : rS) (p1 : Int32) : v_X10_mayLay σ p1 = 0 ∨ v_X10_mayLay σ p1 = 1 := by
  unfold v_X10_mayLay
  (repeat' split) <;> first | decide | exact vIn_01 _ _ _ | exact vBit_01 _ _ | exact z_X10_isOn _

def f_X10_layTile (σ : rS) (p1 : Int32) : Option (Unit × rS) := oB (f_X1_layTile σ 5 (rI σ 3 8) p1) fun _ σ2 => oB (f_X2_add σ2 1 (rI σ2 3 8) p1 0) fun _ σ4 => some (((), σ4))
set_option maxRecDepth 20000 in
set_option maxHeartbeats 2000000 in
theorem ok_X10_layTile {σ : rS} {p1 : Int32}   : rFn Sy yX10_layTile mX10_layTile 3 [.ref 3, .int p1] σ 0 0 (fun _ => .inl none) (f_X10_layTile σ p1) := by
  refine rF_of (ls := [some (.ref 3), some (.int p1)]) yfX10_layTile rfl (Nat.le_of_ble_eq_true rfl) (fun o τ => ?_)
  unfold f_X10_layTile
  refine P_l (fun hJ _ _ q => E_aload_n dX10_layTile_0 rfl (E_getR (b := 5) clX10 1 (by decide) flX10_19 (Or.inl ⟨_, rfl⟩) dX10_layTile_1 (kd3 hJ.1.1) (rf3_1 hJ.1.1) (by decide) (E_aload_n dX10_layTile_4 rfl (E_getI clX10 8 (by decide) flX10_61 (Or.inl rfl) dX10_layTile_5 (kd3 hJ.1.1) (E_iload_n dX10_layTile_8 rfl q))))) ?_
  refine P_call (t := fun _ => none) (st2 := fun _ => []) (kc2 := 0) (ks2 := 0) (fun hJ => (ok_X1_layTile (σ := σ) (b := 5) (p := rI σ 3 8) (k := p1) (Or.inl rfl))) (fun hJ _ _ _ _ v τ1 hM q => E_callVN (as := [.int (rI σ 3 8), .int p1]) (b := 5) (st := []) hM (by decide) yfX1_layTile mlX10_410 imX1_layTile seX1_layTile clX1 (kd5 hJ.1.1) rfl (Nat.le_of_ble_eq_true rfl) rfl dX10_layTile_9 q) (by decide) (by decide) (fun v1 σ2 => ?_)
  refine P_l (fun hJ _ _ q => E_aload_n dX10_layTile_12 rfl (E_getR (b := 35) clX10 5 (by decide) flX10_43 (Or.inl ⟨_, rfl⟩) dX10_layTile_13 (kd3 hJ.1.1) (rf3_5 hJ.1.1) (by decide) (E_iconst (v := 1) dX10_layTile_16 (by decide) (E_aload_n dX10_layTile_17 rfl (E_getI clX10 8 (by decide) flX10_61 (Or.inl rfl) dX10_layTile_18 (kd3 hJ.1.1) (E_iload_n dX10_layTile_21 rfl (E_iconst (v := 0) dX10_layTile_22 (by decide) q))))))) ?_
  refine P_call (t := fun _ => none) (st2 := fun _ => []) (kc2 := 0) (ks2 := 0) (fun hJ => (ok_X2_add (σ := σ2) (p1 := 1) (p2 := rI σ2 3 8) (p3 := p1) (p4 := 0) )) (fun hJ _ _ _ _ v τ1 hM q => E_callVN (as := [.int 1, .int (rI σ2 3 8), .int p1, .int 0]) (b := 35) (st := []) hM (by decide) yfX2_add mlX10_413 imX2_add seX2_add clX2 (kd35 hJ.1.1) rfl (Nat.le_of_ble_eq_true rfl) rfl dX10_layTile_23 q) (by decide) (by decide) (fun v3 σ4 => ?_)
  exact P_ret (fun _ _ => E_vret rfl dX10_layTile_26)

def f_X10_lay (σ : rS) (p1 : Int32) : Option ((Int32 ⊕ String) × rS) := oBx (f_X10_needKind σ p1) fun _ σ2 => if (v_X10_mayLay σ2 p1) = 0 then (some ((.inr "java/lang/IllegalStateException", σ2))) else (oB (f_X10_layTile σ2 p1) fun _ σ4 => some ((.inl (v_X1_lies σ4 5 p1), σ4)))
set_option maxRecDepth 20000 in
set_option maxHeartbeats 2000000 in
theorem ok_X10_lay {σ : rS} {p1 : Int32}   : rFn Sy yX10_lay mX10_lay 7 [.ref 3, .int p1] σ 2 12 (tX (fun v => .inl (some (.int v)))) (f_X10_lay σ p1) := by
  refine rF_of (ls := [some (.ref 3), some (.int p1)]) yfX10_lay rfl (Nat.le_of_ble_eq_true rfl) (fun o τ => ?_)
  unfold f_X10_lay
  refine P_l (fun hJ _ _ q => E_aload_n dX10_lay_0 rfl (E_iload_n dX10_lay_1 rfl q)) ?_
  refine P_callx (t2 := fun _ => none) (st2 := fun _ => []) (kc2 := 1) (ks2 := 6) (fun hJ => (ok_X10_needKind (σ := σ) (p1 := p1) )) (fun hJ _ _ _ _ v τ1 hM q => E_callV (as := [.int p1]) (b := 3) (st := []) hM (by decide) yfX10_needKind mlX10_136 imX10_needKind seX10_needKind clX10 (kd3 hJ.1.1) rfl (Nat.le_of_ble_eq_true rfl) rfl dX10_lay_2 q) (fun hJ _ _ _ _ E τ1 hM => E_callVx (τ := τ1) (as := [.int p1]) (b := 3) (st := []) hM (by decide) yfX10_needKind mlX10_136 imX10_needKind seX10_needKind clX10 (kd3 hJ.1.1) rfl (Nat.le_of_ble_eq_true rfl) rfl dX10_lay_2 rfl) (by decide) (by decide) (fun v1 σ2 => ?_)
  refine P_l (fun hJ _ _ q => E_aload_n dX10_lay_5 rfl (E_iload_n dX10_lay_6 rfl (E_callV (as := [.int p1]) (b := 3) (st := []) (ok_X10_mayLay (σ := σ2) (p1 := p1) hJ ) (by decide) yfX10_mayLay mlX10_139 imX10_mayLay seX10_mayLay clX10 (kd3 hJ.1.1) rfl (Nat.le_of_ble_eq_true rfl) rfl dX10_lay_7 q))) ?_
  refine P_if (fun hJ _ _ h1 h2 => E_if_ne 21 dX10_lay_10 (by decide) h2 h1) ?_ ?_
  · skip
    exact P_thr (fun kc ks => xt_IllegalStateException (M := mX10_lay) (pc := 13) rfl rfl (by decide) (Nat.le_of_ble_eq_true rfl) dX10_lay_13 dX10_lay_16 dX10_lay_17 dX10_lay_20 kc ks) (by decide) (by decide)
  · skip
    refine P_l (fun hJ _ _ q => E_aload_n dX10_lay_21 rfl (E_iload_n dX10_lay_22 rfl q)) ?_
    refine P_call (t := fun _ => none) (st2 := fun _ => []) (kc2 := 1) (ks2 := 6) (fun hJ => (ok_X10_layTile (σ := σ2) (p1 := p1) )) (fun hJ _ _ _ _ v τ1 hM q => E_callV (as := [.int p1]) (b := 3) (st := []) hM (by decide) yfX10_layTile mlX10_143 imX10_layTile seX10_layTile clX10 (kd3 hJ.1.1) rfl (Nat.le_of_ble_eq_true rfl) rfl dX10_lay_23 q) (by decide) (by decide) (fun v3 σ4 => ?_)
    refine P_l (fun hJ _ _ q => E_aload_n dX10_lay_26 rfl (E_getR (b := 5) clX10 1 (by decide) flX10_19 (Or.inl ⟨_, rfl⟩) dX10_lay_27 (kd3 hJ.1.1) (rf3_1 hJ.1.1) (by decide) (E_iload_n dX10_lay_30 rfl (E_callVN (as := [.int p1]) (b := 5) (st := []) (ok_X1_lies (σ := σ4) (b := 5) (k := p1) hJ (Or.inl rfl)) (by decide) yfX1_lies mlX10_146 imX1_lies seX1_lies clX1 (kd5 hJ.1.1) rfl (Nat.le_of_ble_eq_true rfl) rfl dX10_lay_31 q)))) ?_
    exact P_ret (fun _ _ => E_iret rfl dX10_lay_34)

def v_X10_mayLayJoker (σ : rS) (p1 : Int32) : Int32 := if (v_X10_isOn σ) = 0 then 0 else (if 0 < (rI σ 5 10) then (if 2 ≤ (v_X1_lies σ 5 p1) then 0 else 1) else (if (v_X1_rackOf σ 5 (rI σ 3 8) 52) ≤ 0 then 0 else (if 2 ≤ (v_X1_lies σ 5 p1) then 0 else 1)))
set_option maxRecDepth 20000 in
theorem ok_X10_mayLayJoker {σ : rS} {p1 : Int32}  (hJ : J Sy σ)  : rMet yX10_mayLayJoker mX10_mayLayJoker 2 [.ref 3, .int p1] σ 0 0 (some (.int (v_X10_mayLayJoker σ p1))) σ := by
  refine rMet_of (ls := [some (.ref 3), some (.int p1)]) yfX10_mayLayJoker rfl (Nat.le_of_ble_eq_true rfl) ?_
  refine E_aload_n dX10_mayLayJoker_0 rfl ?_
  refine E_callV (as := []) (b := 3) (st := []) (ok_X10_isOn (σ := σ)  hJ ) (by decide) yfX10_isOn mlX10_81 imX10_isOn seX10_isOn clX10 (kd3 hJ.1.1) rfl (Nat.le_of_ble_eq_true rfl) rfl dX10_mayLayJoker_1 ?_
  refine E_if_eq 49 dX10_mayLayJoker_4 (by decide) (fun c_4_0 => ?_) (fun c_4_0 => ?_)
  · skip
    refine E_iconst (v := 0) dX10_mayLayJoker_49 (by decide) ?_
    exact E_zretE rfl dX10_mayLayJoker_50 (by decide) (by unfold v_X10_mayLayJoker; simp only [if_pos c_4_0]) rfl
  · skip
    refine E_aload_n dX10_mayLayJoker_7 rfl ?_
    refine E_getR (b := 5) clX10 1 (by decide) flX10_19 (Or.inl ⟨_, rfl⟩) dX10_mayLayJoker_8 (kd3 hJ.1.1) (rf3_1 hJ.1.1) (by decide) ?_
    refine E_getIN clX1 10 (by decide) flX10_165 (Or.inl rfl) dX10_mayLayJoker_11 (kd5 hJ.1.1) ?_
    refine E_if_gt 33 dX10_mayLayJoker_14 (by decide) (fun c_14_1 => ?_) (fun c_14_1 => ?_)
    · skip
      refine E_aload_n dX10_mayLayJoker_33 rfl ?_
      refine E_getR (b := 5) clX10 1 (by decide) flX10_19 (Or.inl ⟨_, rfl⟩) dX10_mayLayJoker_34 (kd3 hJ.1.1) (rf3_1 hJ.1.1) (by decide) ?_
      refine E_iload_n dX10_mayLayJoker_37 rfl ?_
      refine E_callVN (as := [.int p1]) (b := 5) (st := []) (ok_X1_lies (σ := σ) (b := 5) (k := p1) hJ (Or.inl rfl)) (by decide) yfX1_lies mlX10_146 imX1_lies seX1_lies clX1 (kd5 hJ.1.1) rfl (Nat.le_of_ble_eq_true rfl) rfl dX10_mayLayJoker_38 ?_
      refine E_iconst (v := 2) dX10_mayLayJoker_41 (by decide) ?_
      refine E_icmp_ge 49 dX10_mayLayJoker_42 (by decide) (fun c_42_2 => ?_) (fun c_42_2 => ?_)
      · skip
        refine E_iconst (v := 0) dX10_mayLayJoker_49 (by decide) ?_
        exact E_zretE rfl dX10_mayLayJoker_50 (by decide) (by unfold v_X10_mayLayJoker; simp only [if_neg c_4_0, if_pos c_14_1, if_pos c_42_2]) rfl
      · skip
        refine E_iconst (v := 1) dX10_mayLayJoker_45 (by decide) ?_
        refine E_goto 50 dX10_mayLayJoker_46 (by decide) ?_
        exact E_zretE rfl dX10_mayLayJoker_50 (by decide) (by unfold v_X10_mayLayJoker; simp only [if_neg c_4_0, if_pos c_14_1, if_neg c_42_2]) rfl
    · skip
      refine E_aload_n dX10_mayLayJoker_17 rfl ?_
      refine E_getR (b := 5) clX10 1 (by decide) flX10_19 (Or.inl ⟨_, rfl⟩) dX10_mayLayJoker_18 (kd3 hJ.1.1) (rf3_1 hJ.1.1) (by decide) ?_
      refine E_aload_n dX10_mayLayJoker_21 rfl ?_
      refine E_getI clX10 8 (by decide) flX10_61 (Or.inl rfl) dX10_mayLayJoker_22 (kd3 hJ.1.1) ?_
      refine E_bipush (v := 52) dX10_mayLayJoker_25 (by decide) ?_
      refine E_callVN (as := [.int (rI σ 3 8), .int 52]) (b := 5) (st := []) (ok_X1_rackOf (σ := σ) (b := 5) (p := rI σ 3 8) (k := 52) hJ (Or.inl rfl)) (by decide) yfX1_rackOf mlX10_333 imX1_rackOf seX1_rackOf clX1 (kd5 hJ.1.1) rfl (Nat.le_of_ble_eq_true rfl) rfl dX10_mayLayJoker_27 ?_
      refine E_if_le 49 dX10_mayLayJoker_30 (by decide) (fun c_30_2 => ?_) (fun c_30_2 => ?_)
      · skip
        refine E_iconst (v := 0) dX10_mayLayJoker_49 (by decide) ?_
        exact E_zretE rfl dX10_mayLayJoker_50 (by decide) (by unfold v_X10_mayLayJoker; simp only [if_neg c_4_0, if_neg c_14_1, if_pos c_30_2]) rfl
      · skip
        refine E_aload_n dX10_mayLayJoker_33 rfl ?_
        refine E_getR (b := 5) clX10 1 (by decide) flX10_19 (Or.inl ⟨_, rfl⟩) dX10_mayLayJoker_34 (kd3 hJ.1.1) (rf3_1 hJ.1.1) (by decide) ?_
        refine E_iload_n dX10_mayLayJoker_37 rfl ?_
        refine E_callVN (as := [.int p1]) (b := 5) (st := []) (ok_X1_lies (σ := σ) (b := 5) (k := p1) hJ (Or.inl rfl)) (by decide) yfX1_lies mlX10_146 imX1_lies seX1_lies clX1 (kd5 hJ.1.1) rfl (Nat.le_of_ble_eq_true rfl) rfl dX10_mayLayJoker_38 ?_
        refine E_iconst (v := 2) dX10_mayLayJoker_41 (by decide) ?_
        refine E_icmp_ge 49 dX10_mayLayJoker_42 (by decide) (fun c_42_3 => ?_) (fun c_42_3 => ?_)
        · skip
          refine E_iconst (v := 0) dX10_mayLayJoker_49 (by decide) ?_
          exact E_zretE rfl dX10_mayLayJoker_50 (by decide) (by unfold v_X10_mayLayJoker; simp only [if_neg c_4_0, if_neg c_14_1, if_neg c_30_2, if_pos c_42_3]) rfl
        · skip
          refine E_iconst (v := 1) dX10_mayLayJoker_45 (by decide) ?_
          refine E_goto 50 dX10_mayLayJoker_46 (by decide) ?_
          exact E_zretE rfl dX10_mayLayJoker_50 (by decide) (by unfold v_X10_mayLayJoker; simp only [if_neg c_4_0, if_neg c_14_1, if_neg c_30_2, if_neg c_42_3]) rfl
theorem z_X10_mayLayJoker (σ : rS) (p1 : Int32) : v_X10_mayLayJoker σ p1 = 0 ∨ v_X10_mayLayJoker σ p1 = 1 := by
  unfold v_X10_mayLayJoker
  (repeat' split) <;> first | decide | exact vIn_01 _ _ _ | exact vBit_01 _ _ | exact z_X10_isOn _

