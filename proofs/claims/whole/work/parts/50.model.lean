def b_X11_laysUses_22 (s2 : Int32 × rS) (s3 : Int32 × rS) (s6 : Int32 × rS) : Option (((((Unit × rS) ⊕ (Int32 × rS)) ⊕ (Int32 × rS)) ⊕ (rS)) ⊕ (Int32 × rS)) := if 4 ≤ s6.1 then (some (.inl (.inr s6.2))) else (if inB ((4 * (rI s6.2 67 44)) + s6.1) 84 then (oLet (wI s6.2 93 ((4 * (rI s6.2 67 44)) + s6.1 : Int32).toNatClampNeg (((if s2.1 = 5 then 1 else (if (s2.1 - 1) = s6.1 then 0 else 1) : Int32)) + ((if s3.1 ≤ 0 then 0 else (if s3.1 = 5 then 1 else (if (s3.1 - 1) = s6.1 then 0 else 1)) : Int32)))) fun σ8 => some (.inr ((s6.1 + 1, σ8)))) else none)
def b_X11_laysUses_15 (s2 : Int32 × rS) (s3 : Int32 × rS) : Option (((Unit × rS) ⊕ (Int32 × rS)) ⊕ (Int32 × rS)) := if s2.1 < s3.1 then (some (.inl (.inr ((s2.1 + 1, s3.2))))) else (oJoin (oLoop (b_X11_laysUses_22 s2 s3) oFuel ((0, s3.2))) fun j5 => if inB (rI j5 67 44) 21 then (oLet (wI j5 94 (rI j5 67 44 : Int32).toNatClampNeg ((if s3.1 ≤ 0 then 1 else 2 : Int32))) fun σ10 => oLet (wI σ10 67 44 ((rI σ10 67 44) + 1)) fun σ11 => some (.inr ((s3.1 + 1, σ11)))) else none)
def b_X11_laysUses_7 (s2 : Int32 × rS) : Option ((Unit × rS) ⊕ (Int32 × rS)) := if 6 ≤ s2.1 then (some (.inl (((), s2.2)))) else (oLoop (b_X11_laysUses_15 s2) oFuel ((0, s2.2)))
def f_X11_laysUses (σ : rS) : Option (Unit × rS) := oLet (wI σ 67 44 1) fun σ1 => oLoop (b_X11_laysUses_7) oFuel ((1, σ1))
set_option maxRecDepth 20000 in
set_option maxHeartbeats 2000000 in
theorem ok_X11_laysUses {σ : rS}   : rFn Sy yX11_laysUses mX11_laysUses 0 [.ref 67] σ 0 0 (fun _ => .inl none) (f_X11_laysUses σ) := by
  refine rF_of (ls := [some (.ref 67), none, none, none]) yfX11_laysUses rfl (Nat.le_of_ble_eq_true rfl) (fun o τ => ?_)
  unfold f_X11_laysUses
  refine P_l (fun hJ _ _ q => E_aload_n dX11_laysUses_0 rfl (E_iconst (v := 1) dX11_laysUses_1 (by decide) q)) ?_
  refine P_w (fun hJ _ _ q => E_putI clX11 44 (by decide) flX11_189 (Or.inl rfl) rfl dX11_laysUses_2 (kd67 hJ.1.1) q) (fun hJ => Sy_wI hJ.1) rfl rfl rfl (fun σ1 hσ1 => ?_)
  refine P_l (fun hJ _ _ q => E_iconst (v := 1) dX11_laysUses_5 (by decide) (E_istore_n (ls2 := [some (.ref 67), some (.int 1), none, none]) dX11_laysUses_6 (by decide) rfl q)) ?_
  refine P_loop (fun s2 => [some (.ref 67), some (.int s2.1), none, none]) (fun s2 => s2.2) (fun s2 => ?_) _ ((1, σ1))
  unfold b_X11_laysUses_7
  refine P_l (fun hJ _ _ q => E_iload_n dX11_laysUses_7 rfl (E_bipush (v := 6) dX11_laysUses_8 (by decide) q)) ?_
  refine P_if (fun hJ _ _ h1 h2 => E_icmp_ge 125 dX11_laysUses_10 (by decide) h1 h2) ?_ ?_
  · skip
    exact P_inl (P_ret (fun _ _ => E_vret rfl dX11_laysUses_125))
  · skip
    refine P_l (fun hJ _ _ q => E_iconst (v := 0) dX11_laysUses_13 (by decide) (E_istore_n (ls2 := [some (.ref 67), some (.int s2.1), some (.int 0), none]) dX11_laysUses_14 (by decide) rfl q)) ?_
    refine P_loop (fun s3 => [some (.ref 67), some (.int s2.1), some (.int s3.1), none]) (fun s3 => s3.2) (fun s3 => ?_) _ ((0, s2.2))
    unfold b_X11_laysUses_15
    refine P_l (fun hJ _ _ q => E_iload_n dX11_laysUses_15 rfl (E_iload_n dX11_laysUses_16 rfl q)) ?_
    refine P_if (fun hJ _ _ h1 h2 => E_icmp_gt 119 dX11_laysUses_17 (by decide) h1 h2) ?_ ?_
    · skip
      refine P_l (fun hJ _ _ q => E_iinc (v := 1) (ls2 := [some (.ref 67), some (.int (s2.1 + 1)), some (.int s3.1), none]) dX11_laysUses_119 rfl (by decide) (by decide) rfl (E_goto 7 dX11_laysUses_122 (by decide) q)) ?_
      refine P_less [some (.ref 67), some (.int (s2.1 + 1)), none, none] (And.intro rfl (And.intro rfl trivial)) ?_
      exact P_inl (P_back ((s2.1 + 1, s3.2)))
    · skip
      refine P_l (fun hJ _ _ q => E_iconst (v := 0) dX11_laysUses_20 (by decide) (E_istore_n (ls2 := [some (.ref 67), some (.int s2.1), some (.int s3.1), some (.int 0)]) dX11_laysUses_21 (by decide) rfl q)) ?_
      refine P_join (pc2 := 85) (fun j5 => [some (.ref 67), some (.int s2.1), some (.int s3.1), none]) (fun j5 => []) (fun j5 => j5) ?_ (fun j5 => ?_)
      · skip
        refine P_loop (fun s6 => [some (.ref 67), some (.int s2.1), some (.int s3.1), some (.int s6.1)]) (fun s6 => s6.2) (fun s6 => ?_) _ ((0, s3.2))
        unfold b_X11_laysUses_22
        refine P_l (fun hJ _ _ q => E_iload_n dX11_laysUses_22 rfl (E_iconst (v := 4) dX11_laysUses_23 (by decide) q)) ?_
        refine P_if (fun hJ _ _ h1 h2 => E_icmp_ge 85 dX11_laysUses_24 (by decide) h1 h2) ?_ ?_
        · skip
          refine P_less [some (.ref 67), some (.int s2.1), some (.int s3.1), none] (And.intro rfl (And.intro rfl (And.intro rfl trivial))) ?_
          exact P_inl (P_back s6.2)
        · skip
          refine P_l (fun hJ _ _ q => E_aload_n dX11_laysUses_27 rfl (E_getR (b := 93) clX11 42 (by decide) flX11_112 (Or.inr ⟨_, rfl⟩) dX11_laysUses_28 (kd67 hJ.1.1) (rf67_42 hJ.1.1) (by decide) (E_iconst (v := 4) dX11_laysUses_31 (by decide) (E_aload_n dX11_laysUses_32 rfl (E_getI clX11 44 (by decide) flX11_189 (Or.inl rfl) dX11_laysUses_33 (kd67 hJ.1.1) (E_imul dX11_laysUses_36 (E_iload_n dX11_laysUses_37 rfl (E_iadd dX11_laysUses_38 (E_iload_n dX11_laysUses_39 rfl (E_iconst (v := 5) dX11_laysUses_40 (by decide) q)))))))))) ?_
          refine P_l (pc2 := 56) (ls2 := [some (.ref 67), some (.int s2.1), some (.int s3.1), some (.int s6.1)]) (st2 := [.int ((if s2.1 = 5 then 1 else (if (s2.1 - 1) = s6.1 then 0 else 1) : Int32)), .int ((4 * (rI s6.2 67 44)) + s6.1), .ref 93]) (fun hJ _ _ hq => ?_) ?_
          · skip
            refine E_icmp_eq 51 dX11_laysUses_41 (by decide) (fun c_41_0 => ?_) (fun c_41_0 => ?_)
            · skip
              refine E_iconst (v := 1) dX11_laysUses_51 (by decide) ?_
              refine E_goto 56 dX11_laysUses_52 (by decide) ?_
              simp only [if_pos c_41_0] at hq
              exact hq
            · skip
              refine E_iload_n dX11_laysUses_44 rfl ?_
              refine E_iconst (v := 1) dX11_laysUses_45 (by decide) ?_
              refine E_isub dX11_laysUses_46 ?_
              refine E_iload_n dX11_laysUses_47 rfl ?_
              refine E_icmp_eq 55 dX11_laysUses_48 (by decide) (fun c_48_1 => ?_) (fun c_48_1 => ?_)
              · skip
                refine E_iconst (v := 0) dX11_laysUses_55 (by decide) ?_
                simp only [if_neg c_41_0, if_pos c_48_1] at hq
                exact hq
              · skip
                refine E_iconst (v := 1) dX11_laysUses_51 (by decide) ?_
                refine E_goto 56 dX11_laysUses_52 (by decide) ?_
                simp only [if_neg c_41_0, if_neg c_48_1] at hq
                exact hq
          · skip
            refine P_l (fun hJ _ _ q => E_iload_n dX11_laysUses_56 rfl q) ?_
            refine P_l (pc2 := 77) (ls2 := [some (.ref 67), some (.int s2.1), some (.int s3.1), some (.int s6.1)]) (st2 := [.int ((if s3.1 ≤ 0 then 0 else (if s3.1 = 5 then 1 else (if (s3.1 - 1) = s6.1 then 0 else 1)) : Int32)), .int ((if s2.1 = 5 then 1 else (if (s2.1 - 1) = s6.1 then 0 else 1) : Int32)), .int ((4 * (rI s6.2 67 44)) + s6.1), .ref 93]) (fun hJ _ _ hq => ?_) ?_
            · skip
              refine E_if_le 76 dX11_laysUses_57 (by decide) (fun c_57_0 => ?_) (fun c_57_0 => ?_)
              · skip
                refine E_iconst (v := 0) dX11_laysUses_76 (by decide) ?_
                simp only [if_pos c_57_0] at hq
                exact hq
              · skip
                refine E_iload_n dX11_laysUses_60 rfl ?_
                refine E_iconst (v := 5) dX11_laysUses_61 (by decide) ?_
                refine E_icmp_eq 72 dX11_laysUses_62 (by decide) (fun c_62_1 => ?_) (fun c_62_1 => ?_)
                · skip
                  refine E_iconst (v := 1) dX11_laysUses_72 (by decide) ?_
                  refine E_goto 77 dX11_laysUses_73 (by decide) ?_
                  simp only [if_neg c_57_0, if_pos c_62_1] at hq
                  exact hq
                · skip
                  refine E_iload_n dX11_laysUses_65 rfl ?_
                  refine E_iconst (v := 1) dX11_laysUses_66 (by decide) ?_
                  refine E_isub dX11_laysUses_67 ?_
                  refine E_iload_n dX11_laysUses_68 rfl ?_
                  refine E_icmp_eq 76 dX11_laysUses_69 (by decide) (fun c_69_2 => ?_) (fun c_69_2 => ?_)
                  · skip
                    refine E_iconst (v := 0) dX11_laysUses_76 (by decide) ?_
                    simp only [if_neg c_57_0, if_neg c_62_1, if_pos c_69_2] at hq
                    exact hq
                  · skip
                    refine E_iconst (v := 1) dX11_laysUses_72 (by decide) ?_
                    refine E_goto 77 dX11_laysUses_73 (by decide) ?_
                    simp only [if_neg c_57_0, if_neg c_62_1, if_neg c_69_2] at hq
                    exact hq
            · skip
              refine P_l (fun hJ _ _ q => E_iadd dX11_laysUses_77 q) ?_
              refine P_g (fun g7 => ?_)
              refine P_w (fun hJ _ _ q => E_iast dX11_laysUses_78 (kd93 hJ.1.1) (by decide) (inB_vp g7) q) (fun hJ => Sy_wI hJ.1) rfl rfl rfl (fun σ8 hσ8 => ?_)
              refine P_l (fun hJ _ _ q => E_iinc (v := 1) (ls2 := [some (.ref 67), some (.int s2.1), some (.int s3.1), some (.int (s6.1 + 1))]) dX11_laysUses_79 rfl (by decide) (by decide) rfl (E_goto 22 dX11_laysUses_82 (by decide) q)) ?_
              exact P_back ((s6.1 + 1, σ8))
      · skip
        refine P_l (fun hJ _ _ q => E_aload_n dX11_laysUses_85 rfl (E_getR (b := 94) clX11 43 (by decide) flX11_115 (Or.inr ⟨_, rfl⟩) dX11_laysUses_86 (kd67 hJ.1.1) (rf67_43 hJ.1.1) (by decide) (E_aload_n dX11_laysUses_89 rfl (E_getI clX11 44 (by decide) flX11_189 (Or.inl rfl) dX11_laysUses_90 (kd67 hJ.1.1) (E_iload_n dX11_laysUses_93 rfl q))))) ?_
        refine P_l (pc2 := 102) (ls2 := [some (.ref 67), some (.int s2.1), some (.int s3.1), none]) (st2 := [.int ((if s3.1 ≤ 0 then 1 else 2 : Int32)), .int (rI j5 67 44), .ref 94]) (fun hJ _ _ hq => ?_) ?_
        · skip
          refine E_if_le 101 dX11_laysUses_94 (by decide) (fun c_94_0 => ?_) (fun c_94_0 => ?_)
          · skip
            refine E_iconst (v := 1) dX11_laysUses_101 (by decide) ?_
            simp only [if_pos c_94_0] at hq
            exact hq
          · skip
            refine E_iconst (v := 2) dX11_laysUses_97 (by decide) ?_
            refine E_goto 102 dX11_laysUses_98 (by decide) ?_
            simp only [if_neg c_94_0] at hq
            exact hq
        · skip
          refine P_g (fun g9 => ?_)
          refine P_w (fun hJ _ _ q => E_iast dX11_laysUses_102 (kd94 hJ.1.1) (by decide) (inB_vp g9) q) (fun hJ => Sy_wI hJ.1) rfl rfl rfl (fun σ10 hσ10 => ?_)
          refine P_l (fun hJ _ _ q => E_aload_n dX11_laysUses_103 rfl (E_dup dX11_laysUses_104 rfl (E_getI clX11 44 (by decide) flX11_189 (Or.inl rfl) dX11_laysUses_105 (kd67 hJ.1.1) (E_iconst (v := 1) dX11_laysUses_108 (by decide) (E_iadd dX11_laysUses_109 q))))) ?_
          refine P_w (fun hJ _ _ q => E_putI clX11 44 (by decide) flX11_189 (Or.inl rfl) rfl dX11_laysUses_110 (kd67 hJ.1.1) q) (fun hJ => Sy_wI hJ.1) rfl rfl rfl (fun σ11 hσ11 => ?_)
          refine P_l (fun hJ _ _ q => E_iinc (v := 1) (ls2 := [some (.ref 67), some (.int s2.1), some (.int (s3.1 + 1)), none]) dX11_laysUses_113 rfl (by decide) (by decide) rfl (E_goto 15 dX11_laysUses_116 (by decide) q)) ?_
          exact P_back ((s3.1 + 1, σ11))

def v_X11_thrown (σ : rS) : Int32 := rI σ 67 0
set_option maxRecDepth 20000 in
theorem ok_X11_thrown {σ : rS}  (hJ : J Sy σ)  : rMet yX11_thrown mX11_thrown 0 [.ref 67] σ 0 0 (some (.int (v_X11_thrown σ))) σ := by
  refine rMet_of (ls := [some (.ref 67)]) yfX11_thrown rfl (Nat.le_of_ble_eq_true rfl) ?_
  refine E_aload_n dX11_thrown_0 rfl ?_
  refine E_getI clX11 0 (by decide) flX11_179 (Or.inl rfl) dX11_thrown_1 (kd67 hJ.1.1) ?_
  exact E_iretE rfl dX11_thrown_4 rfl rfl

def f_X11_holds (σ : rS) (p1 : Int32) : Option (Int32 × rS) := oLet (wI σ 67 0 p1) fun σ1 => some (((if p1 ≤ 0 then 0 else 1 : Int32), σ1))
set_option maxRecDepth 20000 in
set_option maxHeartbeats 2000000 in
theorem ok_X11_holds {σ : rS} {p1 : Int32}   : rFn Sy yX11_holds mX11_holds 0 [.ref 67, .int p1] σ 0 0 (fun v => .inl (some (.int v))) (f_X11_holds σ p1) := by
  refine rF_of (ls := [some (.ref 67), some (.int p1)]) yfX11_holds rfl (Nat.le_of_ble_eq_true rfl) (fun o τ => ?_)
  unfold f_X11_holds
  refine P_l (fun hJ _ _ q => E_aload_n dX11_holds_0 rfl (E_iload_n dX11_holds_1 rfl q)) ?_
  refine P_w (fun hJ _ _ q => E_putI clX11 0 (by decide) flX11_179 (Or.inl rfl) rfl dX11_holds_2 (kd67 hJ.1.1) q) (fun hJ => Sy_wI hJ.1) rfl rfl rfl (fun σ1 hσ1 => ?_)
  refine P_l (fun hJ _ _ q => E_iload_n dX11_holds_5 rfl q) ?_
  refine P_l (pc2 := 14) (ls2 := [none, none]) (st2 := [.int ((if p1 ≤ 0 then 0 else 1 : Int32))]) (fun hJ _ _ hq => ?_) ?_
  · skip
    refine E_if_le 13 dX11_holds_6 (by decide) (fun c_6_0 => ?_) (fun c_6_0 => ?_)
    · skip
      refine E_iconst (v := 0) dX11_holds_13 (by decide) ?_
      simp only [if_pos c_6_0] at hq
      exact E_less (ls2 := [none, none]) hq (rLe_at [none, none] [some (.ref 67), some (.int p1)] trivial)
    · skip
      refine E_iconst (v := 1) dX11_holds_9 (by decide) ?_
      refine E_goto 14 dX11_holds_10 (by decide) ?_
      simp only [if_neg c_6_0] at hq
      exact E_less (ls2 := [none, none]) hq (rLe_at [none, none] [some (.ref 67), some (.int p1)] trivial)
  · skip
    exact P_ret (fun _ _ => E_zret01 rfl (by split <;> decide) dX11_holds_14)

def b_X11_laysTable_2 (s1 : Int32 × rS) : Option ((Unit × rS) ⊕ (Int32 × rS)) := if 52 ≤ s1.1 then (some (.inl (((), s1.2)))) else (if inB s1.1 52 then (oLet (wI s1.2 91 (s1.1 : Int32).toNatClampNeg ((rI s1.2 80 (s1.1 : Int32).toNatClampNeg) + (rI s1.2 81 (s1.1 : Int32).toNatClampNeg))) fun σ3 => oLet (wI σ3 92 (s1.1 : Int32).toNatClampNeg 0) fun σ4 => some (.inr ((s1.1 + 1, σ4)))) else none)
def f_X11_laysTable (σ : rS) : Option (Unit × rS) := oLoop (b_X11_laysTable_2) oFuel ((0, σ))
set_option maxRecDepth 20000 in
set_option maxHeartbeats 2000000 in
theorem ok_X11_laysTable {σ : rS}   : rFn Sy yX11_laysTable mX11_laysTable 0 [.ref 67] σ 0 0 (fun _ => .inl none) (f_X11_laysTable σ) := by
  refine rF_of (ls := [some (.ref 67), none]) yfX11_laysTable rfl (Nat.le_of_ble_eq_true rfl) (fun o τ => ?_)
  unfold f_X11_laysTable
  refine P_l (fun hJ _ _ q => E_iconst (v := 0) dX11_laysTable_0 (by decide) (E_istore_n (ls2 := [some (.ref 67), some (.int 0)]) dX11_laysTable_1 (by decide) rfl q)) ?_
  refine P_loop (fun s1 => [some (.ref 67), some (.int s1.1)]) (fun s1 => s1.2) (fun s1 => ?_) _ ((0, σ))
  unfold b_X11_laysTable_2
  refine P_l (fun hJ _ _ q => E_iload_n dX11_laysTable_2 rfl (E_bipush (v := 52) dX11_laysTable_3 (by decide) q)) ?_
  refine P_if (fun hJ _ _ h1 h2 => E_icmp_ge 40 dX11_laysTable_5 (by decide) h1 h2) ?_ ?_
  · skip
    exact P_inl (P_ret (fun _ _ => E_vret rfl dX11_laysTable_40))
  · skip
    refine P_l (fun hJ _ _ q => E_aload_n dX11_laysTable_8 rfl (E_getR (b := 91) clX11 40 (by decide) flX11_106 (Or.inr ⟨_, rfl⟩) dX11_laysTable_9 (kd67 hJ.1.1) (rf67_40 hJ.1.1) (by decide) (E_iload_n dX11_laysTable_12 rfl (E_aload_n dX11_laysTable_13 rfl (E_getR (b := 80) clX11 19 (by decide) flX11_66 (Or.inr ⟨_, rfl⟩) dX11_laysTable_14 (kd67 hJ.1.1) (rf67_19 hJ.1.1) (by decide) (E_iload_n dX11_laysTable_17 rfl q)))))) ?_
    refine P_g (fun g2 => ?_)
    refine P_l (fun hJ _ _ q => E_iald dX11_laysTable_18 (kd80 hJ.1.1) (inB_vp g2) (E_aload_n dX11_laysTable_19 rfl (E_getR (b := 81) clX11 20 (by decide) flX11_69 (Or.inr ⟨_, rfl⟩) dX11_laysTable_20 (kd67 hJ.1.1) (rf67_20 hJ.1.1) (by decide) (E_iload_n dX11_laysTable_23 rfl (E_iald dX11_laysTable_24 (kd81 hJ.1.1) (inB_vp g2) (E_iadd dX11_laysTable_25 q)))))) ?_
    refine P_w (fun hJ _ _ q => E_iast dX11_laysTable_26 (kd91 hJ.1.1) (by decide) (inB_vp g2) q) (fun hJ => Sy_wI hJ.1) rfl rfl rfl (fun σ3 hσ3 => ?_)
    refine P_l (fun hJ _ _ q => E_aload_n dX11_laysTable_27 rfl (E_getR (b := 92) clX11 41 (by decide) flX11_109 (Or.inr ⟨_, rfl⟩) dX11_laysTable_28 (kd67 hJ.1.1) (rf67_41 hJ.1.1) (by decide) (E_iload_n dX11_laysTable_31 rfl (E_iconst (v := 0) dX11_laysTable_32 (by decide) q)))) ?_
    refine P_w (fun hJ _ _ q => E_iast dX11_laysTable_33 (kd92 hJ.1.1) (by decide) (inB_vp g2) q) (fun hJ => Sy_wI hJ.1) rfl rfl rfl (fun σ4 hσ4 => ?_)
    refine P_l (fun hJ _ _ q => E_iinc (v := 1) (ls2 := [some (.ref 67), some (.int (s1.1 + 1))]) dX11_laysTable_34 rfl (by decide) (by decide) rfl (E_goto 2 dX11_laysTable_37 (by decide) q)) ?_
    exact P_back ((s1.1 + 1, σ4))

def b_X11_power_8 (s1 : Int64 × Int32) : Option (Int64 ⊕ (Int64 × Int32)) := if 25 ≤ s1.2 then (some (.inl s1.1)) else (some (.inr ((s1.1 * (3 : Int64), s1.2 + 1))))
def f_X11_power (σ : rS) (p1 : Int32) : Option Int64 := oLoop (b_X11_power_8) oFuel (((1 : Int64), iRem p1 26))
set_option maxRecDepth 20000 in
set_option maxHeartbeats 2000000 in
theorem ok_X11_power {σ : rS} {p1 : Int32}   : rFr Sy yX11_power mX11_power 0 [.ref 67, .int p1] σ (fun v => some (.long v)) (f_X11_power σ p1) := by
  refine rFr_of (ls := [some (.ref 67), some (.int p1), none, none, none]) yfX11_power rfl (Nat.le_of_ble_eq_true rfl) (fun o τ => ?_)
  unfold f_X11_power
  refine P_l (fun hJ _ _ q => E_lconst (v := 1) dX11_power_0 (by decide) (E_lstore_n (ls2 := [some (.ref 67), some (.int p1), some (.long (1 : Int64)), none, none]) dX11_power_1 (by decide) rfl (E_iload_n dX11_power_2 rfl (E_bipush (v := 26) dX11_power_3 (by decide) (E_irem dX11_power_5 (by decide) (E_istore (ls2 := [some (.ref 67), some (.int p1), some (.long (1 : Int64)), none, some (.int (iRem p1 26))]) dX11_power_6 (by decide) rfl q)))))) ?_
  refine P_less [none, none, some (.long (1 : Int64)), none, some (.int (iRem p1 26))] (And.intro rfl (And.intro rfl trivial)) ?_
  refine P_loop (fun s1 => [none, none, some (.long s1.1), none, some (.int s1.2)]) (fun _ => σ) (fun s1 => ?_) _ (((1 : Int64), iRem p1 26))
  unfold b_X11_power_8
  refine P_l (fun hJ _ _ q => E_iload dX11_power_8 rfl (E_bipush (v := 25) dX11_power_10 (by decide) q)) ?_
  refine P_if (fun hJ _ _ h1 h2 => E_icmp_ge 27 dX11_power_12 (by decide) h1 h2) ?_ ?_
  · skip
    refine P_l (fun hJ _ _ q => E_lload_n dX11_power_27 rfl q) ?_
    exact P_inl (P_retr (fun _ _ => E_lret rfl dX11_power_28))
  · skip
    refine P_l (fun hJ _ _ q => E_lload_n dX11_power_15 rfl (E_ldc2 dX11_power_16 kcX11_223 (E_lmul dX11_power_19 (E_lstore_n (ls2 := [none, none, some (.long (s1.1 * (3 : Int64))), none, some (.int s1.2)]) dX11_power_20 (by decide) rfl (E_iinc (v := 1) (ls2 := [none, none, some (.long (s1.1 * (3 : Int64))), none, some (.int (s1.2 + 1))]) dX11_power_21 rfl (by decide) (by decide) rfl (E_goto 8 dX11_power_24 (by decide) q)))))) ?_
    exact P_back ((s1.1 * (3 : Int64), s1.2 + 1))

def b_X11_code_51 (σ : rS) (x1 : Int32) (x2 : Int32) (s3 : Int32) : Option (Int32 ⊕ (Int32)) := if inB s3 16 then (oJoin (if (rI σ 89 (s3 : Int32).toNatClampNeg) = x1 then (some (.inr s3)) else (some (.inl (.inr (s3 + 1))))) fun j5 => if inB j5 16 then (if (rI σ 90 (j5 : Int32).toNatClampNeg) = x2 then (some (.inl j5)) else (some (.inr (j5 + 1)))) else none) else none
def f_X11_code (σ : rS) (p1 : Int32) (p2 : Int32) (p3 : Int32) : Option Int32 := oLet ((if p2 ≤ p1 then p2 else p1 : Int32) : Int32) fun x1 => oLet ((if p2 ≤ p1 then p1 else p2 : Int32) : Int32) fun x2 => if x1 = 0 then (some x2) else (if (if x1 = (rI σ 67 2) then (if p3 = 0 then true else false) else true) = true then (oLoop (b_X11_code_51 σ x1 x2) oFuel 5) else (some 15))
set_option maxRecDepth 20000 in
set_option maxHeartbeats 2000000 in
theorem ok_X11_code {σ : rS} {p1 : Int32} {p2 : Int32} {p3 : Int32}   : rFr Sy yX11_code mX11_code 0 [.ref 67, .int p1, .int p2, .int p3] σ (fun v => some (.int v)) (f_X11_code σ p1 p2 p3) := by
  refine rFr_of (ls := [some (.ref 67), some (.int p1), some (.int p2), some (.int p3), none, none, none]) yfX11_code rfl (Nat.le_of_ble_eq_true rfl) (fun o τ => ?_)
  unfold f_X11_code
  refine P_l (fun hJ _ _ q => E_iload_n dX11_code_0 rfl (E_iload_n dX11_code_1 rfl q)) ?_
  refine P_l (pc2 := 10) (ls2 := [some (.ref 67), some (.int p1), some (.int p2), some (.int p3), none, none, none]) (st2 := [.int ((if p2 ≤ p1 then p2 else p1 : Int32))]) (fun hJ _ _ hq => ?_) ?_
  · skip
    refine E_icmp_ge 9 dX11_code_2 (by decide) (fun c_2_0 => ?_) (fun c_2_0 => ?_)
    · skip
      refine E_iload_n dX11_code_9 rfl ?_
      simp only [if_pos c_2_0] at hq
      exact hq
    · skip
      refine E_iload_n dX11_code_5 rfl ?_
      refine E_goto 10 dX11_code_6 (by decide) ?_
      simp only [if_neg c_2_0] at hq
      exact hq
  · skip
    refine P_l (fun hJ _ _ q => E_istore (ls2 := [some (.ref 67), some (.int p1), some (.int p2), some (.int p3), some (.int ((if p2 ≤ p1 then p2 else p1 : Int32))), none, none]) dX11_code_10 (by decide) rfl q) ?_
    refine P_v ((if p2 ≤ p1 then p2 else p1 : Int32)) (fun x => [some (.ref 67), some (.int p1), some (.int p2), some (.int p3), some (.int x), none, none]) (fun x1 => ?_)
    refine P_l (fun hJ _ _ q => E_iload_n dX11_code_12 rfl (E_iload_n dX11_code_13 rfl q)) ?_
    refine P_l (pc2 := 22) (ls2 := [some (.ref 67), none, none, some (.int p3), some (.int x1), none, none]) (st2 := [.int ((if p2 ≤ p1 then p1 else p2 : Int32))]) (fun hJ _ _ hq => ?_) ?_
    · skip
      refine E_icmp_ge 21 dX11_code_14 (by decide) (fun c_14_0 => ?_) (fun c_14_0 => ?_)
      · skip
        refine E_iload_n dX11_code_21 rfl ?_
        simp only [if_pos c_14_0] at hq
        exact E_less (ls2 := [some (.ref 67), none, none, some (.int p3), some (.int x1), none, none]) hq (rLe_at [some (.ref 67), none, none, some (.int p3), some (.int x1), none, none] [some (.ref 67), some (.int p1), some (.int p2), some (.int p3), some (.int x1), none, none] (And.intro rfl (And.intro rfl (And.intro rfl trivial))))
      · skip
        refine E_iload_n dX11_code_17 rfl ?_
        refine E_goto 22 dX11_code_18 (by decide) ?_
        simp only [if_neg c_14_0] at hq
        exact E_less (ls2 := [some (.ref 67), none, none, some (.int p3), some (.int x1), none, none]) hq (rLe_at [some (.ref 67), none, none, some (.int p3), some (.int x1), none, none] [some (.ref 67), some (.int p1), some (.int p2), some (.int p3), some (.int x1), none, none] (And.intro rfl (And.intro rfl (And.intro rfl trivial))))
    · skip
      refine P_l (fun hJ _ _ q => E_istore (ls2 := [some (.ref 67), none, none, some (.int p3), some (.int x1), some (.int ((if p2 ≤ p1 then p1 else p2 : Int32))), none]) dX11_code_22 (by decide) rfl q) ?_
      refine P_v ((if p2 ≤ p1 then p1 else p2 : Int32)) (fun x => [some (.ref 67), none, none, some (.int p3), some (.int x1), some (.int x), none]) (fun x2 => ?_)
      refine P_l (fun hJ _ _ q => E_iload dX11_code_24 rfl q) ?_
      refine P_if (fun hJ _ _ h1 h2 => E_if_ne 32 dX11_code_26 (by decide) h2 h1) ?_ ?_
      · skip
        refine P_l (fun hJ _ _ q => E_iload dX11_code_29 rfl q) ?_
        exact P_retr (fun _ _ => E_iret rfl dX11_code_31)
      · skip
        refine P_l (fun hJ _ _ q => E_iload dX11_code_32 rfl (E_aload_n dX11_code_34 rfl (E_getI clX11 2 (by decide) flX11_15 (Or.inl rfl) dX11_code_35 (kd67 hJ.1.1) q))) ?_
        refine P_if (c := (if x1 = (rI σ 67 2) then (if p3 = 0 then true else false) else true) = true) (pc1 := 48) (ls1 := [some (.ref 67), none, none, some (.int p3), some (.int x1), some (.int x2), none]) (st1 := []) (pc2 := 45) (ls2 := [some (.ref 67), none, none, some (.int p3), some (.int x1), some (.int x2), none]) (st2 := []) (fun hJ _ _ hX hY => ?_) ?_ ?_
        · skip
          refine E_icmp_ne 48 dX11_code_38 (by decide) (fun c_38_0 => ?_) (fun c_38_0 => ?_)
          · skip
            exact hX (by simp only [if_neg c_38_0])
          · skip
            refine E_iload_n dX11_code_41 rfl ?_
            refine E_if_eq 48 dX11_code_42 (by decide) (fun c_42_1 => ?_) (fun c_42_1 => ?_)
            · skip
              exact hX (by simp only [if_pos c_38_0, if_pos c_42_1])
            · skip
              exact hY (by simp only [if_pos c_38_0, if_neg c_42_1]; exact Bool.false_ne_true)
        · skip
          refine P_l (fun hJ _ _ q => E_iconst (v := 5) dX11_code_48 (by decide) (E_istore (ls2 := [some (.ref 67), none, none, some (.int p3), some (.int x1), some (.int x2), some (.int 5)]) dX11_code_49 (by decide) rfl q)) ?_
          refine P_less [some (.ref 67), none, none, none, some (.int x1), some (.int x2), some (.int 5)] (And.intro rfl (And.intro rfl (And.intro rfl (And.intro rfl trivial)))) ?_
          refine P_loop (fun s3 => [some (.ref 67), none, none, none, some (.int x1), some (.int x2), some (.int s3)]) (fun _ => σ) (fun s3 => ?_) _ 5
          unfold b_X11_code_51
          refine P_l (fun hJ _ _ q => E_aload_n dX11_code_51 rfl (E_getR (b := 89) clX11 38 (by decide) flX11_100 (Or.inr ⟨_, rfl⟩) dX11_code_52 (kd67 hJ.1.1) (rf67_38 hJ.1.1) (by decide) (E_iload dX11_code_55 rfl q))) ?_
          refine P_g (fun g4 => ?_)
          refine P_l (fun hJ _ _ q => E_iald dX11_code_57 (kd89 hJ.1.1) (inB_vp g4) (E_iload dX11_code_58 rfl q)) ?_
          refine P_join (pc2 := 63) (fun j5 => [some (.ref 67), none, none, none, some (.int x1), some (.int x2), some (.int j5)]) (fun j5 => []) (fun _ => σ) ?_ (fun j5 => ?_)
          · skip
            refine P_if (fun hJ _ _ h1 h2 => E_icmp_ne 75 dX11_code_60 (by decide) h2 h1) ?_ ?_
            · skip
              exact P_back s3
            · skip
              refine P_l (fun hJ _ _ q => E_iinc (v := 1) (ls2 := [some (.ref 67), none, none, none, some (.int x1), some (.int x2), some (.int (s3 + 1))]) dX11_code_75 rfl (by decide) (by decide) rfl (E_goto 51 dX11_code_78 (by decide) q)) ?_
              exact P_inl (P_back (s3 + 1))
          · skip
            refine P_l (fun hJ _ _ q => E_aload_n dX11_code_63 rfl (E_getR (b := 90) clX11 39 (by decide) flX11_103 (Or.inr ⟨_, rfl⟩) dX11_code_64 (kd67 hJ.1.1) (rf67_39 hJ.1.1) (by decide) (E_iload dX11_code_67 rfl q))) ?_
            refine P_g (fun g6 => ?_)
            refine P_l (fun hJ _ _ q => E_iald dX11_code_69 (kd90 hJ.1.1) (inB_vp g6) (E_iload dX11_code_70 rfl q)) ?_
            refine P_if (fun hJ _ _ h1 h2 => E_icmp_eq 81 dX11_code_72 (by decide) h1 h2) ?_ ?_
            · skip
              refine P_l (fun hJ _ _ q => E_iload dX11_code_81 rfl q) ?_
              exact P_inl (P_retr (fun _ _ => E_iret rfl dX11_code_83))
            · skip
              refine P_l (fun hJ _ _ q => E_iinc (v := 1) (ls2 := [some (.ref 67), none, none, none, some (.int x1), some (.int x2), some (.int (j5 + 1))]) dX11_code_75 rfl (by decide) (by decide) rfl (E_goto 51 dX11_code_78 (by decide) q)) ?_
              exact P_back (j5 + 1)
        · skip
          refine P_l (fun hJ _ _ q => E_bipush (v := 15) dX11_code_45 (by decide) q) ?_
          exact P_retr (fun _ _ => E_iret rfl dX11_code_47)

def f_X11_option (σ : rS) (p1 : Int32) (p2 : Int32) : Option (Unit × rS) := if inB (rI σ 67 65) 64 then (oLet (wI σ 110 (rI σ 67 65 : Int32).toNatClampNeg p1) fun σ2 => if inB (rI σ2 67 65) 64 then (oLet (wI σ2 111 (rI σ2 67 65 : Int32).toNatClampNeg p2) fun σ4 => oLet (wI σ4 67 65 ((rI σ4 67 65) + 1)) fun σ5 => some (((), σ5))) else none) else none
set_option maxRecDepth 20000 in
set_option maxHeartbeats 2000000 in
theorem ok_X11_option {σ : rS} {p1 : Int32} {p2 : Int32}   : rFn Sy yX11_option mX11_option 0 [.ref 67, .int p1, .int p2] σ 0 0 (fun _ => .inl none) (f_X11_option σ p1 p2) := by
  refine rF_of (ls := [some (.ref 67), some (.int p1), some (.int p2)]) yfX11_option rfl (Nat.le_of_ble_eq_true rfl) (fun o τ => ?_)
  unfold f_X11_option
  refine P_l (fun hJ _ _ q => E_aload_n dX11_option_0 rfl (E_getR (b := 110) clX11 66 (by decide) flX11_164 (Or.inr ⟨_, rfl⟩) dX11_option_1 (kd67 hJ.1.1) (rf67_66 hJ.1.1) (by decide) (E_aload_n dX11_option_4 rfl (E_getI clX11 65 (by decide) flX11_192 (Or.inl rfl) dX11_option_5 (kd67 hJ.1.1) (E_iload_n dX11_option_8 rfl q))))) ?_
  refine P_g (fun g1 => ?_)
  refine P_w (fun hJ _ _ q => E_iast dX11_option_9 (kd110 hJ.1.1) (by decide) (inB_vp g1) q) (fun hJ => Sy_wI hJ.1) rfl rfl rfl (fun σ2 hσ2 => ?_)
  refine P_l (fun hJ _ _ q => E_aload_n dX11_option_10 rfl (E_getR (b := 111) clX11 67 (by decide) flX11_167 (Or.inr ⟨_, rfl⟩) dX11_option_11 (kd67 hJ.1.1) (rf67_67 hJ.1.1) (by decide) (E_aload_n dX11_option_14 rfl (E_getI clX11 65 (by decide) flX11_192 (Or.inl rfl) dX11_option_15 (kd67 hJ.1.1) (E_iload_n dX11_option_18 rfl q))))) ?_
  refine P_g (fun g3 => ?_)
  refine P_w (fun hJ _ _ q => E_iast dX11_option_19 (kd111 hJ.1.1) (by decide) (inB_vp g3) q) (fun hJ => Sy_wI hJ.1) rfl rfl rfl (fun σ4 hσ4 => ?_)
  refine P_l (fun hJ _ _ q => E_aload_n dX11_option_20 rfl (E_dup dX11_option_21 rfl (E_getI clX11 65 (by decide) flX11_192 (Or.inl rfl) dX11_option_22 (kd67 hJ.1.1) (E_iconst (v := 1) dX11_option_25 (by decide) (E_iadd dX11_option_26 q))))) ?_
  refine P_w (fun hJ _ _ q => E_putI clX11 65 (by decide) flX11_192 (Or.inl rfl) rfl dX11_option_27 (kd67 hJ.1.1) q) (fun hJ => Sy_wI hJ.1) rfl rfl rfl (fun σ5 hσ5 => ?_)
  exact P_ret (fun _ _ => E_vret rfl dX11_option_30)

def v_X11_on (σ : rS) (p1 : Int32) : Int32 := if (rI σ 67 2) ≤ p1 then (rI σ 67 2) else (p1 + 1)
set_option maxRecDepth 20000 in
theorem ok_X11_on {σ : rS} {p1 : Int32}  (hJ : J Sy σ)  : rMet yX11_on mX11_on 0 [.ref 67, .int p1] σ 0 0 (some (.int (v_X11_on σ p1))) σ := by
  refine rMet_of (ls := [some (.ref 67), some (.int p1)]) yfX11_on rfl (Nat.le_of_ble_eq_true rfl) ?_
  refine E_iload_n dX11_on_0 rfl ?_
  refine E_aload_n dX11_on_1 rfl ?_
  refine E_getI clX11 2 (by decide) flX11_15 (Or.inl rfl) dX11_on_2 (kd67 hJ.1.1) ?_
  refine E_icmp_ge 14 dX11_on_5 (by decide) (fun c_5_0 => ?_) (fun c_5_0 => ?_)
  · skip
    refine E_aload_n dX11_on_14 rfl ?_
    refine E_getI clX11 2 (by decide) flX11_15 (Or.inl rfl) dX11_on_15 (kd67 hJ.1.1) ?_
    exact E_iretE rfl dX11_on_18 (by unfold v_X11_on; simp only [if_pos c_5_0]) rfl
  · skip
    refine E_iload_n dX11_on_8 rfl ?_
    refine E_iconst (v := 1) dX11_on_9 (by decide) ?_
    refine E_iadd dX11_on_10 ?_
    refine E_goto 18 dX11_on_11 (by decide) ?_
    exact E_iretE rfl dX11_on_18 (by unfold v_X11_on; simp only [if_neg c_5_0]) rfl

def f_X11_laysOptions (σ : rS) (p1 : Int32) (p2 : Int32) : Option (Unit × rS) := oJoin (if p1 = 15 then (some (.inr (rI σ 67 2))) else (if inB p1 16 then (some (.inr (rI σ 89 (p1 : Int32).toNatClampNeg))) else none)) fun j1 => oJoin (if p1 = 15 then (some (.inr (rI σ 67 2))) else (if inB p1 16 then (some (.inr (rI σ 90 (p1 : Int32).toNatClampNeg))) else none)) fun j3 => oLet ((if j1 = j3 then (if p1 = 15 then 1 else 0) else 1 : Int32) : Int32) fun x5 => oLet ((if j1 = 0 then 1 else (if j1 = (rI σ 67 2) then 1 else 0) : Int32) : Int32) fun x6 => oLet ((if j3 = 0 then 1 else (if j3 = (rI σ 67 2) then 1 else 0) : Int32) : Int32) fun x7 => oLet ((if j1 ≤ 0 then 0 else 1 : Int32) : Int32) fun x8 => oJoin (if (if x6 = 0 then true else (if x7 = 0 then true else false)) = true then (some (.inr σ)) else (oJoin (if p2 = 0 then (some (.inr ((0 : Int32)))) else ((f_X11_code σ ((if p2 = 2 then 1 else 0 : Int32)) 1 0).bind fun v11 => some (.inr v11))) fun j10 => oB (f_X11_option σ j10 p2) fun _ σ13 => some (.inr σ13))) fun j9 => oJoin (if (if p2 ≤ 0 then true else (if j3 ≤ 0 then true else (if x6 = 0 then true else false))) = true then (some (.inr j9)) else ((f_X11_code j9 ((if p2 = 2 then 1 else 0 : Int32)) (v_X11_on j9 j3) ((if (v_X11_on j9 j3) = 1 then 0 else 1 : Int32))).bind fun v15 => oB (f_X11_option j9 v15 (p2 - 1)) fun _ σ17 => some (.inr σ17))) fun j14 => oJoin (if (if p2 ≤ 0 then true else (if x8 = 0 then true else (if x5 = 0 then true else (if x7 = 0 then true else false)))) = true then (some (.inr j14)) else ((f_X11_code j14 ((if p2 = 2 then 1 else 0 : Int32)) (v_X11_on j14 j1) ((if (v_X11_on j14 j1) = 1 then 0 else 1 : Int32))).bind fun v19 => oB (f_X11_option j14 v19 (p2 - 1)) fun _ σ21 => some (.inr σ21))) fun j18 => if (if p2 = 2 then (if x8 = 0 then true else false) else true) = true then (some (((), j18))) else ((f_X11_code j18 (v_X11_on j18 j1) (v_X11_on j18 j3) x5).bind fun v22 => oB (f_X11_option j18 v22 0) fun _ σ24 => some (((), σ24)))
set_option maxRecDepth 20000 in
set_option maxHeartbeats 2000000 in
theorem ok_X11_laysOptions {σ : rS} {p1 : Int32} {p2 : Int32}   : rFn Sy yX11_laysOptions mX11_laysOptions 1 [.ref 67, .int p1, .int p2] σ 0 0 (fun _ => .inl none) (f_X11_laysOptions σ p1 p2) := by
  refine rF_of (ls := [some (.ref 67), some (.int p1), some (.int p2), none, none, none, none, none, none]) yfX11_laysOptions rfl (Nat.le_of_ble_eq_true rfl) (fun o τ => ?_)
  unfold f_X11_laysOptions
  refine P_l (fun hJ _ _ q => E_iload_n dX11_laysOptions_0 rfl (E_bipush (v := 15) dX11_laysOptions_1 (by decide) q)) ?_
  refine P_join (pc2 := 19) (fun j1 => [some (.ref 67), some (.int p1), some (.int p2), none, none, none, none, none, none]) (fun j1 => [.int j1]) (fun _ => σ) ?_ (fun j1 => ?_)
  · skip
    refine P_if (fun hJ _ _ h1 h2 => E_icmp_ne 13 dX11_laysOptions_3 (by decide) h2 h1) ?_ ?_
    · skip
      refine P_l (fun hJ _ _ q => E_aload_n dX11_laysOptions_6 rfl (E_getI clX11 2 (by decide) flX11_15 (Or.inl rfl) dX11_laysOptions_7 (kd67 hJ.1.1) (E_goto 19 dX11_laysOptions_10 (by decide) q))) ?_
      exact P_back (rI σ 67 2)
    · skip
      refine P_l (fun hJ _ _ q => E_aload_n dX11_laysOptions_13 rfl (E_getR (b := 89) clX11 38 (by decide) flX11_100 (Or.inr ⟨_, rfl⟩) dX11_laysOptions_14 (kd67 hJ.1.1) (rf67_38 hJ.1.1) (by decide) (E_iload_n dX11_laysOptions_17 rfl q))) ?_
      refine P_g (fun g2 => ?_)
      refine P_l (fun hJ _ _ q => E_iald dX11_laysOptions_18 (kd89 hJ.1.1) (inB_vp g2) q) ?_
      exact P_back (rI σ 89 (p1 : Int32).toNatClampNeg)
  · skip
    refine P_l (fun hJ _ _ q => E_istore_n (ls2 := [some (.ref 67), some (.int p1), some (.int p2), some (.int j1), none, none, none, none, none]) dX11_laysOptions_19 (by decide) rfl (E_iload_n dX11_laysOptions_20 rfl (E_bipush (v := 15) dX11_laysOptions_21 (by decide) q))) ?_
    refine P_join (pc2 := 39) (fun j3 => [some (.ref 67), some (.int p1), some (.int p2), some (.int j1), none, none, none, none, none]) (fun j3 => [.int j3]) (fun _ => σ) ?_ (fun j3 => ?_)
    · skip
      refine P_if (fun hJ _ _ h1 h2 => E_icmp_ne 33 dX11_laysOptions_23 (by decide) h2 h1) ?_ ?_
      · skip
        refine P_l (fun hJ _ _ q => E_aload_n dX11_laysOptions_26 rfl (E_getI clX11 2 (by decide) flX11_15 (Or.inl rfl) dX11_laysOptions_27 (kd67 hJ.1.1) (E_goto 39 dX11_laysOptions_30 (by decide) q))) ?_
        exact P_back (rI σ 67 2)
      · skip
        refine P_l (fun hJ _ _ q => E_aload_n dX11_laysOptions_33 rfl (E_getR (b := 90) clX11 39 (by decide) flX11_103 (Or.inr ⟨_, rfl⟩) dX11_laysOptions_34 (kd67 hJ.1.1) (rf67_39 hJ.1.1) (by decide) (E_iload_n dX11_laysOptions_37 rfl q))) ?_
        refine P_g (fun g4 => ?_)
        refine P_l (fun hJ _ _ q => E_iald dX11_laysOptions_38 (kd90 hJ.1.1) (inB_vp g4) q) ?_
        exact P_back (rI σ 90 (p1 : Int32).toNatClampNeg)
    · skip
      refine P_l (fun hJ _ _ q => E_istore (ls2 := [some (.ref 67), some (.int p1), some (.int p2), some (.int j1), some (.int j3), none, none, none, none]) dX11_laysOptions_39 (by decide) rfl (E_iload_n dX11_laysOptions_41 rfl (E_iload dX11_laysOptions_42 rfl q))) ?_
      refine P_l (pc2 := 58) (ls2 := [some (.ref 67), none, some (.int p2), some (.int j1), some (.int j3), none, none, none, none]) (st2 := [.int ((if j1 = j3 then (if p1 = 15 then 1 else 0) else 1 : Int32))]) (fun hJ _ _ hq => ?_) ?_
      · skip
        refine E_icmp_ne 53 dX11_laysOptions_44 (by decide) (fun c_44_0 => ?_) (fun c_44_0 => ?_)
        · skip
          refine E_iconst (v := 1) dX11_laysOptions_53 (by decide) ?_
          refine E_goto 58 dX11_laysOptions_54 (by decide) ?_
          simp only [if_neg c_44_0] at hq
          exact E_less (ls2 := [some (.ref 67), none, some (.int p2), some (.int j1), some (.int j3), none, none, none, none]) hq (rLe_at [some (.ref 67), none, some (.int p2), some (.int j1), some (.int j3), none, none, none, none] [some (.ref 67), some (.int p1), some (.int p2), some (.int j1), some (.int j3), none, none, none, none] (And.intro rfl (And.intro rfl (And.intro rfl (And.intro rfl trivial)))))
        · skip
          refine E_iload_n dX11_laysOptions_47 rfl ?_
          refine E_bipush (v := 15) dX11_laysOptions_48 (by decide) ?_
          refine E_icmp_ne 57 dX11_laysOptions_50 (by decide) (fun c_50_1 => ?_) (fun c_50_1 => ?_)
          · skip
            refine E_iconst (v := 0) dX11_laysOptions_57 (by decide) ?_
            simp only [if_pos c_44_0, if_neg c_50_1] at hq
            exact E_less (ls2 := [some (.ref 67), none, some (.int p2), some (.int j1), some (.int j3), none, none, none, none]) hq (rLe_at [some (.ref 67), none, some (.int p2), some (.int j1), some (.int j3), none, none, none, none] [some (.ref 67), some (.int p1), some (.int p2), some (.int j1), some (.int j3), none, none, none, none] (And.intro rfl (And.intro rfl (And.intro rfl (And.intro rfl trivial)))))
          · skip
            refine E_iconst (v := 1) dX11_laysOptions_53 (by decide) ?_
            refine E_goto 58 dX11_laysOptions_54 (by decide) ?_
            simp only [if_pos c_44_0, if_pos c_50_1] at hq
            exact E_less (ls2 := [some (.ref 67), none, some (.int p2), some (.int j1), some (.int j3), none, none, none, none]) hq (rLe_at [some (.ref 67), none, some (.int p2), some (.int j1), some (.int j3), none, none, none, none] [some (.ref 67), some (.int p1), some (.int p2), some (.int j1), some (.int j3), none, none, none, none] (And.intro rfl (And.intro rfl (And.intro rfl (And.intro rfl trivial)))))
      · skip
        refine P_l (fun hJ _ _ q => E_istore (ls2 := [some (.ref 67), none, some (.int p2), some (.int j1), some (.int j3), some (.int ((if j1 = j3 then (if p1 = 15 then 1 else 0) else 1 : Int32))), none, none, none]) dX11_laysOptions_58 (by decide) rfl q) ?_
        refine P_v ((if j1 = j3 then (if p1 = 15 then 1 else 0) else 1 : Int32)) (fun x => [some (.ref 67), none, some (.int p2), some (.int j1), some (.int j3), some (.int x), none, none, none]) (fun x5 => ?_)
        refine P_l (fun hJ _ _ q => E_iload_n dX11_laysOptions_60 rfl q) ?_
        refine P_l (pc2 := 77) (ls2 := [some (.ref 67), none, some (.int p2), some (.int j1), some (.int j3), some (.int x5), none, none, none]) (st2 := [.int ((if j1 = 0 then 1 else (if j1 = (rI σ 67 2) then 1 else 0) : Int32))]) (fun hJ _ _ hq => ?_) ?_
        · skip
          refine E_if_eq 72 dX11_laysOptions_61 (by decide) (fun c_61_0 => ?_) (fun c_61_0 => ?_)
          · skip
            refine E_iconst (v := 1) dX11_laysOptions_72 (by decide) ?_
            refine E_goto 77 dX11_laysOptions_73 (by decide) ?_
            simp only [if_pos c_61_0] at hq
            exact hq
          · skip
            refine E_iload_n dX11_laysOptions_64 rfl ?_
            refine E_aload_n dX11_laysOptions_65 rfl ?_
            refine E_getI clX11 2 (by decide) flX11_15 (Or.inl rfl) dX11_laysOptions_66 (kd67 hJ.1.1) ?_
            refine E_icmp_ne 76 dX11_laysOptions_69 (by decide) (fun c_69_1 => ?_) (fun c_69_1 => ?_)
            · skip
              refine E_iconst (v := 0) dX11_laysOptions_76 (by decide) ?_
              simp only [if_neg c_61_0, if_neg c_69_1] at hq
              exact hq
            · skip
              refine E_iconst (v := 1) dX11_laysOptions_72 (by decide) ?_
              refine E_goto 77 dX11_laysOptions_73 (by decide) ?_
              simp only [if_neg c_61_0, if_pos c_69_1] at hq
              exact hq
        · skip
          refine P_l (fun hJ _ _ q => E_istore (ls2 := [some (.ref 67), none, some (.int p2), some (.int j1), some (.int j3), some (.int x5), some (.int ((if j1 = 0 then 1 else (if j1 = (rI σ 67 2) then 1 else 0) : Int32))), none, none]) dX11_laysOptions_77 (by decide) rfl q) ?_
          refine P_v ((if j1 = 0 then 1 else (if j1 = (rI σ 67 2) then 1 else 0) : Int32)) (fun x => [some (.ref 67), none, some (.int p2), some (.int j1), some (.int j3), some (.int x5), some (.int x), none, none]) (fun x6 => ?_)
          refine P_l (fun hJ _ _ q => E_iload dX11_laysOptions_79 rfl q) ?_
          refine P_l (pc2 := 98) (ls2 := [some (.ref 67), none, some (.int p2), some (.int j1), some (.int j3), some (.int x5), some (.int x6), none, none]) (st2 := [.int ((if j3 = 0 then 1 else (if j3 = (rI σ 67 2) then 1 else 0) : Int32))]) (fun hJ _ _ hq => ?_) ?_
          · skip
            refine E_if_eq 93 dX11_laysOptions_81 (by decide) (fun c_81_0 => ?_) (fun c_81_0 => ?_)
            · skip
              refine E_iconst (v := 1) dX11_laysOptions_93 (by decide) ?_
              refine E_goto 98 dX11_laysOptions_94 (by decide) ?_
              simp only [if_pos c_81_0] at hq
              exact hq
            · skip
              refine E_iload dX11_laysOptions_84 rfl ?_
              refine E_aload_n dX11_laysOptions_86 rfl ?_
              refine E_getI clX11 2 (by decide) flX11_15 (Or.inl rfl) dX11_laysOptions_87 (kd67 hJ.1.1) ?_
              refine E_icmp_ne 97 dX11_laysOptions_90 (by decide) (fun c_90_1 => ?_) (fun c_90_1 => ?_)
              · skip
                refine E_iconst (v := 0) dX11_laysOptions_97 (by decide) ?_
                simp only [if_neg c_81_0, if_neg c_90_1] at hq
                exact hq
              · skip
                refine E_iconst (v := 1) dX11_laysOptions_93 (by decide) ?_
                refine E_goto 98 dX11_laysOptions_94 (by decide) ?_
                simp only [if_neg c_81_0, if_pos c_90_1] at hq
                exact hq
          · skip
            refine P_l (fun hJ _ _ q => E_istore (ls2 := [some (.ref 67), none, some (.int p2), some (.int j1), some (.int j3), some (.int x5), some (.int x6), some (.int ((if j3 = 0 then 1 else (if j3 = (rI σ 67 2) then 1 else 0) : Int32))), none]) dX11_laysOptions_98 (by decide) rfl q) ?_
            refine P_v ((if j3 = 0 then 1 else (if j3 = (rI σ 67 2) then 1 else 0) : Int32)) (fun x => [some (.ref 67), none, some (.int p2), some (.int j1), some (.int j3), some (.int x5), some (.int x6), some (.int x), none]) (fun x7 => ?_)
            refine P_l (fun hJ _ _ q => E_iload_n dX11_laysOptions_100 rfl q) ?_
            refine P_l (pc2 := 109) (ls2 := [some (.ref 67), none, some (.int p2), some (.int j1), some (.int j3), some (.int x5), some (.int x6), some (.int x7), none]) (st2 := [.int ((if j1 ≤ 0 then 0 else 1 : Int32))]) (fun hJ _ _ hq => ?_) ?_
            · skip
              refine E_if_le 108 dX11_laysOptions_101 (by decide) (fun c_101_0 => ?_) (fun c_101_0 => ?_)
              · skip
                refine E_iconst (v := 0) dX11_laysOptions_108 (by decide) ?_
                simp only [if_pos c_101_0] at hq
                exact hq
              · skip
                refine E_iconst (v := 1) dX11_laysOptions_104 (by decide) ?_
                refine E_goto 109 dX11_laysOptions_105 (by decide) ?_
                simp only [if_neg c_101_0] at hq
                exact hq
            · skip
              refine P_l (fun hJ _ _ q => E_istore (ls2 := [some (.ref 67), none, some (.int p2), some (.int j1), some (.int j3), some (.int x5), some (.int x6), some (.int x7), some (.int ((if j1 ≤ 0 then 0 else 1 : Int32)))]) dX11_laysOptions_109 (by decide) rfl q) ?_
              refine P_v ((if j1 ≤ 0 then 0 else 1 : Int32)) (fun x => [some (.ref 67), none, some (.int p2), some (.int j1), some (.int j3), some (.int x5), some (.int x6), some (.int x7), some (.int x)]) (fun x8 => ?_)
              refine P_l (fun hJ _ _ q => E_iload dX11_laysOptions_111 rfl q) ?_
              refine P_join (pc2 := 150) (fun j9 => [some (.ref 67), none, some (.int p2), some (.int j1), some (.int j3), some (.int x5), some (.int x6), some (.int x7), some (.int x8)]) (fun j9 => []) (fun j9 => j9) ?_ (fun j9 => ?_)
              · skip
                refine P_if (c := (if x6 = 0 then true else (if x7 = 0 then true else false)) = true) (pc1 := 150) (ls1 := [some (.ref 67), none, some (.int p2), some (.int j1), some (.int j3), some (.int x5), some (.int x6), some (.int x7), some (.int x8)]) (st1 := []) (pc2 := 121) (ls2 := [some (.ref 67), none, some (.int p2), some (.int j1), some (.int j3), some (.int x5), some (.int x6), some (.int x7), some (.int x8)]) (st2 := []) (fun hJ _ _ hX hY => ?_) ?_ ?_
                · skip
                  refine E_if_eq 150 dX11_laysOptions_113 (by decide) (fun c_113_0 => ?_) (fun c_113_0 => ?_)
                  · skip
                    exact hX (by simp only [if_pos c_113_0])
                  · skip
                    refine E_iload dX11_laysOptions_116 rfl ?_
                    refine E_if_eq 150 dX11_laysOptions_118 (by decide) (fun c_118_1 => ?_) (fun c_118_1 => ?_)
                    · skip
                      exact hX (by simp only [if_neg c_113_0, if_pos c_118_1])
                    · skip
                      exact hY (by simp only [if_neg c_113_0, if_neg c_118_1]; exact Bool.false_ne_true)
                · skip
                  exact P_back σ
                · skip
                  refine P_l (fun hJ _ _ q => E_aload_n dX11_laysOptions_121 rfl (E_iload_n dX11_laysOptions_122 rfl q)) ?_
                  refine P_join (pc2 := 146) (fun j10 => [some (.ref 67), none, some (.int p2), some (.int j1), some (.int j3), some (.int x5), some (.int x6), some (.int x7), some (.int x8)]) (fun j10 => [.int j10, .ref 67]) (fun _ => σ) ?_ (fun j10 => ?_)
                  · skip
                    refine P_if (fun hJ _ _ h1 h2 => E_if_ne 130 dX11_laysOptions_123 (by decide) h2 h1) ?_ ?_
                    · skip
                      refine P_l (fun hJ _ _ q => E_iconst (v := 0) dX11_laysOptions_126 (by decide) (E_goto 146 dX11_laysOptions_127 (by decide) q)) ?_
                      exact P_back ((0 : Int32))
                    · skip
                      refine P_l (fun hJ _ _ q => E_aload_n dX11_laysOptions_130 rfl (E_iload_n dX11_laysOptions_131 rfl (E_iconst (v := 2) dX11_laysOptions_132 (by decide) q))) ?_
                      refine P_l (pc2 := 141) (ls2 := [some (.ref 67), none, some (.int p2), some (.int j1), some (.int j3), some (.int x5), some (.int x6), some (.int x7), some (.int x8)]) (st2 := [.int ((if p2 = 2 then 1 else 0 : Int32)), .ref 67, .ref 67]) (fun hJ _ _ hq => ?_) ?_
                      · skip
                        refine E_icmp_ne 140 dX11_laysOptions_133 (by decide) (fun c_133_0 => ?_) (fun c_133_0 => ?_)
                        · skip
                          refine E_iconst (v := 0) dX11_laysOptions_140 (by decide) ?_
                          simp only [if_neg c_133_0] at hq
                          exact hq
                        · skip
                          refine E_iconst (v := 1) dX11_laysOptions_136 (by decide) ?_
                          refine E_goto 141 dX11_laysOptions_137 (by decide) ?_
                          simp only [if_pos c_133_0] at hq
                          exact hq
                      · skip
                        refine P_l (fun hJ _ _ q => E_iconst (v := 1) dX11_laysOptions_141 (by decide) (E_iconst (v := 0) dX11_laysOptions_142 (by decide) q)) ?_
                        refine P_callr (t := fun v => some (.int v)) (st2 := fun v => .int v :: [.ref 67]) (fun hJ => (ok_X11_code (σ := σ) (p1 := (if p2 = 2 then 1 else 0 : Int32)) (p2 := 1) (p3 := 0) )) (fun hJ _ _ v hM q => E_callV (as := [.int ((if p2 = 2 then 1 else 0 : Int32)), .int 1, .int 0]) (b := 67) (st := [.ref 67]) hM (by decide) yfX11_code mlX11_195 imX11_code seX11_code clX11 (kd67 hJ.1.1) rfl (Nat.le_of_ble_eq_true rfl) rfl dX11_laysOptions_143 q) (fun v11 => ?_)
                        exact P_back v11
                  · skip
                    refine P_l (fun hJ _ _ q => E_iload_n dX11_laysOptions_146 rfl q) ?_
                    refine P_call (t := fun _ => none) (st2 := fun _ => []) (kc2 := 0) (ks2 := 0) (fun hJ => (ok_X11_option (σ := σ) (p1 := j10) (p2 := p2) )) (fun hJ _ _ _ _ v τ1 hM q => E_callV (as := [.int j10, .int p2]) (b := 67) (st := []) hM (by decide) yfX11_option mlX11_199 imX11_option seX11_option clX11 (kd67 hJ.1.1) rfl (Nat.le_of_ble_eq_true rfl) rfl dX11_laysOptions_147 q) (by decide) (by decide) (fun v12 σ13 => ?_)
                    exact P_back σ13
              · skip
                refine P_l (fun hJ _ _ q => E_iload_n dX11_laysOptions_150 rfl q) ?_
                refine P_join (pc2 := 206) (fun j14 => [some (.ref 67), none, some (.int p2), some (.int j1), some (.int j3), some (.int x5), none, some (.int x7), some (.int x8)]) (fun j14 => []) (fun j14 => j14) ?_ (fun j14 => ?_)
                · skip
                  refine P_if (c := (if p2 ≤ 0 then true else (if j3 ≤ 0 then true else (if x6 = 0 then true else false))) = true) (pc1 := 206) (ls1 := [some (.ref 67), none, some (.int p2), some (.int j1), some (.int j3), some (.int x5), some (.int x6), some (.int x7), some (.int x8)]) (st1 := []) (pc2 := 164) (ls2 := [some (.ref 67), none, some (.int p2), some (.int j1), some (.int j3), some (.int x5), some (.int x6), some (.int x7), some (.int x8)]) (st2 := []) (fun hJ _ _ hX hY => ?_) ?_ ?_
                  · skip
                    refine E_if_le 206 dX11_laysOptions_151 (by decide) (fun c_151_0 => ?_) (fun c_151_0 => ?_)
                    · skip
                      exact hX (by simp only [if_pos c_151_0])
                    · skip
                      refine E_iload dX11_laysOptions_154 rfl ?_
                      refine E_if_le 206 dX11_laysOptions_156 (by decide) (fun c_156_1 => ?_) (fun c_156_1 => ?_)
                      · skip
                        exact hX (by simp only [if_neg c_151_0, if_pos c_156_1])
                      · skip
                        refine E_iload dX11_laysOptions_159 rfl ?_
                        refine E_if_eq 206 dX11_laysOptions_161 (by decide) (fun c_161_2 => ?_) (fun c_161_2 => ?_)
                        · skip
                          exact hX (by simp only [if_neg c_151_0, if_neg c_156_1, if_pos c_161_2])
                        · skip
                          exact hY (by simp only [if_neg c_151_0, if_neg c_156_1, if_neg c_161_2]; exact Bool.false_ne_true)
                  · skip
                    refine P_less [some (.ref 67), none, some (.int p2), some (.int j1), some (.int j3), some (.int x5), none, some (.int x7), some (.int x8)] (And.intro rfl (And.intro rfl (And.intro rfl (And.intro rfl (And.intro rfl (And.intro rfl (And.intro rfl trivial))))))) ?_
                    exact P_back j9
                  · skip
                    refine P_l (fun hJ _ _ q => E_aload_n dX11_laysOptions_164 rfl (E_aload_n dX11_laysOptions_165 rfl (E_iload_n dX11_laysOptions_166 rfl (E_iconst (v := 2) dX11_laysOptions_167 (by decide) q)))) ?_
                    refine P_l (pc2 := 176) (ls2 := [some (.ref 67), none, some (.int p2), some (.int j1), some (.int j3), some (.int x5), none, some (.int x7), some (.int x8)]) (st2 := [.int ((if p2 = 2 then 1 else 0 : Int32)), .ref 67, .ref 67]) (fun hJ _ _ hq => ?_) ?_
                    · skip
                      refine E_icmp_ne 175 dX11_laysOptions_168 (by decide) (fun c_168_0 => ?_) (fun c_168_0 => ?_)
                      · skip
                        refine E_iconst (v := 0) dX11_laysOptions_175 (by decide) ?_
                        simp only [if_neg c_168_0] at hq
                        exact E_less (ls2 := [some (.ref 67), none, some (.int p2), some (.int j1), some (.int j3), some (.int x5), none, some (.int x7), some (.int x8)]) hq (rLe_at [some (.ref 67), none, some (.int p2), some (.int j1), some (.int j3), some (.int x5), none, some (.int x7), some (.int x8)] [some (.ref 67), none, some (.int p2), some (.int j1), some (.int j3), some (.int x5), some (.int x6), some (.int x7), some (.int x8)] (And.intro rfl (And.intro rfl (And.intro rfl (And.intro rfl (And.intro rfl (And.intro rfl (And.intro rfl trivial))))))))
                      · skip
                        refine E_iconst (v := 1) dX11_laysOptions_171 (by decide) ?_
                        refine E_goto 176 dX11_laysOptions_172 (by decide) ?_
                        simp only [if_pos c_168_0] at hq
                        exact E_less (ls2 := [some (.ref 67), none, some (.int p2), some (.int j1), some (.int j3), some (.int x5), none, some (.int x7), some (.int x8)]) hq (rLe_at [some (.ref 67), none, some (.int p2), some (.int j1), some (.int j3), some (.int x5), none, some (.int x7), some (.int x8)] [some (.ref 67), none, some (.int p2), some (.int j1), some (.int j3), some (.int x5), some (.int x6), some (.int x7), some (.int x8)] (And.intro rfl (And.intro rfl (And.intro rfl (And.intro rfl (And.intro rfl (And.intro rfl (And.intro rfl trivial))))))))
                    · skip
                      refine P_l (fun hJ _ _ q => E_aload_n dX11_laysOptions_176 rfl (E_iload dX11_laysOptions_177 rfl (E_callV (as := [.int j3]) (b := 67) (st := [.int ((if p2 = 2 then 1 else 0 : Int32)), .ref 67, .ref 67]) (ok_X11_on (σ := j9) (p1 := j3) hJ ) (by decide) yfX11_on mlX11_203 imX11_on seX11_on clX11 (kd67 hJ.1.1) rfl (Nat.le_of_ble_eq_true rfl) rfl dX11_laysOptions_179 (E_aload_n dX11_laysOptions_182 rfl (E_iload dX11_laysOptions_183 rfl (E_callV (as := [.int j3]) (b := 67) (st := [.int (v_X11_on j9 j3), .int ((if p2 = 2 then 1 else 0 : Int32)), .ref 67, .ref 67]) (ok_X11_on (σ := j9) (p1 := j3) hJ ) (by decide) yfX11_on mlX11_203 imX11_on seX11_on clX11 (kd67 hJ.1.1) rfl (Nat.le_of_ble_eq_true rfl) rfl dX11_laysOptions_185 (E_iconst (v := 1) dX11_laysOptions_188 (by decide) q))))))) ?_
                      refine P_l (pc2 := 197) (ls2 := [some (.ref 67), none, some (.int p2), some (.int j1), some (.int j3), some (.int x5), none, some (.int x7), some (.int x8)]) (st2 := [.int ((if (v_X11_on j9 j3) = 1 then 0 else 1 : Int32)), .int (v_X11_on j9 j3), .int ((if p2 = 2 then 1 else 0 : Int32)), .ref 67, .ref 67]) (fun hJ _ _ hq => ?_) ?_
                      · skip
                        refine E_icmp_eq 196 dX11_laysOptions_189 (by decide) (fun c_189_0 => ?_) (fun c_189_0 => ?_)
                        · skip
                          refine E_iconst (v := 0) dX11_laysOptions_196 (by decide) ?_
                          simp only [if_pos c_189_0] at hq
                          exact hq
                        · skip
                          refine E_iconst (v := 1) dX11_laysOptions_192 (by decide) ?_
                          refine E_goto 197 dX11_laysOptions_193 (by decide) ?_
                          simp only [if_neg c_189_0] at hq
                          exact hq
                      · skip
                        refine P_callr (t := fun v => some (.int v)) (st2 := fun v => .int v :: [.ref 67]) (fun hJ => (ok_X11_code (σ := j9) (p1 := (if p2 = 2 then 1 else 0 : Int32)) (p2 := v_X11_on j9 j3) (p3 := (if (v_X11_on j9 j3) = 1 then 0 else 1 : Int32)) )) (fun hJ _ _ v hM q => E_callV (as := [.int ((if p2 = 2 then 1 else 0 : Int32)), .int (v_X11_on j9 j3), .int ((if (v_X11_on j9 j3) = 1 then 0 else 1 : Int32))]) (b := 67) (st := [.ref 67]) hM (by decide) yfX11_code mlX11_195 imX11_code seX11_code clX11 (kd67 hJ.1.1) rfl (Nat.le_of_ble_eq_true rfl) rfl dX11_laysOptions_197 q) (fun v15 => ?_)
                        refine P_l (fun hJ _ _ q => E_iload_n dX11_laysOptions_200 rfl (E_iconst (v := 1) dX11_laysOptions_201 (by decide) (E_isub dX11_laysOptions_202 q))) ?_
                        refine P_call (t := fun _ => none) (st2 := fun _ => []) (kc2 := 0) (ks2 := 0) (fun hJ => (ok_X11_option (σ := j9) (p1 := v15) (p2 := p2 - 1) )) (fun hJ _ _ _ _ v τ1 hM q => E_callV (as := [.int v15, .int (p2 - 1)]) (b := 67) (st := []) hM (by decide) yfX11_option mlX11_199 imX11_option seX11_option clX11 (kd67 hJ.1.1) rfl (Nat.le_of_ble_eq_true rfl) rfl dX11_laysOptions_203 q) (by decide) (by decide) (fun v16 σ17 => ?_)
                        exact P_back σ17
                · skip
                  refine P_l (fun hJ _ _ q => E_iload_n dX11_laysOptions_206 rfl q) ?_
                  refine P_join (pc2 := 265) (fun j18 => [some (.ref 67), none, some (.int p2), some (.int j1), some (.int j3), some (.int x5), none, none, some (.int x8)]) (fun j18 => []) (fun j18 => j18) ?_ (fun j18 => ?_)
                  · skip
                    refine P_if (c := (if p2 ≤ 0 then true else (if x8 = 0 then true else (if x5 = 0 then true else (if x7 = 0 then true else false)))) = true) (pc1 := 265) (ls1 := [some (.ref 67), none, some (.int p2), some (.int j1), some (.int j3), some (.int x5), none, some (.int x7), some (.int x8)]) (st1 := []) (pc2 := 225) (ls2 := [some (.ref 67), none, some (.int p2), some (.int j1), some (.int j3), some (.int x5), none, some (.int x7), some (.int x8)]) (st2 := []) (fun hJ _ _ hX hY => ?_) ?_ ?_
                    · skip
                      refine E_if_le 265 dX11_laysOptions_207 (by decide) (fun c_207_0 => ?_) (fun c_207_0 => ?_)
                      · skip
                        exact hX (by simp only [if_pos c_207_0])
                      · skip
                        refine E_iload dX11_laysOptions_210 rfl ?_
                        refine E_if_eq 265 dX11_laysOptions_212 (by decide) (fun c_212_1 => ?_) (fun c_212_1 => ?_)
                        · skip
                          exact hX (by simp only [if_neg c_207_0, if_pos c_212_1])
                        · skip
                          refine E_iload dX11_laysOptions_215 rfl ?_
                          refine E_if_eq 265 dX11_laysOptions_217 (by decide) (fun c_217_2 => ?_) (fun c_217_2 => ?_)
                          · skip
                            exact hX (by simp only [if_neg c_207_0, if_neg c_212_1, if_pos c_217_2])
                          · skip
                            refine E_iload dX11_laysOptions_220 rfl ?_
                            refine E_if_eq 265 dX11_laysOptions_222 (by decide) (fun c_222_3 => ?_) (fun c_222_3 => ?_)
                            · skip
                              exact hX (by simp only [if_neg c_207_0, if_neg c_212_1, if_neg c_217_2, if_pos c_222_3])
                            · skip
                              exact hY (by simp only [if_neg c_207_0, if_neg c_212_1, if_neg c_217_2, if_neg c_222_3]; exact Bool.false_ne_true)
                    · skip
                      refine P_less [some (.ref 67), none, some (.int p2), some (.int j1), some (.int j3), some (.int x5), none, none, some (.int x8)] (And.intro rfl (And.intro rfl (And.intro rfl (And.intro rfl (And.intro rfl (And.intro rfl trivial)))))) ?_
                      exact P_back j14
                    · skip
                      refine P_l (fun hJ _ _ q => E_aload_n dX11_laysOptions_225 rfl (E_aload_n dX11_laysOptions_226 rfl (E_iload_n dX11_laysOptions_227 rfl (E_iconst (v := 2) dX11_laysOptions_228 (by decide) q)))) ?_
                      refine P_l (pc2 := 237) (ls2 := [some (.ref 67), none, some (.int p2), some (.int j1), some (.int j3), some (.int x5), none, none, some (.int x8)]) (st2 := [.int ((if p2 = 2 then 1 else 0 : Int32)), .ref 67, .ref 67]) (fun hJ _ _ hq => ?_) ?_
                      · skip
                        refine E_icmp_ne 236 dX11_laysOptions_229 (by decide) (fun c_229_0 => ?_) (fun c_229_0 => ?_)
                        · skip
                          refine E_iconst (v := 0) dX11_laysOptions_236 (by decide) ?_
                          simp only [if_neg c_229_0] at hq
                          exact E_less (ls2 := [some (.ref 67), none, some (.int p2), some (.int j1), some (.int j3), some (.int x5), none, none, some (.int x8)]) hq (rLe_at [some (.ref 67), none, some (.int p2), some (.int j1), some (.int j3), some (.int x5), none, none, some (.int x8)] [some (.ref 67), none, some (.int p2), some (.int j1), some (.int j3), some (.int x5), none, some (.int x7), some (.int x8)] (And.intro rfl (And.intro rfl (And.intro rfl (And.intro rfl (And.intro rfl (And.intro rfl trivial)))))))
                        · skip
                          refine E_iconst (v := 1) dX11_laysOptions_232 (by decide) ?_
                          refine E_goto 237 dX11_laysOptions_233 (by decide) ?_
                          simp only [if_pos c_229_0] at hq
                          exact E_less (ls2 := [some (.ref 67), none, some (.int p2), some (.int j1), some (.int j3), some (.int x5), none, none, some (.int x8)]) hq (rLe_at [some (.ref 67), none, some (.int p2), some (.int j1), some (.int j3), some (.int x5), none, none, some (.int x8)] [some (.ref 67), none, some (.int p2), some (.int j1), some (.int j3), some (.int x5), none, some (.int x7), some (.int x8)] (And.intro rfl (And.intro rfl (And.intro rfl (And.intro rfl (And.intro rfl (And.intro rfl trivial)))))))
                      · skip
                        refine P_l (fun hJ _ _ q => E_aload_n dX11_laysOptions_237 rfl (E_iload_n dX11_laysOptions_238 rfl (E_callV (as := [.int j1]) (b := 67) (st := [.int ((if p2 = 2 then 1 else 0 : Int32)), .ref 67, .ref 67]) (ok_X11_on (σ := j14) (p1 := j1) hJ ) (by decide) yfX11_on mlX11_203 imX11_on seX11_on clX11 (kd67 hJ.1.1) rfl (Nat.le_of_ble_eq_true rfl) rfl dX11_laysOptions_239 (E_aload_n dX11_laysOptions_242 rfl (E_iload_n dX11_laysOptions_243 rfl (E_callV (as := [.int j1]) (b := 67) (st := [.int (v_X11_on j14 j1), .int ((if p2 = 2 then 1 else 0 : Int32)), .ref 67, .ref 67]) (ok_X11_on (σ := j14) (p1 := j1) hJ ) (by decide) yfX11_on mlX11_203 imX11_on seX11_on clX11 (kd67 hJ.1.1) rfl (Nat.le_of_ble_eq_true rfl) rfl dX11_laysOptions_244 (E_iconst (v := 1) dX11_laysOptions_247 (by decide) q))))))) ?_
                        refine P_l (pc2 := 256) (ls2 := [some (.ref 67), none, some (.int p2), some (.int j1), some (.int j3), some (.int x5), none, none, some (.int x8)]) (st2 := [.int ((if (v_X11_on j14 j1) = 1 then 0 else 1 : Int32)), .int (v_X11_on j14 j1), .int ((if p2 = 2 then 1 else 0 : Int32)), .ref 67, .ref 67]) (fun hJ _ _ hq => ?_) ?_
                        · skip
                          refine E_icmp_eq 255 dX11_laysOptions_248 (by decide) (fun c_248_0 => ?_) (fun c_248_0 => ?_)
                          · skip
                            refine E_iconst (v := 0) dX11_laysOptions_255 (by decide) ?_
                            simp only [if_pos c_248_0] at hq
                            exact hq
                          · skip
                            refine E_iconst (v := 1) dX11_laysOptions_251 (by decide) ?_
                            refine E_goto 256 dX11_laysOptions_252 (by decide) ?_
                            simp only [if_neg c_248_0] at hq
                            exact hq
                        · skip
                          refine P_callr (t := fun v => some (.int v)) (st2 := fun v => .int v :: [.ref 67]) (fun hJ => (ok_X11_code (σ := j14) (p1 := (if p2 = 2 then 1 else 0 : Int32)) (p2 := v_X11_on j14 j1) (p3 := (if (v_X11_on j14 j1) = 1 then 0 else 1 : Int32)) )) (fun hJ _ _ v hM q => E_callV (as := [.int ((if p2 = 2 then 1 else 0 : Int32)), .int (v_X11_on j14 j1), .int ((if (v_X11_on j14 j1) = 1 then 0 else 1 : Int32))]) (b := 67) (st := [.ref 67]) hM (by decide) yfX11_code mlX11_195 imX11_code seX11_code clX11 (kd67 hJ.1.1) rfl (Nat.le_of_ble_eq_true rfl) rfl dX11_laysOptions_256 q) (fun v19 => ?_)
                          refine P_l (fun hJ _ _ q => E_iload_n dX11_laysOptions_259 rfl (E_iconst (v := 1) dX11_laysOptions_260 (by decide) (E_isub dX11_laysOptions_261 q))) ?_
                          refine P_call (t := fun _ => none) (st2 := fun _ => []) (kc2 := 0) (ks2 := 0) (fun hJ => (ok_X11_option (σ := j14) (p1 := v19) (p2 := p2 - 1) )) (fun hJ _ _ _ _ v τ1 hM q => E_callV (as := [.int v19, .int (p2 - 1)]) (b := 67) (st := []) hM (by decide) yfX11_option mlX11_199 imX11_option seX11_option clX11 (kd67 hJ.1.1) rfl (Nat.le_of_ble_eq_true rfl) rfl dX11_laysOptions_262 q) (by decide) (by decide) (fun v20 σ21 => ?_)
                          exact P_back σ21
                  · skip
                    refine P_l (fun hJ _ _ q => E_iload_n dX11_laysOptions_265 rfl (E_iconst (v := 2) dX11_laysOptions_266 (by decide) q)) ?_
                    refine P_if (c := (if p2 = 2 then (if x8 = 0 then true else false) else true) = true) (pc1 := 297) (ls1 := [some (.ref 67), none, some (.int p2), some (.int j1), some (.int j3), some (.int x5), none, none, some (.int x8)]) (st1 := []) (pc2 := 275) (ls2 := [some (.ref 67), none, some (.int p2), some (.int j1), some (.int j3), some (.int x5), none, none, some (.int x8)]) (st2 := []) (fun hJ _ _ hX hY => ?_) ?_ ?_
                    · skip
                      refine E_icmp_ne 297 dX11_laysOptions_267 (by decide) (fun c_267_0 => ?_) (fun c_267_0 => ?_)
                      · skip
                        exact hX (by simp only [if_neg c_267_0])
                      · skip
                        refine E_iload dX11_laysOptions_270 rfl ?_
                        refine E_if_eq 297 dX11_laysOptions_272 (by decide) (fun c_272_1 => ?_) (fun c_272_1 => ?_)
                        · skip
                          exact hX (by simp only [if_pos c_267_0, if_pos c_272_1])
                        · skip
                          exact hY (by simp only [if_pos c_267_0, if_neg c_272_1]; exact Bool.false_ne_true)
                    · skip
                      exact P_ret (fun _ _ => E_vret rfl dX11_laysOptions_297)
                    · skip
                      refine P_l (fun hJ _ _ q => E_aload_n dX11_laysOptions_275 rfl (E_aload_n dX11_laysOptions_276 rfl (E_aload_n dX11_laysOptions_277 rfl (E_iload_n dX11_laysOptions_278 rfl (E_callV (as := [.int j1]) (b := 67) (st := [.ref 67, .ref 67]) (ok_X11_on (σ := j18) (p1 := j1) hJ ) (by decide) yfX11_on mlX11_203 imX11_on seX11_on clX11 (kd67 hJ.1.1) rfl (Nat.le_of_ble_eq_true rfl) rfl dX11_laysOptions_279 (E_aload_n dX11_laysOptions_282 rfl (E_iload dX11_laysOptions_283 rfl (E_callV (as := [.int j3]) (b := 67) (st := [.int (v_X11_on j18 j1), .ref 67, .ref 67]) (ok_X11_on (σ := j18) (p1 := j3) hJ ) (by decide) yfX11_on mlX11_203 imX11_on seX11_on clX11 (kd67 hJ.1.1) rfl (Nat.le_of_ble_eq_true rfl) rfl dX11_laysOptions_285 (E_iload dX11_laysOptions_288 rfl q))))))))) ?_
                      refine P_callr (t := fun v => some (.int v)) (st2 := fun v => .int v :: [.ref 67]) (fun hJ => (ok_X11_code (σ := j18) (p1 := v_X11_on j18 j1) (p2 := v_X11_on j18 j3) (p3 := x5) )) (fun hJ _ _ v hM q => E_callV (as := [.int (v_X11_on j18 j1), .int (v_X11_on j18 j3), .int x5]) (b := 67) (st := [.ref 67]) hM (by decide) yfX11_code mlX11_195 imX11_code seX11_code clX11 (kd67 hJ.1.1) rfl (Nat.le_of_ble_eq_true rfl) rfl dX11_laysOptions_290 q) (fun v22 => ?_)
                      refine P_l (fun hJ _ _ q => E_iconst (v := 0) dX11_laysOptions_293 (by decide) q) ?_
                      refine P_call (t := fun _ => none) (st2 := fun _ => []) (kc2 := 0) (ks2 := 0) (fun hJ => (ok_X11_option (σ := j18) (p1 := v22) (p2 := 0) )) (fun hJ _ _ _ _ v τ1 hM q => E_callV (as := [.int v22, .int 0]) (b := 67) (st := []) hM (by decide) yfX11_option mlX11_199 imX11_option seX11_option clX11 (kd67 hJ.1.1) rfl (Nat.le_of_ble_eq_true rfl) rfl dX11_laysOptions_294 q) (by decide) (by decide) (fun v23 σ24 => ?_)
                      exact P_ret (fun _ _ => E_vret rfl dX11_laysOptions_297)

def f_X11_comes (σ : rS) (p1 : Int32) (p2 : Int64) (p3 : Int64) (p4 : Int64) (p5 : Int32) : Option (Unit × rS) := if inB p1 65536 then (if (rI σ 103 (p1 : Int32).toNatClampNeg) = 0 then (oLet (wI σ 103 (p1 : Int32).toNatClampNeg 1) fun σ2 => if inB (rI σ2 67 56) 65536 then (oLet (wI σ2 104 (rI σ2 67 56 : Int32).toNatClampNeg p1) fun σ4 => oLet (wI σ4 67 56 ((rI σ4 67 56) + 1)) fun σ5 => oLet (wL σ5 100 (p1 : Int32).toNatClampNeg p2) fun σ6 => oLet (wL σ6 101 (p1 : Int32).toNatClampNeg p3) fun σ7 => oLet (wL σ7 102 (p1 : Int32).toNatClampNeg p4) fun σ8 => some (((), σ8))) else none) else (if p5 = 0 then (if ¬ (1000000007 : Int64) = 0 then (oLet (wL σ 100 (p1 : Int32).toNatClampNeg (lRem ((rL σ 100 (p1 : Int32).toNatClampNeg) + p2) (1000000007 : Int64))) fun σ10 => oLet (wL σ10 101 (p1 : Int32).toNatClampNeg ((if 0 ≤ (lg_cmp p3 (rL σ10 101 (p1 : Int32).toNatClampNeg)) then (rL σ10 101 (p1 : Int32).toNatClampNeg) else p3 : Int64))) fun σ11 => oLet (wL σ11 102 (p1 : Int32).toNatClampNeg ((if (lg_cmp p4 (rL σ11 102 (p1 : Int32).toNatClampNeg)) ≤ 0 then (rL σ11 102 (p1 : Int32).toNatClampNeg) else p4 : Int64))) fun σ12 => some (((), σ12))) else none) else (oLet ((if 0 < (lg_cmp p2 (rL σ 100 (p1 : Int32).toNatClampNeg)) then 1 else (if (lg_cmp p2 (rL σ 100 (p1 : Int32).toNatClampNeg)) = 0 then (if 0 < (lg_cmp p3 (rL σ 101 (p1 : Int32).toNatClampNeg)) then 1 else (if (lg_cmp p3 (rL σ 101 (p1 : Int32).toNatClampNeg)) = 0 then (if (lg_cmp p4 (rL σ 102 (p1 : Int32).toNatClampNeg)) ≤ 0 then 0 else 1) else 0)) else 0) : Int32) : Int32) fun x13 => oLet (wL σ 100 (p1 : Int32).toNatClampNeg ((if x13 = 0 then (rL σ 100 (p1 : Int32).toNatClampNeg) else p2 : Int64))) fun σ14 => oLet (wL σ14 101 (p1 : Int32).toNatClampNeg ((if x13 = 0 then (rL σ14 101 (p1 : Int32).toNatClampNeg) else p3 : Int64))) fun σ15 => oLet (wL σ15 102 (p1 : Int32).toNatClampNeg ((if x13 = 0 then (rL σ15 102 (p1 : Int32).toNatClampNeg) else p4 : Int64))) fun σ16 => some (((), σ16))))) else none
set_option maxRecDepth 20000 in
set_option maxHeartbeats 2000000 in
theorem ok_X11_comes {σ : rS} {p1 : Int32} {p2 : Int64} {p3 : Int64} {p4 : Int64} {p5 : Int32}   : rFn Sy yX11_comes mX11_comes 0 [.ref 67, .int p1, .long p2, .long p3, .long p4, .int p5] σ 0 0 (fun _ => .inl none) (f_X11_comes σ p1 p2 p3 p4 p5) := by
  refine rF_of (ls := [some (.ref 67), some (.int p1), some (.long p2), none, some (.long p3), none, some (.long p4), none, some (.int p5), none]) yfX11_comes rfl (Nat.le_of_ble_eq_true rfl) (fun o τ => ?_)
  unfold f_X11_comes
  refine P_l (fun hJ _ _ q => E_aload_n dX11_comes_0 rfl (E_getR (b := 103) clX11 54 (by decide) flX11_143 (Or.inr ⟨_, rfl⟩) dX11_comes_1 (kd67 hJ.1.1) (rf67_54 hJ.1.1) (by decide) (E_iload_n dX11_comes_4 rfl q))) ?_
  refine P_g (fun g1 => ?_)
  refine P_l (fun hJ _ _ q => E_zald dX11_comes_5 (kd103 hJ.1.1) (inB_vp g1) q) ?_
  refine P_if (fun hJ _ _ h1 h2 => E_if_ne 62 dX11_comes_6 (by decide) h2 h1) ?_ ?_
  · skip
    refine P_l (fun hJ _ _ q => E_aload_n dX11_comes_9 rfl (E_getR (b := 103) clX11 54 (by decide) flX11_143 (Or.inr ⟨_, rfl⟩) dX11_comes_10 (kd67 hJ.1.1) (rf67_54 hJ.1.1) (by decide) (E_iload_n dX11_comes_13 rfl (E_iconst (v := 1) dX11_comes_14 (by decide) q)))) ?_
    refine P_w (fun hJ _ _ q => E_zast dX11_comes_15 (kd103 hJ.1.1) (by decide) (inB_vp g1) q) (fun hJ => Sy_wI hJ.1) rfl rfl rfl (fun σ2 hσ2 => ?_)
    refine P_l (fun hJ _ _ q => E_aload_n dX11_comes_16 rfl (E_getR (b := 104) clX11 55 (by decide) flX11_146 (Or.inr ⟨_, rfl⟩) dX11_comes_17 (kd67 hJ.1.1) (rf67_55 hJ.1.1) (by decide) (E_aload_n dX11_comes_20 rfl (E_getI clX11 56 (by decide) flX11_207 (Or.inl rfl) dX11_comes_21 (kd67 hJ.1.1) (E_iload_n dX11_comes_24 rfl q))))) ?_
    refine P_g (fun g3 => ?_)
    refine P_w (fun hJ _ _ q => E_iast dX11_comes_25 (kd104 hJ.1.1) (by decide) (inB_vp g3) q) (fun hJ => Sy_wI hJ.1) rfl rfl rfl (fun σ4 hσ4 => ?_)
    refine P_l (fun hJ _ _ q => E_aload_n dX11_comes_26 rfl (E_dup dX11_comes_27 rfl (E_getI clX11 56 (by decide) flX11_207 (Or.inl rfl) dX11_comes_28 (kd67 hJ.1.1) (E_iconst (v := 1) dX11_comes_31 (by decide) (E_iadd dX11_comes_32 q))))) ?_
    refine P_w (fun hJ _ _ q => E_putI clX11 56 (by decide) flX11_207 (Or.inl rfl) rfl dX11_comes_33 (kd67 hJ.1.1) q) (fun hJ => Sy_wI hJ.1) rfl rfl rfl (fun σ5 hσ5 => ?_)
    refine P_l (fun hJ _ _ q => E_aload_n dX11_comes_36 rfl (E_getR (b := 100) clX11 51 (by decide) flX11_134 (Or.inr ⟨_, rfl⟩) dX11_comes_37 (kd67 hJ.1.1) (rf67_51 hJ.1.1) (by decide) (E_iload_n dX11_comes_40 rfl (E_lload_n dX11_comes_41 rfl q)))) ?_
    refine P_w (fun hJ _ _ q => E_last dX11_comes_42 (kd100 hJ.1.1) (inB_vp g1) q) (fun hJ => Sy_wL hJ.1) rfl rfl rfl (fun σ6 hσ6 => ?_)
    refine P_l (fun hJ _ _ q => E_aload_n dX11_comes_43 rfl (E_getR (b := 101) clX11 52 (by decide) flX11_137 (Or.inr ⟨_, rfl⟩) dX11_comes_44 (kd67 hJ.1.1) (rf67_52 hJ.1.1) (by decide) (E_iload_n dX11_comes_47 rfl (E_lload dX11_comes_48 rfl q)))) ?_
    refine P_w (fun hJ _ _ q => E_last dX11_comes_50 (kd101 hJ.1.1) (inB_vp g1) q) (fun hJ => Sy_wL hJ.1) rfl rfl rfl (fun σ7 hσ7 => ?_)
    refine P_l (fun hJ _ _ q => E_aload_n dX11_comes_51 rfl (E_getR (b := 102) clX11 53 (by decide) flX11_140 (Or.inr ⟨_, rfl⟩) dX11_comes_52 (kd67 hJ.1.1) (rf67_53 hJ.1.1) (by decide) (E_iload_n dX11_comes_55 rfl (E_lload dX11_comes_56 rfl q)))) ?_
    refine P_w (fun hJ _ _ q => E_last dX11_comes_58 (kd102 hJ.1.1) (inB_vp g1) q) (fun hJ => Sy_wL hJ.1) rfl rfl rfl (fun σ8 hσ8 => ?_)
    refine P_l (fun hJ _ _ q => E_goto 276 dX11_comes_59 (by decide) q) ?_
    exact P_ret (fun _ _ => E_vret rfl dX11_comes_276)
  · skip
    refine P_l (fun hJ _ _ q => E_iload dX11_comes_62 rfl q) ?_
    refine P_if (fun hJ _ _ h1 h2 => E_if_eq 200 dX11_comes_64 (by decide) h1 h2) ?_ ?_
    · skip
      refine P_l (fun hJ _ _ q => E_aload_n dX11_comes_200 rfl (E_getR (b := 100) clX11 51 (by decide) flX11_134 (Or.inr ⟨_, rfl⟩) dX11_comes_201 (kd67 hJ.1.1) (rf67_51 hJ.1.1) (by decide) (E_iload_n dX11_comes_204 rfl (E_aload_n dX11_comes_205 rfl (E_getR (b := 100) clX11 51 (by decide) flX11_134 (Or.inr ⟨_, rfl⟩) dX11_comes_206 (kd67 hJ.1.1) (rf67_51 hJ.1.1) (by decide) (E_iload_n dX11_comes_209 rfl (E_lald dX11_comes_210 (kd100 hJ.1.1) (inB_vp g1) (E_lload_n dX11_comes_211 rfl (E_ladd dX11_comes_212 (E_ldc2 dX11_comes_213 kcX11_210 q)))))))))) ?_
      refine P_g (fun g9 => ?_)
      refine P_l (fun hJ _ _ q => E_lrem dX11_comes_216 g9 q) ?_
      refine P_w (fun hJ _ _ q => E_last dX11_comes_217 (kd100 hJ.1.1) (inB_vp g1) q) (fun hJ => Sy_wL hJ.1) rfl rfl rfl (fun σ10 hσ10 => ?_)
      refine P_l (fun hJ _ _ q => E_aload_n dX11_comes_218 rfl (E_getR (b := 101) clX11 52 (by decide) flX11_137 (Or.inr ⟨_, rfl⟩) dX11_comes_219 (kd67 hJ.1.1) (rf67_52 hJ.1.1) (by decide) (E_iload_n dX11_comes_222 rfl (E_lload dX11_comes_223 rfl (E_aload_n dX11_comes_225 rfl (E_getR (b := 101) clX11 52 (by decide) flX11_137 (Or.inr ⟨_, rfl⟩) dX11_comes_226 (kd67 hJ.1.1) (rf67_52 hJ.1.1) (by decide) (E_iload_n dX11_comes_229 rfl (E_lald dX11_comes_230 (kd101 hJ.1.1) (inB_vp g1) (E_lcmp dX11_comes_231 q))))))))) ?_
      refine P_l (pc2 := 246) (ls2 := [some (.ref 67), some (.int p1), none, none, none, none, some (.long p4), none, none, none]) (st2 := [.long ((if 0 ≤ (lg_cmp p3 (rL σ10 101 (p1 : Int32).toNatClampNeg)) then (rL σ10 101 (p1 : Int32).toNatClampNeg) else p3 : Int64)), .int p1, .ref 101]) (fun hJ _ _ hq => ?_) ?_
      · skip
        refine E_if_ge 240 dX11_comes_232 (by decide) (fun c_232_0 => ?_) (fun c_232_0 => ?_)
        · skip
          refine E_aload_n dX11_comes_240 rfl ?_
          refine E_getR (b := 101) clX11 52 (by decide) flX11_137 (Or.inr ⟨_, rfl⟩) dX11_comes_241 (kd67 hJ.1.1) (rf67_52 hJ.1.1) (by decide) ?_
          refine E_iload_n dX11_comes_244 rfl ?_
          refine E_lald dX11_comes_245 (kd101 hJ.1.1) (inB_vp g1) ?_
          simp only [if_pos c_232_0] at hq
          exact E_less (ls2 := [some (.ref 67), some (.int p1), none, none, none, none, some (.long p4), none, none, none]) hq (rLe_at [some (.ref 67), some (.int p1), none, none, none, none, some (.long p4), none, none, none] [some (.ref 67), some (.int p1), some (.long p2), none, some (.long p3), none, some (.long p4), none, some (.int p5), none] (And.intro rfl (And.intro rfl (And.intro rfl trivial))))
        · skip
          refine E_lload dX11_comes_235 rfl ?_
          refine E_goto 246 dX11_comes_237 (by decide) ?_
          simp only [if_neg c_232_0] at hq
          exact E_less (ls2 := [some (.ref 67), some (.int p1), none, none, none, none, some (.long p4), none, none, none]) hq (rLe_at [some (.ref 67), some (.int p1), none, none, none, none, some (.long p4), none, none, none] [some (.ref 67), some (.int p1), some (.long p2), none, some (.long p3), none, some (.long p4), none, some (.int p5), none] (And.intro rfl (And.intro rfl (And.intro rfl trivial))))
      · skip
        refine P_w (fun hJ _ _ q => E_last dX11_comes_246 (kd101 hJ.1.1) (inB_vp g1) q) (fun hJ => Sy_wL hJ.1) rfl rfl rfl (fun σ11 hσ11 => ?_)
        refine P_l (fun hJ _ _ q => E_aload_n dX11_comes_247 rfl (E_getR (b := 102) clX11 53 (by decide) flX11_140 (Or.inr ⟨_, rfl⟩) dX11_comes_248 (kd67 hJ.1.1) (rf67_53 hJ.1.1) (by decide) (E_iload_n dX11_comes_251 rfl (E_lload dX11_comes_252 rfl (E_aload_n dX11_comes_254 rfl (E_getR (b := 102) clX11 53 (by decide) flX11_140 (Or.inr ⟨_, rfl⟩) dX11_comes_255 (kd67 hJ.1.1) (rf67_53 hJ.1.1) (by decide) (E_iload_n dX11_comes_258 rfl (E_lald dX11_comes_259 (kd102 hJ.1.1) (inB_vp g1) (E_lcmp dX11_comes_260 q))))))))) ?_
        refine P_l (pc2 := 275) (ls2 := [none, none, none, none, none, none, none, none, none, none]) (st2 := [.long ((if (lg_cmp p4 (rL σ11 102 (p1 : Int32).toNatClampNeg)) ≤ 0 then (rL σ11 102 (p1 : Int32).toNatClampNeg) else p4 : Int64)), .int p1, .ref 102]) (fun hJ _ _ hq => ?_) ?_
        · skip
          refine E_if_le 269 dX11_comes_261 (by decide) (fun c_261_0 => ?_) (fun c_261_0 => ?_)
          · skip
            refine E_aload_n dX11_comes_269 rfl ?_
            refine E_getR (b := 102) clX11 53 (by decide) flX11_140 (Or.inr ⟨_, rfl⟩) dX11_comes_270 (kd67 hJ.1.1) (rf67_53 hJ.1.1) (by decide) ?_
            refine E_iload_n dX11_comes_273 rfl ?_
            refine E_lald dX11_comes_274 (kd102 hJ.1.1) (inB_vp g1) ?_
            simp only [if_pos c_261_0] at hq
            exact E_less (ls2 := [none, none, none, none, none, none, none, none, none, none]) hq (rLe_at [none, none, none, none, none, none, none, none, none, none] [some (.ref 67), some (.int p1), none, none, none, none, some (.long p4), none, none, none] trivial)
          · skip
            refine E_lload dX11_comes_264 rfl ?_
            refine E_goto 275 dX11_comes_266 (by decide) ?_
            simp only [if_neg c_261_0] at hq
            exact E_less (ls2 := [none, none, none, none, none, none, none, none, none, none]) hq (rLe_at [none, none, none, none, none, none, none, none, none, none] [some (.ref 67), some (.int p1), none, none, none, none, some (.long p4), none, none, none] trivial)
        · skip
          refine P_w (fun hJ _ _ q => E_last dX11_comes_275 (kd102 hJ.1.1) (inB_vp g1) q) (fun hJ => Sy_wL hJ.1) rfl rfl rfl (fun σ12 hσ12 => ?_)
          exact P_ret (fun _ _ => E_vret rfl dX11_comes_276)
    · skip
      refine P_l (fun hJ _ _ q => E_lload_n dX11_comes_67 rfl (E_aload_n dX11_comes_68 rfl (E_getR (b := 100) clX11 51 (by decide) flX11_134 (Or.inr ⟨_, rfl⟩) dX11_comes_69 (kd67 hJ.1.1) (rf67_51 hJ.1.1) (by decide) (E_iload_n dX11_comes_72 rfl (E_lald dX11_comes_73 (kd100 hJ.1.1) (inB_vp g1) (E_lcmp dX11_comes_74 q)))))) ?_
      refine P_l (pc2 := 130) (ls2 := [some (.ref 67), some (.int p1), some (.long p2), none, some (.long p3), none, some (.long p4), none, none, none]) (st2 := [.int ((if 0 < (lg_cmp p2 (rL σ 100 (p1 : Int32).toNatClampNeg)) then 1 else (if (lg_cmp p2 (rL σ 100 (p1 : Int32).toNatClampNeg)) = 0 then (if 0 < (lg_cmp p3 (rL σ 101 (p1 : Int32).toNatClampNeg)) then 1 else (if (lg_cmp p3 (rL σ 101 (p1 : Int32).toNatClampNeg)) = 0 then (if (lg_cmp p4 (rL σ 102 (p1 : Int32).toNatClampNeg)) ≤ 0 then 0 else 1) else 0)) else 0) : Int32))]) (fun hJ _ _ hq => ?_) ?_
      · skip
        refine E_if_gt 125 dX11_comes_75 (by decide) (fun c_75_0 => ?_) (fun c_75_0 => ?_)
        · skip
          refine E_iconst (v := 1) dX11_comes_125 (by decide) ?_
          refine E_goto 130 dX11_comes_126 (by decide) ?_
          simp only [if_pos c_75_0] at hq
          exact E_less (ls2 := [some (.ref 67), some (.int p1), some (.long p2), none, some (.long p3), none, some (.long p4), none, none, none]) hq (rLe_at [some (.ref 67), some (.int p1), some (.long p2), none, some (.long p3), none, some (.long p4), none, none, none] [some (.ref 67), some (.int p1), some (.long p2), none, some (.long p3), none, some (.long p4), none, some (.int p5), none] (And.intro rfl (And.intro rfl (And.intro rfl (And.intro rfl (And.intro rfl trivial))))))
        · skip
          refine E_lload_n dX11_comes_78 rfl ?_
          refine E_aload_n dX11_comes_79 rfl ?_
          refine E_getR (b := 100) clX11 51 (by decide) flX11_134 (Or.inr ⟨_, rfl⟩) dX11_comes_80 (kd67 hJ.1.1) (rf67_51 hJ.1.1) (by decide) ?_
          refine E_iload_n dX11_comes_83 rfl ?_
          refine E_lald dX11_comes_84 (kd100 hJ.1.1) (inB_vp g1) ?_
          refine E_lcmp dX11_comes_85 ?_
          refine E_if_ne 129 dX11_comes_86 (by decide) (fun c_86_1 => ?_) (fun c_86_1 => ?_)
          · skip
            refine E_iconst (v := 0) dX11_comes_129 (by decide) ?_
            simp only [if_neg c_75_0, if_neg c_86_1] at hq
            exact E_less (ls2 := [some (.ref 67), some (.int p1), some (.long p2), none, some (.long p3), none, some (.long p4), none, none, none]) hq (rLe_at [some (.ref 67), some (.int p1), some (.long p2), none, some (.long p3), none, some (.long p4), none, none, none] [some (.ref 67), some (.int p1), some (.long p2), none, some (.long p3), none, some (.long p4), none, some (.int p5), none] (And.intro rfl (And.intro rfl (And.intro rfl (And.intro rfl (And.intro rfl trivial))))))
          · skip
            refine E_lload dX11_comes_89 rfl ?_
            refine E_aload_n dX11_comes_91 rfl ?_
            refine E_getR (b := 101) clX11 52 (by decide) flX11_137 (Or.inr ⟨_, rfl⟩) dX11_comes_92 (kd67 hJ.1.1) (rf67_52 hJ.1.1) (by decide) ?_
            refine E_iload_n dX11_comes_95 rfl ?_
            refine E_lald dX11_comes_96 (kd101 hJ.1.1) (inB_vp g1) ?_
            refine E_lcmp dX11_comes_97 ?_
            refine E_if_gt 125 dX11_comes_98 (by decide) (fun c_98_2 => ?_) (fun c_98_2 => ?_)
            · skip
              refine E_iconst (v := 1) dX11_comes_125 (by decide) ?_
              refine E_goto 130 dX11_comes_126 (by decide) ?_
              simp only [if_neg c_75_0, if_pos c_86_1, if_pos c_98_2] at hq
              exact E_less (ls2 := [some (.ref 67), some (.int p1), some (.long p2), none, some (.long p3), none, some (.long p4), none, none, none]) hq (rLe_at [some (.ref 67), some (.int p1), some (.long p2), none, some (.long p3), none, some (.long p4), none, none, none] [some (.ref 67), some (.int p1), some (.long p2), none, some (.long p3), none, some (.long p4), none, some (.int p5), none] (And.intro rfl (And.intro rfl (And.intro rfl (And.intro rfl (And.intro rfl trivial))))))
            · skip
              refine E_lload dX11_comes_101 rfl ?_
              refine E_aload_n dX11_comes_103 rfl ?_
              refine E_getR (b := 101) clX11 52 (by decide) flX11_137 (Or.inr ⟨_, rfl⟩) dX11_comes_104 (kd67 hJ.1.1) (rf67_52 hJ.1.1) (by decide) ?_
              refine E_iload_n dX11_comes_107 rfl ?_
              refine E_lald dX11_comes_108 (kd101 hJ.1.1) (inB_vp g1) ?_
              refine E_lcmp dX11_comes_109 ?_
              refine E_if_ne 129 dX11_comes_110 (by decide) (fun c_110_3 => ?_) (fun c_110_3 => ?_)
              · skip
                refine E_iconst (v := 0) dX11_comes_129 (by decide) ?_
                simp only [if_neg c_75_0, if_pos c_86_1, if_neg c_98_2, if_neg c_110_3] at hq
                exact E_less (ls2 := [some (.ref 67), some (.int p1), some (.long p2), none, some (.long p3), none, some (.long p4), none, none, none]) hq (rLe_at [some (.ref 67), some (.int p1), some (.long p2), none, some (.long p3), none, some (.long p4), none, none, none] [some (.ref 67), some (.int p1), some (.long p2), none, some (.long p3), none, some (.long p4), none, some (.int p5), none] (And.intro rfl (And.intro rfl (And.intro rfl (And.intro rfl (And.intro rfl trivial))))))
              · skip
                refine E_lload dX11_comes_113 rfl ?_
                refine E_aload_n dX11_comes_115 rfl ?_
                refine E_getR (b := 102) clX11 53 (by decide) flX11_140 (Or.inr ⟨_, rfl⟩) dX11_comes_116 (kd67 hJ.1.1) (rf67_53 hJ.1.1) (by decide) ?_
                refine E_iload_n dX11_comes_119 rfl ?_
                refine E_lald dX11_comes_120 (kd102 hJ.1.1) (inB_vp g1) ?_
                refine E_lcmp dX11_comes_121 ?_
                refine E_if_le 129 dX11_comes_122 (by decide) (fun c_122_4 => ?_) (fun c_122_4 => ?_)
                · skip
                  refine E_iconst (v := 0) dX11_comes_129 (by decide) ?_
                  simp only [if_neg c_75_0, if_pos c_86_1, if_neg c_98_2, if_pos c_110_3, if_pos c_122_4] at hq
                  exact E_less (ls2 := [some (.ref 67), some (.int p1), some (.long p2), none, some (.long p3), none, some (.long p4), none, none, none]) hq (rLe_at [some (.ref 67), some (.int p1), some (.long p2), none, some (.long p3), none, some (.long p4), none, none, none] [some (.ref 67), some (.int p1), some (.long p2), none, some (.long p3), none, some (.long p4), none, some (.int p5), none] (And.intro rfl (And.intro rfl (And.intro rfl (And.intro rfl (And.intro rfl trivial))))))
                · skip
                  refine E_iconst (v := 1) dX11_comes_125 (by decide) ?_
                  refine E_goto 130 dX11_comes_126 (by decide) ?_
                  simp only [if_neg c_75_0, if_pos c_86_1, if_neg c_98_2, if_pos c_110_3, if_neg c_122_4] at hq
                  exact E_less (ls2 := [some (.ref 67), some (.int p1), some (.long p2), none, some (.long p3), none, some (.long p4), none, none, none]) hq (rLe_at [some (.ref 67), some (.int p1), some (.long p2), none, some (.long p3), none, some (.long p4), none, none, none] [some (.ref 67), some (.int p1), some (.long p2), none, some (.long p3), none, some (.long p4), none, some (.int p5), none] (And.intro rfl (And.intro rfl (And.intro rfl (And.intro rfl (And.intro rfl trivial))))))
      · skip
        refine P_l (fun hJ _ _ q => E_istore (ls2 := [some (.ref 67), some (.int p1), some (.long p2), none, some (.long p3), none, some (.long p4), none, none, some (.int ((if 0 < (lg_cmp p2 (rL σ 100 (p1 : Int32).toNatClampNeg)) then 1 else (if (lg_cmp p2 (rL σ 100 (p1 : Int32).toNatClampNeg)) = 0 then (if 0 < (lg_cmp p3 (rL σ 101 (p1 : Int32).toNatClampNeg)) then 1 else (if (lg_cmp p3 (rL σ 101 (p1 : Int32).toNatClampNeg)) = 0 then (if (lg_cmp p4 (rL σ 102 (p1 : Int32).toNatClampNeg)) ≤ 0 then 0 else 1) else 0)) else 0) : Int32)))]) dX11_comes_130 (by decide) rfl q) ?_
        refine P_v ((if 0 < (lg_cmp p2 (rL σ 100 (p1 : Int32).toNatClampNeg)) then 1 else (if (lg_cmp p2 (rL σ 100 (p1 : Int32).toNatClampNeg)) = 0 then (if 0 < (lg_cmp p3 (rL σ 101 (p1 : Int32).toNatClampNeg)) then 1 else (if (lg_cmp p3 (rL σ 101 (p1 : Int32).toNatClampNeg)) = 0 then (if (lg_cmp p4 (rL σ 102 (p1 : Int32).toNatClampNeg)) ≤ 0 then 0 else 1) else 0)) else 0) : Int32)) (fun x => [some (.ref 67), some (.int p1), some (.long p2), none, some (.long p3), none, some (.long p4), none, none, some (.int x)]) (fun x13 => ?_)
        refine P_l (fun hJ _ _ q => E_aload_n dX11_comes_132 rfl (E_getR (b := 100) clX11 51 (by decide) flX11_134 (Or.inr ⟨_, rfl⟩) dX11_comes_133 (kd67 hJ.1.1) (rf67_51 hJ.1.1) (by decide) (E_iload_n dX11_comes_136 rfl (E_iload dX11_comes_137 rfl q)))) ?_
        refine P_l (pc2 := 152) (ls2 := [some (.ref 67), some (.int p1), none, none, some (.long p3), none, some (.long p4), none, none, some (.int x13)]) (st2 := [.long ((if x13 = 0 then (rL σ 100 (p1 : Int32).toNatClampNeg) else p2 : Int64)), .int p1, .ref 100]) (fun hJ _ _ hq => ?_) ?_
        · skip
          refine E_if_eq 146 dX11_comes_139 (by decide) (fun c_139_0 => ?_) (fun c_139_0 => ?_)
          · skip
            refine E_aload_n dX11_comes_146 rfl ?_
            refine E_getR (b := 100) clX11 51 (by decide) flX11_134 (Or.inr ⟨_, rfl⟩) dX11_comes_147 (kd67 hJ.1.1) (rf67_51 hJ.1.1) (by decide) ?_
            refine E_iload_n dX11_comes_150 rfl ?_
            refine E_lald dX11_comes_151 (kd100 hJ.1.1) (inB_vp g1) ?_
            simp only [if_pos c_139_0] at hq
            exact E_less (ls2 := [some (.ref 67), some (.int p1), none, none, some (.long p3), none, some (.long p4), none, none, some (.int x13)]) hq (rLe_at [some (.ref 67), some (.int p1), none, none, some (.long p3), none, some (.long p4), none, none, some (.int x13)] [some (.ref 67), some (.int p1), some (.long p2), none, some (.long p3), none, some (.long p4), none, none, some (.int x13)] (And.intro rfl (And.intro rfl (And.intro rfl (And.intro rfl (And.intro rfl trivial))))))
          · skip
            refine E_lload_n dX11_comes_142 rfl ?_
            refine E_goto 152 dX11_comes_143 (by decide) ?_
            simp only [if_neg c_139_0] at hq
            exact E_less (ls2 := [some (.ref 67), some (.int p1), none, none, some (.long p3), none, some (.long p4), none, none, some (.int x13)]) hq (rLe_at [some (.ref 67), some (.int p1), none, none, some (.long p3), none, some (.long p4), none, none, some (.int x13)] [some (.ref 67), some (.int p1), some (.long p2), none, some (.long p3), none, some (.long p4), none, none, some (.int x13)] (And.intro rfl (And.intro rfl (And.intro rfl (And.intro rfl (And.intro rfl trivial))))))
        · skip
          refine P_w (fun hJ _ _ q => E_last dX11_comes_152 (kd100 hJ.1.1) (inB_vp g1) q) (fun hJ => Sy_wL hJ.1) rfl rfl rfl (fun σ14 hσ14 => ?_)
          refine P_l (fun hJ _ _ q => E_aload_n dX11_comes_153 rfl (E_getR (b := 101) clX11 52 (by decide) flX11_137 (Or.inr ⟨_, rfl⟩) dX11_comes_154 (kd67 hJ.1.1) (rf67_52 hJ.1.1) (by decide) (E_iload_n dX11_comes_157 rfl (E_iload dX11_comes_158 rfl q)))) ?_
          refine P_l (pc2 := 174) (ls2 := [some (.ref 67), some (.int p1), none, none, none, none, some (.long p4), none, none, some (.int x13)]) (st2 := [.long ((if x13 = 0 then (rL σ14 101 (p1 : Int32).toNatClampNeg) else p3 : Int64)), .int p1, .ref 101]) (fun hJ _ _ hq => ?_) ?_
          · skip
            refine E_if_eq 168 dX11_comes_160 (by decide) (fun c_160_0 => ?_) (fun c_160_0 => ?_)
            · skip
              refine E_aload_n dX11_comes_168 rfl ?_
              refine E_getR (b := 101) clX11 52 (by decide) flX11_137 (Or.inr ⟨_, rfl⟩) dX11_comes_169 (kd67 hJ.1.1) (rf67_52 hJ.1.1) (by decide) ?_
              refine E_iload_n dX11_comes_172 rfl ?_
              refine E_lald dX11_comes_173 (kd101 hJ.1.1) (inB_vp g1) ?_
              simp only [if_pos c_160_0] at hq
              exact E_less (ls2 := [some (.ref 67), some (.int p1), none, none, none, none, some (.long p4), none, none, some (.int x13)]) hq (rLe_at [some (.ref 67), some (.int p1), none, none, none, none, some (.long p4), none, none, some (.int x13)] [some (.ref 67), some (.int p1), none, none, some (.long p3), none, some (.long p4), none, none, some (.int x13)] (And.intro rfl (And.intro rfl (And.intro rfl (And.intro rfl trivial)))))
            · skip
              refine E_lload dX11_comes_163 rfl ?_
              refine E_goto 174 dX11_comes_165 (by decide) ?_
              simp only [if_neg c_160_0] at hq
              exact E_less (ls2 := [some (.ref 67), some (.int p1), none, none, none, none, some (.long p4), none, none, some (.int x13)]) hq (rLe_at [some (.ref 67), some (.int p1), none, none, none, none, some (.long p4), none, none, some (.int x13)] [some (.ref 67), some (.int p1), none, none, some (.long p3), none, some (.long p4), none, none, some (.int x13)] (And.intro rfl (And.intro rfl (And.intro rfl (And.intro rfl trivial)))))
          · skip
            refine P_w (fun hJ _ _ q => E_last dX11_comes_174 (kd101 hJ.1.1) (inB_vp g1) q) (fun hJ => Sy_wL hJ.1) rfl rfl rfl (fun σ15 hσ15 => ?_)
            refine P_l (fun hJ _ _ q => E_aload_n dX11_comes_175 rfl (E_getR (b := 102) clX11 53 (by decide) flX11_140 (Or.inr ⟨_, rfl⟩) dX11_comes_176 (kd67 hJ.1.1) (rf67_53 hJ.1.1) (by decide) (E_iload_n dX11_comes_179 rfl (E_iload dX11_comes_180 rfl q)))) ?_
            refine P_l (pc2 := 196) (ls2 := [none, none, none, none, none, none, none, none, none, none]) (st2 := [.long ((if x13 = 0 then (rL σ15 102 (p1 : Int32).toNatClampNeg) else p4 : Int64)), .int p1, .ref 102]) (fun hJ _ _ hq => ?_) ?_
            · skip
              refine E_if_eq 190 dX11_comes_182 (by decide) (fun c_182_0 => ?_) (fun c_182_0 => ?_)
              · skip
                refine E_aload_n dX11_comes_190 rfl ?_
                refine E_getR (b := 102) clX11 53 (by decide) flX11_140 (Or.inr ⟨_, rfl⟩) dX11_comes_191 (kd67 hJ.1.1) (rf67_53 hJ.1.1) (by decide) ?_
                refine E_iload_n dX11_comes_194 rfl ?_
                refine E_lald dX11_comes_195 (kd102 hJ.1.1) (inB_vp g1) ?_
                simp only [if_pos c_182_0] at hq
                exact E_less (ls2 := [none, none, none, none, none, none, none, none, none, none]) hq (rLe_at [none, none, none, none, none, none, none, none, none, none] [some (.ref 67), some (.int p1), none, none, none, none, some (.long p4), none, none, some (.int x13)] trivial)
              · skip
                refine E_lload dX11_comes_185 rfl ?_
                refine E_goto 196 dX11_comes_187 (by decide) ?_
                simp only [if_neg c_182_0] at hq
                exact E_less (ls2 := [none, none, none, none, none, none, none, none, none, none]) hq (rLe_at [none, none, none, none, none, none, none, none, none, none] [some (.ref 67), some (.int p1), none, none, none, none, some (.long p4), none, none, some (.int x13)] trivial)
            · skip
              refine P_w (fun hJ _ _ q => E_last dX11_comes_196 (kd102 hJ.1.1) (inB_vp g1) q) (fun hJ => Sy_wL hJ.1) rfl rfl rfl (fun σ16 hσ16 => ?_)
              refine P_l (fun hJ _ _ q => E_goto 276 dX11_comes_197 (by decide) q) ?_
              exact P_ret (fun _ _ => E_vret rfl dX11_comes_276)

def b_X11_goesOn_145 (p2 : Int32) (p3 : Int64) (p4 : Int64) (p5 : Int64) (p6 : Int32) (s4 : Int32 × rS) (s6 : Int32 × rS) (s8 : Int32 × rS) (s10 : Int32 × rS) : Option ((((((Unit × rS) ⊕ (Int32 × rS)) ⊕ (Int32 × rS)) ⊕ (Int32 × rS)) ⊕ (Int32 × rS)) ⊕ (Int32 × rS)) := if (rI s10.2 113 (3 : Int32).toNatClampNeg) ≤ s10.1 then (some (.inl (.inr ((s8.1 + 1, s10.2))))) else (if inB s4.1 64 then (if inB s6.1 64 then (if inB s8.1 64 then (if inB s10.1 64 then (oLet ((((p2 + (rI s10.2 111 (s4.1 : Int32).toNatClampNeg)) + (rI s10.2 111 (s6.1 : Int32).toNatClampNeg)) + (rI s10.2 111 (s8.1 : Int32).toNatClampNeg)) + (rI s10.2 111 (s10.1 : Int32).toNatClampNeg) : Int32) fun x15 => oLet ((((rI s10.2 110 (s4.1 : Int32).toNatClampNeg) ||| ((rI s10.2 110 (s6.1 : Int32).toNatClampNeg) <<< ((4 : Int32) &&& 31))) ||| ((rI s10.2 110 (s8.1 : Int32).toNatClampNeg) <<< ((8 : Int32) &&& 31))) ||| ((rI s10.2 110 (s10.1 : Int32).toNatClampNeg) <<< ((12 : Int32) &&& 31)) : Int32) fun x16 => oB (f_X11_comes s10.2 x16 p3 ((if p6 = 0 then (p4 + (((x15 : Int32)).toInt64)) else p4 : Int64)) ((if p6 = 0 then (p5 + (((x15 : Int32)).toInt64)) else p5 : Int64)) p6) fun _ σ18 => some (.inr ((s10.1 + 1, σ18)))) else none) else none) else none) else none)
def b_X11_goesOn_126 (p2 : Int32) (p3 : Int64) (p4 : Int64) (p5 : Int64) (p6 : Int32) (s4 : Int32 × rS) (s6 : Int32 × rS) (s8 : Int32 × rS) : Option (((((Unit × rS) ⊕ (Int32 × rS)) ⊕ (Int32 × rS)) ⊕ (Int32 × rS)) ⊕ (Int32 × rS)) := if (rI s8.2 113 (2 : Int32).toNatClampNeg) ≤ s8.1 then (some (.inl (.inr ((s6.1 + 1, s8.2))))) else (oLet (rI s8.2 112 (3 : Int32).toNatClampNeg : Int32) fun x9 => oLoop (b_X11_goesOn_145 p2 p3 p4 p5 p6 s4 s6 s8) oFuel ((x9, s8.2)))
def b_X11_goesOn_107 (p2 : Int32) (p3 : Int64) (p4 : Int64) (p5 : Int64) (p6 : Int32) (s4 : Int32 × rS) (s6 : Int32 × rS) : Option ((((Unit × rS) ⊕ (Int32 × rS)) ⊕ (Int32 × rS)) ⊕ (Int32 × rS)) := if (rI s6.2 113 (1 : Int32).toNatClampNeg) ≤ s6.1 then (some (.inl (.inr ((s4.1 + 1, s6.2))))) else (oLet (rI s6.2 112 (2 : Int32).toNatClampNeg : Int32) fun x7 => oLoop (b_X11_goesOn_126 p2 p3 p4 p5 p6 s4 s6) oFuel ((x7, s6.2)))
def b_X11_goesOn_88 (p2 : Int32) (p3 : Int64) (p4 : Int64) (p5 : Int64) (p6 : Int32) (s4 : Int32 × rS) : Option (((Unit × rS) ⊕ (Int32 × rS)) ⊕ (Int32 × rS)) := if (rI s4.2 113 (0 : Int32).toNatClampNeg) ≤ s4.1 then (some (.inl (.inl (((), s4.2))))) else (oLet (rI s4.2 112 (1 : Int32).toNatClampNeg : Int32) fun x5 => oLoop (b_X11_goesOn_107 p2 p3 p4 p5 p6 s4) oFuel ((x5, s4.2)))
def b_X11_goesOn_8 (p1 : Int32) (p2 : Int32) (p3 : Int64) (p4 : Int64) (p5 : Int64) (p6 : Int32) (s2 : Int32 × rS) : Option ((Unit × rS) ⊕ (Int32 × rS)) := if 4 ≤ s2.1 then (oLet (rI s2.2 112 (0 : Int32).toNatClampNeg : Int32) fun x3 => oLoop (b_X11_goesOn_88 p2 p3 p4 p5 p6) oFuel ((x3, s2.2))) else (if inB s2.1 4 then (oLet (wI s2.2 112 (s2.1 : Int32).toNatClampNeg (rI s2.2 67 65)) fun σ20 => oB (f_X11_laysOptions σ20 ((p1 >>> ((4 * s2.1) &&& 31)) &&& 15) (rI σ20 107 (s2.1 : Int32).toNatClampNeg)) fun _ σ22 => oLet (wI σ22 113 (s2.1 : Int32).toNatClampNeg (rI σ22 67 65)) fun σ23 => if (rI σ23 112 (s2.1 : Int32).toNatClampNeg) = (rI σ23 113 (s2.1 : Int32).toNatClampNeg) then (some (.inl (((), σ23)))) else (some (.inr ((s2.1 + 1, σ23))))) else none)
def f_X11_goesOn (σ : rS) (p1 : Int32) (p2 : Int32) (p3 : Int64) (p4 : Int64) (p5 : Int64) (p6 : Int32) : Option (Unit × rS) := oLet (wI σ 67 65 0) fun σ1 => oLoop (b_X11_goesOn_8 p1 p2 p3 p4 p5 p6) oFuel ((0, σ1))
set_option maxRecDepth 20000 in
set_option maxHeartbeats 2000000 in
theorem ok_X11_goesOn {σ : rS} {p1 : Int32} {p2 : Int32} {p3 : Int64} {p4 : Int64} {p5 : Int64} {p6 : Int32}   : rFn Sy yX11_goesOn mX11_goesOn 2 [.ref 67, .int p1, .int p2, .long p3, .long p4, .long p5, .int p6] σ 0 0 (fun _ => .inl none) (f_X11_goesOn σ p1 p2 p3 p4 p5 p6) := by
  refine rF_of (ls := [some (.ref 67), some (.int p1), some (.int p2), some (.long p3), none, some (.long p4), none, some (.long p5), none, some (.int p6), none, none, none, none, none, none]) yfX11_goesOn rfl (Nat.le_of_ble_eq_true rfl) (fun o τ => ?_)
  unfold f_X11_goesOn
  refine P_l (fun hJ _ _ q => E_aload_n dX11_goesOn_0 rfl (E_iconst (v := 0) dX11_goesOn_1 (by decide) q)) ?_
  refine P_w (fun hJ _ _ q => E_putI clX11 65 (by decide) flX11_192 (Or.inl rfl) rfl dX11_goesOn_2 (kd67 hJ.1.1) q) (fun hJ => Sy_wI hJ.1) rfl rfl rfl (fun σ1 hσ1 => ?_)
  refine P_l (fun hJ _ _ q => E_iconst (v := 0) dX11_goesOn_5 (by decide) (E_istore (ls2 := [some (.ref 67), some (.int p1), some (.int p2), some (.long p3), none, some (.long p4), none, some (.long p5), none, some (.int p6), some (.int 0), none, none, none, none, none]) dX11_goesOn_6 (by decide) rfl q)) ?_
  refine P_loop (fun s2 => [some (.ref 67), some (.int p1), some (.int p2), some (.long p3), none, some (.long p4), none, some (.long p5), none, some (.int p6), some (.int s2.1), none, none, none, none, none]) (fun s2 => s2.2) (fun s2 => ?_) _ ((0, σ1))
  unfold b_X11_goesOn_8
  refine P_l (fun hJ _ _ q => E_iload dX11_goesOn_8 rfl (E_iconst (v := 4) dX11_goesOn_10 (by decide) q)) ?_
  refine P_if (fun hJ _ _ h1 h2 => E_icmp_ge 80 dX11_goesOn_11 (by decide) h1 h2) ?_ ?_
  · skip
    refine P_l (fun hJ _ _ q => E_aload_n dX11_goesOn_80 rfl (E_getR (b := 112) clX11 68 (by decide) flX11_170 (Or.inr ⟨_, rfl⟩) dX11_goesOn_81 (kd67 hJ.1.1) (rf67_68 hJ.1.1) (by decide) (E_iconst (v := 0) dX11_goesOn_84 (by decide) (E_iald dX11_goesOn_85 (kd112 hJ.1.1) (inB_vp (by decide)) (E_istore (ls2 := [some (.ref 67), some (.int p1), some (.int p2), some (.long p3), none, some (.long p4), none, some (.long p5), none, some (.int p6), some (.int (rI s2.2 112 (0 : Int32).toNatClampNeg)), none, none, none, none, none]) dX11_goesOn_86 (by decide) rfl q))))) ?_
    refine P_v (rI s2.2 112 (0 : Int32).toNatClampNeg) (fun x => [some (.ref 67), some (.int p1), some (.int p2), some (.long p3), none, some (.long p4), none, some (.long p5), none, some (.int p6), some (.int x), none, none, none, none, none]) (fun x3 => ?_)
    refine P_less [some (.ref 67), none, some (.int p2), some (.long p3), none, some (.long p4), none, some (.long p5), none, some (.int p6), some (.int x3), none, none, none, none, none] (And.intro rfl (And.intro rfl (And.intro rfl (And.intro rfl (And.intro rfl (And.intro rfl (And.intro rfl trivial))))))) ?_
    refine P_loop (fun s4 => [some (.ref 67), none, some (.int p2), some (.long p3), none, some (.long p4), none, some (.long p5), none, some (.int p6), some (.int s4.1), none, none, none, none, none]) (fun s4 => s4.2) (fun s4 => ?_) _ ((x3, s2.2))
    unfold b_X11_goesOn_88
    refine P_l (fun hJ _ _ q => E_iload dX11_goesOn_88 rfl (E_aload_n dX11_goesOn_90 rfl (E_getR (b := 113) clX11 69 (by decide) flX11_173 (Or.inr ⟨_, rfl⟩) dX11_goesOn_91 (kd67 hJ.1.1) (rf67_69 hJ.1.1) (by decide) (E_iconst (v := 0) dX11_goesOn_94 (by decide) (E_iald dX11_goesOn_95 (kd113 hJ.1.1) (inB_vp (by decide)) q))))) ?_
    refine P_if (fun hJ _ _ h1 h2 => E_icmp_ge 297 dX11_goesOn_96 (by decide) h1 h2) ?_ ?_
    · skip
      exact P_inl (P_inl (P_ret (fun _ _ => E_vret rfl dX11_goesOn_297)))
    · skip
      refine P_l (fun hJ _ _ q => E_aload_n dX11_goesOn_99 rfl (E_getR (b := 112) clX11 68 (by decide) flX11_170 (Or.inr ⟨_, rfl⟩) dX11_goesOn_100 (kd67 hJ.1.1) (rf67_68 hJ.1.1) (by decide) (E_iconst (v := 1) dX11_goesOn_103 (by decide) (E_iald dX11_goesOn_104 (kd112 hJ.1.1) (inB_vp (by decide)) (E_istore (ls2 := [some (.ref 67), none, some (.int p2), some (.long p3), none, some (.long p4), none, some (.long p5), none, some (.int p6), some (.int s4.1), some (.int (rI s4.2 112 (1 : Int32).toNatClampNeg)), none, none, none, none]) dX11_goesOn_105 (by decide) rfl q))))) ?_
      refine P_v (rI s4.2 112 (1 : Int32).toNatClampNeg) (fun x => [some (.ref 67), none, some (.int p2), some (.long p3), none, some (.long p4), none, some (.long p5), none, some (.int p6), some (.int s4.1), some (.int x), none, none, none, none]) (fun x5 => ?_)
      refine P_loop (fun s6 => [some (.ref 67), none, some (.int p2), some (.long p3), none, some (.long p4), none, some (.long p5), none, some (.int p6), some (.int s4.1), some (.int s6.1), none, none, none, none]) (fun s6 => s6.2) (fun s6 => ?_) _ ((x5, s4.2))
      unfold b_X11_goesOn_107
      refine P_l (fun hJ _ _ q => E_iload dX11_goesOn_107 rfl (E_aload_n dX11_goesOn_109 rfl (E_getR (b := 113) clX11 69 (by decide) flX11_173 (Or.inr ⟨_, rfl⟩) dX11_goesOn_110 (kd67 hJ.1.1) (rf67_69 hJ.1.1) (by decide) (E_iconst (v := 1) dX11_goesOn_113 (by decide) (E_iald dX11_goesOn_114 (kd113 hJ.1.1) (inB_vp (by decide)) q))))) ?_
      refine P_if (fun hJ _ _ h1 h2 => E_icmp_ge 291 dX11_goesOn_115 (by decide) h1 h2) ?_ ?_
      · skip
        refine P_l (fun hJ _ _ q => E_iinc (v := 1) (ls2 := [some (.ref 67), none, some (.int p2), some (.long p3), none, some (.long p4), none, some (.long p5), none, some (.int p6), some (.int (s4.1 + 1)), some (.int s6.1), none, none, none, none]) dX11_goesOn_291 rfl (by decide) (by decide) rfl (E_goto 88 dX11_goesOn_294 (by decide) q)) ?_
        refine P_less [some (.ref 67), none, some (.int p2), some (.long p3), none, some (.long p4), none, some (.long p5), none, some (.int p6), some (.int (s4.1 + 1)), none, none, none, none, none] (And.intro rfl (And.intro rfl (And.intro rfl (And.intro rfl (And.intro rfl (And.intro rfl (And.intro rfl trivial))))))) ?_
        exact P_inl (P_back ((s4.1 + 1, s6.2)))
      · skip
        refine P_l (fun hJ _ _ q => E_aload_n dX11_goesOn_118 rfl (E_getR (b := 112) clX11 68 (by decide) flX11_170 (Or.inr ⟨_, rfl⟩) dX11_goesOn_119 (kd67 hJ.1.1) (rf67_68 hJ.1.1) (by decide) (E_iconst (v := 2) dX11_goesOn_122 (by decide) (E_iald dX11_goesOn_123 (kd112 hJ.1.1) (inB_vp (by decide)) (E_istore (ls2 := [some (.ref 67), none, some (.int p2), some (.long p3), none, some (.long p4), none, some (.long p5), none, some (.int p6), some (.int s4.1), some (.int s6.1), some (.int (rI s6.2 112 (2 : Int32).toNatClampNeg)), none, none, none]) dX11_goesOn_124 (by decide) rfl q))))) ?_
        refine P_v (rI s6.2 112 (2 : Int32).toNatClampNeg) (fun x => [some (.ref 67), none, some (.int p2), some (.long p3), none, some (.long p4), none, some (.long p5), none, some (.int p6), some (.int s4.1), some (.int s6.1), some (.int x), none, none, none]) (fun x7 => ?_)
        refine P_loop (fun s8 => [some (.ref 67), none, some (.int p2), some (.long p3), none, some (.long p4), none, some (.long p5), none, some (.int p6), some (.int s4.1), some (.int s6.1), some (.int s8.1), none, none, none]) (fun s8 => s8.2) (fun s8 => ?_) _ ((x7, s6.2))
        unfold b_X11_goesOn_126
        refine P_l (fun hJ _ _ q => E_iload dX11_goesOn_126 rfl (E_aload_n dX11_goesOn_128 rfl (E_getR (b := 113) clX11 69 (by decide) flX11_173 (Or.inr ⟨_, rfl⟩) dX11_goesOn_129 (kd67 hJ.1.1) (rf67_69 hJ.1.1) (by decide) (E_iconst (v := 2) dX11_goesOn_132 (by decide) (E_iald dX11_goesOn_133 (kd113 hJ.1.1) (inB_vp (by decide)) q))))) ?_
        refine P_if (fun hJ _ _ h1 h2 => E_icmp_ge 285 dX11_goesOn_134 (by decide) h1 h2) ?_ ?_
        · skip
          refine P_l (fun hJ _ _ q => E_iinc (v := 1) (ls2 := [some (.ref 67), none, some (.int p2), some (.long p3), none, some (.long p4), none, some (.long p5), none, some (.int p6), some (.int s4.1), some (.int (s6.1 + 1)), some (.int s8.1), none, none, none]) dX11_goesOn_285 rfl (by decide) (by decide) rfl (E_goto 107 dX11_goesOn_288 (by decide) q)) ?_
          refine P_less [some (.ref 67), none, some (.int p2), some (.long p3), none, some (.long p4), none, some (.long p5), none, some (.int p6), some (.int s4.1), some (.int (s6.1 + 1)), none, none, none, none] (And.intro rfl (And.intro rfl (And.intro rfl (And.intro rfl (And.intro rfl (And.intro rfl (And.intro rfl (And.intro rfl trivial)))))))) ?_
          exact P_inl (P_back ((s6.1 + 1, s8.2)))
        · skip
          refine P_l (fun hJ _ _ q => E_aload_n dX11_goesOn_137 rfl (E_getR (b := 112) clX11 68 (by decide) flX11_170 (Or.inr ⟨_, rfl⟩) dX11_goesOn_138 (kd67 hJ.1.1) (rf67_68 hJ.1.1) (by decide) (E_iconst (v := 3) dX11_goesOn_141 (by decide) (E_iald dX11_goesOn_142 (kd112 hJ.1.1) (inB_vp (by decide)) (E_istore (ls2 := [some (.ref 67), none, some (.int p2), some (.long p3), none, some (.long p4), none, some (.long p5), none, some (.int p6), some (.int s4.1), some (.int s6.1), some (.int s8.1), some (.int (rI s8.2 112 (3 : Int32).toNatClampNeg)), none, none]) dX11_goesOn_143 (by decide) rfl q))))) ?_
          refine P_v (rI s8.2 112 (3 : Int32).toNatClampNeg) (fun x => [some (.ref 67), none, some (.int p2), some (.long p3), none, some (.long p4), none, some (.long p5), none, some (.int p6), some (.int s4.1), some (.int s6.1), some (.int s8.1), some (.int x), none, none]) (fun x9 => ?_)
          refine P_loop (fun s10 => [some (.ref 67), none, some (.int p2), some (.long p3), none, some (.long p4), none, some (.long p5), none, some (.int p6), some (.int s4.1), some (.int s6.1), some (.int s8.1), some (.int s10.1), none, none]) (fun s10 => s10.2) (fun s10 => ?_) _ ((x9, s8.2))
          unfold b_X11_goesOn_145
          refine P_l (fun hJ _ _ q => E_iload dX11_goesOn_145 rfl (E_aload_n dX11_goesOn_147 rfl (E_getR (b := 113) clX11 69 (by decide) flX11_173 (Or.inr ⟨_, rfl⟩) dX11_goesOn_148 (kd67 hJ.1.1) (rf67_69 hJ.1.1) (by decide) (E_iconst (v := 3) dX11_goesOn_151 (by decide) (E_iald dX11_goesOn_152 (kd113 hJ.1.1) (inB_vp (by decide)) q))))) ?_
          refine P_if (fun hJ _ _ h1 h2 => E_icmp_ge 279 dX11_goesOn_153 (by decide) h1 h2) ?_ ?_
          · skip
            refine P_l (fun hJ _ _ q => E_iinc (v := 1) (ls2 := [some (.ref 67), none, some (.int p2), some (.long p3), none, some (.long p4), none, some (.long p5), none, some (.int p6), some (.int s4.1), some (.int s6.1), some (.int (s8.1 + 1)), some (.int s10.1), none, none]) dX11_goesOn_279 rfl (by decide) (by decide) rfl (E_goto 126 dX11_goesOn_282 (by decide) q)) ?_
            refine P_less [some (.ref 67), none, some (.int p2), some (.long p3), none, some (.long p4), none, some (.long p5), none, some (.int p6), some (.int s4.1), some (.int s6.1), some (.int (s8.1 + 1)), none, none, none] (And.intro rfl (And.intro rfl (And.intro rfl (And.intro rfl (And.intro rfl (And.intro rfl (And.intro rfl (And.intro rfl (And.intro rfl trivial))))))))) ?_
            exact P_inl (P_back ((s8.1 + 1, s10.2)))
          · skip
            refine P_l (fun hJ _ _ q => E_iload_n dX11_goesOn_156 rfl (E_aload_n dX11_goesOn_157 rfl (E_getR (b := 111) clX11 67 (by decide) flX11_167 (Or.inr ⟨_, rfl⟩) dX11_goesOn_158 (kd67 hJ.1.1) (rf67_67 hJ.1.1) (by decide) (E_iload dX11_goesOn_161 rfl q)))) ?_
            refine P_g (fun g11 => ?_)
            refine P_l (fun hJ _ _ q => E_iald dX11_goesOn_163 (kd111 hJ.1.1) (inB_vp g11) (E_iadd dX11_goesOn_164 (E_aload_n dX11_goesOn_165 rfl (E_getR (b := 111) clX11 67 (by decide) flX11_167 (Or.inr ⟨_, rfl⟩) dX11_goesOn_166 (kd67 hJ.1.1) (rf67_67 hJ.1.1) (by decide) (E_iload dX11_goesOn_169 rfl q))))) ?_
            refine P_g (fun g12 => ?_)
            refine P_l (fun hJ _ _ q => E_iald dX11_goesOn_171 (kd111 hJ.1.1) (inB_vp g12) (E_iadd dX11_goesOn_172 (E_aload_n dX11_goesOn_173 rfl (E_getR (b := 111) clX11 67 (by decide) flX11_167 (Or.inr ⟨_, rfl⟩) dX11_goesOn_174 (kd67 hJ.1.1) (rf67_67 hJ.1.1) (by decide) (E_iload dX11_goesOn_177 rfl q))))) ?_
            refine P_g (fun g13 => ?_)
            refine P_l (fun hJ _ _ q => E_iald dX11_goesOn_179 (kd111 hJ.1.1) (inB_vp g13) (E_iadd dX11_goesOn_180 (E_aload_n dX11_goesOn_181 rfl (E_getR (b := 111) clX11 67 (by decide) flX11_167 (Or.inr ⟨_, rfl⟩) dX11_goesOn_182 (kd67 hJ.1.1) (rf67_67 hJ.1.1) (by decide) (E_iload dX11_goesOn_185 rfl q))))) ?_
            refine P_g (fun g14 => ?_)
            refine P_l (fun hJ _ _ q => E_iald dX11_goesOn_187 (kd111 hJ.1.1) (inB_vp g14) (E_iadd dX11_goesOn_188 (E_istore (ls2 := [some (.ref 67), none, some (.int p2), some (.long p3), none, some (.long p4), none, some (.long p5), none, some (.int p6), some (.int s4.1), some (.int s6.1), some (.int s8.1), some (.int s10.1), some (.int ((((p2 + (rI s10.2 111 (s4.1 : Int32).toNatClampNeg)) + (rI s10.2 111 (s6.1 : Int32).toNatClampNeg)) + (rI s10.2 111 (s8.1 : Int32).toNatClampNeg)) + (rI s10.2 111 (s10.1 : Int32).toNatClampNeg))), none]) dX11_goesOn_189 (by decide) rfl q))) ?_
            refine P_v ((((p2 + (rI s10.2 111 (s4.1 : Int32).toNatClampNeg)) + (rI s10.2 111 (s6.1 : Int32).toNatClampNeg)) + (rI s10.2 111 (s8.1 : Int32).toNatClampNeg)) + (rI s10.2 111 (s10.1 : Int32).toNatClampNeg)) (fun x => [some (.ref 67), none, some (.int p2), some (.long p3), none, some (.long p4), none, some (.long p5), none, some (.int p6), some (.int s4.1), some (.int s6.1), some (.int s8.1), some (.int s10.1), some (.int x), none]) (fun x15 => ?_)
            refine P_l (fun hJ _ _ q => E_aload_n dX11_goesOn_191 rfl (E_getR (b := 110) clX11 66 (by decide) flX11_164 (Or.inr ⟨_, rfl⟩) dX11_goesOn_192 (kd67 hJ.1.1) (rf67_66 hJ.1.1) (by decide) (E_iload dX11_goesOn_195 rfl (E_iald dX11_goesOn_197 (kd110 hJ.1.1) (inB_vp g11) (E_aload_n dX11_goesOn_198 rfl (E_getR (b := 110) clX11 66 (by decide) flX11_164 (Or.inr ⟨_, rfl⟩) dX11_goesOn_199 (kd67 hJ.1.1) (rf67_66 hJ.1.1) (by decide) (E_iload dX11_goesOn_202 rfl (E_iald dX11_goesOn_204 (kd110 hJ.1.1) (inB_vp g12) (E_iconst (v := 4) dX11_goesOn_205 (by decide) (E_ishl dX11_goesOn_206 (E_ior dX11_goesOn_207 (E_aload_n dX11_goesOn_208 rfl (E_getR (b := 110) clX11 66 (by decide) flX11_164 (Or.inr ⟨_, rfl⟩) dX11_goesOn_209 (kd67 hJ.1.1) (rf67_66 hJ.1.1) (by decide) (E_iload dX11_goesOn_212 rfl q)))))))))))))) ?_
            refine P_l (fun hJ _ _ q => E_iald dX11_goesOn_214 (kd110 hJ.1.1) (inB_vp g13) (E_bipush (v := 8) dX11_goesOn_215 (by decide) (E_ishl dX11_goesOn_217 (E_ior dX11_goesOn_218 (E_aload_n dX11_goesOn_219 rfl (E_getR (b := 110) clX11 66 (by decide) flX11_164 (Or.inr ⟨_, rfl⟩) dX11_goesOn_220 (kd67 hJ.1.1) (rf67_66 hJ.1.1) (by decide) (E_iload dX11_goesOn_223 rfl (E_iald dX11_goesOn_225 (kd110 hJ.1.1) (inB_vp g14) (E_bipush (v := 12) dX11_goesOn_226 (by decide) (E_ishl dX11_goesOn_228 (E_ior dX11_goesOn_229 (E_istore (ls2 := [some (.ref 67), none, some (.int p2), some (.long p3), none, some (.long p4), none, some (.long p5), none, some (.int p6), some (.int s4.1), some (.int s6.1), some (.int s8.1), some (.int s10.1), some (.int x15), some (.int ((((rI s10.2 110 (s4.1 : Int32).toNatClampNeg) ||| ((rI s10.2 110 (s6.1 : Int32).toNatClampNeg) <<< ((4 : Int32) &&& 31))) ||| ((rI s10.2 110 (s8.1 : Int32).toNatClampNeg) <<< ((8 : Int32) &&& 31))) ||| ((rI s10.2 110 (s10.1 : Int32).toNatClampNeg) <<< ((12 : Int32) &&& 31))))]) dX11_goesOn_230 (by decide) rfl q)))))))))))) ?_
            refine P_v ((((rI s10.2 110 (s4.1 : Int32).toNatClampNeg) ||| ((rI s10.2 110 (s6.1 : Int32).toNatClampNeg) <<< ((4 : Int32) &&& 31))) ||| ((rI s10.2 110 (s8.1 : Int32).toNatClampNeg) <<< ((8 : Int32) &&& 31))) ||| ((rI s10.2 110 (s10.1 : Int32).toNatClampNeg) <<< ((12 : Int32) &&& 31))) (fun x => [some (.ref 67), none, some (.int p2), some (.long p3), none, some (.long p4), none, some (.long p5), none, some (.int p6), some (.int s4.1), some (.int s6.1), some (.int s8.1), some (.int s10.1), some (.int x15), some (.int x)]) (fun x16 => ?_)
            refine P_l (fun hJ _ _ q => E_aload_n dX11_goesOn_232 rfl (E_iload dX11_goesOn_233 rfl (E_lload_n dX11_goesOn_235 rfl (E_iload dX11_goesOn_236 rfl q)))) ?_
            refine P_l (pc2 := 252) (ls2 := [some (.ref 67), none, some (.int p2), some (.long p3), none, some (.long p4), none, some (.long p5), none, some (.int p6), some (.int s4.1), some (.int s6.1), some (.int s8.1), some (.int s10.1), some (.int x15), none]) (st2 := [.long ((if p6 = 0 then (p4 + (((x15 : Int32)).toInt64)) else p4 : Int64)), .long p3, .int x16, .ref 67]) (fun hJ _ _ hq => ?_) ?_
            · skip
              refine E_if_eq 246 dX11_goesOn_238 (by decide) (fun c_238_0 => ?_) (fun c_238_0 => ?_)
              · skip
                refine E_lload dX11_goesOn_246 rfl ?_
                refine E_iload dX11_goesOn_248 rfl ?_
                refine E_i2l dX11_goesOn_250 ?_
                refine E_ladd dX11_goesOn_251 ?_
                simp only [if_pos c_238_0] at hq
                exact E_less (ls2 := [some (.ref 67), none, some (.int p2), some (.long p3), none, some (.long p4), none, some (.long p5), none, some (.int p6), some (.int s4.1), some (.int s6.1), some (.int s8.1), some (.int s10.1), some (.int x15), none]) hq (rLe_at [some (.ref 67), none, some (.int p2), some (.long p3), none, some (.long p4), none, some (.long p5), none, some (.int p6), some (.int s4.1), some (.int s6.1), some (.int s8.1), some (.int s10.1), some (.int x15), none] [some (.ref 67), none, some (.int p2), some (.long p3), none, some (.long p4), none, some (.long p5), none, some (.int p6), some (.int s4.1), some (.int s6.1), some (.int s8.1), some (.int s10.1), some (.int x15), some (.int x16)] (And.intro rfl (And.intro rfl (And.intro rfl (And.intro rfl (And.intro rfl (And.intro rfl (And.intro rfl (And.intro rfl (And.intro rfl (And.intro rfl (And.intro rfl trivial))))))))))))
              · skip
                refine E_lload dX11_goesOn_241 rfl ?_
                refine E_goto 252 dX11_goesOn_243 (by decide) ?_
                simp only [if_neg c_238_0] at hq
                exact E_less (ls2 := [some (.ref 67), none, some (.int p2), some (.long p3), none, some (.long p4), none, some (.long p5), none, some (.int p6), some (.int s4.1), some (.int s6.1), some (.int s8.1), some (.int s10.1), some (.int x15), none]) hq (rLe_at [some (.ref 67), none, some (.int p2), some (.long p3), none, some (.long p4), none, some (.long p5), none, some (.int p6), some (.int s4.1), some (.int s6.1), some (.int s8.1), some (.int s10.1), some (.int x15), none] [some (.ref 67), none, some (.int p2), some (.long p3), none, some (.long p4), none, some (.long p5), none, some (.int p6), some (.int s4.1), some (.int s6.1), some (.int s8.1), some (.int s10.1), some (.int x15), some (.int x16)] (And.intro rfl (And.intro rfl (And.intro rfl (And.intro rfl (And.intro rfl (And.intro rfl (And.intro rfl (And.intro rfl (And.intro rfl (And.intro rfl (And.intro rfl trivial))))))))))))
            · skip
              refine P_l (fun hJ _ _ q => E_iload dX11_goesOn_252 rfl q) ?_
              refine P_l (pc2 := 268) (ls2 := [some (.ref 67), none, some (.int p2), some (.long p3), none, some (.long p4), none, some (.long p5), none, some (.int p6), some (.int s4.1), some (.int s6.1), some (.int s8.1), some (.int s10.1), none, none]) (st2 := [.long ((if p6 = 0 then (p5 + (((x15 : Int32)).toInt64)) else p5 : Int64)), .long ((if p6 = 0 then (p4 + (((x15 : Int32)).toInt64)) else p4 : Int64)), .long p3, .int x16, .ref 67]) (fun hJ _ _ hq => ?_) ?_
              · skip
                refine E_if_eq 262 dX11_goesOn_254 (by decide) (fun c_254_0 => ?_) (fun c_254_0 => ?_)
                · skip
                  refine E_lload dX11_goesOn_262 rfl ?_
                  refine E_iload dX11_goesOn_264 rfl ?_
                  refine E_i2l dX11_goesOn_266 ?_
                  refine E_ladd dX11_goesOn_267 ?_
                  exact E_less (ls2 := [some (.ref 67), none, some (.int p2), some (.long p3), none, some (.long p4), none, some (.long p5), none, some (.int p6), some (.int s4.1), some (.int s6.1), some (.int s8.1), some (.int s10.1), none, none]) (E_eq hq (by simp only [if_pos c_254_0]) (by simp only [if_pos c_254_0]) rfl) (rLe_at [some (.ref 67), none, some (.int p2), some (.long p3), none, some (.long p4), none, some (.long p5), none, some (.int p6), some (.int s4.1), some (.int s6.1), some (.int s8.1), some (.int s10.1), none, none] [some (.ref 67), none, some (.int p2), some (.long p3), none, some (.long p4), none, some (.long p5), none, some (.int p6), some (.int s4.1), some (.int s6.1), some (.int s8.1), some (.int s10.1), some (.int x15), none] (And.intro rfl (And.intro rfl (And.intro rfl (And.intro rfl (And.intro rfl (And.intro rfl (And.intro rfl (And.intro rfl (And.intro rfl (And.intro rfl trivial)))))))))))
                · skip
                  refine E_lload dX11_goesOn_257 rfl ?_
                  refine E_goto 268 dX11_goesOn_259 (by decide) ?_
                  exact E_less (ls2 := [some (.ref 67), none, some (.int p2), some (.long p3), none, some (.long p4), none, some (.long p5), none, some (.int p6), some (.int s4.1), some (.int s6.1), some (.int s8.1), some (.int s10.1), none, none]) (E_eq hq (by simp only [if_neg c_254_0]) (by simp only [if_neg c_254_0]) rfl) (rLe_at [some (.ref 67), none, some (.int p2), some (.long p3), none, some (.long p4), none, some (.long p5), none, some (.int p6), some (.int s4.1), some (.int s6.1), some (.int s8.1), some (.int s10.1), none, none] [some (.ref 67), none, some (.int p2), some (.long p3), none, some (.long p4), none, some (.long p5), none, some (.int p6), some (.int s4.1), some (.int s6.1), some (.int s8.1), some (.int s10.1), some (.int x15), none] (And.intro rfl (And.intro rfl (And.intro rfl (And.intro rfl (And.intro rfl (And.intro rfl (And.intro rfl (And.intro rfl (And.intro rfl (And.intro rfl trivial)))))))))))
              · skip
                refine P_l (fun hJ _ _ q => E_iload dX11_goesOn_268 rfl q) ?_
                refine P_call (t := fun _ => none) (st2 := fun _ => []) (kc2 := 0) (ks2 := 0) (fun hJ => (ok_X11_comes (σ := s10.2) (p1 := x16) (p2 := p3) (p3 := (if p6 = 0 then (p4 + (((x15 : Int32)).toInt64)) else p4 : Int64)) (p4 := (if p6 = 0 then (p5 + (((x15 : Int32)).toInt64)) else p5 : Int64)) (p5 := p6) )) (fun hJ _ _ _ _ v τ1 hM q => E_callV (as := [.int x16, .long p3, .long ((if p6 = 0 then (p4 + (((x15 : Int32)).toInt64)) else p4 : Int64)), .long ((if p6 = 0 then (p5 + (((x15 : Int32)).toInt64)) else p5 : Int64)), .int p6]) (b := 67) (st := []) hM (by decide) yfX11_comes mlX11_215 imX11_comes seX11_comes clX11 (kd67 hJ.1.1) rfl (Nat.le_of_ble_eq_true rfl) rfl dX11_goesOn_270 q) (by decide) (by decide) (fun v17 σ18 => ?_)
                refine P_l (fun hJ _ _ q => E_iinc (v := 1) (ls2 := [some (.ref 67), none, some (.int p2), some (.long p3), none, some (.long p4), none, some (.long p5), none, some (.int p6), some (.int s4.1), some (.int s6.1), some (.int s8.1), some (.int (s10.1 + 1)), none, none]) dX11_goesOn_273 rfl (by decide) (by decide) rfl (E_goto 145 dX11_goesOn_276 (by decide) q)) ?_
                exact P_back ((s10.1 + 1, σ18))
  · skip
    refine P_l (fun hJ _ _ q => E_aload_n dX11_goesOn_14 rfl (E_getR (b := 112) clX11 68 (by decide) flX11_170 (Or.inr ⟨_, rfl⟩) dX11_goesOn_15 (kd67 hJ.1.1) (rf67_68 hJ.1.1) (by decide) (E_iload dX11_goesOn_18 rfl (E_aload_n dX11_goesOn_20 rfl (E_getI clX11 65 (by decide) flX11_192 (Or.inl rfl) dX11_goesOn_21 (kd67 hJ.1.1) q))))) ?_
    refine P_g (fun g19 => ?_)
    refine P_w (fun hJ _ _ q => E_iast dX11_goesOn_24 (kd112 hJ.1.1) (by decide) (inB_vp g19) q) (fun hJ => Sy_wI hJ.1) rfl rfl rfl (fun σ20 hσ20 => ?_)
    refine P_l (fun hJ _ _ q => E_aload_n dX11_goesOn_25 rfl (E_iload_n dX11_goesOn_26 rfl (E_iconst (v := 4) dX11_goesOn_27 (by decide) (E_iload dX11_goesOn_28 rfl (E_imul dX11_goesOn_30 (E_ishr dX11_goesOn_31 (E_bipush (v := 15) dX11_goesOn_32 (by decide) (E_iand dX11_goesOn_34 (E_aload_n dX11_goesOn_35 rfl (E_getR (b := 107) clX11 59 (by decide) flX11_155 (Or.inr ⟨_, rfl⟩) dX11_goesOn_36 (kd67 hJ.1.1) (rf67_59 hJ.1.1) (by decide) (E_iload dX11_goesOn_39 rfl (E_iald dX11_goesOn_41 (kd107 hJ.1.1) (inB_vp g19) q)))))))))))) ?_
    refine P_call (t := fun _ => none) (st2 := fun _ => []) (kc2 := 0) (ks2 := 0) (fun hJ => (ok_X11_laysOptions (σ := σ20) (p1 := (p1 >>> ((4 * s2.1) &&& 31)) &&& 15) (p2 := rI σ20 107 (s2.1 : Int32).toNatClampNeg) )) (fun hJ _ _ _ _ v τ1 hM q => E_callV (as := [.int ((p1 >>> ((4 * s2.1) &&& 31)) &&& 15), .int (rI σ20 107 (s2.1 : Int32).toNatClampNeg)]) (b := 67) (st := []) hM (by decide) yfX11_laysOptions mlX11_212 imX11_laysOptions seX11_laysOptions clX11 (kd67 hJ.1.1) rfl (Nat.le_of_ble_eq_true rfl) rfl dX11_goesOn_42 q) (by decide) (by decide) (fun v21 σ22 => ?_)
    refine P_l (fun hJ _ _ q => E_aload_n dX11_goesOn_45 rfl (E_getR (b := 113) clX11 69 (by decide) flX11_173 (Or.inr ⟨_, rfl⟩) dX11_goesOn_46 (kd67 hJ.1.1) (rf67_69 hJ.1.1) (by decide) (E_iload dX11_goesOn_49 rfl (E_aload_n dX11_goesOn_51 rfl (E_getI clX11 65 (by decide) flX11_192 (Or.inl rfl) dX11_goesOn_52 (kd67 hJ.1.1) q))))) ?_
    refine P_w (fun hJ _ _ q => E_iast dX11_goesOn_55 (kd113 hJ.1.1) (by decide) (inB_vp g19) q) (fun hJ => Sy_wI hJ.1) rfl rfl rfl (fun σ23 hσ23 => ?_)
    refine P_l (fun hJ _ _ q => E_aload_n dX11_goesOn_56 rfl (E_getR (b := 112) clX11 68 (by decide) flX11_170 (Or.inr ⟨_, rfl⟩) dX11_goesOn_57 (kd67 hJ.1.1) (rf67_68 hJ.1.1) (by decide) (E_iload dX11_goesOn_60 rfl (E_iald dX11_goesOn_62 (kd112 hJ.1.1) (inB_vp g19) (E_aload_n dX11_goesOn_63 rfl (E_getR (b := 113) clX11 69 (by decide) flX11_173 (Or.inr ⟨_, rfl⟩) dX11_goesOn_64 (kd67 hJ.1.1) (rf67_69 hJ.1.1) (by decide) (E_iload dX11_goesOn_67 rfl (E_iald dX11_goesOn_69 (kd113 hJ.1.1) (inB_vp g19) q)))))))) ?_
    refine P_if (fun hJ _ _ h1 h2 => E_icmp_ne 74 dX11_goesOn_70 (by decide) h2 h1) ?_ ?_
    · skip
      exact P_inl (P_ret (fun _ _ => E_vret rfl dX11_goesOn_73))
    · skip
      refine P_l (fun hJ _ _ q => E_iinc (v := 1) (ls2 := [some (.ref 67), some (.int p1), some (.int p2), some (.long p3), none, some (.long p4), none, some (.long p5), none, some (.int p6), some (.int (s2.1 + 1)), none, none, none, none, none]) dX11_goesOn_74 rfl (by decide) (by decide) rfl (E_goto 8 dX11_goesOn_77 (by decide) q)) ?_
      exact P_back ((s2.1 + 1, σ23))

def b_X11_groupsAndRuns_18 (p2 : Int32) (s1 : Int32 × rS) (s4 : Int32 × Int32 × rS) : Option ((((Unit × rS) ⊕ (Int32 × rS)) ⊕ (Int32 × rS)) ⊕ (Int32 × Int32 × rS)) := if 4 ≤ s4.2.1 then (some (.inl (.inr ((s4.1, s4.2.2))))) else (if inB ((13 * s4.2.1) + p2) 52 then (if inB s4.2.1 4 then (if inB ((4 * s1.1) + s4.2.1) 84 then (oLet (wI s4.2.2 107 (s4.2.1 : Int32).toNatClampNeg (((rI s4.2.2 91 ((13 * s4.2.1) + p2 : Int32).toNatClampNeg) + (rI s4.2.2 108 (s4.2.1 : Int32).toNatClampNeg)) - (rI s4.2.2 93 ((4 * s1.1) + s4.2.1 : Int32).toNatClampNeg))) fun σ8 => oLet ((if s4.1 = 0 then 0 else (if (rI σ8 107 (s4.2.1 : Int32).toNatClampNeg) < 0 then 0 else 1) : Int32) : Int32) fun x9 => some (.inr ((x9, s4.2.1 + 1, σ8)))) else none) else none) else none)
def b_X11_groupsAndRuns_3 (p1 : Int32) (p2 : Int32) (p3 : Int64) (p4 : Int64) (p5 : Int64) (p6 : Int32) (s1 : Int32 × rS) : Option ((Unit × rS) ⊕ (Int32 × rS)) := if (rI s1.2 67 44) ≤ s1.1 then (some (.inl (((), s1.2)))) else (oJoin (oLoop (b_X11_groupsAndRuns_18 p2 s1) oFuel ((1, 0, s1.2))) fun j3 => if j3.1 = 0 then (some (.inr ((s1.1 + 1, j3.2)))) else (if inB s1.1 21 then (oB (f_X11_goesOn j3.2 p1 (rI j3.2 94 (s1.1 : Int32).toNatClampNeg) p3 p4 p5 p6) fun _ σ12 => some (.inr ((s1.1 + 1, σ12)))) else none))
def f_X11_groupsAndRuns (σ : rS) (p1 : Int32) (p2 : Int32) (p3 : Int64) (p4 : Int64) (p5 : Int64) (p6 : Int32) : Option (Unit × rS) := oLoop (b_X11_groupsAndRuns_3 p1 p2 p3 p4 p5 p6) oFuel ((0, σ))
set_option maxRecDepth 20000 in
set_option maxHeartbeats 2000000 in
theorem ok_X11_groupsAndRuns {σ : rS} {p1 : Int32} {p2 : Int32} {p3 : Int64} {p4 : Int64} {p5 : Int64} {p6 : Int32}   : rFn Sy yX11_groupsAndRuns mX11_groupsAndRuns 3 [.ref 67, .int p1, .int p2, .long p3, .long p4, .long p5, .int p6] σ 0 0 (fun _ => .inl none) (f_X11_groupsAndRuns σ p1 p2 p3 p4 p5 p6) := by
  refine rF_of (ls := [some (.ref 67), some (.int p1), some (.int p2), some (.long p3), none, some (.long p4), none, some (.long p5), none, some (.int p6), none, none, none]) yfX11_groupsAndRuns rfl (Nat.le_of_ble_eq_true rfl) (fun o τ => ?_)
  unfold f_X11_groupsAndRuns
  refine P_l (fun hJ _ _ q => E_iconst (v := 0) dX11_groupsAndRuns_0 (by decide) (E_istore (ls2 := [some (.ref 67), some (.int p1), some (.int p2), some (.long p3), none, some (.long p4), none, some (.long p5), none, some (.int p6), some (.int 0), none, none]) dX11_groupsAndRuns_1 (by decide) rfl q)) ?_
  refine P_loop (fun s1 => [some (.ref 67), some (.int p1), some (.int p2), some (.long p3), none, some (.long p4), none, some (.long p5), none, some (.int p6), some (.int s1.1), none, none]) (fun s1 => s1.2) (fun s1 => ?_) _ ((0, σ))
  unfold b_X11_groupsAndRuns_3
  refine P_l (fun hJ _ _ q => E_iload dX11_groupsAndRuns_3 rfl (E_aload_n dX11_groupsAndRuns_5 rfl (E_getI clX11 44 (by decide) flX11_189 (Or.inl rfl) dX11_groupsAndRuns_6 (kd67 hJ.1.1) q))) ?_
  refine P_if (fun hJ _ _ h1 h2 => E_icmp_ge 122 dX11_groupsAndRuns_9 (by decide) h1 h2) ?_ ?_
  · skip
    exact P_inl (P_ret (fun _ _ => E_vret rfl dX11_groupsAndRuns_122))
  · skip
    refine P_l (fun hJ _ _ q => E_iconst (v := 1) dX11_groupsAndRuns_12 (by decide) (E_istore (ls2 := [some (.ref 67), some (.int p1), some (.int p2), some (.long p3), none, some (.long p4), none, some (.long p5), none, some (.int p6), some (.int s1.1), some (.int 1), none]) dX11_groupsAndRuns_13 (by decide) rfl (E_iconst (v := 0) dX11_groupsAndRuns_15 (by decide) (E_istore (ls2 := [some (.ref 67), some (.int p1), some (.int p2), some (.long p3), none, some (.long p4), none, some (.long p5), none, some (.int p6), some (.int s1.1), some (.int 1), some (.int 0)]) dX11_groupsAndRuns_16 (by decide) rfl q)))) ?_
    refine P_join (pc2 := 92) (fun j3 => [some (.ref 67), some (.int p1), some (.int p2), some (.long p3), none, some (.long p4), none, some (.long p5), none, some (.int p6), some (.int s1.1), some (.int j3.1), none]) (fun j3 => []) (fun j3 => j3.2) ?_ (fun j3 => ?_)
    · skip
      refine P_loop (fun s4 => [some (.ref 67), some (.int p1), some (.int p2), some (.long p3), none, some (.long p4), none, some (.long p5), none, some (.int p6), some (.int s1.1), some (.int s4.1), some (.int s4.2.1)]) (fun s4 => s4.2.2) (fun s4 => ?_) _ ((1, 0, s1.2))
      unfold b_X11_groupsAndRuns_18
      refine P_l (fun hJ _ _ q => E_iload dX11_groupsAndRuns_18 rfl (E_iconst (v := 4) dX11_groupsAndRuns_20 (by decide) q)) ?_
      refine P_if (fun hJ _ _ h1 h2 => E_icmp_ge 92 dX11_groupsAndRuns_21 (by decide) h1 h2) ?_ ?_
      · skip
        refine P_less [some (.ref 67), some (.int p1), some (.int p2), some (.long p3), none, some (.long p4), none, some (.long p5), none, some (.int p6), some (.int s1.1), some (.int s4.1), none] (And.intro rfl (And.intro rfl (And.intro rfl (And.intro rfl (And.intro rfl (And.intro rfl (And.intro rfl (And.intro rfl (And.intro rfl trivial))))))))) ?_
        exact P_inl (P_back ((s4.1, s4.2.2)))
      · skip
        refine P_l (fun hJ _ _ q => E_aload_n dX11_groupsAndRuns_24 rfl (E_getR (b := 107) clX11 59 (by decide) flX11_155 (Or.inr ⟨_, rfl⟩) dX11_groupsAndRuns_25 (kd67 hJ.1.1) (rf67_59 hJ.1.1) (by decide) (E_iload dX11_groupsAndRuns_28 rfl (E_aload_n dX11_groupsAndRuns_30 rfl (E_getR (b := 91) clX11 40 (by decide) flX11_106 (Or.inr ⟨_, rfl⟩) dX11_groupsAndRuns_31 (kd67 hJ.1.1) (rf67_40 hJ.1.1) (by decide) (E_bipush (v := 13) dX11_groupsAndRuns_34 (by decide) (E_iload dX11_groupsAndRuns_36 rfl (E_imul dX11_groupsAndRuns_38 (E_iload_n dX11_groupsAndRuns_39 rfl (E_iadd dX11_groupsAndRuns_40 q)))))))))) ?_
        refine P_g (fun g5 => ?_)
        refine P_l (fun hJ _ _ q => E_iald dX11_groupsAndRuns_41 (kd91 hJ.1.1) (inB_vp g5) (E_aload_n dX11_groupsAndRuns_42 rfl (E_getR (b := 108) clX11 60 (by decide) flX11_158 (Or.inr ⟨_, rfl⟩) dX11_groupsAndRuns_43 (kd67 hJ.1.1) (rf67_60 hJ.1.1) (by decide) (E_iload dX11_groupsAndRuns_46 rfl q)))) ?_
        refine P_g (fun g6 => ?_)
        refine P_l (fun hJ _ _ q => E_iald dX11_groupsAndRuns_48 (kd108 hJ.1.1) (inB_vp g6) (E_iadd dX11_groupsAndRuns_49 (E_aload_n dX11_groupsAndRuns_50 rfl (E_getR (b := 93) clX11 42 (by decide) flX11_112 (Or.inr ⟨_, rfl⟩) dX11_groupsAndRuns_51 (kd67 hJ.1.1) (rf67_42 hJ.1.1) (by decide) (E_iconst (v := 4) dX11_groupsAndRuns_54 (by decide) (E_iload dX11_groupsAndRuns_55 rfl (E_imul dX11_groupsAndRuns_57 (E_iload dX11_groupsAndRuns_58 rfl (E_iadd dX11_groupsAndRuns_60 q))))))))) ?_
        refine P_g (fun g7 => ?_)
        refine P_l (fun hJ _ _ q => E_iald dX11_groupsAndRuns_61 (kd93 hJ.1.1) (inB_vp g7) (E_isub dX11_groupsAndRuns_62 q)) ?_
        refine P_w (fun hJ _ _ q => E_iast dX11_groupsAndRuns_63 (kd107 hJ.1.1) (by decide) (inB_vp g6) q) (fun hJ => Sy_wI hJ.1) rfl rfl rfl (fun σ8 hσ8 => ?_)
        refine P_l (fun hJ _ _ q => E_iload dX11_groupsAndRuns_64 rfl q) ?_
        refine P_l (pc2 := 84) (ls2 := [some (.ref 67), some (.int p1), some (.int p2), some (.long p3), none, some (.long p4), none, some (.long p5), none, some (.int p6), some (.int s1.1), none, some (.int s4.2.1)]) (st2 := [.int ((if s4.1 = 0 then 0 else (if (rI σ8 107 (s4.2.1 : Int32).toNatClampNeg) < 0 then 0 else 1) : Int32))]) (fun hJ _ _ hq => ?_) ?_
        · skip
          refine E_if_eq 83 dX11_groupsAndRuns_66 (by decide) (fun c_66_0 => ?_) (fun c_66_0 => ?_)
          · skip
            refine E_iconst (v := 0) dX11_groupsAndRuns_83 (by decide) ?_
            simp only [if_pos c_66_0] at hq
            exact E_less (ls2 := [some (.ref 67), some (.int p1), some (.int p2), some (.long p3), none, some (.long p4), none, some (.long p5), none, some (.int p6), some (.int s1.1), none, some (.int s4.2.1)]) hq (rLe_at [some (.ref 67), some (.int p1), some (.int p2), some (.long p3), none, some (.long p4), none, some (.long p5), none, some (.int p6), some (.int s1.1), none, some (.int s4.2.1)] [some (.ref 67), some (.int p1), some (.int p2), some (.long p3), none, some (.long p4), none, some (.long p5), none, some (.int p6), some (.int s1.1), some (.int s4.1), some (.int s4.2.1)] (And.intro rfl (And.intro rfl (And.intro rfl (And.intro rfl (And.intro rfl (And.intro rfl (And.intro rfl (And.intro rfl (And.intro rfl trivial))))))))))
          · skip
            refine E_aload_n dX11_groupsAndRuns_69 rfl ?_
            refine E_getR (b := 107) clX11 59 (by decide) flX11_155 (Or.inr ⟨_, rfl⟩) dX11_groupsAndRuns_70 (kd67 hJ.1.1) (rf67_59 hJ.1.1) (by decide) ?_
            refine E_iload dX11_groupsAndRuns_73 rfl ?_
            refine E_iald dX11_groupsAndRuns_75 (kd107 hJ.1.1) (inB_vp g6) ?_
            refine E_if_lt 83 dX11_groupsAndRuns_76 (by decide) (fun c_76_1 => ?_) (fun c_76_1 => ?_)
            · skip
              refine E_iconst (v := 0) dX11_groupsAndRuns_83 (by decide) ?_
              simp only [if_neg c_66_0, if_pos c_76_1] at hq
              exact E_less (ls2 := [some (.ref 67), some (.int p1), some (.int p2), some (.long p3), none, some (.long p4), none, some (.long p5), none, some (.int p6), some (.int s1.1), none, some (.int s4.2.1)]) hq (rLe_at [some (.ref 67), some (.int p1), some (.int p2), some (.long p3), none, some (.long p4), none, some (.long p5), none, some (.int p6), some (.int s1.1), none, some (.int s4.2.1)] [some (.ref 67), some (.int p1), some (.int p2), some (.long p3), none, some (.long p4), none, some (.long p5), none, some (.int p6), some (.int s1.1), some (.int s4.1), some (.int s4.2.1)] (And.intro rfl (And.intro rfl (And.intro rfl (And.intro rfl (And.intro rfl (And.intro rfl (And.intro rfl (And.intro rfl (And.intro rfl trivial))))))))))
            · skip
              refine E_iconst (v := 1) dX11_groupsAndRuns_79 (by decide) ?_
              refine E_goto 84 dX11_groupsAndRuns_80 (by decide) ?_
              simp only [if_neg c_66_0, if_neg c_76_1] at hq
              exact E_less (ls2 := [some (.ref 67), some (.int p1), some (.int p2), some (.long p3), none, some (.long p4), none, some (.long p5), none, some (.int p6), some (.int s1.1), none, some (.int s4.2.1)]) hq (rLe_at [some (.ref 67), some (.int p1), some (.int p2), some (.long p3), none, some (.long p4), none, some (.long p5), none, some (.int p6), some (.int s1.1), none, some (.int s4.2.1)] [some (.ref 67), some (.int p1), some (.int p2), some (.long p3), none, some (.long p4), none, some (.long p5), none, some (.int p6), some (.int s1.1), some (.int s4.1), some (.int s4.2.1)] (And.intro rfl (And.intro rfl (And.intro rfl (And.intro rfl (And.intro rfl (And.intro rfl (And.intro rfl (And.intro rfl (And.intro rfl trivial))))))))))
        · skip
          refine P_l (fun hJ _ _ q => E_istore (ls2 := [some (.ref 67), some (.int p1), some (.int p2), some (.long p3), none, some (.long p4), none, some (.long p5), none, some (.int p6), some (.int s1.1), some (.int ((if s4.1 = 0 then 0 else (if (rI σ8 107 (s4.2.1 : Int32).toNatClampNeg) < 0 then 0 else 1) : Int32))), some (.int s4.2.1)]) dX11_groupsAndRuns_84 (by decide) rfl q) ?_
          refine P_v ((if s4.1 = 0 then 0 else (if (rI σ8 107 (s4.2.1 : Int32).toNatClampNeg) < 0 then 0 else 1) : Int32)) (fun x => [some (.ref 67), some (.int p1), some (.int p2), some (.long p3), none, some (.long p4), none, some (.long p5), none, some (.int p6), some (.int s1.1), some (.int x), some (.int s4.2.1)]) (fun x9 => ?_)
          refine P_l (fun hJ _ _ q => E_iinc (v := 1) (ls2 := [some (.ref 67), some (.int p1), some (.int p2), some (.long p3), none, some (.long p4), none, some (.long p5), none, some (.int p6), some (.int s1.1), some (.int x9), some (.int (s4.2.1 + 1))]) dX11_groupsAndRuns_86 rfl (by decide) (by decide) rfl (E_goto 18 dX11_groupsAndRuns_89 (by decide) q)) ?_
          exact P_back ((x9, s4.2.1 + 1, σ8))
    · skip
      refine P_l (fun hJ _ _ q => E_iload dX11_groupsAndRuns_92 rfl q) ?_
      refine P_if (fun hJ _ _ h1 h2 => E_if_eq 116 dX11_groupsAndRuns_94 (by decide) h1 h2) ?_ ?_
      · skip
        refine P_l (fun hJ _ _ q => E_iinc (v := 1) (ls2 := [some (.ref 67), some (.int p1), some (.int p2), some (.long p3), none, some (.long p4), none, some (.long p5), none, some (.int p6), some (.int (s1.1 + 1)), some (.int j3.1), none]) dX11_groupsAndRuns_116 rfl (by decide) (by decide) rfl (E_goto 3 dX11_groupsAndRuns_119 (by decide) q)) ?_
        refine P_less [some (.ref 67), some (.int p1), some (.int p2), some (.long p3), none, some (.long p4), none, some (.long p5), none, some (.int p6), some (.int (s1.1 + 1)), none, none] (And.intro rfl (And.intro rfl (And.intro rfl (And.intro rfl (And.intro rfl (And.intro rfl (And.intro rfl (And.intro rfl trivial)))))))) ?_
        exact P_back ((s1.1 + 1, j3.2))
      · skip
        refine P_l (fun hJ _ _ q => E_aload_n dX11_groupsAndRuns_97 rfl (E_iload_n dX11_groupsAndRuns_98 rfl (E_aload_n dX11_groupsAndRuns_99 rfl (E_getR (b := 94) clX11 43 (by decide) flX11_115 (Or.inr ⟨_, rfl⟩) dX11_groupsAndRuns_100 (kd67 hJ.1.1) (rf67_43 hJ.1.1) (by decide) (E_iload dX11_groupsAndRuns_103 rfl q))))) ?_
        refine P_g (fun g10 => ?_)
        refine P_l (fun hJ _ _ q => E_iald dX11_groupsAndRuns_105 (kd94 hJ.1.1) (inB_vp g10) (E_lload_n dX11_groupsAndRuns_106 rfl (E_lload dX11_groupsAndRuns_107 rfl (E_lload dX11_groupsAndRuns_109 rfl (E_iload dX11_groupsAndRuns_111 rfl q))))) ?_
        refine P_call (t := fun _ => none) (st2 := fun _ => []) (kc2 := 0) (ks2 := 0) (fun hJ => (ok_X11_goesOn (σ := j3.2) (p1 := p1) (p2 := rI j3.2 94 (s1.1 : Int32).toNatClampNeg) (p3 := p3) (p4 := p4) (p5 := p5) (p6 := p6) )) (fun hJ _ _ _ _ v τ1 hM q => E_callV (as := [.int p1, .int (rI j3.2 94 (s1.1 : Int32).toNatClampNeg), .long p3, .long p4, .long p5, .int p6]) (b := 67) (st := []) hM (by decide) yfX11_goesOn mlX11_219 imX11_goesOn seX11_goesOn clX11 (kd67 hJ.1.1) rfl (Nat.le_of_ble_eq_true rfl) rfl dX11_groupsAndRuns_113 q) (by decide) (by decide) (fun v11 σ12 => ?_)
        refine P_l (fun hJ _ _ q => E_iinc (v := 1) (ls2 := [some (.ref 67), some (.int p1), some (.int p2), some (.long p3), none, some (.long p4), none, some (.long p5), none, some (.int p6), some (.int (s1.1 + 1)), some (.int j3.1), none]) dX11_groupsAndRuns_116 rfl (by decide) (by decide) rfl (E_goto 3 dX11_groupsAndRuns_119 (by decide) q)) ?_
        refine P_less [some (.ref 67), some (.int p1), some (.int p2), some (.long p3), none, some (.long p4), none, some (.long p5), none, some (.int p6), some (.int (s1.1 + 1)), none, none] (And.intro rfl (And.intro rfl (And.intro rfl (And.intro rfl (And.intro rfl (And.intro rfl (And.intro rfl (And.intro rfl trivial)))))))) ?_
        exact P_back ((s1.1 + 1, σ12))

def b_X11_number_56 (p2 : Int32) (p3 : Int32) (p4 : Int32) (s9 : Int32 × Int32 × Int64 × Int64 × Int64 × Int32 × rS) : Option ((((Unit × rS) ⊕ (Int32 × rS)) ⊕ (Int32 × Int64 × Int64 × Int64 × rS)) ⊕ (Int32 × Int32 × Int64 × Int64 × Int64 × Int32 × rS)) := if 4 ≤ s9.2.2.2.2.2.1 then (some (.inl (.inr ((s9.2.1, s9.2.2.1, s9.2.2.2.1, s9.2.2.2.2.1, s9.2.2.2.2.2.2))))) else (if inB s9.2.2.2.2.2.1 4 then (oLet (wI s9.2.2.2.2.2.2 108 (s9.2.2.2.2.2.1 : Int32).toNatClampNeg (iRem s9.1 3)) fun σ11 => oJoin (if s9.2.1 = 0 then (some (.inr ((0 : Int32)))) else (if inB ((13 * s9.2.2.2.2.2.1) + p2) 52 then (if (rI σ11 92 ((13 * s9.2.2.2.2.2.1) + p2 : Int32).toNatClampNeg) < (rI σ11 108 (s9.2.2.2.2.2.1 : Int32).toNatClampNeg) then (some (.inr ((0 : Int32)))) else (some (.inr ((1 : Int32))))) else none)) fun j12 => oJoin (if p3 = 0 then (some (.inr (0 : Int64))) else (if inB s9.2.2.2.2.2.1 4 then (some (.inr ((((rI σ11 108 (s9.2.2.2.2.2.1 : Int32).toNatClampNeg : Int32)).toInt64) * ((if p4 = 0 then (((10000 : Int64) + (((p2 : Int32)).toInt64)) + (1 : Int64)) else (((100 : Int64) * (((p2 + 1 : Int32)).toInt64)) + (1 : Int64)) : Int64))))) else none)) fun j14 => oJoin (if (if p3 = 0 then true else (if 26 ≤ ((13 * s9.2.2.2.2.2.1) + p2) then true else false)) = true then (some (.inr (0 : Int64))) else (if inB s9.2.2.2.2.2.1 4 then ((f_X11_power σ11 ((13 * s9.2.2.2.2.2.1) + p2)).bind fun v18 => some (.inr ((((rI σ11 108 (s9.2.2.2.2.2.1 : Int32).toNatClampNeg : Int32)).toInt64) * v18))) else none)) fun j16 => if (if p3 = 0 then true else (if ((13 * s9.2.2.2.2.2.1) + p2) < 26 then true else false)) = true then (some (.inr ((s9.1 / 3, j12, s9.2.2.1 + j14, s9.2.2.2.1 + j16, s9.2.2.2.2.1 + (0 : Int64), s9.2.2.2.2.2.1 + 1, σ11)))) else (if inB s9.2.2.2.2.2.1 4 then ((f_X11_power σ11 ((13 * s9.2.2.2.2.2.1) + p2)).bind fun v20 => oLet (s9.2.2.2.2.1 + ((((rI σ11 108 (s9.2.2.2.2.2.1 : Int32).toNatClampNeg : Int32)).toInt64) * v20) : Int64) fun x21 => some (.inr ((s9.1 / 3, j12, s9.2.2.1 + j14, s9.2.2.2.1 + j16, x21, s9.2.2.2.2.2.1 + 1, σ11)))) else none)) else none)
def b_X11_number_15 (p1 : Int32) (p2 : Int32) (p3 : Int32) (p4 : Int32) (x1 : Int32) (s2 : Int32 × rS) : Option ((Unit × rS) ⊕ (Int32 × rS)) := if x1 ≤ s2.1 then (some (.inl (((), s2.2)))) else (if inB p1 65536 then (oLet (rL s2.2 95 (p1 : Int32).toNatClampNeg : Int64) fun x4 => oLet (rL s2.2 96 (p1 : Int32).toNatClampNeg : Int64) fun x5 => oLet (rL s2.2 97 (p1 : Int32).toNatClampNeg : Int64) fun x6 => oJoin (oLoop (b_X11_number_56 p2 p3 p4) oFuel ((s2.1, 1, x4, x5, x6, 0, s2.2))) fun j8 => if j8.1 = 0 then (some (.inr ((s2.1 + 1, j8.2.2.2.2)))) else (oB (f_X11_groupsAndRuns j8.2.2.2.2 p1 p2 j8.2.1 j8.2.2.1 j8.2.2.2.1 p3) fun _ σ23 => some (.inr ((s2.1 + 1, σ23))))) else none)
def f_X11_number (σ : rS) (p1 : Int32) (p2 : Int32) (p3 : Int32) (p4 : Int32) : Option (Unit × rS) := oLet ((if p3 = 0 then 1 else 81 : Int32) : Int32) fun x1 => oLoop (b_X11_number_15 p1 p2 p3 p4 x1) oFuel ((0, σ))
set_option maxRecDepth 20000 in
set_option maxHeartbeats 2000000 in
theorem ok_X11_number {σ : rS} {p1 : Int32} {p2 : Int32} {p3 : Int32} {p4 : Int32}   : rFn Sy yX11_number mX11_number 4 [.ref 67, .int p1, .int p2, .int p3, .int p4] σ 0 0 (fun _ => .inl none) (f_X11_number σ p1 p2 p3 p4) := by
  refine rF_of (ls := [some (.ref 67), some (.int p1), some (.int p2), some (.int p3), some (.int p4), none, none, none, none, none, none, none, none, none, none, none, none]) yfX11_number rfl (Nat.le_of_ble_eq_true rfl) (fun o τ => ?_)
  unfold f_X11_number
  refine P_l (fun hJ _ _ q => E_iload_n dX11_number_0 rfl q) ?_
  refine P_l (pc2 := 10) (ls2 := [some (.ref 67), some (.int p1), some (.int p2), some (.int p3), some (.int p4), none, none, none, none, none, none, none, none, none, none, none, none]) (st2 := [.int ((if p3 = 0 then 1 else 81 : Int32))]) (fun hJ _ _ hq => ?_) ?_
  · skip
    refine E_if_eq 9 dX11_number_1 (by decide) (fun c_1_0 => ?_) (fun c_1_0 => ?_)
    · skip
      refine E_iconst (v := 1) dX11_number_9 (by decide) ?_
      simp only [if_pos c_1_0] at hq
      exact hq
    · skip
      refine E_bipush (v := 81) dX11_number_4 (by decide) ?_
      refine E_goto 10 dX11_number_6 (by decide) ?_
      simp only [if_neg c_1_0] at hq
      exact hq
  · skip
    refine P_l (fun hJ _ _ q => E_istore (ls2 := [some (.ref 67), some (.int p1), some (.int p2), some (.int p3), some (.int p4), some (.int ((if p3 = 0 then 1 else 81 : Int32))), none, none, none, none, none, none, none, none, none, none, none]) dX11_number_10 (by decide) rfl q) ?_
    refine P_v ((if p3 = 0 then 1 else 81 : Int32)) (fun x => [some (.ref 67), some (.int p1), some (.int p2), some (.int p3), some (.int p4), some (.int x), none, none, none, none, none, none, none, none, none, none, none]) (fun x1 => ?_)
    refine P_l (fun hJ _ _ q => E_iconst (v := 0) dX11_number_12 (by decide) (E_istore (ls2 := [some (.ref 67), some (.int p1), some (.int p2), some (.int p3), some (.int p4), some (.int x1), some (.int 0), none, none, none, none, none, none, none, none, none, none]) dX11_number_13 (by decide) rfl q)) ?_
    refine P_loop (fun s2 => [some (.ref 67), some (.int p1), some (.int p2), some (.int p3), some (.int p4), some (.int x1), some (.int s2.1), none, none, none, none, none, none, none, none, none, none]) (fun s2 => s2.2) (fun s2 => ?_) _ ((0, σ))
    unfold b_X11_number_15
    refine P_l (fun hJ _ _ q => E_iload dX11_number_15 rfl (E_iload dX11_number_17 rfl q)) ?_
    refine P_if (fun hJ _ _ h1 h2 => E_icmp_ge 265 dX11_number_19 (by decide) h1 h2) ?_ ?_
    · skip
      exact P_inl (P_ret (fun _ _ => E_vret rfl dX11_number_265))
    · skip
      refine P_l (fun hJ _ _ q => E_iload dX11_number_22 rfl (E_istore (ls2 := [some (.ref 67), some (.int p1), some (.int p2), some (.int p3), some (.int p4), some (.int x1), some (.int s2.1), some (.int s2.1), none, none, none, none, none, none, none, none, none]) dX11_number_24 (by decide) rfl (E_iconst (v := 1) dX11_number_26 (by decide) (E_istore (ls2 := [some (.ref 67), some (.int p1), some (.int p2), some (.int p3), some (.int p4), some (.int x1), some (.int s2.1), some (.int s2.1), some (.int 1), none, none, none, none, none, none, none, none]) dX11_number_27 (by decide) rfl (E_aload_n dX11_number_29 rfl (E_getR (b := 95) clX11 45 (by decide) flX11_119 (Or.inr ⟨_, rfl⟩) dX11_number_30 (kd67 hJ.1.1) (rf67_45 hJ.1.1) (by decide) (E_iload_n dX11_number_33 rfl q))))))) ?_
      refine P_g (fun g3 => ?_)
      refine P_l (fun hJ _ _ q => E_lald dX11_number_34 (kd95 hJ.1.1) (inB_vp g3) (E_lstore (ls2 := [some (.ref 67), some (.int p1), some (.int p2), some (.int p3), some (.int p4), some (.int x1), some (.int s2.1), some (.int s2.1), some (.int 1), some (.long (rL s2.2 95 (p1 : Int32).toNatClampNeg)), none, none, none, none, none, none, none]) dX11_number_35 (by decide) rfl q)) ?_
      refine P_v (rL s2.2 95 (p1 : Int32).toNatClampNeg) (fun x => [some (.ref 67), some (.int p1), some (.int p2), some (.int p3), some (.int p4), some (.int x1), some (.int s2.1), some (.int s2.1), some (.int 1), some (.long x), none, none, none, none, none, none, none]) (fun x4 => ?_)
      refine P_l (fun hJ _ _ q => E_aload_n dX11_number_37 rfl (E_getR (b := 96) clX11 46 (by decide) flX11_122 (Or.inr ⟨_, rfl⟩) dX11_number_38 (kd67 hJ.1.1) (rf67_46 hJ.1.1) (by decide) (E_iload_n dX11_number_41 rfl (E_lald dX11_number_42 (kd96 hJ.1.1) (inB_vp g3) (E_lstore (ls2 := [some (.ref 67), some (.int p1), some (.int p2), some (.int p3), some (.int p4), some (.int x1), some (.int s2.1), some (.int s2.1), some (.int 1), some (.long x4), none, some (.long (rL s2.2 96 (p1 : Int32).toNatClampNeg)), none, none, none, none, none]) dX11_number_43 (by decide) rfl q))))) ?_
      refine P_v (rL s2.2 96 (p1 : Int32).toNatClampNeg) (fun x => [some (.ref 67), some (.int p1), some (.int p2), some (.int p3), some (.int p4), some (.int x1), some (.int s2.1), some (.int s2.1), some (.int 1), some (.long x4), none, some (.long x), none, none, none, none, none]) (fun x5 => ?_)
      refine P_l (fun hJ _ _ q => E_aload_n dX11_number_45 rfl (E_getR (b := 97) clX11 47 (by decide) flX11_125 (Or.inr ⟨_, rfl⟩) dX11_number_46 (kd67 hJ.1.1) (rf67_47 hJ.1.1) (by decide) (E_iload_n dX11_number_49 rfl (E_lald dX11_number_50 (kd97 hJ.1.1) (inB_vp g3) (E_lstore (ls2 := [some (.ref 67), some (.int p1), some (.int p2), some (.int p3), some (.int p4), some (.int x1), some (.int s2.1), some (.int s2.1), some (.int 1), some (.long x4), none, some (.long x5), none, some (.long (rL s2.2 97 (p1 : Int32).toNatClampNeg)), none, none, none]) dX11_number_51 (by decide) rfl q))))) ?_
      refine P_v (rL s2.2 97 (p1 : Int32).toNatClampNeg) (fun x => [some (.ref 67), some (.int p1), some (.int p2), some (.int p3), some (.int p4), some (.int x1), some (.int s2.1), some (.int s2.1), some (.int 1), some (.long x4), none, some (.long x5), none, some (.long x), none, none, none]) (fun x6 => ?_)
      refine P_l (fun hJ _ _ q => E_iconst (v := 0) dX11_number_53 (by decide) (E_istore (ls2 := [some (.ref 67), some (.int p1), some (.int p2), some (.int p3), some (.int p4), some (.int x1), some (.int s2.1), some (.int s2.1), some (.int 1), some (.long x4), none, some (.long x5), none, some (.long x6), none, some (.int 0), none]) dX11_number_54 (by decide) rfl q)) ?_
      refine P_join (pc2 := 241) (fun j8 => [some (.ref 67), some (.int p1), some (.int p2), some (.int p3), some (.int p4), some (.int x1), some (.int s2.1), none, some (.int j8.1), some (.long j8.2.1), none, some (.long j8.2.2.1), none, some (.long j8.2.2.2.1), none, none, none]) (fun j8 => []) (fun j8 => j8.2.2.2.2) ?_ (fun j8 => ?_)
      · skip
        refine P_loop (fun s9 => [some (.ref 67), some (.int p1), some (.int p2), some (.int p3), some (.int p4), some (.int x1), some (.int s2.1), some (.int s9.1), some (.int s9.2.1), some (.long s9.2.2.1), none, some (.long s9.2.2.2.1), none, some (.long s9.2.2.2.2.1), none, some (.int s9.2.2.2.2.2.1), none]) (fun s9 => s9.2.2.2.2.2.2) (fun s9 => ?_) _ ((s2.1, 1, x4, x5, x6, 0, s2.2))
        unfold b_X11_number_56
        refine P_l (fun hJ _ _ q => E_iload dX11_number_56 rfl (E_iconst (v := 4) dX11_number_58 (by decide) q)) ?_
        refine P_if (fun hJ _ _ h1 h2 => E_icmp_ge 241 dX11_number_59 (by decide) h1 h2) ?_ ?_
        · skip
          refine P_less [some (.ref 67), some (.int p1), some (.int p2), some (.int p3), some (.int p4), some (.int x1), some (.int s2.1), none, some (.int s9.2.1), some (.long s9.2.2.1), none, some (.long s9.2.2.2.1), none, some (.long s9.2.2.2.2.1), none, none, none] (And.intro rfl (And.intro rfl (And.intro rfl (And.intro rfl (And.intro rfl (And.intro rfl (And.intro rfl (And.intro rfl (And.intro rfl (And.intro rfl (And.intro rfl trivial))))))))))) ?_
          exact P_inl (P_back ((s9.2.1, s9.2.2.1, s9.2.2.2.1, s9.2.2.2.2.1, s9.2.2.2.2.2.2)))
        · skip
          refine P_l (fun hJ _ _ q => E_bipush (v := 13) dX11_number_62 (by decide) (E_iload dX11_number_64 rfl (E_imul dX11_number_66 (E_iload_n dX11_number_67 rfl (E_iadd dX11_number_68 (E_istore (ls2 := [some (.ref 67), some (.int p1), some (.int p2), some (.int p3), some (.int p4), some (.int x1), some (.int s2.1), some (.int s9.1), some (.int s9.2.1), some (.long s9.2.2.1), none, some (.long s9.2.2.2.1), none, some (.long s9.2.2.2.2.1), none, some (.int s9.2.2.2.2.2.1), some (.int ((13 * s9.2.2.2.2.2.1) + p2))]) dX11_number_69 (by decide) rfl (E_aload_n dX11_number_71 rfl (E_getR (b := 108) clX11 60 (by decide) flX11_158 (Or.inr ⟨_, rfl⟩) dX11_number_72 (kd67 hJ.1.1) (rf67_60 hJ.1.1) (by decide) (E_iload dX11_number_75 rfl (E_iload dX11_number_77 rfl (E_iconst (v := 3) dX11_number_79 (by decide) (E_irem dX11_number_80 (by decide) q)))))))))))) ?_
          refine P_g (fun g10 => ?_)
          refine P_w (fun hJ _ _ q => E_iast dX11_number_81 (kd108 hJ.1.1) (by decide) (inB_vp g10) q) (fun hJ => Sy_wI hJ.1) rfl rfl rfl (fun σ11 hσ11 => ?_)
          refine P_l (fun hJ _ _ q => E_iload dX11_number_82 rfl (E_iconst (v := 3) dX11_number_84 (by decide) (E_idiv dX11_number_85 (by decide) (E_istore (ls2 := [some (.ref 67), some (.int p1), some (.int p2), some (.int p3), some (.int p4), some (.int x1), some (.int s2.1), some (.int (s9.1 / 3)), some (.int s9.2.1), some (.long s9.2.2.1), none, some (.long s9.2.2.2.1), none, some (.long s9.2.2.2.2.1), none, some (.int s9.2.2.2.2.2.1), some (.int ((13 * s9.2.2.2.2.2.1) + p2))]) dX11_number_86 (by decide) rfl (E_iload dX11_number_88 rfl q))))) ?_
          refine P_join (pc2 := 115) (fun j12 => [some (.ref 67), some (.int p1), some (.int p2), some (.int p3), some (.int p4), some (.int x1), some (.int s2.1), some (.int (s9.1 / 3)), none, some (.long s9.2.2.1), none, some (.long s9.2.2.2.1), none, some (.long s9.2.2.2.2.1), none, some (.int s9.2.2.2.2.2.1), some (.int ((13 * s9.2.2.2.2.2.1) + p2))]) (fun j12 => [.int j12]) (fun _ => σ11) ?_ (fun j12 => ?_)
          · skip
            refine P_if (fun hJ _ _ h1 h2 => E_if_eq 114 dX11_number_90 (by decide) h1 h2) ?_ ?_
            · skip
              refine P_l (fun hJ _ _ q => E_iconst (v := 0) dX11_number_114 (by decide) q) ?_
              refine P_less [some (.ref 67), some (.int p1), some (.int p2), some (.int p3), some (.int p4), some (.int x1), some (.int s2.1), some (.int (s9.1 / 3)), none, some (.long s9.2.2.1), none, some (.long s9.2.2.2.1), none, some (.long s9.2.2.2.2.1), none, some (.int s9.2.2.2.2.2.1), some (.int ((13 * s9.2.2.2.2.2.1) + p2))] (And.intro rfl (And.intro rfl (And.intro rfl (And.intro rfl (And.intro rfl (And.intro rfl (And.intro rfl (And.intro rfl (And.intro rfl (And.intro rfl (And.intro rfl (And.intro rfl (And.intro rfl trivial))))))))))))) ?_
              exact P_back ((0 : Int32))
            · skip
              refine P_l (fun hJ _ _ q => E_aload_n dX11_number_93 rfl (E_getR (b := 108) clX11 60 (by decide) flX11_158 (Or.inr ⟨_, rfl⟩) dX11_number_94 (kd67 hJ.1.1) (rf67_60 hJ.1.1) (by decide) (E_iload dX11_number_97 rfl (E_iald dX11_number_99 (kd108 hJ.1.1) (inB_vp g10) (E_aload_n dX11_number_100 rfl (E_getR (b := 92) clX11 41 (by decide) flX11_109 (Or.inr ⟨_, rfl⟩) dX11_number_101 (kd67 hJ.1.1) (rf67_41 hJ.1.1) (by decide) (E_iload dX11_number_104 rfl q))))))) ?_
              refine P_g (fun g13 => ?_)
              refine P_l (fun hJ _ _ q => E_iald dX11_number_106 (kd92 hJ.1.1) (inB_vp g13) q) ?_
              refine P_if (fun hJ _ _ h1 h2 => E_icmp_gt 114 dX11_number_107 (by decide) h1 h2) ?_ ?_
              · skip
                refine P_l (fun hJ _ _ q => E_iconst (v := 0) dX11_number_114 (by decide) q) ?_
                refine P_less [some (.ref 67), some (.int p1), some (.int p2), some (.int p3), some (.int p4), some (.int x1), some (.int s2.1), some (.int (s9.1 / 3)), none, some (.long s9.2.2.1), none, some (.long s9.2.2.2.1), none, some (.long s9.2.2.2.2.1), none, some (.int s9.2.2.2.2.2.1), some (.int ((13 * s9.2.2.2.2.2.1) + p2))] (And.intro rfl (And.intro rfl (And.intro rfl (And.intro rfl (And.intro rfl (And.intro rfl (And.intro rfl (And.intro rfl (And.intro rfl (And.intro rfl (And.intro rfl (And.intro rfl (And.intro rfl trivial))))))))))))) ?_
                exact P_back ((0 : Int32))
              · skip
                refine P_l (fun hJ _ _ q => E_iconst (v := 1) dX11_number_110 (by decide) (E_goto 115 dX11_number_111 (by decide) q)) ?_
                refine P_less [some (.ref 67), some (.int p1), some (.int p2), some (.int p3), some (.int p4), some (.int x1), some (.int s2.1), some (.int (s9.1 / 3)), none, some (.long s9.2.2.1), none, some (.long s9.2.2.2.1), none, some (.long s9.2.2.2.2.1), none, some (.int s9.2.2.2.2.2.1), some (.int ((13 * s9.2.2.2.2.2.1) + p2))] (And.intro rfl (And.intro rfl (And.intro rfl (And.intro rfl (And.intro rfl (And.intro rfl (And.intro rfl (And.intro rfl (And.intro rfl (And.intro rfl (And.intro rfl (And.intro rfl (And.intro rfl trivial))))))))))))) ?_
                exact P_back ((1 : Int32))
          · skip
            refine P_l (fun hJ _ _ q => E_istore (ls2 := [some (.ref 67), some (.int p1), some (.int p2), some (.int p3), some (.int p4), some (.int x1), some (.int s2.1), some (.int (s9.1 / 3)), some (.int j12), some (.long s9.2.2.1), none, some (.long s9.2.2.2.1), none, some (.long s9.2.2.2.2.1), none, some (.int s9.2.2.2.2.2.1), some (.int ((13 * s9.2.2.2.2.2.1) + p2))]) dX11_number_115 (by decide) rfl (E_lload dX11_number_117 rfl (E_iload_n dX11_number_119 rfl q))) ?_
            refine P_join (pc2 := 162) (fun j14 => [some (.ref 67), some (.int p1), some (.int p2), some (.int p3), some (.int p4), some (.int x1), some (.int s2.1), some (.int (s9.1 / 3)), some (.int j12), none, none, some (.long s9.2.2.2.1), none, some (.long s9.2.2.2.2.1), none, some (.int s9.2.2.2.2.2.1), some (.int ((13 * s9.2.2.2.2.2.1) + p2))]) (fun j14 => [.long j14, .long s9.2.2.1]) (fun _ => σ11) ?_ (fun j14 => ?_)
            · skip
              refine P_if (fun hJ _ _ h1 h2 => E_if_eq 161 dX11_number_120 (by decide) h1 h2) ?_ ?_
              · skip
                refine P_l (fun hJ _ _ q => E_lconst (v := 0) dX11_number_161 (by decide) q) ?_
                refine P_less [some (.ref 67), some (.int p1), some (.int p2), some (.int p3), some (.int p4), some (.int x1), some (.int s2.1), some (.int (s9.1 / 3)), some (.int j12), none, none, some (.long s9.2.2.2.1), none, some (.long s9.2.2.2.2.1), none, some (.int s9.2.2.2.2.2.1), some (.int ((13 * s9.2.2.2.2.2.1) + p2))] (And.intro rfl (And.intro rfl (And.intro rfl (And.intro rfl (And.intro rfl (And.intro rfl (And.intro rfl (And.intro rfl (And.intro rfl (And.intro rfl (And.intro rfl (And.intro rfl (And.intro rfl trivial))))))))))))) ?_
                exact P_back (0 : Int64)
              · skip
                refine P_l (fun hJ _ _ q => E_aload_n dX11_number_123 rfl (E_getR (b := 108) clX11 60 (by decide) flX11_158 (Or.inr ⟨_, rfl⟩) dX11_number_124 (kd67 hJ.1.1) (rf67_60 hJ.1.1) (by decide) (E_iload dX11_number_127 rfl q))) ?_
                refine P_g (fun g15 => ?_)
                refine P_l (fun hJ _ _ q => E_iald dX11_number_129 (kd108 hJ.1.1) (inB_vp g15) (E_i2l dX11_number_130 (E_iload dX11_number_131 rfl q))) ?_
                refine P_l (pc2 := 157) (ls2 := [some (.ref 67), some (.int p1), some (.int p2), some (.int p3), some (.int p4), some (.int x1), some (.int s2.1), some (.int (s9.1 / 3)), some (.int j12), none, none, some (.long s9.2.2.2.1), none, some (.long s9.2.2.2.2.1), none, some (.int s9.2.2.2.2.2.1), some (.int ((13 * s9.2.2.2.2.2.1) + p2))]) (st2 := [.long ((if p4 = 0 then (((10000 : Int64) + (((p2 : Int32)).toInt64)) + (1 : Int64)) else (((100 : Int64) * (((p2 + 1 : Int32)).toInt64)) + (1 : Int64)) : Int64)), .long (((rI σ11 108 (s9.2.2.2.2.2.1 : Int32).toNatClampNeg : Int32)).toInt64), .long s9.2.2.1]) (fun hJ _ _ hq => ?_) ?_
                · skip
                  refine E_if_eq 149 dX11_number_133 (by decide) (fun c_133_0 => ?_) (fun c_133_0 => ?_)
                  · skip
                    refine E_ldc2 dX11_number_149 kcX11_227 ?_
                    refine E_iload_n dX11_number_152 rfl ?_
                    refine E_i2l dX11_number_153 ?_
                    refine E_ladd dX11_number_154 ?_
                    refine E_lconst (v := 1) dX11_number_155 (by decide) ?_
                    refine E_ladd dX11_number_156 ?_
                    simp only [if_pos c_133_0] at hq
                    exact E_less (ls2 := [some (.ref 67), some (.int p1), some (.int p2), some (.int p3), some (.int p4), some (.int x1), some (.int s2.1), some (.int (s9.1 / 3)), some (.int j12), none, none, some (.long s9.2.2.2.1), none, some (.long s9.2.2.2.2.1), none, some (.int s9.2.2.2.2.2.1), some (.int ((13 * s9.2.2.2.2.2.1) + p2))]) hq (rLe_at [some (.ref 67), some (.int p1), some (.int p2), some (.int p3), some (.int p4), some (.int x1), some (.int s2.1), some (.int (s9.1 / 3)), some (.int j12), none, none, some (.long s9.2.2.2.1), none, some (.long s9.2.2.2.2.1), none, some (.int s9.2.2.2.2.2.1), some (.int ((13 * s9.2.2.2.2.2.1) + p2))] [some (.ref 67), some (.int p1), some (.int p2), some (.int p3), some (.int p4), some (.int x1), some (.int s2.1), some (.int (s9.1 / 3)), some (.int j12), some (.long s9.2.2.1), none, some (.long s9.2.2.2.1), none, some (.long s9.2.2.2.2.1), none, some (.int s9.2.2.2.2.2.1), some (.int ((13 * s9.2.2.2.2.2.1) + p2))] (And.intro rfl (And.intro rfl (And.intro rfl (And.intro rfl (And.intro rfl (And.intro rfl (And.intro rfl (And.intro rfl (And.intro rfl (And.intro rfl (And.intro rfl (And.intro rfl (And.intro rfl trivial))))))))))))))
                  · skip
                    refine E_ldc2 dX11_number_136 kcX11_225 ?_
                    refine E_iload_n dX11_number_139 rfl ?_
                    refine E_iconst (v := 1) dX11_number_140 (by decide) ?_
                    refine E_iadd dX11_number_141 ?_
                    refine E_i2l dX11_number_142 ?_
                    refine E_lmul dX11_number_143 ?_
                    refine E_lconst (v := 1) dX11_number_144 (by decide) ?_
                    refine E_ladd dX11_number_145 ?_
                    refine E_goto 157 dX11_number_146 (by decide) ?_
                    simp only [if_neg c_133_0] at hq
                    exact E_less (ls2 := [some (.ref 67), some (.int p1), some (.int p2), some (.int p3), some (.int p4), some (.int x1), some (.int s2.1), some (.int (s9.1 / 3)), some (.int j12), none, none, some (.long s9.2.2.2.1), none, some (.long s9.2.2.2.2.1), none, some (.int s9.2.2.2.2.2.1), some (.int ((13 * s9.2.2.2.2.2.1) + p2))]) hq (rLe_at [some (.ref 67), some (.int p1), some (.int p2), some (.int p3), some (.int p4), some (.int x1), some (.int s2.1), some (.int (s9.1 / 3)), some (.int j12), none, none, some (.long s9.2.2.2.1), none, some (.long s9.2.2.2.2.1), none, some (.int s9.2.2.2.2.2.1), some (.int ((13 * s9.2.2.2.2.2.1) + p2))] [some (.ref 67), some (.int p1), some (.int p2), some (.int p3), some (.int p4), some (.int x1), some (.int s2.1), some (.int (s9.1 / 3)), some (.int j12), some (.long s9.2.2.1), none, some (.long s9.2.2.2.1), none, some (.long s9.2.2.2.2.1), none, some (.int s9.2.2.2.2.2.1), some (.int ((13 * s9.2.2.2.2.2.1) + p2))] (And.intro rfl (And.intro rfl (And.intro rfl (And.intro rfl (And.intro rfl (And.intro rfl (And.intro rfl (And.intro rfl (And.intro rfl (And.intro rfl (And.intro rfl (And.intro rfl (And.intro rfl trivial))))))))))))))
                · skip
                  refine P_l (fun hJ _ _ q => E_lmul dX11_number_157 (E_goto 162 dX11_number_158 (by decide) q)) ?_
                  exact P_back ((((rI σ11 108 (s9.2.2.2.2.2.1 : Int32).toNatClampNeg : Int32)).toInt64) * ((if p4 = 0 then (((10000 : Int64) + (((p2 : Int32)).toInt64)) + (1 : Int64)) else (((100 : Int64) * (((p2 + 1 : Int32)).toInt64)) + (1 : Int64)) : Int64)))
            · skip
              refine P_l (fun hJ _ _ q => E_ladd dX11_number_162 (E_lstore (ls2 := [some (.ref 67), some (.int p1), some (.int p2), some (.int p3), some (.int p4), some (.int x1), some (.int s2.1), some (.int (s9.1 / 3)), some (.int j12), some (.long (s9.2.2.1 + j14)), none, some (.long s9.2.2.2.1), none, some (.long s9.2.2.2.2.1), none, some (.int s9.2.2.2.2.2.1), some (.int ((13 * s9.2.2.2.2.2.1) + p2))]) dX11_number_163 (by decide) rfl (E_lload dX11_number_165 rfl (E_iload_n dX11_number_167 rfl q)))) ?_
              refine P_join (pc2 := 197) (fun j16 => [some (.ref 67), some (.int p1), some (.int p2), some (.int p3), some (.int p4), some (.int x1), some (.int s2.1), some (.int (s9.1 / 3)), some (.int j12), some (.long (s9.2.2.1 + j14)), none, none, none, some (.long s9.2.2.2.2.1), none, some (.int s9.2.2.2.2.2.1), some (.int ((13 * s9.2.2.2.2.2.1) + p2))]) (fun j16 => [.long j16, .long s9.2.2.2.1]) (fun _ => σ11) ?_ (fun j16 => ?_)
              · skip
                refine P_if (c := (if p3 = 0 then true else (if 26 ≤ ((13 * s9.2.2.2.2.2.1) + p2) then true else false)) = true) (pc1 := 196) (ls1 := [some (.ref 67), some (.int p1), some (.int p2), some (.int p3), some (.int p4), some (.int x1), some (.int s2.1), some (.int (s9.1 / 3)), some (.int j12), some (.long (s9.2.2.1 + j14)), none, some (.long s9.2.2.2.1), none, some (.long s9.2.2.2.2.1), none, some (.int s9.2.2.2.2.2.1), some (.int ((13 * s9.2.2.2.2.2.1) + p2))]) (st1 := [.long s9.2.2.2.1]) (pc2 := 178) (ls2 := [some (.ref 67), some (.int p1), some (.int p2), some (.int p3), some (.int p4), some (.int x1), some (.int s2.1), some (.int (s9.1 / 3)), some (.int j12), some (.long (s9.2.2.1 + j14)), none, some (.long s9.2.2.2.1), none, some (.long s9.2.2.2.2.1), none, some (.int s9.2.2.2.2.2.1), some (.int ((13 * s9.2.2.2.2.2.1) + p2))]) (st2 := [.long s9.2.2.2.1]) (fun hJ _ _ hX hY => ?_) ?_ ?_
                · skip
                  refine E_if_eq 196 dX11_number_168 (by decide) (fun c_168_0 => ?_) (fun c_168_0 => ?_)
                  · skip
                    exact hX (by simp only [if_pos c_168_0])
                  · skip
                    refine E_iload dX11_number_171 rfl ?_
                    refine E_bipush (v := 26) dX11_number_173 (by decide) ?_
                    refine E_icmp_ge 196 dX11_number_175 (by decide) (fun c_175_1 => ?_) (fun c_175_1 => ?_)
                    · skip
                      exact hX (by simp only [if_neg c_168_0, if_pos c_175_1])
                    · skip
                      exact hY (by simp only [if_neg c_168_0, if_neg c_175_1]; exact Bool.false_ne_true)
                · skip
                  refine P_l (fun hJ _ _ q => E_lconst (v := 0) dX11_number_196 (by decide) q) ?_
                  refine P_less [some (.ref 67), some (.int p1), some (.int p2), some (.int p3), some (.int p4), some (.int x1), some (.int s2.1), some (.int (s9.1 / 3)), some (.int j12), some (.long (s9.2.2.1 + j14)), none, none, none, some (.long s9.2.2.2.2.1), none, some (.int s9.2.2.2.2.2.1), some (.int ((13 * s9.2.2.2.2.2.1) + p2))] (And.intro rfl (And.intro rfl (And.intro rfl (And.intro rfl (And.intro rfl (And.intro rfl (And.intro rfl (And.intro rfl (And.intro rfl (And.intro rfl (And.intro rfl (And.intro rfl (And.intro rfl trivial))))))))))))) ?_
                  exact P_back (0 : Int64)
                · skip
                  refine P_l (fun hJ _ _ q => E_aload_n dX11_number_178 rfl (E_getR (b := 108) clX11 60 (by decide) flX11_158 (Or.inr ⟨_, rfl⟩) dX11_number_179 (kd67 hJ.1.1) (rf67_60 hJ.1.1) (by decide) (E_iload dX11_number_182 rfl q))) ?_
                  refine P_g (fun g17 => ?_)
                  refine P_l (fun hJ _ _ q => E_iald dX11_number_184 (kd108 hJ.1.1) (inB_vp g17) (E_i2l dX11_number_185 (E_aload_n dX11_number_186 rfl (E_iload dX11_number_187 rfl q)))) ?_
                  refine P_callr (t := fun v => some (.long v)) (st2 := fun v => .long v :: [.long (((rI σ11 108 (s9.2.2.2.2.2.1 : Int32).toNatClampNeg : Int32)).toInt64), .long s9.2.2.2.1]) (fun hJ => (ok_X11_power (σ := σ11) (p1 := (13 * s9.2.2.2.2.2.1) + p2) )) (fun hJ _ _ v hM q => E_callV (as := [.int ((13 * s9.2.2.2.2.2.1) + p2)]) (b := 67) (st := [.long (((rI σ11 108 (s9.2.2.2.2.2.1 : Int32).toNatClampNeg : Int32)).toInt64), .long s9.2.2.2.1]) hM (by decide) yfX11_power mlX11_229 imX11_power seX11_power clX11 (kd67 hJ.1.1) rfl (Nat.le_of_ble_eq_true rfl) rfl dX11_number_189 q) (fun v18 => ?_)
                  refine P_l (fun hJ _ _ q => E_lmul dX11_number_192 (E_goto 197 dX11_number_193 (by decide) q)) ?_
                  refine P_less [some (.ref 67), some (.int p1), some (.int p2), some (.int p3), some (.int p4), some (.int x1), some (.int s2.1), some (.int (s9.1 / 3)), some (.int j12), some (.long (s9.2.2.1 + j14)), none, none, none, some (.long s9.2.2.2.2.1), none, some (.int s9.2.2.2.2.2.1), some (.int ((13 * s9.2.2.2.2.2.1) + p2))] (And.intro rfl (And.intro rfl (And.intro rfl (And.intro rfl (And.intro rfl (And.intro rfl (And.intro rfl (And.intro rfl (And.intro rfl (And.intro rfl (And.intro rfl (And.intro rfl (And.intro rfl trivial))))))))))))) ?_
                  exact P_back ((((rI σ11 108 (s9.2.2.2.2.2.1 : Int32).toNatClampNeg : Int32)).toInt64) * v18)
              · skip
                refine P_l (fun hJ _ _ q => E_ladd dX11_number_197 (E_lstore (ls2 := [some (.ref 67), some (.int p1), some (.int p2), some (.int p3), some (.int p4), some (.int x1), some (.int s2.1), some (.int (s9.1 / 3)), some (.int j12), some (.long (s9.2.2.1 + j14)), none, some (.long (s9.2.2.2.1 + j16)), none, some (.long s9.2.2.2.2.1), none, some (.int s9.2.2.2.2.2.1), some (.int ((13 * s9.2.2.2.2.2.1) + p2))]) dX11_number_198 (by decide) rfl (E_lload dX11_number_200 rfl (E_iload_n dX11_number_202 rfl q)))) ?_
                refine P_if (c := (if p3 = 0 then true else (if ((13 * s9.2.2.2.2.2.1) + p2) < 26 then true else false)) = true) (pc1 := 231) (ls1 := [some (.ref 67), some (.int p1), some (.int p2), some (.int p3), some (.int p4), some (.int x1), some (.int s2.1), some (.int (s9.1 / 3)), some (.int j12), some (.long (s9.2.2.1 + j14)), none, some (.long (s9.2.2.2.1 + j16)), none, some (.long s9.2.2.2.2.1), none, some (.int s9.2.2.2.2.2.1), some (.int ((13 * s9.2.2.2.2.2.1) + p2))]) (st1 := [.long s9.2.2.2.2.1]) (pc2 := 213) (ls2 := [some (.ref 67), some (.int p1), some (.int p2), some (.int p3), some (.int p4), some (.int x1), some (.int s2.1), some (.int (s9.1 / 3)), some (.int j12), some (.long (s9.2.2.1 + j14)), none, some (.long (s9.2.2.2.1 + j16)), none, some (.long s9.2.2.2.2.1), none, some (.int s9.2.2.2.2.2.1), some (.int ((13 * s9.2.2.2.2.2.1) + p2))]) (st2 := [.long s9.2.2.2.2.1]) (fun hJ _ _ hX hY => ?_) ?_ ?_
                · skip
                  refine E_if_eq 231 dX11_number_203 (by decide) (fun c_203_0 => ?_) (fun c_203_0 => ?_)
                  · skip
                    exact hX (by simp only [if_pos c_203_0])
                  · skip
                    refine E_iload dX11_number_206 rfl ?_
                    refine E_bipush (v := 26) dX11_number_208 (by decide) ?_
                    refine E_icmp_lt 231 dX11_number_210 (by decide) (fun c_210_1 => ?_) (fun c_210_1 => ?_)
                    · skip
                      exact hX (by simp only [if_neg c_203_0, if_pos c_210_1])
                    · skip
                      exact hY (by simp only [if_neg c_203_0, if_neg c_210_1]; exact Bool.false_ne_true)
                · skip
                  refine P_l (fun hJ _ _ q => E_lconst (v := 0) dX11_number_231 (by decide) (E_ladd dX11_number_232 (E_lstore (ls2 := [some (.ref 67), some (.int p1), some (.int p2), some (.int p3), some (.int p4), some (.int x1), some (.int s2.1), some (.int (s9.1 / 3)), some (.int j12), some (.long (s9.2.2.1 + j14)), none, some (.long (s9.2.2.2.1 + j16)), none, some (.long (s9.2.2.2.2.1 + (0 : Int64))), none, some (.int s9.2.2.2.2.2.1), some (.int ((13 * s9.2.2.2.2.2.1) + p2))]) dX11_number_233 (by decide) rfl (E_iinc (v := 1) (ls2 := [some (.ref 67), some (.int p1), some (.int p2), some (.int p3), some (.int p4), some (.int x1), some (.int s2.1), some (.int (s9.1 / 3)), some (.int j12), some (.long (s9.2.2.1 + j14)), none, some (.long (s9.2.2.2.1 + j16)), none, some (.long (s9.2.2.2.2.1 + (0 : Int64))), none, some (.int (s9.2.2.2.2.2.1 + 1)), some (.int ((13 * s9.2.2.2.2.2.1) + p2))]) dX11_number_235 rfl (by decide) (by decide) rfl (E_goto 56 dX11_number_238 (by decide) q))))) ?_
                  refine P_less [some (.ref 67), some (.int p1), some (.int p2), some (.int p3), some (.int p4), some (.int x1), some (.int s2.1), some (.int (s9.1 / 3)), some (.int j12), some (.long (s9.2.2.1 + j14)), none, some (.long (s9.2.2.2.1 + j16)), none, some (.long (s9.2.2.2.2.1 + (0 : Int64))), none, some (.int (s9.2.2.2.2.2.1 + 1)), none] (And.intro rfl (And.intro rfl (And.intro rfl (And.intro rfl (And.intro rfl (And.intro rfl (And.intro rfl (And.intro rfl (And.intro rfl (And.intro rfl (And.intro rfl (And.intro rfl (And.intro rfl trivial))))))))))))) ?_
                  exact P_back ((s9.1 / 3, j12, s9.2.2.1 + j14, s9.2.2.2.1 + j16, s9.2.2.2.2.1 + (0 : Int64), s9.2.2.2.2.2.1 + 1, σ11))
                · skip
                  refine P_l (fun hJ _ _ q => E_aload_n dX11_number_213 rfl (E_getR (b := 108) clX11 60 (by decide) flX11_158 (Or.inr ⟨_, rfl⟩) dX11_number_214 (kd67 hJ.1.1) (rf67_60 hJ.1.1) (by decide) (E_iload dX11_number_217 rfl q))) ?_
                  refine P_g (fun g19 => ?_)
                  refine P_l (fun hJ _ _ q => E_iald dX11_number_219 (kd108 hJ.1.1) (inB_vp g19) (E_i2l dX11_number_220 (E_aload_n dX11_number_221 rfl (E_iload dX11_number_222 rfl q)))) ?_
                  refine P_callr (t := fun v => some (.long v)) (st2 := fun v => .long v :: [.long (((rI σ11 108 (s9.2.2.2.2.2.1 : Int32).toNatClampNeg : Int32)).toInt64), .long s9.2.2.2.2.1]) (fun hJ => (ok_X11_power (σ := σ11) (p1 := (13 * s9.2.2.2.2.2.1) + p2) )) (fun hJ _ _ v hM q => E_callV (as := [.int ((13 * s9.2.2.2.2.2.1) + p2)]) (b := 67) (st := [.long (((rI σ11 108 (s9.2.2.2.2.2.1 : Int32).toNatClampNeg : Int32)).toInt64), .long s9.2.2.2.2.1]) hM (by decide) yfX11_power mlX11_229 imX11_power seX11_power clX11 (kd67 hJ.1.1) rfl (Nat.le_of_ble_eq_true rfl) rfl dX11_number_224 q) (fun v20 => ?_)
                  refine P_l (fun hJ _ _ q => E_lmul dX11_number_227 (E_goto 232 dX11_number_228 (by decide) (E_ladd dX11_number_232 (E_lstore (ls2 := [some (.ref 67), some (.int p1), some (.int p2), some (.int p3), some (.int p4), some (.int x1), some (.int s2.1), some (.int (s9.1 / 3)), some (.int j12), some (.long (s9.2.2.1 + j14)), none, some (.long (s9.2.2.2.1 + j16)), none, some (.long (s9.2.2.2.2.1 + ((((rI σ11 108 (s9.2.2.2.2.2.1 : Int32).toNatClampNeg : Int32)).toInt64) * v20))), none, some (.int s9.2.2.2.2.2.1), some (.int ((13 * s9.2.2.2.2.2.1) + p2))]) dX11_number_233 (by decide) rfl q)))) ?_
                  refine P_v (s9.2.2.2.2.1 + ((((rI σ11 108 (s9.2.2.2.2.2.1 : Int32).toNatClampNeg : Int32)).toInt64) * v20)) (fun x => [some (.ref 67), some (.int p1), some (.int p2), some (.int p3), some (.int p4), some (.int x1), some (.int s2.1), some (.int (s9.1 / 3)), some (.int j12), some (.long (s9.2.2.1 + j14)), none, some (.long (s9.2.2.2.1 + j16)), none, some (.long x), none, some (.int s9.2.2.2.2.2.1), some (.int ((13 * s9.2.2.2.2.2.1) + p2))]) (fun x21 => ?_)
                  refine P_l (fun hJ _ _ q => E_iinc (v := 1) (ls2 := [some (.ref 67), some (.int p1), some (.int p2), some (.int p3), some (.int p4), some (.int x1), some (.int s2.1), some (.int (s9.1 / 3)), some (.int j12), some (.long (s9.2.2.1 + j14)), none, some (.long (s9.2.2.2.1 + j16)), none, some (.long x21), none, some (.int (s9.2.2.2.2.2.1 + 1)), some (.int ((13 * s9.2.2.2.2.2.1) + p2))]) dX11_number_235 rfl (by decide) (by decide) rfl (E_goto 56 dX11_number_238 (by decide) q)) ?_
                  refine P_less [some (.ref 67), some (.int p1), some (.int p2), some (.int p3), some (.int p4), some (.int x1), some (.int s2.1), some (.int (s9.1 / 3)), some (.int j12), some (.long (s9.2.2.1 + j14)), none, some (.long (s9.2.2.2.1 + j16)), none, some (.long x21), none, some (.int (s9.2.2.2.2.2.1 + 1)), none] (And.intro rfl (And.intro rfl (And.intro rfl (And.intro rfl (And.intro rfl (And.intro rfl (And.intro rfl (And.intro rfl (And.intro rfl (And.intro rfl (And.intro rfl (And.intro rfl (And.intro rfl trivial))))))))))))) ?_
                  exact P_back ((s9.1 / 3, j12, s9.2.2.1 + j14, s9.2.2.2.1 + j16, x21, s9.2.2.2.2.2.1 + 1, σ11))
      · skip
        refine P_l (fun hJ _ _ q => E_iload dX11_number_241 rfl q) ?_
        refine P_if (fun hJ _ _ h1 h2 => E_if_eq 259 dX11_number_243 (by decide) h1 h2) ?_ ?_
        · skip
          refine P_l (fun hJ _ _ q => E_iinc (v := 1) (ls2 := [some (.ref 67), some (.int p1), some (.int p2), some (.int p3), some (.int p4), some (.int x1), some (.int (s2.1 + 1)), none, some (.int j8.1), some (.long j8.2.1), none, some (.long j8.2.2.1), none, some (.long j8.2.2.2.1), none, none, none]) dX11_number_259 rfl (by decide) (by decide) rfl (E_goto 15 dX11_number_262 (by decide) q)) ?_
          refine P_less [some (.ref 67), some (.int p1), some (.int p2), some (.int p3), some (.int p4), some (.int x1), some (.int (s2.1 + 1)), none, none, none, none, none, none, none, none, none, none] (And.intro rfl (And.intro rfl (And.intro rfl (And.intro rfl (And.intro rfl (And.intro rfl (And.intro rfl trivial))))))) ?_
          exact P_back ((s2.1 + 1, j8.2.2.2.2))
        · skip
          refine P_l (fun hJ _ _ q => E_aload_n dX11_number_246 rfl (E_iload_n dX11_number_247 rfl (E_iload_n dX11_number_248 rfl (E_lload dX11_number_249 rfl (E_lload dX11_number_251 rfl (E_lload dX11_number_253 rfl (E_iload_n dX11_number_255 rfl q))))))) ?_
          refine P_call (t := fun _ => none) (st2 := fun _ => []) (kc2 := 0) (ks2 := 0) (fun hJ => (ok_X11_groupsAndRuns (σ := j8.2.2.2.2) (p1 := p1) (p2 := p2) (p3 := j8.2.1) (p4 := j8.2.2.1) (p5 := j8.2.2.2.1) (p6 := p3) )) (fun hJ _ _ _ _ v τ1 hM q => E_callV (as := [.int p1, .int p2, .long j8.2.1, .long j8.2.2.1, .long j8.2.2.2.1, .int p3]) (b := 67) (st := []) hM (by decide) yfX11_groupsAndRuns mlX11_233 imX11_groupsAndRuns seX11_groupsAndRuns clX11 (kd67 hJ.1.1) rfl (Nat.le_of_ble_eq_true rfl) rfl dX11_number_256 q) (by decide) (by decide) (fun v22 σ23 => ?_)
          refine P_l (fun hJ _ _ q => E_iinc (v := 1) (ls2 := [some (.ref 67), some (.int p1), some (.int p2), some (.int p3), some (.int p4), some (.int x1), some (.int (s2.1 + 1)), none, some (.int j8.1), some (.long j8.2.1), none, some (.long j8.2.2.1), none, some (.long j8.2.2.2.1), none, none, none]) dX11_number_259 rfl (by decide) (by decide) rfl (E_goto 15 dX11_number_262 (by decide) q)) ?_
          refine P_less [some (.ref 67), some (.int p1), some (.int p2), some (.int p3), some (.int p4), some (.int x1), some (.int (s2.1 + 1)), none, none, none, none, none, none, none, none, none, none] (And.intro rfl (And.intro rfl (And.intro rfl (And.intro rfl (And.intro rfl (And.intro rfl (And.intro rfl trivial))))))) ?_
          exact P_back ((s2.1 + 1, σ23))

