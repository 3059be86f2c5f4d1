def b_X11_goesThrough_58 (p2 : Int32) (p3 : Int32) (s6 : Int32 × rS) (s10 : Int32 × rS) : Option ((((Unit × rS) ⊕ (Int32 × rS)) ⊕ (rS)) ⊕ (Int32 × rS)) := if (rI s10.2 67 50) ≤ s10.1 then (some (.inl (.inr s10.2))) else (if inB s10.1 65536 then (oB (f_X11_number s10.2 (rI s10.2 99 (s10.1 : Int32).toNatClampNeg) s6.1 p2 p3) fun _ σ13 => some (.inr ((s10.1 + 1, σ13)))) else none)
def b_X11_goesThrough_91 (s6 : Int32 × rS) (s14 : Int32 × rS) : Option (((Unit × rS) ⊕ (Int32 × rS)) ⊕ (Int32 × rS)) := if (rI s14.2 67 56) ≤ s14.1 then (oLet (wI s14.2 67 50 (rI s14.2 67 56)) fun σ15 => some (.inl (.inr ((s6.1 + 1, σ15))))) else (if inB s14.1 65536 then (oLet (rI s14.2 104 (s14.1 : Int32).toNatClampNeg : Int32) fun x17 => oLet (wI s14.2 99 (s14.1 : Int32).toNatClampNeg x17) fun σ18 => if inB x17 65536 then (oLet (wI σ18 103 (x17 : Int32).toNatClampNeg 0) fun σ20 => oLet (wL σ20 95 (x17 : Int32).toNatClampNeg (rL σ20 100 (x17 : Int32).toNatClampNeg)) fun σ21 => oLet (wL σ21 96 (x17 : Int32).toNatClampNeg (rL σ21 101 (x17 : Int32).toNatClampNeg)) fun σ22 => oLet (wL σ22 97 (x17 : Int32).toNatClampNeg (rL σ22 102 (x17 : Int32).toNatClampNeg)) fun σ23 => some (.inr ((s14.1 + 1, σ23)))) else none) else none)
def b_X11_goesThrough_44 (p1 : Int32) (p2 : Int32) (p3 : Int32) (s6 : Int32 × rS) : Option ((Unit × rS) ⊕ (Int32 × rS)) := if p1 ≤ s6.1 then (some (.inl (((), s6.2)))) else (oLet (wI s6.2 67 56 0) fun σ7 => oJoin (oLoop (b_X11_goesThrough_58 p2 p3 s6) oFuel ((0, σ7))) fun j9 => oLoop (b_X11_goesThrough_91 s6) oFuel ((0, j9)))
def f_X11_goesThrough (σ : rS) (p1 : Int32) (p2 : Int32) (p3 : Int32) : Option (Unit × rS) := oLet (wI σ 67 50 1) fun σ1 => oLet (wI σ1 99 (0 : Int32).toNatClampNeg 0) fun σ2 => oLet (wL σ2 95 (0 : Int32).toNatClampNeg ((if p2 = 0 then (1 : Int64) else (0 : Int64) : Int64))) fun σ3 => oLet (wL σ3 96 (0 : Int32).toNatClampNeg (0 : Int64)) fun σ4 => oLet (wL σ4 97 (0 : Int32).toNatClampNeg (0 : Int64)) fun σ5 => oLoop (b_X11_goesThrough_44 p1 p2 p3) oFuel ((0, σ5))
set_option maxRecDepth 20000 in
set_option maxHeartbeats 2000000 in
theorem ok_X11_goesThrough {σ : rS} {p1 : Int32} {p2 : Int32} {p3 : Int32}   : rFn Sy yX11_goesThrough mX11_goesThrough 5 [.ref 67, .int p1, .int p2, .int p3] σ 0 0 (fun _ => .inl none) (f_X11_goesThrough σ p1 p2 p3) := by
  refine rF_of (ls := [some (.ref 67), some (.int p1), some (.int p2), some (.int p3), none, none, none]) yfX11_goesThrough rfl (Nat.le_of_ble_eq_true rfl) (fun o τ => ?_)
  unfold f_X11_goesThrough
  refine P_l (fun hJ _ _ q => E_aload_n dX11_goesThrough_0 rfl (E_iconst (v := 1) dX11_goesThrough_1 (by decide) q)) ?_
  refine P_w (fun hJ _ _ q => E_putI clX11 50 (by decide) flX11_236 (Or.inl rfl) rfl dX11_goesThrough_2 (kd67 hJ.1.1) q) (fun hJ => Sy_wI hJ.1) rfl rfl rfl (fun σ1 hσ1 => ?_)
  refine P_l (fun hJ _ _ q => E_aload_n dX11_goesThrough_5 rfl (E_getR (b := 99) clX11 49 (by decide) flX11_131 (Or.inr ⟨_, rfl⟩) dX11_goesThrough_6 (kd67 hJ.1.1) (rf67_49 hJ.1.1) (by decide) (E_iconst (v := 0) dX11_goesThrough_9 (by decide) (E_iconst (v := 0) dX11_goesThrough_10 (by decide) q)))) ?_
  refine P_w (fun hJ _ _ q => E_iast dX11_goesThrough_11 (kd99 hJ.1.1) (by decide) (inB_vp (by decide)) q) (fun hJ => Sy_wI hJ.1) rfl rfl rfl (fun σ2 hσ2 => ?_)
  refine P_l (fun hJ _ _ q => E_aload_n dX11_goesThrough_12 rfl (E_getR (b := 95) clX11 45 (by decide) flX11_119 (Or.inr ⟨_, rfl⟩) dX11_goesThrough_13 (kd67 hJ.1.1) (rf67_45 hJ.1.1) (by decide) (E_iconst (v := 0) dX11_goesThrough_16 (by decide) (E_iload_n dX11_goesThrough_17 rfl q)))) ?_
  refine P_l (pc2 := 26) (ls2 := [some (.ref 67), some (.int p1), some (.int p2), some (.int p3), none, none, none]) (st2 := [.long ((if p2 = 0 then (1 : Int64) else (0 : Int64) : Int64)), .int 0, .ref 95]) (fun hJ _ _ hq => ?_) ?_
  · skip
    refine E_if_eq 25 dX11_goesThrough_18 (by decide) (fun c_18_0 => ?_) (fun c_18_0 => ?_)
    · skip
      refine E_lconst (v := 1) dX11_goesThrough_25 (by decide) ?_
      simp only [if_pos c_18_0] at hq
      exact hq
    · skip
      refine E_lconst (v := 0) dX11_goesThrough_21 (by decide) ?_
      refine E_goto 26 dX11_goesThrough_22 (by decide) ?_
      simp only [if_neg c_18_0] at hq
      exact hq
  · skip
    refine P_w (fun hJ _ _ q => E_last dX11_goesThrough_26 (kd95 hJ.1.1) (inB_vp (by decide)) q) (fun hJ => Sy_wL hJ.1) rfl rfl rfl (fun σ3 hσ3 => ?_)
    refine P_l (fun hJ _ _ q => E_aload_n dX11_goesThrough_27 rfl (E_getR (b := 96) clX11 46 (by decide) flX11_122 (Or.inr ⟨_, rfl⟩) dX11_goesThrough_28 (kd67 hJ.1.1) (rf67_46 hJ.1.1) (by decide) (E_iconst (v := 0) dX11_goesThrough_31 (by decide) (E_lconst (v := 0) dX11_goesThrough_32 (by decide) q)))) ?_
    refine P_w (fun hJ _ _ q => E_last dX11_goesThrough_33 (kd96 hJ.1.1) (inB_vp (by decide)) q) (fun hJ => Sy_wL hJ.1) rfl rfl rfl (fun σ4 hσ4 => ?_)
    refine P_l (fun hJ _ _ q => E_aload_n dX11_goesThrough_34 rfl (E_getR (b := 97) clX11 47 (by decide) flX11_125 (Or.inr ⟨_, rfl⟩) dX11_goesThrough_35 (kd67 hJ.1.1) (rf67_47 hJ.1.1) (by decide) (E_iconst (v := 0) dX11_goesThrough_38 (by decide) (E_lconst (v := 0) dX11_goesThrough_39 (by decide) q)))) ?_
    refine P_w (fun hJ _ _ q => E_last dX11_goesThrough_40 (kd97 hJ.1.1) (inB_vp (by decide)) q) (fun hJ => Sy_wL hJ.1) rfl rfl rfl (fun σ5 hσ5 => ?_)
    refine P_l (fun hJ _ _ q => E_iconst (v := 0) dX11_goesThrough_41 (by decide) (E_istore (ls2 := [some (.ref 67), some (.int p1), some (.int p2), some (.int p3), some (.int 0), none, none]) dX11_goesThrough_42 (by decide) rfl q)) ?_
    refine P_loop (fun s6 => [some (.ref 67), some (.int p1), some (.int p2), some (.int p3), some (.int s6.1), none, none]) (fun s6 => s6.2) (fun s6 => ?_) _ ((0, σ5))
    unfold b_X11_goesThrough_44
    refine P_l (fun hJ _ _ q => E_iload dX11_goesThrough_44 rfl (E_iload_n dX11_goesThrough_46 rfl q)) ?_
    refine P_if (fun hJ _ _ h1 h2 => E_icmp_ge 188 dX11_goesThrough_47 (by decide) h1 h2) ?_ ?_
    · skip
      exact P_inl (P_ret (fun _ _ => E_vret rfl dX11_goesThrough_188))
    · skip
      refine P_l (fun hJ _ _ q => E_aload_n dX11_goesThrough_50 rfl (E_iconst (v := 0) dX11_goesThrough_51 (by decide) q)) ?_
      refine P_w (fun hJ _ _ q => E_putI clX11 56 (by decide) flX11_207 (Or.inl rfl) rfl dX11_goesThrough_52 (kd67 hJ.1.1) q) (fun hJ => Sy_wI hJ.1) rfl rfl rfl (fun σ7 hσ7 => ?_)
      refine P_l (fun hJ _ _ q => E_iconst (v := 0) dX11_goesThrough_55 (by decide) (E_istore (ls2 := [some (.ref 67), some (.int p1), some (.int p2), some (.int p3), some (.int s6.1), some (.int 0), none]) dX11_goesThrough_56 (by decide) rfl q)) ?_
      refine P_join (pc2 := 88) (fun j9 => [some (.ref 67), some (.int p1), some (.int p2), some (.int p3), some (.int s6.1), none, none]) (fun j9 => []) (fun j9 => j9) ?_ (fun j9 => ?_)
      · skip
        refine P_loop (fun s10 => [some (.ref 67), some (.int p1), some (.int p2), some (.int p3), some (.int s6.1), some (.int s10.1), none]) (fun s10 => s10.2) (fun s10 => ?_) _ ((0, σ7))
        unfold b_X11_goesThrough_58
        refine P_l (fun hJ _ _ q => E_iload dX11_goesThrough_58 rfl (E_aload_n dX11_goesThrough_60 rfl (E_getI clX11 50 (by decide) flX11_236 (Or.inl rfl) dX11_goesThrough_61 (kd67 hJ.1.1) q))) ?_
        refine P_if (fun hJ _ _ h1 h2 => E_icmp_ge 88 dX11_goesThrough_64 (by decide) h1 h2) ?_ ?_
        · skip
          refine P_less [some (.ref 67), some (.int p1), some (.int p2), some (.int p3), some (.int s6.1), none, none] (And.intro rfl (And.intro rfl (And.intro rfl (And.intro rfl (And.intro rfl trivial))))) ?_
          exact P_inl (P_back s10.2)
        · skip
          refine P_l (fun hJ _ _ q => E_aload_n dX11_goesThrough_67 rfl (E_aload_n dX11_goesThrough_68 rfl (E_getR (b := 99) clX11 49 (by decide) flX11_131 (Or.inr ⟨_, rfl⟩) dX11_goesThrough_69 (kd67 hJ.1.1) (rf67_49 hJ.1.1) (by decide) (E_iload dX11_goesThrough_72 rfl q)))) ?_
          refine P_g (fun g11 => ?_)
          refine P_l (fun hJ _ _ q => E_iald dX11_goesThrough_74 (kd99 hJ.1.1) (inB_vp g11) (E_iload dX11_goesThrough_75 rfl (E_iload_n dX11_goesThrough_77 rfl (E_iload_n dX11_goesThrough_78 rfl q)))) ?_
          refine P_call (t := fun _ => none) (st2 := fun _ => []) (kc2 := 0) (ks2 := 0) (fun hJ => (ok_X11_number (σ := s10.2) (p1 := rI s10.2 99 (s10.1 : Int32).toNatClampNeg) (p2 := s6.1) (p3 := p2) (p4 := p3) )) (fun hJ _ _ _ _ v τ1 hM q => E_callV (as := [.int (rI s10.2 99 (s10.1 : Int32).toNatClampNeg), .int s6.1, .int p2, .int p3]) (b := 67) (st := []) hM (by decide) yfX11_number mlX11_239 imX11_number seX11_number clX11 (kd67 hJ.1.1) rfl (Nat.le_of_ble_eq_true rfl) rfl dX11_goesThrough_79 q) (by decide) (by decide) (fun v12 σ13 => ?_)
          refine P_l (fun hJ _ _ q => E_iinc (v := 1) (ls2 := [some (.ref 67), some (.int p1), some (.int p2), some (.int p3), some (.int s6.1), some (.int (s10.1 + 1)), none]) dX11_goesThrough_82 rfl (by decide) (by decide) rfl (E_goto 58 dX11_goesThrough_85 (by decide) q)) ?_
          exact P_back ((s10.1 + 1, σ13))
      · skip
        refine P_l (fun hJ _ _ q => E_iconst (v := 0) dX11_goesThrough_88 (by decide) (E_istore (ls2 := [some (.ref 67), some (.int p1), some (.int p2), some (.int p3), some (.int s6.1), some (.int 0), none]) dX11_goesThrough_89 (by decide) rfl q)) ?_
        refine P_loop (fun s14 => [some (.ref 67), some (.int p1), some (.int p2), some (.int p3), some (.int s6.1), some (.int s14.1), none]) (fun s14 => s14.2) (fun s14 => ?_) _ ((0, j9))
        unfold b_X11_goesThrough_91
        refine P_l (fun hJ _ _ q => E_iload dX11_goesThrough_91 rfl (E_aload_n dX11_goesThrough_93 rfl (E_getI clX11 56 (by decide) flX11_207 (Or.inl rfl) dX11_goesThrough_94 (kd67 hJ.1.1) q))) ?_
        refine P_if (fun hJ _ _ h1 h2 => E_icmp_ge 174 dX11_goesThrough_97 (by decide) h1 h2) ?_ ?_
        · skip
          refine P_l (fun hJ _ _ q => E_aload_n dX11_goesThrough_174 rfl (E_aload_n dX11_goesThrough_175 rfl (E_getI clX11 56 (by decide) flX11_207 (Or.inl rfl) dX11_goesThrough_176 (kd67 hJ.1.1) q))) ?_
          refine P_w (fun hJ _ _ q => E_putI clX11 50 (by decide) flX11_236 (Or.inl rfl) rfl dX11_goesThrough_179 (kd67 hJ.1.1) q) (fun hJ => Sy_wI hJ.1) rfl rfl rfl (fun σ15 hσ15 => ?_)
          refine P_l (fun hJ _ _ q => E_iinc (v := 1) (ls2 := [some (.ref 67), some (.int p1), some (.int p2), some (.int p3), some (.int (s6.1 + 1)), some (.int s14.1), none]) dX11_goesThrough_182 rfl (by decide) (by decide) rfl (E_goto 44 dX11_goesThrough_185 (by decide) q)) ?_
          refine P_less [some (.ref 67), some (.int p1), some (.int p2), some (.int p3), some (.int (s6.1 + 1)), none, none] (And.intro rfl (And.intro rfl (And.intro rfl (And.intro rfl (And.intro rfl trivial))))) ?_
          exact P_inl (P_back ((s6.1 + 1, σ15)))
        · skip
          refine P_l (fun hJ _ _ q => E_aload_n dX11_goesThrough_100 rfl (E_getR (b := 104) clX11 55 (by decide) flX11_146 (Or.inr ⟨_, rfl⟩) dX11_goesThrough_101 (kd67 hJ.1.1) (rf67_55 hJ.1.1) (by decide) (E_iload dX11_goesThrough_104 rfl q))) ?_
          refine P_g (fun g16 => ?_)
          refine P_l (fun hJ _ _ q => E_iald dX11_goesThrough_106 (kd104 hJ.1.1) (inB_vp g16) (E_istore (ls2 := [some (.ref 67), some (.int p1), some (.int p2), some (.int p3), some (.int s6.1), some (.int s14.1), some (.int (rI s14.2 104 (s14.1 : Int32).toNatClampNeg))]) dX11_goesThrough_107 (by decide) rfl q)) ?_
          refine P_v (rI s14.2 104 (s14.1 : Int32).toNatClampNeg) (fun x => [some (.ref 67), some (.int p1), some (.int p2), some (.int p3), some (.int s6.1), some (.int s14.1), some (.int x)]) (fun x17 => ?_)
          refine P_l (fun hJ _ _ q => E_aload_n dX11_goesThrough_109 rfl (E_getR (b := 99) clX11 49 (by decide) flX11_131 (Or.inr ⟨_, rfl⟩) dX11_goesThrough_110 (kd67 hJ.1.1) (rf67_49 hJ.1.1) (by decide) (E_iload dX11_goesThrough_113 rfl (E_iload dX11_goesThrough_115 rfl q)))) ?_
          refine P_w (fun hJ _ _ q => E_iast dX11_goesThrough_117 (kd99 hJ.1.1) (by decide) (inB_vp g16) q) (fun hJ => Sy_wI hJ.1) rfl rfl rfl (fun σ18 hσ18 => ?_)
          refine P_l (fun hJ _ _ q => E_aload_n dX11_goesThrough_118 rfl (E_getR (b := 103) clX11 54 (by decide) flX11_143 (Or.inr ⟨_, rfl⟩) dX11_goesThrough_119 (kd67 hJ.1.1) (rf67_54 hJ.1.1) (by decide) (E_iload dX11_goesThrough_122 rfl (E_iconst (v := 0) dX11_goesThrough_124 (by decide) q)))) ?_
          refine P_g (fun g19 => ?_)
          refine P_w (fun hJ _ _ q => E_zast dX11_goesThrough_125 (kd103 hJ.1.1) (by decide) (inB_vp g19) q) (fun hJ => Sy_wI hJ.1) rfl rfl rfl (fun σ20 hσ20 => ?_)
          refine P_l (fun hJ _ _ q => E_aload_n dX11_goesThrough_126 rfl (E_getR (b := 95) clX11 45 (by decide) flX11_119 (Or.inr ⟨_, rfl⟩) dX11_goesThrough_127 (kd67 hJ.1.1) (rf67_45 hJ.1.1) (by decide) (E_iload dX11_goesThrough_130 rfl (E_aload_n dX11_goesThrough_132 rfl (E_getR (b := 100) clX11 51 (by decide) flX11_134 (Or.inr ⟨_, rfl⟩) dX11_goesThrough_133 (kd67 hJ.1.1) (rf67_51 hJ.1.1) (by decide) (E_iload dX11_goesThrough_136 rfl (E_lald dX11_goesThrough_138 (kd100 hJ.1.1) (inB_vp g19) q))))))) ?_
          refine P_w (fun hJ _ _ q => E_last dX11_goesThrough_139 (kd95 hJ.1.1) (inB_vp g19) q) (fun hJ => Sy_wL hJ.1) rfl rfl rfl (fun σ21 hσ21 => ?_)
          refine P_l (fun hJ _ _ q => E_aload_n dX11_goesThrough_140 rfl (E_getR (b := 96) clX11 46 (by decide) flX11_122 (Or.inr ⟨_, rfl⟩) dX11_goesThrough_141 (kd67 hJ.1.1) (rf67_46 hJ.1.1) (by decide) (E_iload dX11_goesThrough_144 rfl (E_aload_n dX11_goesThrough_146 rfl (E_getR (b := 101) clX11 52 (by decide) flX11_137 (Or.inr ⟨_, rfl⟩) dX11_goesThrough_147 (kd67 hJ.1.1) (rf67_52 hJ.1.1) (by decide) (E_iload dX11_goesThrough_150 rfl (E_lald dX11_goesThrough_152 (kd101 hJ.1.1) (inB_vp g19) q))))))) ?_
          refine P_w (fun hJ _ _ q => E_last dX11_goesThrough_153 (kd96 hJ.1.1) (inB_vp g19) q) (fun hJ => Sy_wL hJ.1) rfl rfl rfl (fun σ22 hσ22 => ?_)
          refine P_l (fun hJ _ _ q => E_aload_n dX11_goesThrough_154 rfl (E_getR (b := 97) clX11 47 (by decide) flX11_125 (Or.inr ⟨_, rfl⟩) dX11_goesThrough_155 (kd67 hJ.1.1) (rf67_47 hJ.1.1) (by decide) (E_iload dX11_goesThrough_158 rfl (E_aload_n dX11_goesThrough_160 rfl (E_getR (b := 102) clX11 53 (by decide) flX11_140 (Or.inr ⟨_, rfl⟩) dX11_goesThrough_161 (kd67 hJ.1.1) (rf67_53 hJ.1.1) (by decide) (E_iload dX11_goesThrough_164 rfl (E_lald dX11_goesThrough_166 (kd102 hJ.1.1) (inB_vp g19) q))))))) ?_
          refine P_w (fun hJ _ _ q => E_last dX11_goesThrough_167 (kd97 hJ.1.1) (inB_vp g19) q) (fun hJ => Sy_wL hJ.1) rfl rfl rfl (fun σ23 hσ23 => ?_)
          refine P_l (fun hJ _ _ q => E_iinc (v := 1) (ls2 := [some (.ref 67), some (.int p1), some (.int p2), some (.int p3), some (.int s6.1), some (.int (s14.1 + 1)), some (.int x17)]) dX11_goesThrough_168 rfl (by decide) (by decide) rfl (E_goto 91 dX11_goesThrough_171 (by decide) q)) ?_
          refine P_less [some (.ref 67), some (.int p1), some (.int p2), some (.int p3), some (.int s6.1), some (.int (s14.1 + 1)), none] (And.intro rfl (And.intro rfl (And.intro rfl (And.intro rfl (And.intro rfl (And.intro rfl trivial)))))) ?_
          exact P_back ((s14.1 + 1, σ23))

def b_X11_isDone_4 (σ : rS) (p1 : Int32) (s1 : Int32 × Int32) : Option (Int32 ⊕ (Int32 × Int32)) := if 4 ≤ s1.2 then (if s1.1 = 0 ∨ s1.1 = 1 then (some (.inl s1.1)) else none) else (oLet ((p1 >>> ((4 * s1.2) &&& 31)) &&& 15 : Int32) fun x3 => if s1.1 = 0 then (some (.inr (((0 : Int32), s1.2 + 1)))) else (if (if x3 = 0 then true else (if x3 = 15 then true else false)) = true then (some (.inr (((1 : Int32), s1.2 + 1)))) else (if inB x3 16 then (oLet ((if (rI σ 90 (x3 : Int32).toNatClampNeg) = (rI σ 67 2) then (if (rI σ 89 (x3 : Int32).toNatClampNeg) = 0 then 1 else (if (rI σ 89 (x3 : Int32).toNatClampNeg) = (rI σ 67 2) then 1 else 0)) else 0 : Int32) : Int32) fun x5 => some (.inr ((x5, s1.2 + 1)))) else none)))
def f_X11_isDone (σ : rS) (p1 : Int32) : Option Int32 := oLoop (b_X11_isDone_4 σ p1) oFuel ((1, 0))
set_option maxRecDepth 20000 in
set_option maxHeartbeats 2000000 in
theorem ok_X11_isDone {σ : rS} {p1 : Int32}   : rFr Sy yX11_isDone mX11_isDone 0 [.ref 67, .int p1] σ (fun v => some (.int v)) (f_X11_isDone σ p1) := by
  refine rFr_of (ls := [some (.ref 67), some (.int p1), none, none, none]) yfX11_isDone rfl (Nat.le_of_ble_eq_true rfl) (fun o τ => ?_)
  unfold f_X11_isDone
  refine P_l (fun hJ _ _ q => E_iconst (v := 1) dX11_isDone_0 (by decide) (E_istore_n (ls2 := [some (.ref 67), some (.int p1), some (.int 1), none, none]) dX11_isDone_1 (by decide) rfl (E_iconst (v := 0) dX11_isDone_2 (by decide) (E_istore_n (ls2 := [some (.ref 67), some (.int p1), some (.int 1), some (.int 0), none]) dX11_isDone_3 (by decide) rfl q)))) ?_
  refine P_loop (fun s1 => [some (.ref 67), some (.int p1), some (.int s1.1), some (.int s1.2), none]) (fun _ => σ) (fun s1 => ?_) _ ((1, 0))
  unfold b_X11_isDone_4
  refine P_l (fun hJ _ _ q => E_iload_n dX11_isDone_4 rfl (E_iconst (v := 4) dX11_isDone_5 (by decide) q)) ?_
  refine P_if (fun hJ _ _ h1 h2 => E_icmp_ge 85 dX11_isDone_6 (by decide) h1 h2) ?_ ?_
  · skip
    refine P_l (fun hJ _ _ q => E_iload_n dX11_isDone_85 rfl q) ?_
    refine P_g (fun g2 => ?_)
    exact P_inl (P_retr (fun _ _ => E_zret01 rfl g2 dX11_isDone_86))
  · skip
    refine P_l (fun hJ _ _ q => E_iload_n dX11_isDone_9 rfl (E_iconst (v := 4) dX11_isDone_10 (by decide) (E_iload_n dX11_isDone_11 rfl (E_imul dX11_isDone_12 (E_ishr dX11_isDone_13 (E_bipush (v := 15) dX11_isDone_14 (by decide) (E_iand dX11_isDone_16 (E_istore (ls2 := [some (.ref 67), some (.int p1), some (.int s1.1), some (.int s1.2), some (.int ((p1 >>> ((4 * s1.2) &&& 31)) &&& 15))]) dX11_isDone_17 (by decide) rfl q)))))))) ?_
    refine P_v ((p1 >>> ((4 * s1.2) &&& 31)) &&& 15) (fun x => [some (.ref 67), some (.int p1), some (.int s1.1), some (.int s1.2), some (.int x)]) (fun x3 => ?_)
    refine P_l (fun hJ _ _ q => E_iload_n dX11_isDone_19 rfl q) ?_
    refine P_if (fun hJ _ _ h1 h2 => E_if_eq 77 dX11_isDone_20 (by decide) h1 h2) ?_ ?_
    · skip
      refine P_l (fun hJ _ _ q => E_iconst (v := 0) dX11_isDone_77 (by decide) (E_istore_n (ls2 := [some (.ref 67), some (.int p1), some (.int 0), some (.int s1.2), some (.int x3)]) dX11_isDone_78 (by decide) rfl (E_iinc (v := 1) (ls2 := [some (.ref 67), some (.int p1), some (.int 0), some (.int (s1.2 + 1)), some (.int x3)]) dX11_isDone_79 rfl (by decide) (by decide) rfl (E_goto 4 dX11_isDone_82 (by decide) q)))) ?_
      refine P_less [some (.ref 67), some (.int p1), some (.int 0), some (.int (s1.2 + 1)), none] (And.intro rfl (And.intro rfl (And.intro rfl (And.intro rfl trivial)))) ?_
      exact P_back (((0 : Int32), s1.2 + 1))
    · skip
      refine P_l (fun hJ _ _ q => E_iload dX11_isDone_23 rfl q) ?_
      refine P_if (c := (if x3 = 0 then true else (if x3 = 15 then true else false)) = true) (pc1 := 73) (ls1 := [some (.ref 67), some (.int p1), some (.int s1.1), some (.int s1.2), some (.int x3)]) (st1 := []) (pc2 := 35) (ls2 := [some (.ref 67), some (.int p1), some (.int s1.1), some (.int s1.2), some (.int x3)]) (st2 := []) (fun hJ _ _ hX hY => ?_) ?_ ?_
      · skip
        refine E_if_eq 73 dX11_isDone_25 (by decide) (fun c_25_0 => ?_) (fun c_25_0 => ?_)
        · skip
          exact hX (by simp only [if_pos c_25_0])
        · skip
          refine E_iload dX11_isDone_28 rfl ?_
          refine E_bipush (v := 15) dX11_isDone_30 (by decide) ?_
          refine E_icmp_eq 73 dX11_isDone_32 (by decide) (fun c_32_1 => ?_) (fun c_32_1 => ?_)
          · skip
            exact hX (by simp only [if_neg c_25_0, if_pos c_32_1])
          · skip
            exact hY (by simp only [if_neg c_25_0, if_neg c_32_1]; exact Bool.false_ne_true)
      · skip
        refine P_l (fun hJ _ _ q => E_iconst (v := 1) dX11_isDone_73 (by decide) (E_goto 78 dX11_isDone_74 (by decide) (E_istore_n (ls2 := [some (.ref 67), some (.int p1), some (.int 1), some (.int s1.2), some (.int x3)]) dX11_isDone_78 (by decide) rfl (E_iinc (v := 1) (ls2 := [some (.ref 67), some (.int p1), some (.int 1), some (.int (s1.2 + 1)), some (.int x3)]) dX11_isDone_79 rfl (by decide) (by decide) rfl (E_goto 4 dX11_isDone_82 (by decide) q))))) ?_
        refine P_less [some (.ref 67), some (.int p1), some (.int 1), some (.int (s1.2 + 1)), none] (And.intro rfl (And.intro rfl (And.intro rfl (And.intro rfl trivial)))) ?_
        exact P_back (((1 : Int32), s1.2 + 1))
      · skip
        refine P_l (fun hJ _ _ q => E_aload_n dX11_isDone_35 rfl (E_getR (b := 90) clX11 39 (by decide) flX11_103 (Or.inr ⟨_, rfl⟩) dX11_isDone_36 (kd67 hJ.1.1) (rf67_39 hJ.1.1) (by decide) (E_iload dX11_isDone_39 rfl q))) ?_
        refine P_g (fun g4 => ?_)
        refine P_l (fun hJ _ _ q => E_iald dX11_isDone_41 (kd90 hJ.1.1) (inB_vp g4) (E_aload_n dX11_isDone_42 rfl (E_getI clX11 2 (by decide) flX11_15 (Or.inl rfl) dX11_isDone_43 (kd67 hJ.1.1) q))) ?_
        refine P_l (pc2 := 78) (ls2 := [some (.ref 67), some (.int p1), none, some (.int s1.2), none]) (st2 := [.int ((if (rI σ 90 (x3 : Int32).toNatClampNeg) = (rI σ 67 2) then (if (rI σ 89 (x3 : Int32).toNatClampNeg) = 0 then 1 else (if (rI σ 89 (x3 : Int32).toNatClampNeg) = (rI σ 67 2) then 1 else 0)) else 0 : Int32))]) (fun hJ _ _ hq => ?_) ?_
        · skip
          refine E_icmp_ne 77 dX11_isDone_46 (by decide) (fun c_46_0 => ?_) (fun c_46_0 => ?_)
          · skip
            refine E_iconst (v := 0) dX11_isDone_77 (by decide) ?_
            simp only [if_neg c_46_0] at hq
            exact E_less (ls2 := [some (.ref 67), some (.int p1), none, some (.int s1.2), none]) hq (rLe_at [some (.ref 67), some (.int p1), none, some (.int s1.2), none] [some (.ref 67), some (.int p1), some (.int s1.1), some (.int s1.2), some (.int x3)] (And.intro rfl (And.intro rfl (And.intro rfl trivial))))
          · skip
            refine E_aload_n dX11_isDone_49 rfl ?_
            refine E_getR (b := 89) clX11 38 (by decide) flX11_100 (Or.inr ⟨_, rfl⟩) dX11_isDone_50 (kd67 hJ.1.1) (rf67_38 hJ.1.1) (by decide) ?_
            refine E_iload dX11_isDone_53 rfl ?_
            refine E_iald dX11_isDone_55 (kd89 hJ.1.1) (inB_vp g4) ?_
            refine E_if_eq 73 dX11_isDone_56 (by decide) (fun c_56_1 => ?_) (fun c_56_1 => ?_)
            · skip
              refine E_iconst (v := 1) dX11_isDone_73 (by decide) ?_
              refine E_goto 78 dX11_isDone_74 (by decide) ?_
              simp only [if_pos c_46_0, if_pos c_56_1] at hq
              exact E_less (ls2 := [some (.ref 67), some (.int p1), none, some (.int s1.2), none]) hq (rLe_at [some (.ref 67), some (.int p1), none, some (.int s1.2), none] [some (.ref 67), some (.int p1), some (.int s1.1), some (.int s1.2), some (.int x3)] (And.intro rfl (And.intro rfl (And.intro rfl trivial))))
            · skip
              refine E_aload_n dX11_isDone_59 rfl ?_
              refine E_getR (b := 89) clX11 38 (by decide) flX11_100 (Or.inr ⟨_, rfl⟩) dX11_isDone_60 (kd67 hJ.1.1) (rf67_38 hJ.1.1) (by decide) ?_
              refine E_iload dX11_isDone_63 rfl ?_
              refine E_iald dX11_isDone_65 (kd89 hJ.1.1) (inB_vp g4) ?_
              refine E_aload_n dX11_isDone_66 rfl ?_
              refine E_getI clX11 2 (by decide) flX11_15 (Or.inl rfl) dX11_isDone_67 (kd67 hJ.1.1) ?_
              refine E_icmp_ne 77 dX11_isDone_70 (by decide) (fun c_70_2 => ?_) (fun c_70_2 => ?_)
              · skip
                refine E_iconst (v := 0) dX11_isDone_77 (by decide) ?_
                simp only [if_pos c_46_0, if_neg c_56_1, if_neg c_70_2] at hq
                exact E_less (ls2 := [some (.ref 67), some (.int p1), none, some (.int s1.2), none]) hq (rLe_at [some (.ref 67), some (.int p1), none, some (.int s1.2), none] [some (.ref 67), some (.int p1), some (.int s1.1), some (.int s1.2), some (.int x3)] (And.intro rfl (And.intro rfl (And.intro rfl trivial))))
              · skip
                refine E_iconst (v := 1) dX11_isDone_73 (by decide) ?_
                refine E_goto 78 dX11_isDone_74 (by decide) ?_
                simp only [if_pos c_46_0, if_neg c_56_1, if_pos c_70_2] at hq
                exact E_less (ls2 := [some (.ref 67), some (.int p1), none, some (.int s1.2), none]) hq (rLe_at [some (.ref 67), some (.int p1), none, some (.int s1.2), none] [some (.ref 67), some (.int p1), some (.int s1.1), some (.int s1.2), some (.int x3)] (And.intro rfl (And.intro rfl (And.intro rfl trivial))))
        · skip
          refine P_l (fun hJ _ _ q => E_istore_n (ls2 := [some (.ref 67), some (.int p1), some (.int ((if (rI σ 90 (x3 : Int32).toNatClampNeg) = (rI σ 67 2) then (if (rI σ 89 (x3 : Int32).toNatClampNeg) = 0 then 1 else (if (rI σ 89 (x3 : Int32).toNatClampNeg) = (rI σ 67 2) then 1 else 0)) else 0 : Int32))), some (.int s1.2), none]) dX11_isDone_78 (by decide) rfl q) ?_
          refine P_v ((if (rI σ 90 (x3 : Int32).toNatClampNeg) = (rI σ 67 2) then (if (rI σ 89 (x3 : Int32).toNatClampNeg) = 0 then 1 else (if (rI σ 89 (x3 : Int32).toNatClampNeg) = (rI σ 67 2) then 1 else 0)) else 0 : Int32)) (fun x => [some (.ref 67), some (.int p1), some (.int x), some (.int s1.2), none]) (fun x5 => ?_)
          refine P_l (fun hJ _ _ q => E_iinc (v := 1) (ls2 := [some (.ref 67), some (.int p1), some (.int x5), some (.int (s1.2 + 1)), none]) dX11_isDone_79 rfl (by decide) (by decide) rfl (E_goto 4 dX11_isDone_82 (by decide) q)) ?_
          exact P_back ((x5, s1.2 + 1))

def b_X11_gathers_9 (p1 : Int32) (s4 : Int32 × Int32 × rS) : Option (((Int32 × rS) ⊕ (Int32 × rS)) ⊕ (Int32 × Int32 × rS)) := if (rI s4.2.2 67 50) ≤ s4.2.1 then (some (.inl (.inr ((s4.1, s4.2.2))))) else (if inB s4.2.1 65536 then (oLet (rI s4.2.2 99 (s4.2.1 : Int32).toNatClampNeg : Int32) fun x6 => (f_X11_isDone s4.2.2 x6).bind fun v7 => if v7 = 0 then (some (.inr ((s4.1, s4.2.1 + 1, s4.2.2)))) else (if inB x6 65536 then (oB (f_X11_comes s4.2.2 0 (rL s4.2.2 95 (x6 : Int32).toNatClampNeg) (rL s4.2.2 96 (x6 : Int32).toNatClampNeg) (rL s4.2.2 97 (x6 : Int32).toNatClampNeg) p1) fun _ σ10 => some (.inr (((1 : Int32), s4.2.1 + 1, σ10)))) else none)) else none)
def f_X11_gathers (σ : rS) (p1 : Int32) : Option (Int32 × rS) := oLet (wI σ 67 56 0) fun σ1 => oJoin (oLoop (b_X11_gathers_9 p1) oFuel ((0, 0, σ1))) fun j3 => oLet (wI j3.2 103 (0 : Int32).toNatClampNeg 0) fun σ11 => oLet (wL σ11 67 61 ((if j3.1 = 0 then (0 : Int64) else (rL σ11 100 (0 : Int32).toNatClampNeg) : Int64))) fun σ12 => oLet (wL σ12 67 62 ((if j3.1 = 0 then (0 : Int64) else (rL σ12 101 (0 : Int32).toNatClampNeg) : Int64))) fun σ13 => oLet (wL σ13 67 63 ((if j3.1 = 0 then (0 : Int64) else (rL σ13 102 (0 : Int32).toNatClampNeg) : Int64))) fun σ14 => if j3.1 = 0 ∨ j3.1 = 1 then (some ((j3.1, σ14))) else none
set_option maxRecDepth 20000 in
set_option maxHeartbeats 2000000 in
theorem ok_X11_gathers {σ : rS} {p1 : Int32}   : rFn Sy yX11_gathers mX11_gathers 1 [.ref 67, .int p1] σ 0 0 (fun v => .inl (some (.int v))) (f_X11_gathers σ p1) := by
  refine rF_of (ls := [some (.ref 67), some (.int p1), none, none, none]) yfX11_gathers rfl (Nat.le_of_ble_eq_true rfl) (fun o τ => ?_)
  unfold f_X11_gathers
  refine P_l (fun hJ _ _ q => E_iconst (v := 0) dX11_gathers_0 (by decide) (E_istore_n (ls2 := [some (.ref 67), some (.int p1), some (.int 0), none, none]) dX11_gathers_1 (by decide) rfl (E_aload_n dX11_gathers_2 rfl (E_iconst (v := 0) dX11_gathers_3 (by decide) q)))) ?_
  refine P_w (fun hJ _ _ q => E_putI clX11 56 (by decide) flX11_207 (Or.inl rfl) rfl dX11_gathers_4 (kd67 hJ.1.1) q) (fun hJ => Sy_wI hJ.1) rfl rfl rfl (fun σ1 hσ1 => ?_)
  refine P_l (fun hJ _ _ q => E_iconst (v := 0) dX11_gathers_7 (by decide) (E_istore_n (ls2 := [some (.ref 67), some (.int p1), some (.int 0), some (.int 0), none]) dX11_gathers_8 (by decide) rfl q)) ?_
  refine P_join (pc2 := 69) (fun j3 => [some (.ref 67), none, some (.int j3.1), none, none]) (fun j3 => []) (fun j3 => j3.2) ?_ (fun j3 => ?_)
  · skip
    refine P_loop (fun s4 => [some (.ref 67), some (.int p1), some (.int s4.1), some (.int s4.2.1), none]) (fun s4 => s4.2.2) (fun s4 => ?_) _ ((0, 0, σ1))
    unfold b_X11_gathers_9
    refine P_l (fun hJ _ _ q => E_iload_n dX11_gathers_9 rfl (E_aload_n dX11_gathers_10 rfl (E_getI clX11 50 (by decide) flX11_236 (Or.inl rfl) dX11_gathers_11 (kd67 hJ.1.1) q))) ?_
    refine P_if (fun hJ _ _ h1 h2 => E_icmp_ge 69 dX11_gathers_14 (by decide) h1 h2) ?_ ?_
    · skip
      refine P_less [some (.ref 67), none, some (.int s4.1), none, none] (And.intro rfl (And.intro rfl trivial)) ?_
      exact P_inl (P_back ((s4.1, s4.2.2)))
    · skip
      refine P_l (fun hJ _ _ q => E_aload_n dX11_gathers_17 rfl (E_getR (b := 99) clX11 49 (by decide) flX11_131 (Or.inr ⟨_, rfl⟩) dX11_gathers_18 (kd67 hJ.1.1) (rf67_49 hJ.1.1) (by decide) (E_iload_n dX11_gathers_21 rfl q))) ?_
      refine P_g (fun g5 => ?_)
      refine P_l (fun hJ _ _ q => E_iald dX11_gathers_22 (kd99 hJ.1.1) (inB_vp g5) (E_istore (ls2 := [some (.ref 67), some (.int p1), some (.int s4.1), some (.int s4.2.1), some (.int (rI s4.2.2 99 (s4.2.1 : Int32).toNatClampNeg))]) dX11_gathers_23 (by decide) rfl q)) ?_
      refine P_v (rI s4.2.2 99 (s4.2.1 : Int32).toNatClampNeg) (fun x => [some (.ref 67), some (.int p1), some (.int s4.1), some (.int s4.2.1), some (.int x)]) (fun x6 => ?_)
      refine P_l (fun hJ _ _ q => E_aload_n dX11_gathers_25 rfl (E_iload dX11_gathers_26 rfl q)) ?_
      refine P_callr (t := fun v => some (.int v)) (st2 := fun v => .int v :: []) (fun hJ => (ok_X11_isDone (σ := s4.2.2) (p1 := x6) )) (fun hJ _ _ v hM q => E_callV (as := [.int x6]) (b := 67) (st := []) hM (by decide) yfX11_isDone mlX11_243 imX11_isDone seX11_isDone clX11 (kd67 hJ.1.1) rfl (Nat.le_of_ble_eq_true rfl) rfl dX11_gathers_28 q) (fun v7 => ?_)
      refine P_if (fun hJ _ _ h1 h2 => E_if_eq 63 dX11_gathers_31 (by decide) h1 h2) ?_ ?_
      · skip
        refine P_l (fun hJ _ _ q => E_iinc (v := 1) (ls2 := [some (.ref 67), some (.int p1), some (.int s4.1), some (.int (s4.2.1 + 1)), some (.int x6)]) dX11_gathers_63 rfl (by decide) (by decide) rfl (E_goto 9 dX11_gathers_66 (by decide) q)) ?_
        refine P_less [some (.ref 67), some (.int p1), some (.int s4.1), some (.int (s4.2.1 + 1)), none] (And.intro rfl (And.intro rfl (And.intro rfl (And.intro rfl trivial)))) ?_
        exact P_back ((s4.1, s4.2.1 + 1, s4.2.2))
      · skip
        refine P_l (fun hJ _ _ q => E_aload_n dX11_gathers_34 rfl (E_iconst (v := 0) dX11_gathers_35 (by decide) (E_aload_n dX11_gathers_36 rfl (E_getR (b := 95) clX11 45 (by decide) flX11_119 (Or.inr ⟨_, rfl⟩) dX11_gathers_37 (kd67 hJ.1.1) (rf67_45 hJ.1.1) (by decide) (E_iload dX11_gathers_40 rfl q))))) ?_
        refine P_g (fun g8 => ?_)
        refine P_l (fun hJ _ _ q => E_lald dX11_gathers_42 (kd95 hJ.1.1) (inB_vp g8) (E_aload_n dX11_gathers_43 rfl (E_getR (b := 96) clX11 46 (by decide) flX11_122 (Or.inr ⟨_, rfl⟩) dX11_gathers_44 (kd67 hJ.1.1) (rf67_46 hJ.1.1) (by decide) (E_iload dX11_gathers_47 rfl (E_lald dX11_gathers_49 (kd96 hJ.1.1) (inB_vp g8) (E_aload_n dX11_gathers_50 rfl (E_getR (b := 97) clX11 47 (by decide) flX11_125 (Or.inr ⟨_, rfl⟩) dX11_gathers_51 (kd67 hJ.1.1) (rf67_47 hJ.1.1) (by decide) (E_iload dX11_gathers_54 rfl (E_lald dX11_gathers_56 (kd97 hJ.1.1) (inB_vp g8) (E_iload_n dX11_gathers_57 rfl q)))))))))) ?_
        refine P_call (t := fun _ => none) (st2 := fun _ => []) (kc2 := 0) (ks2 := 0) (fun hJ => (ok_X11_comes (σ := s4.2.2) (p1 := 0) (p2 := rL s4.2.2 95 (x6 : Int32).toNatClampNeg) (p3 := rL s4.2.2 96 (x6 : Int32).toNatClampNeg) (p4 := rL s4.2.2 97 (x6 : Int32).toNatClampNeg) (p5 := p1) )) (fun hJ _ _ _ _ v τ1 hM q => E_callV (as := [.int 0, .long (rL s4.2.2 95 (x6 : Int32).toNatClampNeg), .long (rL s4.2.2 96 (x6 : Int32).toNatClampNeg), .long (rL s4.2.2 97 (x6 : Int32).toNatClampNeg), .int p1]) (b := 67) (st := []) hM (by decide) yfX11_comes mlX11_215 imX11_comes seX11_comes clX11 (kd67 hJ.1.1) rfl (Nat.le_of_ble_eq_true rfl) rfl dX11_gathers_58 q) (by decide) (by decide) (fun v9 σ10 => ?_)
        refine P_l (fun hJ _ _ q => E_iconst (v := 1) dX11_gathers_61 (by decide) (E_istore_n (ls2 := [some (.ref 67), some (.int p1), some (.int 1), some (.int s4.2.1), some (.int x6)]) dX11_gathers_62 (by decide) rfl (E_iinc (v := 1) (ls2 := [some (.ref 67), some (.int p1), some (.int 1), some (.int (s4.2.1 + 1)), some (.int x6)]) dX11_gathers_63 rfl (by decide) (by decide) rfl (E_goto 9 dX11_gathers_66 (by decide) q)))) ?_
        refine P_less [some (.ref 67), some (.int p1), some (.int 1), some (.int (s4.2.1 + 1)), none] (And.intro rfl (And.intro rfl (And.intro rfl (And.intro rfl trivial)))) ?_
        exact P_back (((1 : Int32), s4.2.1 + 1, σ10))
  · skip
    refine P_l (fun hJ _ _ q => E_aload_n dX11_gathers_69 rfl (E_getR (b := 103) clX11 54 (by decide) flX11_143 (Or.inr ⟨_, rfl⟩) dX11_gathers_70 (kd67 hJ.1.1) (rf67_54 hJ.1.1) (by decide) (E_iconst (v := 0) dX11_gathers_73 (by decide) (E_iconst (v := 0) dX11_gathers_74 (by decide) q)))) ?_
    refine P_w (fun hJ _ _ q => E_zast dX11_gathers_75 (kd103 hJ.1.1) (by decide) (inB_vp (by decide)) q) (fun hJ => Sy_wI hJ.1) rfl rfl rfl (fun σ11 hσ11 => ?_)
    refine P_l (fun hJ _ _ q => E_aload_n dX11_gathers_76 rfl (E_iload_n dX11_gathers_77 rfl q)) ?_
    refine P_l (pc2 := 91) (ls2 := [some (.ref 67), none, some (.int j3.1), none, none]) (st2 := [.long ((if j3.1 = 0 then (0 : Int64) else (rL σ11 100 (0 : Int32).toNatClampNeg) : Int64)), .ref 67]) (fun hJ _ _ hq => ?_) ?_
    · skip
      refine E_if_eq 90 dX11_gathers_78 (by decide) (fun c_78_0 => ?_) (fun c_78_0 => ?_)
      · skip
        refine E_lconst (v := 0) dX11_gathers_90 (by decide) ?_
        simp only [if_pos c_78_0] at hq
        exact hq
      · skip
        refine E_aload_n dX11_gathers_81 rfl ?_
        refine E_getR (b := 100) clX11 51 (by decide) flX11_134 (Or.inr ⟨_, rfl⟩) dX11_gathers_82 (kd67 hJ.1.1) (rf67_51 hJ.1.1) (by decide) ?_
        refine E_iconst (v := 0) dX11_gathers_85 (by decide) ?_
        refine E_lald dX11_gathers_86 (kd100 hJ.1.1) (inB_vp (by decide)) ?_
        refine E_goto 91 dX11_gathers_87 (by decide) ?_
        simp only [if_neg c_78_0] at hq
        exact hq
    · skip
      refine P_w (fun hJ _ _ q => E_putL clX11 61 (by decide) flX11_247 rfl rfl dX11_gathers_91 (kd67 hJ.1.1) q) (fun hJ => Sy_wL hJ.1) rfl rfl rfl (fun σ12 hσ12 => ?_)
      refine P_l (fun hJ _ _ q => E_aload_n dX11_gathers_94 rfl (E_iload_n dX11_gathers_95 rfl q)) ?_
      refine P_l (pc2 := 109) (ls2 := [some (.ref 67), none, some (.int j3.1), none, none]) (st2 := [.long ((if j3.1 = 0 then (0 : Int64) else (rL σ12 101 (0 : Int32).toNatClampNeg) : Int64)), .ref 67]) (fun hJ _ _ hq => ?_) ?_
      · skip
        refine E_if_eq 108 dX11_gathers_96 (by decide) (fun c_96_0 => ?_) (fun c_96_0 => ?_)
        · skip
          refine E_lconst (v := 0) dX11_gathers_108 (by decide) ?_
          simp only [if_pos c_96_0] at hq
          exact hq
        · skip
          refine E_aload_n dX11_gathers_99 rfl ?_
          refine E_getR (b := 101) clX11 52 (by decide) flX11_137 (Or.inr ⟨_, rfl⟩) dX11_gathers_100 (kd67 hJ.1.1) (rf67_52 hJ.1.1) (by decide) ?_
          refine E_iconst (v := 0) dX11_gathers_103 (by decide) ?_
          refine E_lald dX11_gathers_104 (kd101 hJ.1.1) (inB_vp (by decide)) ?_
          refine E_goto 109 dX11_gathers_105 (by decide) ?_
          simp only [if_neg c_96_0] at hq
          exact hq
      · skip
        refine P_w (fun hJ _ _ q => E_putL clX11 62 (by decide) flX11_251 rfl rfl dX11_gathers_109 (kd67 hJ.1.1) q) (fun hJ => Sy_wL hJ.1) rfl rfl rfl (fun σ13 hσ13 => ?_)
        refine P_l (fun hJ _ _ q => E_aload_n dX11_gathers_112 rfl (E_iload_n dX11_gathers_113 rfl q)) ?_
        refine P_l (pc2 := 127) (ls2 := [none, none, some (.int j3.1), none, none]) (st2 := [.long ((if j3.1 = 0 then (0 : Int64) else (rL σ13 102 (0 : Int32).toNatClampNeg) : Int64)), .ref 67]) (fun hJ _ _ hq => ?_) ?_
        · skip
          refine E_if_eq 126 dX11_gathers_114 (by decide) (fun c_114_0 => ?_) (fun c_114_0 => ?_)
          · skip
            refine E_lconst (v := 0) dX11_gathers_126 (by decide) ?_
            simp only [if_pos c_114_0] at hq
            exact E_less (ls2 := [none, none, some (.int j3.1), none, none]) hq (rLe_at [none, none, some (.int j3.1), none, none] [some (.ref 67), none, some (.int j3.1), none, none] (And.intro rfl trivial))
          · skip
            refine E_aload_n dX11_gathers_117 rfl ?_
            refine E_getR (b := 102) clX11 53 (by decide) flX11_140 (Or.inr ⟨_, rfl⟩) dX11_gathers_118 (kd67 hJ.1.1) (rf67_53 hJ.1.1) (by decide) ?_
            refine E_iconst (v := 0) dX11_gathers_121 (by decide) ?_
            refine E_lald dX11_gathers_122 (kd102 hJ.1.1) (inB_vp (by decide)) ?_
            refine E_goto 127 dX11_gathers_123 (by decide) ?_
            simp only [if_neg c_114_0] at hq
            exact E_less (ls2 := [none, none, some (.int j3.1), none, none]) hq (rLe_at [none, none, some (.int j3.1), none, none] [some (.ref 67), none, some (.int j3.1), none, none] (And.intro rfl trivial))
        · skip
          refine P_w (fun hJ _ _ q => E_putL clX11 63 (by decide) flX11_254 rfl rfl dX11_gathers_127 (kd67 hJ.1.1) q) (fun hJ => Sy_wL hJ.1) rfl rfl rfl (fun σ14 hσ14 => ?_)
          refine P_l (fun hJ _ _ q => E_iload_n dX11_gathers_130 rfl q) ?_
          refine P_g (fun g15 => ?_)
          exact P_ret (fun _ _ => E_zret01 rfl g15 dX11_gathers_131)

def b_X11_canBeCut_2 (s3 : Int32 × rS) : Option (((Int32 × rS) ⊕ (rS)) ⊕ (Int32 × rS)) := if 4 ≤ s3.1 then (some (.inl (.inr s3.2))) else (if inB s3.1 4 then (oLet (wI s3.2 108 (s3.1 : Int32).toNatClampNeg 0) fun σ5 => some (.inr ((s3.1 + 1, σ5)))) else none)
def f_X11_canBeCut (σ : rS) : Option (Int32 × rS) := oJoin (oLoop (b_X11_canBeCut_2) oFuel ((0, σ))) fun j2 => oB (f_X11_goesThrough j2 (rI j2 67 1) 0 0) fun _ σ7 => oB (f_X11_gathers σ7 0) fun v8 σ9 => if v8 = 0 ∨ v8 = 1 then (some ((v8, σ9))) else none
set_option maxRecDepth 20000 in
set_option maxHeartbeats 2000000 in
theorem ok_X11_canBeCut {σ : rS}   : rFn Sy yX11_canBeCut mX11_canBeCut 6 [.ref 67] σ 0 0 (fun v => .inl (some (.int v))) (f_X11_canBeCut σ) := by
  refine rF_of (ls := [some (.ref 67), none]) yfX11_canBeCut rfl (Nat.le_of_ble_eq_true rfl) (fun o τ => ?_)
  unfold f_X11_canBeCut
  refine P_l (fun hJ _ _ q => E_iconst (v := 0) dX11_canBeCut_0 (by decide) (E_istore_n (ls2 := [some (.ref 67), some (.int 0)]) dX11_canBeCut_1 (by decide) rfl q)) ?_
  refine P_join (pc2 := 20) (fun j2 => [some (.ref 67), none]) (fun j2 => []) (fun j2 => j2) ?_ (fun j2 => ?_)
  · skip
    refine P_loop (fun s3 => [some (.ref 67), some (.int s3.1)]) (fun s3 => s3.2) (fun s3 => ?_) _ ((0, σ))
    unfold b_X11_canBeCut_2
    refine P_l (fun hJ _ _ q => E_iload_n dX11_canBeCut_2 rfl (E_iconst (v := 4) dX11_canBeCut_3 (by decide) q)) ?_
    refine P_if (fun hJ _ _ h1 h2 => E_icmp_ge 20 dX11_canBeCut_4 (by decide) h1 h2) ?_ ?_
    · skip
      refine P_less [some (.ref 67), none] (And.intro rfl trivial) ?_
      exact P_inl (P_back s3.2)
    · skip
      refine P_l (fun hJ _ _ q => E_aload_n dX11_canBeCut_7 rfl (E_getR (b := 108) clX11 60 (by decide) flX11_158 (Or.inr ⟨_, rfl⟩) dX11_canBeCut_8 (kd67 hJ.1.1) (rf67_60 hJ.1.1) (by decide) (E_iload_n dX11_canBeCut_11 rfl (E_iconst (v := 0) dX11_canBeCut_12 (by decide) q)))) ?_
      refine P_g (fun g4 => ?_)
      refine P_w (fun hJ _ _ q => E_iast dX11_canBeCut_13 (kd108 hJ.1.1) (by decide) (inB_vp g4) q) (fun hJ => Sy_wI hJ.1) rfl rfl rfl (fun σ5 hσ5 => ?_)
      refine P_l (fun hJ _ _ q => E_iinc (v := 1) (ls2 := [some (.ref 67), some (.int (s3.1 + 1))]) dX11_canBeCut_14 rfl (by decide) (by decide) rfl (E_goto 2 dX11_canBeCut_17 (by decide) q)) ?_
      exact P_back ((s3.1 + 1, σ5))
  · skip
    refine P_l (fun hJ _ _ q => E_aload_n dX11_canBeCut_20 rfl (E_aload_n dX11_canBeCut_21 rfl (E_getI clX11 1 (by decide) flX11_9 (Or.inl rfl) dX11_canBeCut_22 (kd67 hJ.1.1) (E_iconst (v := 0) dX11_canBeCut_25 (by decide) (E_iconst (v := 0) dX11_canBeCut_26 (by decide) q))))) ?_
    refine P_call (t := fun _ => none) (st2 := fun _ => []) (kc2 := 0) (ks2 := 0) (fun hJ => (ok_X11_goesThrough (σ := j2) (p1 := rI j2 67 1) (p2 := 0) (p3 := 0) )) (fun hJ _ _ _ _ v τ1 hM q => E_callV (as := [.int (rI j2 67 1), .int 0, .int 0]) (b := 67) (st := []) hM (by decide) yfX11_goesThrough mlX11_257 imX11_goesThrough seX11_goesThrough clX11 (kd67 hJ.1.1) rfl (Nat.le_of_ble_eq_true rfl) rfl dX11_canBeCut_27 q) (by decide) (by decide) (fun v6 σ7 => ?_)
    refine P_l (fun hJ _ _ q => E_aload_n dX11_canBeCut_30 rfl (E_iconst (v := 0) dX11_canBeCut_31 (by decide) q)) ?_
    refine P_call (t := fun v => some (.int v)) (st2 := fun v => .int v :: []) (kc2 := 0) (ks2 := 0) (fun hJ => (ok_X11_gathers (σ := σ7) (p1 := 0) )) (fun hJ _ _ _ _ v τ1 hM q => E_callV (as := [.int 0]) (b := 67) (st := []) hM (by decide) yfX11_gathers mlX11_261 imX11_gathers seX11_gathers clX11 (kd67 hJ.1.1) rfl (Nat.le_of_ble_eq_true rfl) rfl dX11_canBeCut_32 q) (by decide) (by decide) (fun v8 σ9 => ?_)
    refine P_g (fun g10 => ?_)
    exact P_ret (fun _ _ => E_zret01 rfl g10 dX11_canBeCut_35)

def f_X11_isWhole (σ : rS) : Option (Int32 × rS) := oB (f_X11_holds σ 0) fun v1 σ2 => oB (f_X11_laysTable σ2) fun _ σ4 => oB (f_X11_canBeCut σ4) fun v5 σ6 => if v5 = 0 ∨ v5 = 1 then (some ((v5, σ6))) else none
set_option maxRecDepth 20000 in
set_option maxHeartbeats 2000000 in
theorem ok_X11_isWhole {σ : rS}   : rFn Sy yX11_isWhole mX11_isWhole 7 [.ref 67] σ 0 0 (fun v => .inl (some (.int v))) (f_X11_isWhole σ) := by
  refine rF_of (ls := [some (.ref 67)]) yfX11_isWhole rfl (Nat.le_of_ble_eq_true rfl) (fun o τ => ?_)
  unfold f_X11_isWhole
  refine P_l (fun hJ _ _ q => E_aload_n dX11_isWhole_0 rfl (E_iconst (v := 0) dX11_isWhole_1 (by decide) q)) ?_
  refine P_call (t := fun v => some (.int v)) (st2 := fun v => .int v :: []) (kc2 := 0) (ks2 := 0) (fun hJ => (ok_X11_holds (σ := σ) (p1 := 0) )) (fun hJ _ _ _ _ v τ1 hM q => E_callV (as := [.int 0]) (b := 67) (st := []) hM (by decide) yfX11_holds mlX11_265 imX11_holds seX11_holds clX11 (kd67 hJ.1.1) rfl (Nat.le_of_ble_eq_true rfl) rfl dX11_isWhole_2 q) (by decide) (by decide) (fun v1 σ2 => ?_)
  refine P_l (fun hJ _ _ q => E_pop dX11_isWhole_5 rfl (E_aload_n dX11_isWhole_6 rfl q)) ?_
  refine P_call (t := fun _ => none) (st2 := fun _ => []) (kc2 := 0) (ks2 := 0) (fun hJ => (ok_X11_laysTable (σ := σ2)  )) (fun hJ _ _ _ _ v τ1 hM q => E_callV (as := []) (b := 67) (st := []) hM (by decide) yfX11_laysTable mlX11_268 imX11_laysTable seX11_laysTable clX11 (kd67 hJ.1.1) rfl (Nat.le_of_ble_eq_true rfl) rfl dX11_isWhole_7 q) (by decide) (by decide) (fun v3 σ4 => ?_)
  refine P_l (fun hJ _ _ q => E_aload_n dX11_isWhole_10 rfl q) ?_
  refine P_call (t := fun v => some (.int v)) (st2 := fun v => .int v :: []) (kc2 := 0) (ks2 := 0) (fun hJ => (ok_X11_canBeCut (σ := σ4)  )) (fun hJ _ _ _ _ v τ1 hM q => E_callV (as := []) (b := 67) (st := []) hM (by decide) yfX11_canBeCut mlX11_271 imX11_canBeCut seX11_canBeCut clX11 (kd67 hJ.1.1) rfl (Nat.le_of_ble_eq_true rfl) rfl dX11_isWhole_11 q) (by decide) (by decide) (fun v5 σ6 => ?_)
  refine P_g (fun g7 => ?_)
  exact P_ret (fun _ _ => E_zret01 rfl g7 dX11_isWhole_14)

def v_X11_in (σ : rS) (p1 : Int32) (p2 : Int32) (p3 : Int32) : Int32 := if p1 < p2 then 0 else (if p3 < p1 then 0 else 1)
set_option maxRecDepth 20000 in
theorem ok_X11_in {σ : rS} {p1 : Int32} {p2 : Int32} {p3 : Int32}  (hJ : J Sy σ)  : rMet yX11_in mX11_in 0 [.ref 67, .int p1, .int p2, .int p3] σ 0 0 (some (.int (v_X11_in σ p1 p2 p3))) σ := by
  refine rMet_of (ls := [some (.ref 67), some (.int p1), some (.int p2), some (.int p3)]) yfX11_in rfl (Nat.le_of_ble_eq_true rfl) ?_
  refine E_iload_n dX11_in_0 rfl ?_
  refine E_iload_n dX11_in_1 rfl ?_
  refine E_icmp_lt 14 dX11_in_2 (by decide) (fun c_2_0 => ?_) (fun c_2_0 => ?_)
  · skip
    refine E_iconst (v := 0) dX11_in_14 (by decide) ?_
    exact E_zretE rfl dX11_in_15 (by decide) (by unfold v_X11_in; simp only [if_pos c_2_0]) rfl
  · skip
    refine E_iload_n dX11_in_5 rfl ?_
    refine E_iload_n dX11_in_6 rfl ?_
    refine E_icmp_gt 14 dX11_in_7 (by decide) (fun c_7_1 => ?_) (fun c_7_1 => ?_)
    · skip
      refine E_iconst (v := 0) dX11_in_14 (by decide) ?_
      exact E_zretE rfl dX11_in_15 (by decide) (by unfold v_X11_in; simp only [if_neg c_2_0, if_pos c_7_1]) rfl
    · skip
      refine E_iconst (v := 1) dX11_in_10 (by decide) ?_
      refine E_goto 15 dX11_in_11 (by decide) ?_
      exact E_zretE rfl dX11_in_15 (by decide) (by unfold v_X11_in; simp only [if_neg c_2_0, if_neg c_7_1]) rfl
theorem z_X11_in (σ : rS) (p1 : Int32) (p2 : Int32) (p3 : Int32) : v_X11_in σ p1 p2 p3 = 0 ∨ v_X11_in σ p1 p2 p3 = 1 := by
  unfold v_X11_in
  (repeat' split) <;> first | decide | exact vIn_01 _ _ _ | exact vBit_01 _ _

def f_X11_cuts (σ : rS) (p1 : Int32) : Option (Int32 × rS) := oB (f_X11_holds σ ((if (v_X11_in σ p1 0 2) = 0 then 1 else 0 : Int32))) fun v1 σ2 => if v1 = 0 then (oB (f_X11_laysTable σ2) fun _ σ4 => oB (f_X11_canBeCut σ4) fun v5 σ6 => some (((if p1 = 0 then (((rL σ6 67 61 : Int64)).toInt32) else (if v5 = 0 then ((-1)) else (if p1 = 1 then (((rL σ6 67 62 : Int64)).toInt32) else (((rL σ6 67 63 : Int64)).toInt32))) : Int32), σ6))) else (some (((-1), σ2)))
set_option maxRecDepth 20000 in
set_option maxHeartbeats 2000000 in
theorem ok_X11_cuts {σ : rS} {p1 : Int32}   : rFn Sy yX11_cuts mX11_cuts 7 [.ref 67, .int p1] σ 0 0 (fun v => .inl (some (.int v))) (f_X11_cuts σ p1) := by
  refine rF_of (ls := [some (.ref 67), some (.int p1), none]) yfX11_cuts rfl (Nat.le_of_ble_eq_true rfl) (fun o τ => ?_)
  unfold f_X11_cuts
  refine P_l (fun hJ _ _ q => E_aload_n dX11_cuts_0 rfl (E_aload_n dX11_cuts_1 rfl (E_iload_n dX11_cuts_2 rfl (E_iconst (v := 0) dX11_cuts_3 (by decide) (E_iconst (v := 2) dX11_cuts_4 (by decide) (E_callV (as := [.int p1, .int 0, .int 2]) (b := 67) (st := [.ref 67]) (ok_X11_in (σ := σ) (p1 := p1) (p2 := 0) (p3 := 2) hJ ) (by decide) yfX11_in mlX11_182 imX11_in seX11_in clX11 (kd67 hJ.1.1) rfl (Nat.le_of_ble_eq_true rfl) rfl dX11_cuts_5 q)))))) ?_
  refine P_l (pc2 := 16) (ls2 := [some (.ref 67), some (.int p1), none]) (st2 := [.int ((if (v_X11_in σ p1 0 2) = 0 then 1 else 0 : Int32)), .ref 67]) (fun hJ _ _ hq => ?_) ?_
  · skip
    refine E_if_eq 15 dX11_cuts_8 (by decide) (fun c_8_0 => ?_) (fun c_8_0 => ?_)
    · skip
      refine E_iconst (v := 1) dX11_cuts_15 (by decide) ?_
      simp only [if_pos c_8_0] at hq
      exact hq
    · skip
      refine E_iconst (v := 0) dX11_cuts_11 (by decide) ?_
      refine E_goto 16 dX11_cuts_12 (by decide) ?_
      simp only [if_neg c_8_0] at hq
      exact hq
  · skip
    refine P_call (t := fun v => some (.int v)) (st2 := fun v => .int v :: []) (kc2 := 0) (ks2 := 0) (fun hJ => (ok_X11_holds (σ := σ) (p1 := (if (v_X11_in σ p1 0 2) = 0 then 1 else 0 : Int32)) )) (fun hJ _ _ _ _ v τ1 hM q => E_callV (as := [.int ((if (v_X11_in σ p1 0 2) = 0 then 1 else 0 : Int32))]) (b := 67) (st := []) hM (by decide) yfX11_holds mlX11_265 imX11_holds seX11_holds clX11 (kd67 hJ.1.1) rfl (Nat.le_of_ble_eq_true rfl) rfl dX11_cuts_16 q) (by decide) (by decide) (fun v1 σ2 => ?_)
    refine P_if (fun hJ _ _ h1 h2 => E_if_eq 24 dX11_cuts_19 (by decide) h1 h2) ?_ ?_
    · skip
      refine P_l (fun hJ _ _ q => E_aload_n dX11_cuts_24 rfl q) ?_
      refine P_call (t := fun _ => none) (st2 := fun _ => []) (kc2 := 0) (ks2 := 0) (fun hJ => (ok_X11_laysTable (σ := σ2)  )) (fun hJ _ _ _ _ v τ1 hM q => E_callV (as := []) (b := 67) (st := []) hM (by decide) yfX11_laysTable mlX11_268 imX11_laysTable seX11_laysTable clX11 (kd67 hJ.1.1) rfl (Nat.le_of_ble_eq_true rfl) rfl dX11_cuts_25 q) (by decide) (by decide) (fun v3 σ4 => ?_)
      refine P_l (fun hJ _ _ q => E_aload_n dX11_cuts_28 rfl q) ?_
      refine P_call (t := fun v => some (.int v)) (st2 := fun v => .int v :: []) (kc2 := 0) (ks2 := 0) (fun hJ => (ok_X11_canBeCut (σ := σ4)  )) (fun hJ _ _ _ _ v τ1 hM q => E_callV (as := []) (b := 67) (st := []) hM (by decide) yfX11_canBeCut mlX11_271 imX11_canBeCut seX11_canBeCut clX11 (kd67 hJ.1.1) rfl (Nat.le_of_ble_eq_true rfl) rfl dX11_cuts_29 q) (by decide) (by decide) (fun v5 σ6 => ?_)
      refine P_l (fun hJ _ _ q => E_istore_n (ls2 := [some (.ref 67), some (.int p1), some (.int v5)]) dX11_cuts_32 (by decide) rfl (E_iload_n dX11_cuts_33 rfl q)) ?_
      refine P_l (pc2 := 71) (ls2 := [none, none, none]) (st2 := [.int ((if p1 = 0 then (((rL σ6 67 61 : Int64)).toInt32) else (if v5 = 0 then ((-1)) else (if p1 = 1 then (((rL σ6 67 62 : Int64)).toInt32) else (((rL σ6 67 63 : Int64)).toInt32))) : Int32))]) (fun hJ _ _ hq => ?_) ?_
      · skip
        refine E_if_ne 45 dX11_cuts_34 (by decide) (fun c_34_0 => ?_) (fun c_34_0 => ?_)
        · skip
          refine E_iload_n dX11_cuts_45 rfl ?_
          refine E_if_ne 53 dX11_cuts_46 (by decide) (fun c_46_1 => ?_) (fun c_46_1 => ?_)
          · skip
            refine E_iload_n dX11_cuts_53 rfl ?_
            refine E_iconst (v := 1) dX11_cuts_54 (by decide) ?_
            refine E_icmp_ne 66 dX11_cuts_55 (by decide) (fun c_55_2 => ?_) (fun c_55_2 => ?_)
            · skip
              refine E_aload_n dX11_cuts_66 rfl ?_
              refine E_getL clX11 63 (by decide) flX11_254 rfl dX11_cuts_67 (kd67 hJ.1.1) ?_
              refine E_l2i dX11_cuts_70 ?_
              simp only [if_neg c_34_0, if_neg c_46_1, if_neg c_55_2] at hq
              exact E_less (ls2 := [none, none, none]) hq (rLe_at [none, none, none] [some (.ref 67), some (.int p1), some (.int v5)] trivial)
            · skip
              refine E_aload_n dX11_cuts_58 rfl ?_
              refine E_getL clX11 62 (by decide) flX11_251 rfl dX11_cuts_59 (kd67 hJ.1.1) ?_
              refine E_l2i dX11_cuts_62 ?_
              refine E_goto 71 dX11_cuts_63 (by decide) ?_
              simp only [if_neg c_34_0, if_neg c_46_1, if_pos c_55_2] at hq
              exact E_less (ls2 := [none, none, none]) hq (rLe_at [none, none, none] [some (.ref 67), some (.int p1), some (.int v5)] trivial)
          · skip
            refine E_iconst (v := (-1)) dX11_cuts_49 (by decide) ?_
            refine E_goto 71 dX11_cuts_50 (by decide) ?_
            simp only [if_neg c_34_0, if_pos c_46_1] at hq
            exact E_less (ls2 := [none, none, none]) hq (rLe_at [none, none, none] [some (.ref 67), some (.int p1), some (.int v5)] trivial)
        · skip
          refine E_aload_n dX11_cuts_37 rfl ?_
          refine E_getL clX11 61 (by decide) flX11_247 rfl dX11_cuts_38 (kd67 hJ.1.1) ?_
          refine E_l2i dX11_cuts_41 ?_
          refine E_goto 71 dX11_cuts_42 (by decide) ?_
          simp only [if_pos c_34_0] at hq
          exact E_less (ls2 := [none, none, none]) hq (rLe_at [none, none, none] [some (.ref 67), some (.int p1), some (.int v5)] trivial)
      · skip
        exact P_ret (fun _ _ => E_iret rfl dX11_cuts_71)
    · skip
      refine P_l (fun hJ _ _ q => E_iconst (v := (-1)) dX11_cuts_22 (by decide) q) ?_
      exact P_ret (fun _ _ => E_iret rfl dX11_cuts_23)

def b_X11_onTable_4 (σ : rS) (s1 : Int32 × Int32) : Option (Int32 ⊕ (Int32 × Int32)) := if 52 ≤ s1.2 then (some (.inl s1.1)) else (if inB s1.2 52 then (oLet (s1.1 + ((rI σ 80 (s1.2 : Int32).toNatClampNeg) + (rI σ 81 (s1.2 : Int32).toNatClampNeg)) : Int32) fun x3 => some (.inr ((x3, s1.2 + 1)))) else none)
def f_X11_onTable (σ : rS) : Option Int32 := oLoop (b_X11_onTable_4 σ) oFuel ((0, 0))
set_option maxRecDepth 20000 in
set_option maxHeartbeats 2000000 in
theorem ok_X11_onTable {σ : rS}   : rFr Sy yX11_onTable mX11_onTable 0 [.ref 67] σ (fun v => some (.int v)) (f_X11_onTable σ) := by
  refine rFr_of (ls := [some (.ref 67), none, none]) yfX11_onTable rfl (Nat.le_of_ble_eq_true rfl) (fun o τ => ?_)
  unfold f_X11_onTable
  refine P_l (fun hJ _ _ q => E_iconst (v := 0) dX11_onTable_0 (by decide) (E_istore_n (ls2 := [some (.ref 67), some (.int 0), none]) dX11_onTable_1 (by decide) rfl (E_iconst (v := 0) dX11_onTable_2 (by decide) (E_istore_n (ls2 := [some (.ref 67), some (.int 0), some (.int 0)]) dX11_onTable_3 (by decide) rfl q)))) ?_
  refine P_loop (fun s1 => [some (.ref 67), some (.int s1.1), some (.int s1.2)]) (fun _ => σ) (fun s1 => ?_) _ ((0, 0))
  unfold b_X11_onTable_4
  refine P_l (fun hJ _ _ q => E_iload_n dX11_onTable_4 rfl (E_bipush (v := 52) dX11_onTable_5 (by decide) q)) ?_
  refine P_if (fun hJ _ _ h1 h2 => E_icmp_ge 32 dX11_onTable_7 (by decide) h1 h2) ?_ ?_
  · skip
    refine P_l (fun hJ _ _ q => E_iload_n dX11_onTable_32 rfl q) ?_
    exact P_inl (P_retr (fun _ _ => E_iret rfl dX11_onTable_33))
  · skip
    refine P_l (fun hJ _ _ q => E_iload_n dX11_onTable_10 rfl (E_aload_n dX11_onTable_11 rfl (E_getR (b := 80) clX11 19 (by decide) flX11_66 (Or.inr ⟨_, rfl⟩) dX11_onTable_12 (kd67 hJ.1.1) (rf67_19 hJ.1.1) (by decide) (E_iload_n dX11_onTable_15 rfl q)))) ?_
    refine P_g (fun g2 => ?_)
    refine P_l (fun hJ _ _ q => E_iald dX11_onTable_16 (kd80 hJ.1.1) (inB_vp g2) (E_aload_n dX11_onTable_17 rfl (E_getR (b := 81) clX11 20 (by decide) flX11_69 (Or.inr ⟨_, rfl⟩) dX11_onTable_18 (kd67 hJ.1.1) (rf67_20 hJ.1.1) (by decide) (E_iload_n dX11_onTable_21 rfl (E_iald dX11_onTable_22 (kd81 hJ.1.1) (inB_vp g2) (E_iadd dX11_onTable_23 (E_iadd dX11_onTable_24 (E_istore_n (ls2 := [some (.ref 67), some (.int (s1.1 + ((rI σ 80 (s1.2 : Int32).toNatClampNeg) + (rI σ 81 (s1.2 : Int32).toNatClampNeg)))), some (.int s1.2)]) dX11_onTable_25 (by decide) rfl q)))))))) ?_
    refine P_v (s1.1 + ((rI σ 80 (s1.2 : Int32).toNatClampNeg) + (rI σ 81 (s1.2 : Int32).toNatClampNeg))) (fun x => [some (.ref 67), some (.int x), some (.int s1.2)]) (fun x3 => ?_)
    refine P_l (fun hJ _ _ q => E_iinc (v := 1) (ls2 := [some (.ref 67), some (.int x3), some (.int (s1.2 + 1))]) dX11_onTable_26 rfl (by decide) (by decide) rfl (E_goto 4 dX11_onTable_29 (by decide) q)) ?_
    exact P_back ((x3, s1.2 + 1))

def f_X11_cutsAnew (σ : rS) : Option (Int32 × rS) := (f_X11_onTable σ).bind fun v1 => oB (f_X11_holds σ ((if v1 ≤ 14 then 0 else 1 : Int32))) fun v2 σ3 => if v2 = 0 then (oB (f_X11_cuts σ3 0) fun v4 σ5 => some ((v4, σ5))) else (some (((-1), σ3)))
set_option maxRecDepth 20000 in
set_option maxHeartbeats 2000000 in
theorem ok_X11_cutsAnew {σ : rS}   : rFn Sy yX11_cutsAnew mX11_cutsAnew 8 [.ref 67] σ 0 0 (fun v => .inl (some (.int v))) (f_X11_cutsAnew σ) := by
  refine rF_of (ls := [some (.ref 67)]) yfX11_cutsAnew rfl (Nat.le_of_ble_eq_true rfl) (fun o τ => ?_)
  unfold f_X11_cutsAnew
  refine P_l (fun hJ _ _ q => E_aload_n dX11_cutsAnew_0 rfl (E_aload_n dX11_cutsAnew_1 rfl q)) ?_
  refine P_callr (t := fun v => some (.int v)) (st2 := fun v => .int v :: [.ref 67]) (fun hJ => (ok_X11_onTable (σ := σ)  )) (fun hJ _ _ v hM q => E_callV (as := []) (b := 67) (st := [.ref 67]) hM (by decide) yfX11_onTable mlX11_275 imX11_onTable seX11_onTable clX11 (kd67 hJ.1.1) rfl (Nat.le_of_ble_eq_true rfl) rfl dX11_cutsAnew_2 q) (fun v1 => ?_)
  refine P_l (fun hJ _ _ q => E_bipush (v := 14) dX11_cutsAnew_5 (by decide) q) ?_
  refine P_l (pc2 := 15) (ls2 := [some (.ref 67)]) (st2 := [.int ((if v1 ≤ 14 then 0 else 1 : Int32)), .ref 67]) (fun hJ _ _ hq => ?_) ?_
  · skip
    refine E_icmp_le 14 dX11_cutsAnew_7 (by decide) (fun c_7_0 => ?_) (fun c_7_0 => ?_)
    · skip
      refine E_iconst (v := 0) dX11_cutsAnew_14 (by decide) ?_
      simp only [if_pos c_7_0] at hq
      exact hq
    · skip
      refine E_iconst (v := 1) dX11_cutsAnew_10 (by decide) ?_
      refine E_goto 15 dX11_cutsAnew_11 (by decide) ?_
      simp only [if_neg c_7_0] at hq
      exact hq
  · skip
    refine P_call (t := fun v => some (.int v)) (st2 := fun v => .int v :: []) (kc2 := 0) (ks2 := 0) (fun hJ => (ok_X11_holds (σ := σ) (p1 := (if v1 ≤ 14 then 0 else 1 : Int32)) )) (fun hJ _ _ _ _ v τ1 hM q => E_callV (as := [.int ((if v1 ≤ 14 then 0 else 1 : Int32))]) (b := 67) (st := []) hM (by decide) yfX11_holds mlX11_265 imX11_holds seX11_holds clX11 (kd67 hJ.1.1) rfl (Nat.le_of_ble_eq_true rfl) rfl dX11_cutsAnew_15 q) (by decide) (by decide) (fun v2 σ3 => ?_)
    refine P_if (fun hJ _ _ h1 h2 => E_if_eq 23 dX11_cutsAnew_18 (by decide) h1 h2) ?_ ?_
    · skip
      refine P_l (fun hJ _ _ q => E_aload_n dX11_cutsAnew_23 rfl (E_iconst (v := 0) dX11_cutsAnew_24 (by decide) q)) ?_
      refine P_call (t := fun v => some (.int v)) (st2 := fun v => .int v :: []) (kc2 := 0) (ks2 := 0) (fun hJ => (ok_X11_cuts (σ := σ3) (p1 := 0) )) (fun hJ _ _ _ _ v τ1 hM q => E_callV (as := [.int 0]) (b := 67) (st := []) hM (by decide) yfX11_cuts mlX11_279 imX11_cuts seX11_cuts clX11 (kd67 hJ.1.1) rfl (Nat.le_of_ble_eq_true rfl) rfl dX11_cutsAnew_25 q) (by decide) (by decide) (fun v4 σ5 => ?_)
      exact P_ret (fun _ _ => E_iret rfl dX11_cutsAnew_28)
    · skip
      refine P_l (fun hJ _ _ q => E_iconst (v := (-1)) dX11_cutsAnew_21 (by decide) q) ?_
      exact P_ret (fun _ _ => E_iret rfl dX11_cutsAnew_22)

def b_X11_states_33 (s7 : Int32 × rS) : Option (((Int32 × rS) ⊕ (rS)) ⊕ (Int32 × rS)) := if 4 ≤ s7.1 then (some (.inl (.inr s7.2))) else (if inB s7.1 4 then (oLet (wI s7.2 108 (s7.1 : Int32).toNatClampNeg 0) fun σ9 => some (.inr ((s7.1 + 1, σ9)))) else none)
def b_X11_states_76 (s14 : Int32 × Int32 × rS) (s17 : Int32 × Int32) : Option (((((Int32 × rS) ⊕ (Int32 × rS)) ⊕ (Int32 × Int32 × rS)) ⊕ (Int32)) ⊕ (Int32 × Int32)) := if 4 ≤ s17.2 then (some (.inl (.inr s17.1))) else (if inB s14.2.1 65536 then (oLet (((rI s14.2.2 99 (s14.2.1 : Int32).toNatClampNeg) >>> ((4 * s17.2) &&& 31)) &&& 15 : Int32) fun x19 => if x19 = 15 then ((f_X11_code s14.2.2 (rI s14.2.2 67 2) (rI s14.2.2 67 2) 0).bind fun v20 => oLet (s17.1 ||| (v20 <<< ((4 * s17.2) &&& 31)) : Int32) fun x21 => some (.inr ((x21, s17.2 + 1)))) else (oLet (s17.1 ||| (x19 <<< ((4 * s17.2) &&& 31)) : Int32) fun x22 => some (.inr ((x22, s17.2 + 1))))) else none)
def b_X11_states_62 (s14 : Int32 × Int32 × rS) : Option (((Int32 × rS) ⊕ (Int32 × rS)) ⊕ (Int32 × Int32 × rS)) := if (rI s14.2.2 67 50) ≤ s14.2.1 then (some (.inl (.inr ((s14.1, s14.2.2))))) else (oJoin (oLoop (b_X11_states_76 s14) oFuel ((0, 0))) fun j16 => if inB j16 65536 then (oLet (s14.1 + ((if (rI s14.2.2 98 (j16 : Int32).toNatClampNeg) = 0 then 1 else 0 : Int32)) : Int32) fun x24 => oLet (wI s14.2.2 98 (j16 : Int32).toNatClampNeg 1) fun σ25 => some (.inr ((x24, s14.2.1 + 1, σ25)))) else none)
def b_X11_states_173 (j13 : Int32 × rS) (s26 : Int32 × rS) : Option ((Int32 × rS) ⊕ (Int32 × rS)) := if 65536 ≤ s26.1 then (some (.inl ((j13.1, s26.2)))) else (if inB s26.1 65536 then (oLet (wI s26.2 98 (s26.1 : Int32).toNatClampNeg 0) fun σ28 => some (.inr ((s26.1 + 1, σ28)))) else none)
def f_X11_states (σ : rS) (p1 : Int32) : Option (Int32 × rS) := oB (f_X11_holds σ ((if (v_X11_in σ p1 1 (rI σ 67 1)) = 0 then 1 else 0 : Int32))) fun v1 σ2 => if v1 = 0 then (oB (f_X11_laysTable σ2) fun _ σ4 => oJoin (oLoop (b_X11_states_33) oFuel ((0, σ4))) fun j6 => oB (f_X11_goesThrough j6 p1 0 0) fun _ σ11 => oJoin (oLoop (b_X11_states_62) oFuel ((0, 0, σ11))) fun j13 => oLoop (b_X11_states_173 j13) oFuel ((0, j13.2))) else (some (((-1), σ2)))
set_option maxRecDepth 20000 in
set_option maxHeartbeats 2000000 in
theorem ok_X11_states {σ : rS} {p1 : Int32}   : rFn Sy yX11_states mX11_states 6 [.ref 67, .int p1] σ 0 0 (fun v => .inl (some (.int v))) (f_X11_states σ p1) := by
  refine rF_of (ls := [some (.ref 67), some (.int p1), none, none, none, none, none]) yfX11_states rfl (Nat.le_of_ble_eq_true rfl) (fun o τ => ?_)
  unfold f_X11_states
  refine P_l (fun hJ _ _ q => E_aload_n dX11_states_0 rfl (E_aload_n dX11_states_1 rfl (E_iload_n dX11_states_2 rfl (E_iconst (v := 1) dX11_states_3 (by decide) (E_aload_n dX11_states_4 rfl (E_getI clX11 1 (by decide) flX11_9 (Or.inl rfl) dX11_states_5 (kd67 hJ.1.1) (E_callV (as := [.int p1, .int 1, .int (rI σ 67 1)]) (b := 67) (st := [.ref 67]) (ok_X11_in (σ := σ) (p1 := p1) (p2 := 1) (p3 := rI σ 67 1) hJ ) (by decide) yfX11_in mlX11_182 imX11_in seX11_in clX11 (kd67 hJ.1.1) rfl (Nat.le_of_ble_eq_true rfl) rfl dX11_states_8 q))))))) ?_
  refine P_l (pc2 := 19) (ls2 := [some (.ref 67), some (.int p1), none, none, none, none, none]) (st2 := [.int ((if (v_X11_in σ p1 1 (rI σ 67 1)) = 0 then 1 else 0 : Int32)), .ref 67]) (fun hJ _ _ hq => ?_) ?_
  · skip
    refine E_if_eq 18 dX11_states_11 (by decide) (fun c_11_0 => ?_) (fun c_11_0 => ?_)
    · skip
      refine E_iconst (v := 1) dX11_states_18 (by decide) ?_
      simp only [if_pos c_11_0] at hq
      exact hq
    · skip
      refine E_iconst (v := 0) dX11_states_14 (by decide) ?_
      refine E_goto 19 dX11_states_15 (by decide) ?_
      simp only [if_neg c_11_0] at hq
      exact hq
  · skip
    refine P_call (t := fun v => some (.int v)) (st2 := fun v => .int v :: []) (kc2 := 0) (ks2 := 0) (fun hJ => (ok_X11_holds (σ := σ) (p1 := (if (v_X11_in σ p1 1 (rI σ 67 1)) = 0 then 1 else 0 : Int32)) )) (fun hJ _ _ _ _ v τ1 hM q => E_callV (as := [.int ((if (v_X11_in σ p1 1 (rI σ 67 1)) = 0 then 1 else 0 : Int32))]) (b := 67) (st := []) hM (by decide) yfX11_holds mlX11_265 imX11_holds seX11_holds clX11 (kd67 hJ.1.1) rfl (Nat.le_of_ble_eq_true rfl) rfl dX11_states_19 q) (by decide) (by decide) (fun v1 σ2 => ?_)
    refine P_if (fun hJ _ _ h1 h2 => E_if_eq 27 dX11_states_22 (by decide) h1 h2) ?_ ?_
    · skip
      refine P_l (fun hJ _ _ q => E_aload_n dX11_states_27 rfl q) ?_
      refine P_call (t := fun _ => none) (st2 := fun _ => []) (kc2 := 0) (ks2 := 0) (fun hJ => (ok_X11_laysTable (σ := σ2)  )) (fun hJ _ _ _ _ v τ1 hM q => E_callV (as := []) (b := 67) (st := []) hM (by decide) yfX11_laysTable mlX11_268 imX11_laysTable seX11_laysTable clX11 (kd67 hJ.1.1) rfl (Nat.le_of_ble_eq_true rfl) rfl dX11_states_28 q) (by decide) (by decide) (fun v3 σ4 => ?_)
      refine P_l (fun hJ _ _ q => E_iconst (v := 0) dX11_states_31 (by decide) (E_istore_n (ls2 := [some (.ref 67), some (.int p1), some (.int 0), none, none, none, none]) dX11_states_32 (by decide) rfl q)) ?_
      refine P_join (pc2 := 51) (fun j6 => [some (.ref 67), some (.int p1), none, none, none, none, none]) (fun j6 => []) (fun j6 => j6) ?_ (fun j6 => ?_)
      · skip
        refine P_loop (fun s7 => [some (.ref 67), some (.int p1), some (.int s7.1), none, none, none, none]) (fun s7 => s7.2) (fun s7 => ?_) _ ((0, σ4))
        unfold b_X11_states_33
        refine P_l (fun hJ _ _ q => E_iload_n dX11_states_33 rfl (E_iconst (v := 4) dX11_states_34 (by decide) q)) ?_
        refine P_if (fun hJ _ _ h1 h2 => E_icmp_ge 51 dX11_states_35 (by decide) h1 h2) ?_ ?_
        · skip
          refine P_less [some (.ref 67), some (.int p1), none, none, none, none, none] (And.intro rfl (And.intro rfl trivial)) ?_
          exact P_inl (P_back s7.2)
        · skip
          refine P_l (fun hJ _ _ q => E_aload_n dX11_states_38 rfl (E_getR (b := 108) clX11 60 (by decide) flX11_158 (Or.inr ⟨_, rfl⟩) dX11_states_39 (kd67 hJ.1.1) (rf67_60 hJ.1.1) (by decide) (E_iload_n dX11_states_42 rfl (E_iconst (v := 0) dX11_states_43 (by decide) q)))) ?_
          refine P_g (fun g8 => ?_)
          refine P_w (fun hJ _ _ q => E_iast dX11_states_44 (kd108 hJ.1.1) (by decide) (inB_vp g8) q) (fun hJ => Sy_wI hJ.1) rfl rfl rfl (fun σ9 hσ9 => ?_)
          refine P_l (fun hJ _ _ q => E_iinc (v := 1) (ls2 := [some (.ref 67), some (.int p1), some (.int (s7.1 + 1)), none, none, none, none]) dX11_states_45 rfl (by decide) (by decide) rfl (E_goto 33 dX11_states_48 (by decide) q)) ?_
          exact P_back ((s7.1 + 1, σ9))
      · skip
        refine P_l (fun hJ _ _ q => E_aload_n dX11_states_51 rfl (E_iload_n dX11_states_52 rfl (E_iconst (v := 0) dX11_states_53 (by decide) (E_iconst (v := 0) dX11_states_54 (by decide) q)))) ?_
        refine P_call (t := fun _ => none) (st2 := fun _ => []) (kc2 := 0) (ks2 := 0) (fun hJ => (ok_X11_goesThrough (σ := j6) (p1 := p1) (p2 := 0) (p3 := 0) )) (fun hJ _ _ _ _ v τ1 hM q => E_callV (as := [.int p1, .int 0, .int 0]) (b := 67) (st := []) hM (by decide) yfX11_goesThrough mlX11_257 imX11_goesThrough seX11_goesThrough clX11 (kd67 hJ.1.1) rfl (Nat.le_of_ble_eq_true rfl) rfl dX11_states_55 q) (by decide) (by decide) (fun v10 σ11 => ?_)
        refine P_l (fun hJ _ _ q => E_iconst (v := 0) dX11_states_58 (by decide) (E_istore_n (ls2 := [some (.ref 67), some (.int p1), some (.int 0), none, none, none, none]) dX11_states_59 (by decide) rfl (E_iconst (v := 0) dX11_states_60 (by decide) (E_istore_n (ls2 := [some (.ref 67), some (.int p1), some (.int 0), some (.int 0), none, none, none]) dX11_states_61 (by decide) rfl q)))) ?_
        refine P_join (pc2 := 171) (fun j13 => [some (.ref 67), none, some (.int j13.1), none, none, none, none]) (fun j13 => []) (fun j13 => j13.2) ?_ (fun j13 => ?_)
        · skip
          refine P_less [some (.ref 67), none, some (.int 0), some (.int 0), none, none, none] (And.intro rfl (And.intro rfl (And.intro rfl trivial))) ?_
          refine P_loop (fun s14 => [some (.ref 67), none, some (.int s14.1), some (.int s14.2.1), none, none, none]) (fun s14 => s14.2.2) (fun s14 => ?_) _ ((0, 0, σ11))
          unfold b_X11_states_62
          refine P_l (fun hJ _ _ q => E_iload_n dX11_states_62 rfl (E_aload_n dX11_states_63 rfl (E_getI clX11 50 (by decide) flX11_236 (Or.inl rfl) dX11_states_64 (kd67 hJ.1.1) q))) ?_
          refine P_if (fun hJ _ _ h1 h2 => E_icmp_ge 171 dX11_states_67 (by decide) h1 h2) ?_ ?_
          · skip
            refine P_less [some (.ref 67), none, some (.int s14.1), none, none, none, none] (And.intro rfl (And.intro rfl trivial)) ?_
            exact P_inl (P_back ((s14.1, s14.2.2)))
          · skip
            refine P_l (fun hJ _ _ q => E_iconst (v := 0) dX11_states_70 (by decide) (E_istore (ls2 := [some (.ref 67), none, some (.int s14.1), some (.int s14.2.1), some (.int 0), none, none]) dX11_states_71 (by decide) rfl (E_iconst (v := 0) dX11_states_73 (by decide) (E_istore (ls2 := [some (.ref 67), none, some (.int s14.1), some (.int s14.2.1), some (.int 0), some (.int 0), none]) dX11_states_74 (by decide) rfl q)))) ?_
            refine P_join (pc2 := 139) (fun j16 => [some (.ref 67), none, some (.int s14.1), some (.int s14.2.1), some (.int j16), none, none]) (fun j16 => []) (fun _ => s14.2.2) ?_ (fun j16 => ?_)
            · skip
              refine P_loop (fun s17 => [some (.ref 67), none, some (.int s14.1), some (.int s14.2.1), some (.int s17.1), some (.int s17.2), none]) (fun _ => s14.2.2) (fun s17 => ?_) _ ((0, 0))
              unfold b_X11_states_76
              refine P_l (fun hJ _ _ q => E_iload dX11_states_76 rfl (E_iconst (v := 4) dX11_states_78 (by decide) q)) ?_
              refine P_if (fun hJ _ _ h1 h2 => E_icmp_ge 139 dX11_states_79 (by decide) h1 h2) ?_ ?_
              · skip
                refine P_less [some (.ref 67), none, some (.int s14.1), some (.int s14.2.1), some (.int s17.1), none, none] (And.intro rfl (And.intro rfl (And.intro rfl (And.intro rfl trivial)))) ?_
                exact P_inl (P_back s17.1)
              · skip
                refine P_l (fun hJ _ _ q => E_aload_n dX11_states_82 rfl (E_getR (b := 99) clX11 49 (by decide) flX11_131 (Or.inr ⟨_, rfl⟩) dX11_states_83 (kd67 hJ.1.1) (rf67_49 hJ.1.1) (by decide) (E_iload_n dX11_states_86 rfl q))) ?_
                refine P_g (fun g18 => ?_)
                refine P_l (fun hJ _ _ q => E_iald dX11_states_87 (kd99 hJ.1.1) (inB_vp g18) (E_iconst (v := 4) dX11_states_88 (by decide) (E_iload dX11_states_89 rfl (E_imul dX11_states_91 (E_ishr dX11_states_92 (E_bipush (v := 15) dX11_states_93 (by decide) (E_iand dX11_states_95 (E_istore (ls2 := [some (.ref 67), none, some (.int s14.1), some (.int s14.2.1), some (.int s17.1), some (.int s17.2), some (.int (((rI s14.2.2 99 (s14.2.1 : Int32).toNatClampNeg) >>> ((4 * s17.2) &&& 31)) &&& 15))]) dX11_states_96 (by decide) rfl q)))))))) ?_
                refine P_v (((rI s14.2.2 99 (s14.2.1 : Int32).toNatClampNeg) >>> ((4 * s17.2) &&& 31)) &&& 15) (fun x => [some (.ref 67), none, some (.int s14.1), some (.int s14.2.1), some (.int s17.1), some (.int s17.2), some (.int x)]) (fun x19 => ?_)
                refine P_l (fun hJ _ _ q => E_iload dX11_states_98 rfl (E_iload dX11_states_100 rfl (E_bipush (v := 15) dX11_states_102 (by decide) q))) ?_
                refine P_if (fun hJ _ _ h1 h2 => E_icmp_ne 123 dX11_states_104 (by decide) h2 h1) ?_ ?_
                · skip
                  refine P_l (fun hJ _ _ q => E_aload_n dX11_states_107 rfl (E_aload_n dX11_states_108 rfl (E_getI clX11 2 (by decide) flX11_15 (Or.inl rfl) dX11_states_109 (kd67 hJ.1.1) (E_aload_n dX11_states_112 rfl (E_getI clX11 2 (by decide) flX11_15 (Or.inl rfl) dX11_states_113 (kd67 hJ.1.1) (E_iconst (v := 0) dX11_states_116 (by decide) q)))))) ?_
                  refine P_callr (t := fun v => some (.int v)) (st2 := fun v => .int v :: [.int s17.1]) (fun hJ => (ok_X11_code (σ := s14.2.2) (p1 := rI s14.2.2 67 2) (p2 := rI s14.2.2 67 2) (p3 := 0) )) (fun hJ _ _ v hM q => E_callV (as := [.int (rI s14.2.2 67 2), .int (rI s14.2.2 67 2), .int 0]) (b := 67) (st := [.int s17.1]) hM (by decide) yfX11_code mlX11_195 imX11_code seX11_code clX11 (kd67 hJ.1.1) rfl (Nat.le_of_ble_eq_true rfl) rfl dX11_states_117 q) (fun v20 => ?_)
                  refine P_l (fun hJ _ _ q => E_goto 125 dX11_states_120 (by decide) (E_iconst (v := 4) dX11_states_125 (by decide) (E_iload dX11_states_126 rfl (E_imul dX11_states_128 (E_ishl dX11_states_129 (E_ior dX11_states_130 (E_istore (ls2 := [some (.ref 67), none, some (.int s14.1), some (.int s14.2.1), some (.int (s17.1 ||| (v20 <<< ((4 * s17.2) &&& 31)))), some (.int s17.2), some (.int x19)]) dX11_states_131 (by decide) rfl q))))))) ?_
                  refine P_v (s17.1 ||| (v20 <<< ((4 * s17.2) &&& 31))) (fun x => [some (.ref 67), none, some (.int s14.1), some (.int s14.2.1), some (.int x), some (.int s17.2), some (.int x19)]) (fun x21 => ?_)
                  refine P_l (fun hJ _ _ q => E_iinc (v := 1) (ls2 := [some (.ref 67), none, some (.int s14.1), some (.int s14.2.1), some (.int x21), some (.int (s17.2 + 1)), some (.int x19)]) dX11_states_133 rfl (by decide) (by decide) rfl (E_goto 76 dX11_states_136 (by decide) q)) ?_
                  refine P_less [some (.ref 67), none, some (.int s14.1), some (.int s14.2.1), some (.int x21), some (.int (s17.2 + 1)), none] (And.intro rfl (And.intro rfl (And.intro rfl (And.intro rfl (And.intro rfl trivial))))) ?_
                  exact P_back ((x21, s17.2 + 1))
                · skip
                  refine P_l (fun hJ _ _ q => E_iload dX11_states_123 rfl (E_iconst (v := 4) dX11_states_125 (by decide) (E_iload dX11_states_126 rfl (E_imul dX11_states_128 (E_ishl dX11_states_129 (E_ior dX11_states_130 (E_istore (ls2 := [some (.ref 67), none, some (.int s14.1), some (.int s14.2.1), some (.int (s17.1 ||| (x19 <<< ((4 * s17.2) &&& 31)))), some (.int s17.2), some (.int x19)]) dX11_states_131 (by decide) rfl q))))))) ?_
                  refine P_v (s17.1 ||| (x19 <<< ((4 * s17.2) &&& 31))) (fun x => [some (.ref 67), none, some (.int s14.1), some (.int s14.2.1), some (.int x), some (.int s17.2), some (.int x19)]) (fun x22 => ?_)
                  refine P_l (fun hJ _ _ q => E_iinc (v := 1) (ls2 := [some (.ref 67), none, some (.int s14.1), some (.int s14.2.1), some (.int x22), some (.int (s17.2 + 1)), some (.int x19)]) dX11_states_133 rfl (by decide) (by decide) rfl (E_goto 76 dX11_states_136 (by decide) q)) ?_
                  refine P_less [some (.ref 67), none, some (.int s14.1), some (.int s14.2.1), some (.int x22), some (.int (s17.2 + 1)), none] (And.intro rfl (And.intro rfl (And.intro rfl (And.intro rfl (And.intro rfl trivial))))) ?_
                  exact P_back ((x22, s17.2 + 1))
            · skip
              refine P_l (fun hJ _ _ q => E_iload_n dX11_states_139 rfl (E_aload_n dX11_states_140 rfl (E_getR (b := 98) clX11 48 (by decide) flX11_128 (Or.inr ⟨_, rfl⟩) dX11_states_141 (kd67 hJ.1.1) (rf67_48 hJ.1.1) (by decide) (E_iload dX11_states_144 rfl q)))) ?_
              refine P_g (fun g23 => ?_)
              refine P_l (fun hJ _ _ q => E_zald dX11_states_146 (kd98 hJ.1.1) (inB_vp g23) q) ?_
              refine P_l (pc2 := 155) (ls2 := [some (.ref 67), none, none, some (.int s14.2.1), some (.int j16), none, none]) (st2 := [.int ((if (rI s14.2.2 98 (j16 : Int32).toNatClampNeg) = 0 then 1 else 0 : Int32)), .int s14.1]) (fun hJ _ _ hq => ?_) ?_
              · skip
                refine E_if_eq 154 dX11_states_147 (by decide) (fun c_147_0 => ?_) (fun c_147_0 => ?_)
                · skip
                  refine E_iconst (v := 1) dX11_states_154 (by decide) ?_
                  simp only [if_pos c_147_0] at hq
                  exact E_less (ls2 := [some (.ref 67), none, none, some (.int s14.2.1), some (.int j16), none, none]) hq (rLe_at [some (.ref 67), none, none, some (.int s14.2.1), some (.int j16), none, none] [some (.ref 67), none, some (.int s14.1), some (.int s14.2.1), some (.int j16), none, none] (And.intro rfl (And.intro rfl (And.intro rfl trivial))))
                · skip
                  refine E_iconst (v := 0) dX11_states_150 (by decide) ?_
                  refine E_goto 155 dX11_states_151 (by decide) ?_
                  simp only [if_neg c_147_0] at hq
                  exact E_less (ls2 := [some (.ref 67), none, none, some (.int s14.2.1), some (.int j16), none, none]) hq (rLe_at [some (.ref 67), none, none, some (.int s14.2.1), some (.int j16), none, none] [some (.ref 67), none, some (.int s14.1), some (.int s14.2.1), some (.int j16), none, none] (And.intro rfl (And.intro rfl (And.intro rfl trivial))))
              · skip
                refine P_l (fun hJ _ _ q => E_iadd dX11_states_155 (E_istore_n (ls2 := [some (.ref 67), none, some (.int (s14.1 + ((if (rI s14.2.2 98 (j16 : Int32).toNatClampNeg) = 0 then 1 else 0 : Int32)))), some (.int s14.2.1), some (.int j16), none, none]) dX11_states_156 (by decide) rfl q)) ?_
                refine P_v (s14.1 + ((if (rI s14.2.2 98 (j16 : Int32).toNatClampNeg) = 0 then 1 else 0 : Int32))) (fun x => [some (.ref 67), none, some (.int x), some (.int s14.2.1), some (.int j16), none, none]) (fun x24 => ?_)
                refine P_l (fun hJ _ _ q => E_aload_n dX11_states_157 rfl (E_getR (b := 98) clX11 48 (by decide) flX11_128 (Or.inr ⟨_, rfl⟩) dX11_states_158 (kd67 hJ.1.1) (rf67_48 hJ.1.1) (by decide) (E_iload dX11_states_161 rfl (E_iconst (v := 1) dX11_states_163 (by decide) q)))) ?_
                refine P_w (fun hJ _ _ q => E_zast dX11_states_164 (kd98 hJ.1.1) (by decide) (inB_vp g23) q) (fun hJ => Sy_wI hJ.1) rfl rfl rfl (fun σ25 hσ25 => ?_)
                refine P_l (fun hJ _ _ q => E_iinc (v := 1) (ls2 := [some (.ref 67), none, some (.int x24), some (.int (s14.2.1 + 1)), some (.int j16), none, none]) dX11_states_165 rfl (by decide) (by decide) rfl (E_goto 62 dX11_states_168 (by decide) q)) ?_
                refine P_less [some (.ref 67), none, some (.int x24), some (.int (s14.2.1 + 1)), none, none, none] (And.intro rfl (And.intro rfl (And.intro rfl trivial))) ?_
                exact P_back ((x24, s14.2.1 + 1, σ25))
        · skip
          refine P_l (fun hJ _ _ q => E_iconst (v := 0) dX11_states_171 (by decide) (E_istore_n (ls2 := [some (.ref 67), none, some (.int j13.1), some (.int 0), none, none, none]) dX11_states_172 (by decide) rfl q)) ?_
          refine P_loop (fun s26 => [some (.ref 67), none, some (.int j13.1), some (.int s26.1), none, none, none]) (fun s26 => s26.2) (fun s26 => ?_) _ ((0, j13.2))
          unfold b_X11_states_173
          refine P_l (fun hJ _ _ q => E_iload_n dX11_states_173 rfl (E_ldc dX11_states_174 kcX11_118 q)) ?_
          refine P_if (fun hJ _ _ h1 h2 => E_icmp_ge 192 dX11_states_176 (by decide) h1 h2) ?_ ?_
          · skip
            refine P_l (fun hJ _ _ q => E_iload_n dX11_states_192 rfl q) ?_
            exact P_inl (P_ret (fun _ _ => E_iret rfl dX11_states_193))
          · skip
            refine P_l (fun hJ _ _ q => E_aload_n dX11_states_179 rfl (E_getR (b := 98) clX11 48 (by decide) flX11_128 (Or.inr ⟨_, rfl⟩) dX11_states_180 (kd67 hJ.1.1) (rf67_48 hJ.1.1) (by decide) (E_iload_n dX11_states_183 rfl (E_iconst (v := 0) dX11_states_184 (by decide) q)))) ?_
            refine P_g (fun g27 => ?_)
            refine P_w (fun hJ _ _ q => E_zast dX11_states_185 (kd98 hJ.1.1) (by decide) (inB_vp g27) q) (fun hJ => Sy_wI hJ.1) rfl rfl rfl (fun σ28 hσ28 => ?_)
            refine P_l (fun hJ _ _ q => E_iinc (v := 1) (ls2 := [some (.ref 67), none, some (.int j13.1), some (.int (s26.1 + 1)), none, none, none]) dX11_states_186 rfl (by decide) (by decide) rfl (E_goto 173 dX11_states_189 (by decide) q)) ?_
            exact P_back ((s26.1 + 1, σ28))
    · skip
      refine P_l (fun hJ _ _ q => E_iconst (v := (-1)) dX11_states_25 (by decide) q) ?_
      exact P_ret (fun _ _ => E_iret rfl dX11_states_26)

def v_X11_isPlayer (σ : rS) (p1 : Int32) : Int32 := v_X11_in σ p1 0 ((rI σ 67 6) - 1)
set_option maxRecDepth 20000 in
theorem ok_X11_isPlayer {σ : rS} {p1 : Int32}  (hJ : J Sy σ)  : rMet yX11_isPlayer mX11_isPlayer 1 [.ref 67, .int p1] σ 0 0 (some (.int (v_X11_isPlayer σ p1))) σ := by
  refine rMet_of (ls := [some (.ref 67), some (.int p1)]) yfX11_isPlayer rfl (Nat.le_of_ble_eq_true rfl) ?_
  refine E_aload_n dX11_isPlayer_0 rfl ?_
  refine E_iload_n dX11_isPlayer_1 rfl ?_
  refine E_iconst (v := 0) dX11_isPlayer_2 (by decide) ?_
  refine E_aload_n dX11_isPlayer_3 rfl ?_
  refine E_getI clX11 6 (by decide) flX11_186 (Or.inl rfl) dX11_isPlayer_4 (kd67 hJ.1.1) ?_
  refine E_iconst (v := 1) dX11_isPlayer_7 (by decide) ?_
  refine E_isub dX11_isPlayer_8 ?_
  refine E_callV (as := [.int p1, .int 0, .int ((rI σ 67 6) - 1)]) (b := 67) (st := []) (ok_X11_in (σ := σ) (p1 := p1) (p2 := 0) (p3 := (rI σ 67 6) - 1) hJ ) (by decide) yfX11_in mlX11_182 imX11_in seX11_in clX11 (kd67 hJ.1.1) rfl (Nat.le_of_ble_eq_true rfl) rfl dX11_isPlayer_9 ?_
  exact E_zretE rfl dX11_isPlayer_12 (z_X11_in _ _ _ _) rfl rfl
theorem z_X11_isPlayer (σ : rS) (p1 : Int32) : v_X11_isPlayer σ p1 = 0 ∨ v_X11_isPlayer σ p1 = 1 := by
  unfold v_X11_isPlayer
  (repeat' split) <;> first | decide | exact vIn_01 _ _ _ | exact vBit_01 _ _ | exact z_X11_in _ _ _ _

def b_X11_laysPlan_2 (p1 : Int32) (s3 : Int32 × rS) : Option (((Int32 × rS) ⊕ (rS)) ⊕ (Int32 × rS)) := if 52 ≤ s3.1 then (some (.inl (.inr s3.2))) else (if inB s3.1 52 then (oLet ((rI s3.2 80 (s3.1 : Int32).toNatClampNeg) + (rI s3.2 81 (s3.1 : Int32).toNatClampNeg) : Int32) fun x5 => if inB ((53 * p1) + s3.1) 212 then (oLet (rI s3.2 79 ((53 * p1) + s3.1 : Int32).toNatClampNeg : Int32) fun x7 => if inB p1 4 then (oLet (wI s3.2 91 (s3.1 : Int32).toNatClampNeg ((if (rI s3.2 72 (p1 : Int32).toNatClampNeg) = 0 then 0 else x5 : Int32))) fun σ9 => oLet (wI σ9 92 (s3.1 : Int32).toNatClampNeg ((if (2 - x5) ≤ x7 then (2 - x5) else x7 : Int32))) fun σ10 => some (.inr ((s3.1 + 1, σ10)))) else none) else none) else none)
def b_X11_laysPlan_120 (v14 : Int32) (s16 : Int64 × Int32 × rS) : Option ((Int32 × rS) ⊕ (Int64 × Int32 × rS)) := if 52 ≤ s16.2.1 then (if v14 = 0 ∨ v14 = 1 then (some (.inl ((v14, s16.2.2)))) else none) else (oLet ((if s16.2.1 = 26 then (rL s16.2.2 67 63) else s16.1 : Int64) : Int64) fun x18 => oJoin (if v14 = 0 then (some (.inr ((0 : Int32)))) else ((f_X11_power s16.2.2 s16.2.1).bind fun v20 => if ¬ v20 = 0 then (some (.inr (((x18 / v20 : Int64)).toInt32))) else none)) fun j19 => if inB s16.2.1 52 then (oLet (wI s16.2.2 109 (s16.2.1 : Int32).toNatClampNeg j19) fun σ23 => (f_X11_power σ23 s16.2.1).bind fun v24 => if ¬ v24 = 0 then (some (.inr ((lRem x18 v24, s16.2.1 + 1, σ23)))) else none) else none)
def f_X11_laysPlan (σ : rS) (p1 : Int32) : Option (Int32 × rS) := oJoin (oLoop (b_X11_laysPlan_2 p1) oFuel ((0, σ))) fun j2 => if inB p1 4 then (oB (f_X11_goesThrough j2 (rI j2 67 1) 1 ((if (rI j2 72 (p1 : Int32).toNatClampNeg) = 0 then 1 else 0 : Int32))) fun _ σ13 => oB (f_X11_gathers σ13 1) fun v14 σ15 => oLoop (b_X11_laysPlan_120 v14) oFuel ((rL σ15 67 62, 0, σ15))) else none
set_option maxRecDepth 20000 in
set_option maxHeartbeats 2000000 in
theorem ok_X11_laysPlan {σ : rS} {p1 : Int32}   : rFn Sy yX11_laysPlan mX11_laysPlan 6 [.ref 67, .int p1] σ 0 0 (fun v => .inl (some (.int v))) (f_X11_laysPlan σ p1) := by
  refine rF_of (ls := [some (.ref 67), some (.int p1), none, none, none, none]) yfX11_laysPlan rfl (Nat.le_of_ble_eq_true rfl) (fun o τ => ?_)
  unfold f_X11_laysPlan
  refine P_l (fun hJ _ _ q => E_iconst (v := 0) dX11_laysPlan_0 (by decide) (E_istore_n (ls2 := [some (.ref 67), some (.int p1), some (.int 0), none, none, none]) dX11_laysPlan_1 (by decide) rfl q)) ?_
  refine P_join (pc2 := 83) (fun j2 => [some (.ref 67), some (.int p1), none, none, none, none]) (fun j2 => []) (fun j2 => j2) ?_ (fun j2 => ?_)
  · skip
    refine P_loop (fun s3 => [some (.ref 67), some (.int p1), some (.int s3.1), none, none, none]) (fun s3 => s3.2) (fun s3 => ?_) _ ((0, σ))
    unfold b_X11_laysPlan_2
    refine P_l (fun hJ _ _ q => E_iload_n dX11_laysPlan_2 rfl (E_bipush (v := 52) dX11_laysPlan_3 (by decide) q)) ?_
    refine P_if (fun hJ _ _ h1 h2 => E_icmp_ge 83 dX11_laysPlan_5 (by decide) h1 h2) ?_ ?_
    · skip
      refine P_less [some (.ref 67), some (.int p1), none, none, none, none] (And.intro rfl (And.intro rfl trivial)) ?_
      exact P_inl (P_back s3.2)
    · skip
      refine P_l (fun hJ _ _ q => E_aload_n dX11_laysPlan_8 rfl (E_getR (b := 80) clX11 19 (by decide) flX11_66 (Or.inr ⟨_, rfl⟩) dX11_laysPlan_9 (kd67 hJ.1.1) (rf67_19 hJ.1.1) (by decide) (E_iload_n dX11_laysPlan_12 rfl q))) ?_
      refine P_g (fun g4 => ?_)
      refine P_l (fun hJ _ _ q => E_iald dX11_laysPlan_13 (kd80 hJ.1.1) (inB_vp g4) (E_aload_n dX11_laysPlan_14 rfl (E_getR (b := 81) clX11 20 (by decide) flX11_69 (Or.inr ⟨_, rfl⟩) dX11_laysPlan_15 (kd67 hJ.1.1) (rf67_20 hJ.1.1) (by decide) (E_iload_n dX11_laysPlan_18 rfl (E_iald dX11_laysPlan_19 (kd81 hJ.1.1) (inB_vp g4) (E_iadd dX11_laysPlan_20 (E_istore_n (ls2 := [some (.ref 67), some (.int p1), some (.int s3.1), some (.int ((rI s3.2 80 (s3.1 : Int32).toNatClampNeg) + (rI s3.2 81 (s3.1 : Int32).toNatClampNeg))), none, none]) dX11_laysPlan_21 (by decide) rfl q))))))) ?_
      refine P_v ((rI s3.2 80 (s3.1 : Int32).toNatClampNeg) + (rI s3.2 81 (s3.1 : Int32).toNatClampNeg)) (fun x => [some (.ref 67), some (.int p1), some (.int s3.1), some (.int x), none, none]) (fun x5 => ?_)
      refine P_l (fun hJ _ _ q => E_aload_n dX11_laysPlan_22 rfl (E_getR (b := 79) clX11 18 (by decide) flX11_63 (Or.inr ⟨_, rfl⟩) dX11_laysPlan_23 (kd67 hJ.1.1) (rf67_18 hJ.1.1) (by decide) (E_bipush (v := 53) dX11_laysPlan_26 (by decide) (E_iload_n dX11_laysPlan_28 rfl (E_imul dX11_laysPlan_29 (E_iload_n dX11_laysPlan_30 rfl (E_iadd dX11_laysPlan_31 q))))))) ?_
      refine P_g (fun g6 => ?_)
      refine P_l (fun hJ _ _ q => E_iald dX11_laysPlan_32 (kd79 hJ.1.1) (inB_vp g6) (E_istore (ls2 := [some (.ref 67), some (.int p1), some (.int s3.1), some (.int x5), some (.int (rI s3.2 79 ((53 * p1) + s3.1 : Int32).toNatClampNeg)), none]) dX11_laysPlan_33 (by decide) rfl q)) ?_
      refine P_v (rI s3.2 79 ((53 * p1) + s3.1 : Int32).toNatClampNeg) (fun x => [some (.ref 67), some (.int p1), some (.int s3.1), some (.int x5), some (.int x), none]) (fun x7 => ?_)
      refine P_l (fun hJ _ _ q => E_aload_n dX11_laysPlan_35 rfl (E_getR (b := 91) clX11 40 (by decide) flX11_106 (Or.inr ⟨_, rfl⟩) dX11_laysPlan_36 (kd67 hJ.1.1) (rf67_40 hJ.1.1) (by decide) (E_iload_n dX11_laysPlan_39 rfl (E_aload_n dX11_laysPlan_40 rfl (E_getR (b := 72) clX11 11 (by decide) flX11_40 (Or.inr ⟨_, rfl⟩) dX11_laysPlan_41 (kd67 hJ.1.1) (rf67_11 hJ.1.1) (by decide) (E_iload_n dX11_laysPlan_44 rfl q)))))) ?_
      refine P_g (fun g8 => ?_)
      refine P_l (fun hJ _ _ q => E_zald dX11_laysPlan_45 (kd72 hJ.1.1) (inB_vp g8) q) ?_
      refine P_l (pc2 := 54) (ls2 := [some (.ref 67), some (.int p1), some (.int s3.1), some (.int x5), some (.int x7), none]) (st2 := [.int ((if (rI s3.2 72 (p1 : Int32).toNatClampNeg) = 0 then 0 else x5 : Int32)), .int s3.1, .ref 91]) (fun hJ _ _ hq => ?_) ?_
      · skip
        refine E_if_eq 53 dX11_laysPlan_46 (by decide) (fun c_46_0 => ?_) (fun c_46_0 => ?_)
        · skip
          refine E_iconst (v := 0) dX11_laysPlan_53 (by decide) ?_
          simp only [if_pos c_46_0] at hq
          exact hq
        · skip
          refine E_iload_n dX11_laysPlan_49 rfl ?_
          refine E_goto 54 dX11_laysPlan_50 (by decide) ?_
          simp only [if_neg c_46_0] at hq
          exact hq
      · skip
        refine P_w (fun hJ _ _ q => E_iast dX11_laysPlan_54 (kd91 hJ.1.1) (by decide) (inB_vp g4) q) (fun hJ => Sy_wI hJ.1) rfl rfl rfl (fun σ9 hσ9 => ?_)
        refine P_l (fun hJ _ _ q => E_aload_n dX11_laysPlan_55 rfl (E_getR (b := 92) clX11 41 (by decide) flX11_109 (Or.inr ⟨_, rfl⟩) dX11_laysPlan_56 (kd67 hJ.1.1) (rf67_41 hJ.1.1) (by decide) (E_iload_n dX11_laysPlan_59 rfl (E_iload dX11_laysPlan_60 rfl (E_iconst (v := 2) dX11_laysPlan_62 (by decide) (E_iload_n dX11_laysPlan_63 rfl (E_isub dX11_laysPlan_64 q))))))) ?_
        refine P_l (pc2 := 76) (ls2 := [some (.ref 67), some (.int p1), some (.int s3.1), none, none, none]) (st2 := [.int ((if (2 - x5) ≤ x7 then (2 - x5) else x7 : Int32)), .int s3.1, .ref 92]) (fun hJ _ _ hq => ?_) ?_
        · skip
          refine E_icmp_ge 73 dX11_laysPlan_65 (by decide) (fun c_65_0 => ?_) (fun c_65_0 => ?_)
          · skip
            refine E_iconst (v := 2) dX11_laysPlan_73 (by decide) ?_
            refine E_iload_n dX11_laysPlan_74 rfl ?_
            refine E_isub dX11_laysPlan_75 ?_
            simp only [if_pos c_65_0] at hq
            exact E_less (ls2 := [some (.ref 67), some (.int p1), some (.int s3.1), none, none, none]) hq (rLe_at [some (.ref 67), some (.int p1), some (.int s3.1), none, none, none] [some (.ref 67), some (.int p1), some (.int s3.1), some (.int x5), some (.int x7), none] (And.intro rfl (And.intro rfl (And.intro rfl trivial))))
          · skip
            refine E_iload dX11_laysPlan_68 rfl ?_
            refine E_goto 76 dX11_laysPlan_70 (by decide) ?_
            simp only [if_neg c_65_0] at hq
            exact E_less (ls2 := [some (.ref 67), some (.int p1), some (.int s3.1), none, none, none]) hq (rLe_at [some (.ref 67), some (.int p1), some (.int s3.1), none, none, none] [some (.ref 67), some (.int p1), some (.int s3.1), some (.int x5), some (.int x7), none] (And.intro rfl (And.intro rfl (And.intro rfl trivial))))
        · skip
          refine P_w (fun hJ _ _ q => E_iast dX11_laysPlan_76 (kd92 hJ.1.1) (by decide) (inB_vp g4) q) (fun hJ => Sy_wI hJ.1) rfl rfl rfl (fun σ10 hσ10 => ?_)
          refine P_l (fun hJ _ _ q => E_iinc (v := 1) (ls2 := [some (.ref 67), some (.int p1), some (.int (s3.1 + 1)), none, none, none]) dX11_laysPlan_77 rfl (by decide) (by decide) rfl (E_goto 2 dX11_laysPlan_80 (by decide) q)) ?_
          exact P_back ((s3.1 + 1, σ10))
  · skip
    refine P_l (fun hJ _ _ q => E_aload_n dX11_laysPlan_83 rfl (E_aload_n dX11_laysPlan_84 rfl (E_getI clX11 1 (by decide) flX11_9 (Or.inl rfl) dX11_laysPlan_85 (kd67 hJ.1.1) (E_iconst (v := 1) dX11_laysPlan_88 (by decide) (E_aload_n dX11_laysPlan_89 rfl (E_getR (b := 72) clX11 11 (by decide) flX11_40 (Or.inr ⟨_, rfl⟩) dX11_laysPlan_90 (kd67 hJ.1.1) (rf67_11 hJ.1.1) (by decide) (E_iload_n dX11_laysPlan_93 rfl q))))))) ?_
    refine P_g (fun g11 => ?_)
    refine P_l (fun hJ _ _ q => E_zald dX11_laysPlan_94 (kd72 hJ.1.1) (inB_vp g11) q) ?_
    refine P_l (pc2 := 103) (ls2 := [some (.ref 67), none, none, none, none, none]) (st2 := [.int ((if (rI j2 72 (p1 : Int32).toNatClampNeg) = 0 then 1 else 0 : Int32)), .int 1, .int (rI j2 67 1), .ref 67]) (fun hJ _ _ hq => ?_) ?_
    · skip
      refine E_if_ne 102 dX11_laysPlan_95 (by decide) (fun c_95_0 => ?_) (fun c_95_0 => ?_)
      · skip
        refine E_iconst (v := 0) dX11_laysPlan_102 (by decide) ?_
        simp only [if_neg c_95_0] at hq
        exact E_less (ls2 := [some (.ref 67), none, none, none, none, none]) hq (rLe_at [some (.ref 67), none, none, none, none, none] [some (.ref 67), some (.int p1), none, none, none, none] (And.intro rfl trivial))
      · skip
        refine E_iconst (v := 1) dX11_laysPlan_98 (by decide) ?_
        refine E_goto 103 dX11_laysPlan_99 (by decide) ?_
        simp only [if_pos c_95_0] at hq
        exact E_less (ls2 := [some (.ref 67), none, none, none, none, none]) hq (rLe_at [some (.ref 67), none, none, none, none, none] [some (.ref 67), some (.int p1), none, none, none, none] (And.intro rfl trivial))
    · skip
      refine P_call (t := fun _ => none) (st2 := fun _ => []) (kc2 := 0) (ks2 := 0) (fun hJ => (ok_X11_goesThrough (σ := j2) (p1 := rI j2 67 1) (p2 := 1) (p3 := (if (rI j2 72 (p1 : Int32).toNatClampNeg) = 0 then 1 else 0 : Int32)) )) (fun hJ _ _ _ _ v τ1 hM q => E_callV (as := [.int (rI j2 67 1), .int 1, .int ((if (rI j2 72 (p1 : Int32).toNatClampNeg) = 0 then 1 else 0 : Int32))]) (b := 67) (st := []) hM (by decide) yfX11_goesThrough mlX11_257 imX11_goesThrough seX11_goesThrough clX11 (kd67 hJ.1.1) rfl (Nat.le_of_ble_eq_true rfl) rfl dX11_laysPlan_103 q) (by decide) (by decide) (fun v12 σ13 => ?_)
      refine P_l (fun hJ _ _ q => E_aload_n dX11_laysPlan_106 rfl (E_iconst (v := 1) dX11_laysPlan_107 (by decide) q)) ?_
      refine P_call (t := fun v => some (.int v)) (st2 := fun v => .int v :: []) (kc2 := 0) (ks2 := 0) (fun hJ => (ok_X11_gathers (σ := σ13) (p1 := 1) )) (fun hJ _ _ _ _ v τ1 hM q => E_callV (as := [.int 1]) (b := 67) (st := []) hM (by decide) yfX11_gathers mlX11_261 imX11_gathers seX11_gathers clX11 (kd67 hJ.1.1) rfl (Nat.le_of_ble_eq_true rfl) rfl dX11_laysPlan_108 q) (by decide) (by decide) (fun v14 σ15 => ?_)
      refine P_l (fun hJ _ _ q => E_istore_n (ls2 := [some (.ref 67), none, some (.int v14), none, none, none]) dX11_laysPlan_111 (by decide) rfl (E_aload_n dX11_laysPlan_112 rfl (E_getL clX11 62 (by decide) flX11_251 rfl dX11_laysPlan_113 (kd67 hJ.1.1) (E_lstore_n (ls2 := [some (.ref 67), none, some (.int v14), some (.long (rL σ15 67 62)), none, none]) dX11_laysPlan_116 (by decide) rfl (E_iconst (v := 0) dX11_laysPlan_117 (by decide) (E_istore (ls2 := [some (.ref 67), none, some (.int v14), some (.long (rL σ15 67 62)), none, some (.int 0)]) dX11_laysPlan_118 (by decide) rfl q)))))) ?_
      refine P_loop (fun s16 => [some (.ref 67), none, some (.int v14), some (.long s16.1), none, some (.int s16.2.1)]) (fun s16 => s16.2.2) (fun s16 => ?_) _ ((rL σ15 67 62, 0, σ15))
      unfold b_X11_laysPlan_120
      refine P_l (fun hJ _ _ q => E_iload dX11_laysPlan_120 rfl (E_bipush (v := 52) dX11_laysPlan_122 (by decide) q)) ?_
      refine P_if (fun hJ _ _ h1 h2 => E_icmp_ge 182 dX11_laysPlan_124 (by decide) h1 h2) ?_ ?_
      · skip
        refine P_l (fun hJ _ _ q => E_iload_n dX11_laysPlan_182 rfl q) ?_
        refine P_g (fun g17 => ?_)
        exact P_inl (P_ret (fun _ _ => E_zret01 rfl g17 dX11_laysPlan_183))
      · skip
        refine P_l (fun hJ _ _ q => E_iload dX11_laysPlan_127 rfl (E_bipush (v := 26) dX11_laysPlan_129 (by decide) q)) ?_
        refine P_l (pc2 := 142) (ls2 := [some (.ref 67), none, some (.int v14), none, none, some (.int s16.2.1)]) (st2 := [.long ((if s16.2.1 = 26 then (rL s16.2.2 67 63) else s16.1 : Int64))]) (fun hJ _ _ hq => ?_) ?_
        · skip
          refine E_icmp_ne 141 dX11_laysPlan_131 (by decide) (fun c_131_0 => ?_) (fun c_131_0 => ?_)
          · skip
            refine E_lload_n dX11_laysPlan_141 rfl ?_
            simp only [if_neg c_131_0] at hq
            exact E_less (ls2 := [some (.ref 67), none, some (.int v14), none, none, some (.int s16.2.1)]) hq (rLe_at [some (.ref 67), none, some (.int v14), none, none, some (.int s16.2.1)] [some (.ref 67), none, some (.int v14), some (.long s16.1), none, some (.int s16.2.1)] (And.intro rfl (And.intro rfl (And.intro rfl trivial))))
          · skip
            refine E_aload_n dX11_laysPlan_134 rfl ?_
            refine E_getL clX11 63 (by decide) flX11_254 rfl dX11_laysPlan_135 (kd67 hJ.1.1) ?_
            refine E_goto 142 dX11_laysPlan_138 (by decide) ?_
            simp only [if_pos c_131_0] at hq
            exact E_less (ls2 := [some (.ref 67), none, some (.int v14), none, none, some (.int s16.2.1)]) hq (rLe_at [some (.ref 67), none, some (.int v14), none, none, some (.int s16.2.1)] [some (.ref 67), none, some (.int v14), some (.long s16.1), none, some (.int s16.2.1)] (And.intro rfl (And.intro rfl (And.intro rfl trivial))))
        · skip
          refine P_l (fun hJ _ _ q => E_lstore_n (ls2 := [some (.ref 67), none, some (.int v14), some (.long ((if s16.2.1 = 26 then (rL s16.2.2 67 63) else s16.1 : Int64))), none, some (.int s16.2.1)]) dX11_laysPlan_142 (by decide) rfl q) ?_
          refine P_v ((if s16.2.1 = 26 then (rL s16.2.2 67 63) else s16.1 : Int64)) (fun x => [some (.ref 67), none, some (.int v14), some (.long x), none, some (.int s16.2.1)]) (fun x18 => ?_)
          refine P_l (fun hJ _ _ q => E_aload_n dX11_laysPlan_143 rfl (E_getR (b := 109) clX11 64 (by decide) flX11_161 (Or.inr ⟨_, rfl⟩) dX11_laysPlan_144 (kd67 hJ.1.1) (rf67_64 hJ.1.1) (by decide) (E_iload dX11_laysPlan_147 rfl (E_iload_n dX11_laysPlan_149 rfl q)))) ?_
          refine P_join (pc2 := 166) (fun j19 => [some (.ref 67), none, some (.int v14), some (.long x18), none, some (.int s16.2.1)]) (fun j19 => [.int j19, .int s16.2.1, .ref 109]) (fun _ => s16.2.2) ?_ (fun j19 => ?_)
          · skip
            refine P_if (fun hJ _ _ h1 h2 => E_if_eq 165 dX11_laysPlan_150 (by decide) h1 h2) ?_ ?_
            · skip
              refine P_l (fun hJ _ _ q => E_iconst (v := 0) dX11_laysPlan_165 (by decide) q) ?_
              exact P_back ((0 : Int32))
            · skip
              refine P_l (fun hJ _ _ q => E_lload_n dX11_laysPlan_153 rfl (E_aload_n dX11_laysPlan_154 rfl (E_iload dX11_laysPlan_155 rfl q))) ?_
              refine P_callr (t := fun v => some (.long v)) (st2 := fun v => .long v :: [.long x18, .int s16.2.1, .ref 109]) (fun hJ => (ok_X11_power (σ := s16.2.2) (p1 := s16.2.1) )) (fun hJ _ _ v hM q => E_callV (as := [.int s16.2.1]) (b := 67) (st := [.long x18, .int s16.2.1, .ref 109]) hM (by decide) yfX11_power mlX11_229 imX11_power seX11_power clX11 (kd67 hJ.1.1) rfl (Nat.le_of_ble_eq_true rfl) rfl dX11_laysPlan_157 q) (fun v20 => ?_)
              refine P_g (fun g21 => ?_)
              refine P_l (fun hJ _ _ q => E_ldiv dX11_laysPlan_160 g21 (E_l2i dX11_laysPlan_161 (E_goto 166 dX11_laysPlan_162 (by decide) q))) ?_
              exact P_back (((x18 / v20 : Int64)).toInt32)
          · skip
            refine P_g (fun g22 => ?_)
            refine P_w (fun hJ _ _ q => E_iast dX11_laysPlan_166 (kd109 hJ.1.1) (by decide) (inB_vp g22) q) (fun hJ => Sy_wI hJ.1) rfl rfl rfl (fun σ23 hσ23 => ?_)
            refine P_l (fun hJ _ _ q => E_lload_n dX11_laysPlan_167 rfl (E_aload_n dX11_laysPlan_168 rfl (E_iload dX11_laysPlan_169 rfl q))) ?_
            refine P_callr (t := fun v => some (.long v)) (st2 := fun v => .long v :: [.long x18]) (fun hJ => (ok_X11_power (σ := σ23) (p1 := s16.2.1) )) (fun hJ _ _ v hM q => E_callV (as := [.int s16.2.1]) (b := 67) (st := [.long x18]) hM (by decide) yfX11_power mlX11_229 imX11_power seX11_power clX11 (kd67 hJ.1.1) rfl (Nat.le_of_ble_eq_true rfl) rfl dX11_laysPlan_171 q) (fun v24 => ?_)
            refine P_g (fun g25 => ?_)
            refine P_l (fun hJ _ _ q => E_lrem dX11_laysPlan_174 g25 (E_lstore_n (ls2 := [some (.ref 67), none, some (.int v14), some (.long (lRem x18 v24)), none, some (.int s16.2.1)]) dX11_laysPlan_175 (by decide) rfl (E_iinc (v := 1) (ls2 := [some (.ref 67), none, some (.int v14), some (.long (lRem x18 v24)), none, some (.int (s16.2.1 + 1))]) dX11_laysPlan_176 rfl (by decide) (by decide) rfl (E_goto 120 dX11_laysPlan_179 (by decide) q)))) ?_
            exact P_back ((lRem x18 v24, s16.2.1 + 1, σ23))

def b_X11_planned_4 (σ : rS) (s1 : Int32 × Int32) : Option (Int32 ⊕ (Int32 × Int32)) := if 52 ≤ s1.2 then (some (.inl s1.1)) else (if inB s1.2 52 then (oLet (s1.1 + (rI σ 109 (s1.2 : Int32).toNatClampNeg) : Int32) fun x3 => some (.inr ((x3, s1.2 + 1)))) else none)
def f_X11_planned (σ : rS) : Option Int32 := oLoop (b_X11_planned_4 σ) oFuel ((0, 0))
set_option maxRecDepth 20000 in
set_option maxHeartbeats 2000000 in
theorem ok_X11_planned {σ : rS}   : rFr Sy yX11_planned mX11_planned 0 [.ref 67] σ (fun v => some (.int v)) (f_X11_planned σ) := by
  refine rFr_of (ls := [some (.ref 67), none, none]) yfX11_planned rfl (Nat.le_of_ble_eq_true rfl) (fun o τ => ?_)
  unfold f_X11_planned
  refine P_l (fun hJ _ _ q => E_iconst (v := 0) dX11_planned_0 (by decide) (E_istore_n (ls2 := [some (.ref 67), some (.int 0), none]) dX11_planned_1 (by decide) rfl (E_iconst (v := 0) dX11_planned_2 (by decide) (E_istore_n (ls2 := [some (.ref 67), some (.int 0), some (.int 0)]) dX11_planned_3 (by decide) rfl q)))) ?_
  refine P_loop (fun s1 => [some (.ref 67), some (.int s1.1), some (.int s1.2)]) (fun _ => σ) (fun s1 => ?_) _ ((0, 0))
  unfold b_X11_planned_4
  refine P_l (fun hJ _ _ q => E_iload_n dX11_planned_4 rfl (E_bipush (v := 52) dX11_planned_5 (by decide) q)) ?_
  refine P_if (fun hJ _ _ h1 h2 => E_icmp_ge 25 dX11_planned_7 (by decide) h1 h2) ?_ ?_
  · skip
    refine P_l (fun hJ _ _ q => E_iload_n dX11_planned_25 rfl q) ?_
    exact P_inl (P_retr (fun _ _ => E_iret rfl dX11_planned_26))
  · skip
    refine P_l (fun hJ _ _ q => E_iload_n dX11_planned_10 rfl (E_aload_n dX11_planned_11 rfl (E_getR (b := 109) clX11 64 (by decide) flX11_161 (Or.inr ⟨_, rfl⟩) dX11_planned_12 (kd67 hJ.1.1) (rf67_64 hJ.1.1) (by decide) (E_iload_n dX11_planned_15 rfl q)))) ?_
    refine P_g (fun g2 => ?_)
    refine P_l (fun hJ _ _ q => E_iald dX11_planned_16 (kd109 hJ.1.1) (inB_vp g2) (E_iadd dX11_planned_17 (E_istore_n (ls2 := [some (.ref 67), some (.int (s1.1 + (rI σ 109 (s1.2 : Int32).toNatClampNeg))), some (.int s1.2)]) dX11_planned_18 (by decide) rfl q))) ?_
    refine P_v (s1.1 + (rI σ 109 (s1.2 : Int32).toNatClampNeg)) (fun x => [some (.ref 67), some (.int x), some (.int s1.2)]) (fun x3 => ?_)
    refine P_l (fun hJ _ _ q => E_iinc (v := 1) (ls2 := [some (.ref 67), some (.int x3), some (.int (s1.2 + 1))]) dX11_planned_19 rfl (by decide) (by decide) rfl (E_goto 4 dX11_planned_22 (by decide) q)) ?_
    exact P_back ((x3, s1.2 + 1))

def b_X11_plannedWorth_4 (σ : rS) (s1 : Int32 × Int32) : Option (Int32 ⊕ (Int32 × Int32)) := if 52 ≤ s1.2 then (some (.inl s1.1)) else (if inB s1.2 52 then (oLet (s1.1 + ((rI σ 109 (s1.2 : Int32).toNatClampNeg) * ((iRem s1.2 13) + 1)) : Int32) fun x3 => some (.inr ((x3, s1.2 + 1)))) else none)
def f_X11_plannedWorth (σ : rS) : Option Int32 := oLoop (b_X11_plannedWorth_4 σ) oFuel ((0, 0))
set_option maxRecDepth 20000 in
set_option maxHeartbeats 2000000 in
theorem ok_X11_plannedWorth {σ : rS}   : rFr Sy yX11_plannedWorth mX11_plannedWorth 0 [.ref 67] σ (fun v => some (.int v)) (f_X11_plannedWorth σ) := by
  refine rFr_of (ls := [some (.ref 67), none, none]) yfX11_plannedWorth rfl (Nat.le_of_ble_eq_true rfl) (fun o τ => ?_)
  unfold f_X11_plannedWorth
  refine P_l (fun hJ _ _ q => E_iconst (v := 0) dX11_plannedWorth_0 (by decide) (E_istore_n (ls2 := [some (.ref 67), some (.int 0), none]) dX11_plannedWorth_1 (by decide) rfl (E_iconst (v := 0) dX11_plannedWorth_2 (by decide) (E_istore_n (ls2 := [some (.ref 67), some (.int 0), some (.int 0)]) dX11_plannedWorth_3 (by decide) rfl q)))) ?_
  refine P_loop (fun s1 => [some (.ref 67), some (.int s1.1), some (.int s1.2)]) (fun _ => σ) (fun s1 => ?_) _ ((0, 0))
  unfold b_X11_plannedWorth_4
  refine P_l (fun hJ _ _ q => E_iload_n dX11_plannedWorth_4 rfl (E_bipush (v := 52) dX11_plannedWorth_5 (by decide) q)) ?_
  refine P_if (fun hJ _ _ h1 h2 => E_icmp_ge 32 dX11_plannedWorth_7 (by decide) h1 h2) ?_ ?_
  · skip
    refine P_l (fun hJ _ _ q => E_iload_n dX11_plannedWorth_32 rfl q) ?_
    exact P_inl (P_retr (fun _ _ => E_iret rfl dX11_plannedWorth_33))
  · skip
    refine P_l (fun hJ _ _ q => E_iload_n dX11_plannedWorth_10 rfl (E_aload_n dX11_plannedWorth_11 rfl (E_getR (b := 109) clX11 64 (by decide) flX11_161 (Or.inr ⟨_, rfl⟩) dX11_plannedWorth_12 (kd67 hJ.1.1) (rf67_64 hJ.1.1) (by decide) (E_iload_n dX11_plannedWorth_15 rfl q)))) ?_
    refine P_g (fun g2 => ?_)
    refine P_l (fun hJ _ _ q => E_iald dX11_plannedWorth_16 (kd109 hJ.1.1) (inB_vp g2) (E_iload_n dX11_plannedWorth_17 rfl (E_bipush (v := 13) dX11_plannedWorth_18 (by decide) (E_irem dX11_plannedWorth_20 (by decide) (E_iconst (v := 1) dX11_plannedWorth_21 (by decide) (E_iadd dX11_plannedWorth_22 (E_imul dX11_plannedWorth_23 (E_iadd dX11_plannedWorth_24 (E_istore_n (ls2 := [some (.ref 67), some (.int (s1.1 + ((rI σ 109 (s1.2 : Int32).toNatClampNeg) * ((iRem s1.2 13) + 1)))), some (.int s1.2)]) dX11_plannedWorth_25 (by decide) rfl q))))))))) ?_
    refine P_v (s1.1 + ((rI σ 109 (s1.2 : Int32).toNatClampNeg) * ((iRem s1.2 13) + 1))) (fun x => [some (.ref 67), some (.int x), some (.int s1.2)]) (fun x3 => ?_)
    refine P_l (fun hJ _ _ q => E_iinc (v := 1) (ls2 := [some (.ref 67), some (.int x3), some (.int (s1.2 + 1))]) dX11_plannedWorth_26 rfl (by decide) (by decide) rfl (E_goto 4 dX11_plannedWorth_29 (by decide) q)) ?_
    exact P_back ((x3, s1.2 + 1))

def f_X11_best (σ : rS) (p1 : Int32) (p2 : Int32) : Option (Int32 × rS) := oB (f_X11_holds σ ((if (v_X11_isPlayer σ p1) = 0 then 1 else (if (v_X11_in σ p2 0 1) = 0 then 2 else 0) : Int32))) fun v1 σ2 => if v1 = 0 then (oB (f_X11_laysPlan σ2 p1) fun v3 σ4 => if v3 = 0 then (some (((-1), σ4))) else (if p2 = 0 then ((f_X11_planned σ4).bind fun v5 => some ((v5, σ4))) else ((f_X11_plannedWorth σ4).bind fun v6 => some ((v6, σ4))))) else (some (((-1), σ2)))
set_option maxRecDepth 20000 in
set_option maxHeartbeats 2000000 in
theorem ok_X11_best {σ : rS} {p1 : Int32} {p2 : Int32}   : rFn Sy yX11_best mX11_best 7 [.ref 67, .int p1, .int p2] σ 0 0 (fun v => .inl (some (.int v))) (f_X11_best σ p1 p2) := by
  refine rF_of (ls := [some (.ref 67), some (.int p1), some (.int p2)]) yfX11_best rfl (Nat.le_of_ble_eq_true rfl) (fun o τ => ?_)
  unfold f_X11_best
  refine P_l (fun hJ _ _ q => E_aload_n dX11_best_0 rfl (E_aload_n dX11_best_1 rfl (E_iload_n dX11_best_2 rfl (E_callV (as := [.int p1]) (b := 67) (st := [.ref 67]) (ok_X11_isPlayer (σ := σ) (p1 := p1) hJ ) (by decide) yfX11_isPlayer mlX11_282 imX11_isPlayer seX11_isPlayer clX11 (kd67 hJ.1.1) rfl (Nat.le_of_ble_eq_true rfl) rfl dX11_best_3 q)))) ?_
  refine P_l (pc2 := 28) (ls2 := [some (.ref 67), some (.int p1), some (.int p2)]) (st2 := [.int ((if (v_X11_isPlayer σ p1) = 0 then 1 else (if (v_X11_in σ p2 0 1) = 0 then 2 else 0) : Int32)), .ref 67]) (fun hJ _ _ hq => ?_) ?_
  · skip
    refine E_if_ne 13 dX11_best_6 (by decide) (fun c_6_0 => ?_) (fun c_6_0 => ?_)
    · skip
      refine E_aload_n dX11_best_13 rfl ?_
      refine E_iload_n dX11_best_14 rfl ?_
      refine E_iconst (v := 0) dX11_best_15 (by decide) ?_
      refine E_iconst (v := 1) dX11_best_16 (by decide) ?_
      refine E_callV (as := [.int p2, .int 0, .int 1]) (b := 67) (st := [.ref 67]) (ok_X11_in (σ := σ) (p1 := p2) (p2 := 0) (p3 := 1) hJ ) (by decide) yfX11_in mlX11_182 imX11_in seX11_in clX11 (kd67 hJ.1.1) rfl (Nat.le_of_ble_eq_true rfl) rfl dX11_best_17 ?_
      refine E_if_eq 27 dX11_best_20 (by decide) (fun c_20_1 => ?_) (fun c_20_1 => ?_)
      · skip
        refine E_iconst (v := 2) dX11_best_27 (by decide) ?_
        simp only [if_neg c_6_0, if_pos c_20_1] at hq
        exact hq
      · skip
        refine E_iconst (v := 0) dX11_best_23 (by decide) ?_
        refine E_goto 28 dX11_best_24 (by decide) ?_
        simp only [if_neg c_6_0, if_neg c_20_1] at hq
        exact hq
    · skip
      refine E_iconst (v := 1) dX11_best_9 (by decide) ?_
      refine E_goto 28 dX11_best_10 (by decide) ?_
      simp only [if_pos c_6_0] at hq
      exact hq
  · skip
    refine P_call (t := fun v => some (.int v)) (st2 := fun v => .int v :: []) (kc2 := 0) (ks2 := 0) (fun hJ => (ok_X11_holds (σ := σ) (p1 := (if (v_X11_isPlayer σ p1) = 0 then 1 else (if (v_X11_in σ p2 0 1) = 0 then 2 else 0) : Int32)) )) (fun hJ _ _ _ _ v τ1 hM q => E_callV (as := [.int ((if (v_X11_isPlayer σ p1) = 0 then 1 else (if (v_X11_in σ p2 0 1) = 0 then 2 else 0) : Int32))]) (b := 67) (st := []) hM (by decide) yfX11_holds mlX11_265 imX11_holds seX11_holds clX11 (kd67 hJ.1.1) rfl (Nat.le_of_ble_eq_true rfl) rfl dX11_best_28 q) (by decide) (by decide) (fun v1 σ2 => ?_)
    refine P_if (fun hJ _ _ h1 h2 => E_if_eq 36 dX11_best_31 (by decide) h1 h2) ?_ ?_
    · skip
      refine P_l (fun hJ _ _ q => E_aload_n dX11_best_36 rfl (E_iload_n dX11_best_37 rfl q)) ?_
      refine P_call (t := fun v => some (.int v)) (st2 := fun v => .int v :: []) (kc2 := 0) (ks2 := 0) (fun hJ => (ok_X11_laysPlan (σ := σ2) (p1 := p1) )) (fun hJ _ _ _ _ v τ1 hM q => E_callV (as := [.int p1]) (b := 67) (st := []) hM (by decide) yfX11_laysPlan mlX11_285 imX11_laysPlan seX11_laysPlan clX11 (kd67 hJ.1.1) rfl (Nat.le_of_ble_eq_true rfl) rfl dX11_best_38 q) (by decide) (by decide) (fun v3 σ4 => ?_)
      refine P_if (fun hJ _ _ h1 h2 => E_if_ne 48 dX11_best_41 (by decide) h2 h1) ?_ ?_
      · skip
        refine P_l (fun hJ _ _ q => E_iconst (v := (-1)) dX11_best_44 (by decide) (E_goto 63 dX11_best_45 (by decide) q)) ?_
        exact P_ret (fun _ _ => E_iret rfl dX11_best_63)
      · skip
        refine P_l (fun hJ _ _ q => E_iload_n dX11_best_48 rfl q) ?_
        refine P_if (fun hJ _ _ h1 h2 => E_if_ne 59 dX11_best_49 (by decide) h2 h1) ?_ ?_
        · skip
          refine P_l (fun hJ _ _ q => E_aload_n dX11_best_52 rfl q) ?_
          refine P_callr (t := fun v => some (.int v)) (st2 := fun v => .int v :: []) (fun hJ => (ok_X11_planned (σ := σ4)  )) (fun hJ _ _ v hM q => E_callV (as := []) (b := 67) (st := []) hM (by decide) yfX11_planned mlX11_288 imX11_planned seX11_planned clX11 (kd67 hJ.1.1) rfl (Nat.le_of_ble_eq_true rfl) rfl dX11_best_53 q) (fun v5 => ?_)
          refine P_l (fun hJ _ _ q => E_goto 63 dX11_best_56 (by decide) q) ?_
          exact P_ret (fun _ _ => E_iret rfl dX11_best_63)
        · skip
          refine P_l (fun hJ _ _ q => E_aload_n dX11_best_59 rfl q) ?_
          refine P_callr (t := fun v => some (.int v)) (st2 := fun v => .int v :: []) (fun hJ => (ok_X11_plannedWorth (σ := σ4)  )) (fun hJ _ _ v hM q => E_callV (as := []) (b := 67) (st := []) hM (by decide) yfX11_plannedWorth mlX11_291 imX11_plannedWorth seX11_plannedWorth clX11 (kd67 hJ.1.1) rfl (Nat.le_of_ble_eq_true rfl) rfl dX11_best_60 q) (fun v6 => ?_)
          exact P_ret (fun _ _ => E_iret rfl dX11_best_63)
    · skip
      refine P_l (fun hJ _ _ q => E_iconst (v := (-1)) dX11_best_34 (by decide) q) ?_
      exact P_ret (fun _ _ => E_iret rfl dX11_best_35)

def b_X11_plan_48 (σ4 : rS) (s6 : Int32 × Int32) : Option ((Int32 × rS) ⊕ (Int32 × Int32)) := if 52 ≤ s6.2 then (some (.inl (((-1), σ4)))) else (if inB s6.2 52 then (if (rI σ4 109 (s6.2 : Int32).toNatClampNeg) ≤ s6.1 then (oLet (s6.1 - (rI σ4 109 (s6.2 : Int32).toNatClampNeg) : Int32) fun x8 => some (.inr ((x8, s6.2 + 1)))) else (some (.inl ((s6.2, σ4))))) else none)
def f_X11_plan (σ : rS) (p1 : Int32) (p2 : Int32) : Option (Int32 × rS) := oB (f_X11_holds σ ((if (v_X11_isPlayer σ p1) = 0 then 1 else (if 0 ≤ p2 then 0 else 2) : Int32))) fun v1 σ2 => if v1 = 0 then (oB (f_X11_laysPlan σ2 p1) fun v3 σ4 => oLet ((if v3 = 0 then 99 else p2 : Int32) : Int32) fun x5 => oLoop (b_X11_plan_48 σ4) oFuel ((x5, 0))) else (some (((-1), σ2)))
set_option maxRecDepth 20000 in
set_option maxHeartbeats 2000000 in
theorem ok_X11_plan {σ : rS} {p1 : Int32} {p2 : Int32}   : rFn Sy yX11_plan mX11_plan 7 [.ref 67, .int p1, .int p2] σ 0 0 (fun v => .inl (some (.int v))) (f_X11_plan σ p1 p2) := by
  refine rF_of (ls := [some (.ref 67), some (.int p1), some (.int p2), none, none]) yfX11_plan rfl (Nat.le_of_ble_eq_true rfl) (fun o τ => ?_)
  unfold f_X11_plan
  refine P_l (fun hJ _ _ q => E_aload_n dX11_plan_0 rfl (E_aload_n dX11_plan_1 rfl (E_iload_n dX11_plan_2 rfl (E_callV (as := [.int p1]) (b := 67) (st := [.ref 67]) (ok_X11_isPlayer (σ := σ) (p1 := p1) hJ ) (by decide) yfX11_isPlayer mlX11_282 imX11_isPlayer seX11_isPlayer clX11 (kd67 hJ.1.1) rfl (Nat.le_of_ble_eq_true rfl) rfl dX11_plan_3 q)))) ?_
  refine P_l (pc2 := 22) (ls2 := [some (.ref 67), some (.int p1), some (.int p2), none, none]) (st2 := [.int ((if (v_X11_isPlayer σ p1) = 0 then 1 else (if 0 ≤ p2 then 0 else 2) : Int32)), .ref 67]) (fun hJ _ _ hq => ?_) ?_
  · skip
    refine E_if_ne 13 dX11_plan_6 (by decide) (fun c_6_0 => ?_) (fun c_6_0 => ?_)
    · skip
      refine E_iload_n dX11_plan_13 rfl ?_
      refine E_if_ge 21 dX11_plan_14 (by decide) (fun c_14_1 => ?_) (fun c_14_1 => ?_)
      · skip
        refine E_iconst (v := 0) dX11_plan_21 (by decide) ?_
        simp only [if_neg c_6_0, if_pos c_14_1] at hq
        exact hq
      · skip
        refine E_iconst (v := 2) dX11_plan_17 (by decide) ?_
        refine E_goto 22 dX11_plan_18 (by decide) ?_
        simp only [if_neg c_6_0, if_neg c_14_1] at hq
        exact hq
    · skip
      refine E_iconst (v := 1) dX11_plan_9 (by decide) ?_
      refine E_goto 22 dX11_plan_10 (by decide) ?_
      simp only [if_pos c_6_0] at hq
      exact hq
  · skip
    refine P_call (t := fun v => some (.int v)) (st2 := fun v => .int v :: []) (kc2 := 0) (ks2 := 0) (fun hJ => (ok_X11_holds (σ := σ) (p1 := (if (v_X11_isPlayer σ p1) = 0 then 1 else (if 0 ≤ p2 then 0 else 2) : Int32)) )) (fun hJ _ _ _ _ v τ1 hM q => E_callV (as := [.int ((if (v_X11_isPlayer σ p1) = 0 then 1 else (if 0 ≤ p2 then 0 else 2) : Int32))]) (b := 67) (st := []) hM (by decide) yfX11_holds mlX11_265 imX11_holds seX11_holds clX11 (kd67 hJ.1.1) rfl (Nat.le_of_ble_eq_true rfl) rfl dX11_plan_22 q) (by decide) (by decide) (fun v1 σ2 => ?_)
    refine P_if (fun hJ _ _ h1 h2 => E_if_eq 30 dX11_plan_25 (by decide) h1 h2) ?_ ?_
    · skip
      refine P_l (fun hJ _ _ q => E_aload_n dX11_plan_30 rfl (E_iload_n dX11_plan_31 rfl q)) ?_
      refine P_call (t := fun v => some (.int v)) (st2 := fun v => .int v :: []) (kc2 := 0) (ks2 := 0) (fun hJ => (ok_X11_laysPlan (σ := σ2) (p1 := p1) )) (fun hJ _ _ _ _ v τ1 hM q => E_callV (as := [.int p1]) (b := 67) (st := []) hM (by decide) yfX11_laysPlan mlX11_285 imX11_laysPlan seX11_laysPlan clX11 (kd67 hJ.1.1) rfl (Nat.le_of_ble_eq_true rfl) rfl dX11_plan_32 q) (by decide) (by decide) (fun v3 σ4 => ?_)
      refine P_l (pc2 := 44) (ls2 := [some (.ref 67), none, none, none, none]) (st2 := [.int ((if v3 = 0 then 99 else p2 : Int32))]) (fun hJ _ _ hq => ?_) ?_
      · skip
        refine E_if_eq 42 dX11_plan_35 (by decide) (fun c_35_0 => ?_) (fun c_35_0 => ?_)
        · skip
          refine E_bipush (v := 99) dX11_plan_42 (by decide) ?_
          simp only [if_pos c_35_0] at hq
          exact E_less (ls2 := [some (.ref 67), none, none, none, none]) hq (rLe_at [some (.ref 67), none, none, none, none] [some (.ref 67), some (.int p1), some (.int p2), none, none] (And.intro rfl trivial))
        · skip
          refine E_iload_n dX11_plan_38 rfl ?_
          refine E_goto 44 dX11_plan_39 (by decide) ?_
          simp only [if_neg c_35_0] at hq
          exact E_less (ls2 := [some (.ref 67), none, none, none, none]) hq (rLe_at [some (.ref 67), none, none, none, none] [some (.ref 67), some (.int p1), some (.int p2), none, none] (And.intro rfl trivial))
      · skip
        refine P_l (fun hJ _ _ q => E_istore_n (ls2 := [some (.ref 67), none, none, some (.int ((if v3 = 0 then 99 else p2 : Int32))), none]) dX11_plan_44 (by decide) rfl q) ?_
        refine P_v ((if v3 = 0 then 99 else p2 : Int32)) (fun x => [some (.ref 67), none, none, some (.int x), none]) (fun x5 => ?_)
        refine P_l (fun hJ _ _ q => E_iconst (v := 0) dX11_plan_45 (by decide) (E_istore (ls2 := [some (.ref 67), none, none, some (.int x5), some (.int 0)]) dX11_plan_46 (by decide) rfl q)) ?_
        refine P_loop (fun s6 => [some (.ref 67), none, none, some (.int s6.1), some (.int s6.2)]) (fun _ => σ4) (fun s6 => ?_) _ ((x5, 0))
        unfold b_X11_plan_48
        refine P_l (fun hJ _ _ q => E_iload dX11_plan_48 rfl (E_bipush (v := 52) dX11_plan_50 (by decide) q)) ?_
        refine P_if (fun hJ _ _ h1 h2 => E_icmp_ge 85 dX11_plan_52 (by decide) h1 h2) ?_ ?_
        · skip
          refine P_l (fun hJ _ _ q => E_iconst (v := (-1)) dX11_plan_85 (by decide) q) ?_
          exact P_inl (P_ret (fun _ _ => E_iret rfl dX11_plan_86))
        · skip
          refine P_l (fun hJ _ _ q => E_iload_n dX11_plan_55 rfl (E_aload_n dX11_plan_56 rfl (E_getR (b := 109) clX11 64 (by decide) flX11_161 (Or.inr ⟨_, rfl⟩) dX11_plan_57 (kd67 hJ.1.1) (rf67_64 hJ.1.1) (by decide) (E_iload dX11_plan_60 rfl q)))) ?_
          refine P_g (fun g7 => ?_)
          refine P_l (fun hJ _ _ q => E_iald dX11_plan_62 (kd109 hJ.1.1) (inB_vp g7) q) ?_
          refine P_if (fun hJ _ _ h1 h2 => E_icmp_ge 69 dX11_plan_63 (by decide) h1 h2) ?_ ?_
          · skip
            refine P_l (fun hJ _ _ q => E_iload_n dX11_plan_69 rfl (E_aload_n dX11_plan_70 rfl (E_getR (b := 109) clX11 64 (by decide) flX11_161 (Or.inr ⟨_, rfl⟩) dX11_plan_71 (kd67 hJ.1.1) (rf67_64 hJ.1.1) (by decide) (E_iload dX11_plan_74 rfl (E_iald dX11_plan_76 (kd109 hJ.1.1) (inB_vp g7) (E_isub dX11_plan_77 (E_istore_n (ls2 := [some (.ref 67), none, none, some (.int (s6.1 - (rI σ4 109 (s6.2 : Int32).toNatClampNeg))), some (.int s6.2)]) dX11_plan_78 (by decide) rfl q))))))) ?_
            refine P_v (s6.1 - (rI σ4 109 (s6.2 : Int32).toNatClampNeg)) (fun x => [some (.ref 67), none, none, some (.int x), some (.int s6.2)]) (fun x8 => ?_)
            refine P_l (fun hJ _ _ q => E_iinc (v := 1) (ls2 := [some (.ref 67), none, none, some (.int x8), some (.int (s6.2 + 1))]) dX11_plan_79 rfl (by decide) (by decide) rfl (E_goto 48 dX11_plan_82 (by decide) q)) ?_
            exact P_back ((x8, s6.2 + 1))
          · skip
            refine P_l (fun hJ _ _ q => E_iload dX11_plan_66 rfl q) ?_
            exact P_inl (P_ret (fun _ _ => E_iret rfl dX11_plan_68))
    · skip
      refine P_l (fun hJ _ _ q => E_iconst (v := (-1)) dX11_plan_28 (by decide) q) ?_
      exact P_ret (fun _ _ => E_iret rfl dX11_plan_29)

def v_X11_isKind (σ : rS) (p1 : Int32) : Int32 := if (v_X11_in σ p1 0 51) = 0 then 0 else (if (rI σ 67 1) ≤ (iRem p1 13) then 0 else 1)
set_option maxRecDepth 20000 in
theorem ok_X11_isKind {σ : rS} {p1 : Int32}  (hJ : J Sy σ)  : rMet yX11_isKind mX11_isKind 1 [.ref 67, .int p1] σ 0 0 (some (.int (v_X11_isKind σ p1))) σ := by
  refine rMet_of (ls := [some (.ref 67), some (.int p1)]) yfX11_isKind rfl (Nat.le_of_ble_eq_true rfl) ?_
  refine E_aload_n dX11_isKind_0 rfl ?_
  refine E_iload_n dX11_isKind_1 rfl ?_
  refine E_iconst (v := 0) dX11_isKind_2 (by decide) ?_
  refine E_bipush (v := 51) dX11_isKind_3 (by decide) ?_
  refine E_callV (as := [.int p1, .int 0, .int 51]) (b := 67) (st := []) (ok_X11_in (σ := σ) (p1 := p1) (p2 := 0) (p3 := 51) hJ ) (by decide) yfX11_in mlX11_182 imX11_in seX11_in clX11 (kd67 hJ.1.1) rfl (Nat.le_of_ble_eq_true rfl) rfl dX11_isKind_5 ?_
  refine E_if_eq 26 dX11_isKind_8 (by decide) (fun c_8_0 => ?_) (fun c_8_0 => ?_)
  · skip
    refine E_iconst (v := 0) dX11_isKind_26 (by decide) ?_
    exact E_zretE rfl dX11_isKind_27 (by decide) (by unfold v_X11_isKind; simp only [if_pos c_8_0]) rfl
  · skip
    refine E_iload_n dX11_isKind_11 rfl ?_
    refine E_bipush (v := 13) dX11_isKind_12 (by decide) ?_
    refine E_irem dX11_isKind_14 (by decide) ?_
    refine E_aload_n dX11_isKind_15 rfl ?_
    refine E_getI clX11 1 (by decide) flX11_9 (Or.inl rfl) dX11_isKind_16 (kd67 hJ.1.1) ?_
    refine E_icmp_ge 26 dX11_isKind_19 (by decide) (fun c_19_1 => ?_) (fun c_19_1 => ?_)
    · skip
      refine E_iconst (v := 0) dX11_isKind_26 (by decide) ?_
      exact E_zretE rfl dX11_isKind_27 (by decide) (by unfold v_X11_isKind; simp only [if_neg c_8_0, if_pos c_19_1]) rfl
    · skip
      refine E_iconst (v := 1) dX11_isKind_22 (by decide) ?_
      refine E_goto 27 dX11_isKind_23 (by decide) ?_
      exact E_zretE rfl dX11_isKind_27 (by decide) (by unfold v_X11_isKind; simp only [if_neg c_8_0, if_neg c_19_1]) rfl
theorem z_X11_isKind (σ : rS) (p1 : Int32) : v_X11_isKind σ p1 = 0 ∨ v_X11_isKind σ p1 = 1 := by
  unfold v_X11_isKind
  (repeat' split) <;> first | decide | exact vIn_01 _ _ _ | exact vBit_01 _ _ | exact z_X11_in _ _ _ _

def f_X11_isAlone (σ : rS) (p1 : Int32) : Option (Int32 × rS) := oB (f_X11_laysTable σ) fun _ σ2 => if inB p1 52 then (if (rI σ2 91 (p1 : Int32).toNatClampNeg) ≤ 1 then (oLet (wI σ2 91 (p1 : Int32).toNatClampNeg ((rI σ2 91 (p1 : Int32).toNatClampNeg) + 1)) fun σ4 => oB (f_X11_canBeCut σ4) fun v5 σ6 => if v5 = 0 ∨ v5 = 1 then (some ((v5, σ6))) else none) else (some ((0, σ2)))) else none
set_option maxRecDepth 20000 in
set_option maxHeartbeats 2000000 in
theorem ok_X11_isAlone {σ : rS} {p1 : Int32}   : rFn Sy yX11_isAlone mX11_isAlone 7 [.ref 67, .int p1] σ 0 0 (fun v => .inl (some (.int v))) (f_X11_isAlone σ p1) := by
  refine rF_of (ls := [some (.ref 67), some (.int p1)]) yfX11_isAlone rfl (Nat.le_of_ble_eq_true rfl) (fun o τ => ?_)
  unfold f_X11_isAlone
  refine P_l (fun hJ _ _ q => E_aload_n dX11_isAlone_0 rfl q) ?_
  refine P_call (t := fun _ => none) (st2 := fun _ => []) (kc2 := 0) (ks2 := 0) (fun hJ => (ok_X11_laysTable (σ := σ)  )) (fun hJ _ _ _ _ v τ1 hM q => E_callV (as := []) (b := 67) (st := []) hM (by decide) yfX11_laysTable mlX11_268 imX11_laysTable seX11_laysTable clX11 (kd67 hJ.1.1) rfl (Nat.le_of_ble_eq_true rfl) rfl dX11_isAlone_1 q) (by decide) (by decide) (fun v1 σ2 => ?_)
  refine P_l (fun hJ _ _ q => E_aload_n dX11_isAlone_4 rfl (E_getR (b := 91) clX11 40 (by decide) flX11_106 (Or.inr ⟨_, rfl⟩) dX11_isAlone_5 (kd67 hJ.1.1) (rf67_40 hJ.1.1) (by decide) (E_iload_n dX11_isAlone_8 rfl q))) ?_
  refine P_g (fun g3 => ?_)
  refine P_l (fun hJ _ _ q => E_iald dX11_isAlone_9 (kd91 hJ.1.1) (inB_vp g3) (E_iconst (v := 1) dX11_isAlone_10 (by decide) q)) ?_
  refine P_if (fun hJ _ _ h1 h2 => E_icmp_le 16 dX11_isAlone_11 (by decide) h1 h2) ?_ ?_
  · skip
    refine P_l (fun hJ _ _ q => E_aload_n dX11_isAlone_16 rfl (E_getR (b := 91) clX11 40 (by decide) flX11_106 (Or.inr ⟨_, rfl⟩) dX11_isAlone_17 (kd67 hJ.1.1) (rf67_40 hJ.1.1) (by decide) (E_iload_n dX11_isAlone_20 rfl (E_dup2 dX11_isAlone_21 rfl rfl (E_iald dX11_isAlone_22 (kd91 hJ.1.1) (inB_vp g3) (E_iconst (v := 1) dX11_isAlone_23 (by decide) (E_iadd dX11_isAlone_24 q))))))) ?_
    refine P_w (fun hJ _ _ q => E_iast dX11_isAlone_25 (kd91 hJ.1.1) (by decide) (inB_vp g3) q) (fun hJ => Sy_wI hJ.1) rfl rfl rfl (fun σ4 hσ4 => ?_)
    refine P_l (fun hJ _ _ q => E_aload_n dX11_isAlone_26 rfl q) ?_
    refine P_call (t := fun v => some (.int v)) (st2 := fun v => .int v :: []) (kc2 := 0) (ks2 := 0) (fun hJ => (ok_X11_canBeCut (σ := σ4)  )) (fun hJ _ _ _ _ v τ1 hM q => E_callV (as := []) (b := 67) (st := []) hM (by decide) yfX11_canBeCut mlX11_271 imX11_canBeCut seX11_canBeCut clX11 (kd67 hJ.1.1) rfl (Nat.le_of_ble_eq_true rfl) rfl dX11_isAlone_27 q) (by decide) (by decide) (fun v5 σ6 => ?_)
    refine P_g (fun g7 => ?_)
    exact P_ret (fun _ _ => E_zret01 rfl g7 dX11_isAlone_30)
  · skip
    refine P_l (fun hJ _ _ q => E_iconst (v := 0) dX11_isAlone_14 (by decide) q) ?_
    exact P_ret (fun _ _ => E_zret01 rfl (by decide) dX11_isAlone_15)

def f_X11_alone (σ : rS) (p1 : Int32) : Option (Int32 × rS) := oB (f_X11_holds σ ((if (v_X11_isKind σ p1) = 0 then 1 else 0 : Int32))) fun v1 σ2 => if v1 = 0 then (oB (f_X11_isAlone σ2 p1) fun v3 σ4 => if v3 = 0 ∨ v3 = 1 then (some ((v3, σ4))) else none) else (some ((0, σ2)))
set_option maxRecDepth 20000 in
set_option maxHeartbeats 2000000 in
theorem ok_X11_alone {σ : rS} {p1 : Int32}   : rFn Sy yX11_alone mX11_alone 8 [.ref 67, .int p1] σ 0 0 (fun v => .inl (some (.int v))) (f_X11_alone σ p1) := by
  refine rF_of (ls := [some (.ref 67), some (.int p1)]) yfX11_alone rfl (Nat.le_of_ble_eq_true rfl) (fun o τ => ?_)
  unfold f_X11_alone
  refine P_l (fun hJ _ _ q => E_aload_n dX11_alone_0 rfl (E_aload_n dX11_alone_1 rfl (E_iload_n dX11_alone_2 rfl (E_callV (as := [.int p1]) (b := 67) (st := [.ref 67]) (ok_X11_isKind (σ := σ) (p1 := p1) hJ ) (by decide) yfX11_isKind mlX11_294 imX11_isKind seX11_isKind clX11 (kd67 hJ.1.1) rfl (Nat.le_of_ble_eq_true rfl) rfl dX11_alone_3 q)))) ?_
  refine P_l (pc2 := 14) (ls2 := [some (.ref 67), some (.int p1)]) (st2 := [.int ((if (v_X11_isKind σ p1) = 0 then 1 else 0 : Int32)), .ref 67]) (fun hJ _ _ hq => ?_) ?_
  · skip
    refine E_if_eq 13 dX11_alone_6 (by decide) (fun c_6_0 => ?_) (fun c_6_0 => ?_)
    · skip
      refine E_iconst (v := 1) dX11_alone_13 (by decide) ?_
      simp only [if_pos c_6_0] at hq
      exact hq
    · skip
      refine E_iconst (v := 0) dX11_alone_9 (by decide) ?_
      refine E_goto 14 dX11_alone_10 (by decide) ?_
      simp only [if_neg c_6_0] at hq
      exact hq
  · skip
    refine P_call (t := fun v => some (.int v)) (st2 := fun v => .int v :: []) (kc2 := 0) (ks2 := 0) (fun hJ => (ok_X11_holds (σ := σ) (p1 := (if (v_X11_isKind σ p1) = 0 then 1 else 0 : Int32)) )) (fun hJ _ _ _ _ v τ1 hM q => E_callV (as := [.int ((if (v_X11_isKind σ p1) = 0 then 1 else 0 : Int32))]) (b := 67) (st := []) hM (by decide) yfX11_holds mlX11_265 imX11_holds seX11_holds clX11 (kd67 hJ.1.1) rfl (Nat.le_of_ble_eq_true rfl) rfl dX11_alone_14 q) (by decide) (by decide) (fun v1 σ2 => ?_)
    refine P_if (fun hJ _ _ h1 h2 => E_if_eq 22 dX11_alone_17 (by decide) h1 h2) ?_ ?_
    · skip
      refine P_l (fun hJ _ _ q => E_aload_n dX11_alone_22 rfl (E_iload_n dX11_alone_23 rfl q)) ?_
      refine P_call (t := fun v => some (.int v)) (st2 := fun v => .int v :: []) (kc2 := 0) (ks2 := 0) (fun hJ => (ok_X11_isAlone (σ := σ2) (p1 := p1) )) (fun hJ _ _ _ _ v τ1 hM q => E_callV (as := [.int p1]) (b := 67) (st := []) hM (by decide) yfX11_isAlone mlX11_297 imX11_isAlone seX11_isAlone clX11 (kd67 hJ.1.1) rfl (Nat.le_of_ble_eq_true rfl) rfl dX11_alone_24 q) (by decide) (by decide) (fun v3 σ4 => ?_)
      refine P_g (fun g5 => ?_)
      exact P_ret (fun _ _ => E_zret01 rfl g5 dX11_alone_27)
    · skip
      refine P_l (fun hJ _ _ q => E_iconst (v := 0) dX11_alone_20 (by decide) q) ?_
      exact P_ret (fun _ _ => E_zret01 rfl (by decide) dX11_alone_21)

def b_X11_empties_2 (s3 : Int32 × rS) : Option (((Unit × rS) ⊕ (rS)) ⊕ (Int32 × rS)) := if 212 ≤ s3.1 then (some (.inl (.inr s3.2))) else (if inB s3.1 212 then (oLet (wI s3.2 79 (s3.1 : Int32).toNatClampNeg 0) fun σ5 => some (.inr ((s3.1 + 1, σ5)))) else none)
def b_X11_empties_24 (s8 : Int32 × rS) : Option (((Unit × rS) ⊕ (rS)) ⊕ (Int32 × rS)) := if 52 ≤ s8.1 then (some (.inl (.inr s8.2))) else (if inB s8.1 52 then (oLet (wI s8.2 80 (s8.1 : Int32).toNatClampNeg 0) fun σ10 => oLet (wI σ10 81 (s8.1 : Int32).toNatClampNeg 0) fun σ11 => if inB s8.1 53 then (oLet (wI σ11 82 (s8.1 : Int32).toNatClampNeg 0) fun σ13 => some (.inr ((s8.1 + 1, σ13)))) else none) else none)
def f_X11_empties (σ : rS) : Option (Unit × rS) := oJoin (oLoop (b_X11_empties_2) oFuel ((0, σ))) fun j2 => oJoin (oLoop (b_X11_empties_24) oFuel ((0, j2))) fun j7 => oLet (wI j7 82 (52 : Int32).toNatClampNeg 0) fun σ14 => oLet (wI σ14 67 22 0) fun σ15 => oLet (wI σ15 67 30 0) fun σ16 => oLet (wI σ16 67 32 0) fun σ17 => some (((), σ17))
set_option maxRecDepth 20000 in
set_option maxHeartbeats 2000000 in
theorem ok_X11_empties {σ : rS}   : rFn Sy yX11_empties mX11_empties 0 [.ref 67] σ 0 0 (fun _ => .inl none) (f_X11_empties σ) := by
  refine rF_of (ls := [some (.ref 67), none]) yfX11_empties rfl (Nat.le_of_ble_eq_true rfl) (fun o τ => ?_)
  unfold f_X11_empties
  refine P_l (fun hJ _ _ q => E_iconst (v := 0) dX11_empties_0 (by decide) (E_istore_n (ls2 := [some (.ref 67), some (.int 0)]) dX11_empties_1 (by decide) rfl q)) ?_
  refine P_join (pc2 := 22) (fun j2 => [some (.ref 67), none]) (fun j2 => []) (fun j2 => j2) ?_ (fun j2 => ?_)
  · skip
    refine P_loop (fun s3 => [some (.ref 67), some (.int s3.1)]) (fun s3 => s3.2) (fun s3 => ?_) _ ((0, σ))
    unfold b_X11_empties_2
    refine P_l (fun hJ _ _ q => E_iload_n dX11_empties_2 rfl (E_sipush (v := 212) dX11_empties_3 (by decide) q)) ?_
    refine P_if (fun hJ _ _ h1 h2 => E_icmp_ge 22 dX11_empties_6 (by decide) h1 h2) ?_ ?_
    · skip
      refine P_less [some (.ref 67), none] (And.intro rfl trivial) ?_
      exact P_inl (P_back s3.2)
    · skip
      refine P_l (fun hJ _ _ q => E_aload_n dX11_empties_9 rfl (E_getR (b := 79) clX11 18 (by decide) flX11_63 (Or.inr ⟨_, rfl⟩) dX11_empties_10 (kd67 hJ.1.1) (rf67_18 hJ.1.1) (by decide) (E_iload_n dX11_empties_13 rfl (E_iconst (v := 0) dX11_empties_14 (by decide) q)))) ?_
      refine P_g (fun g4 => ?_)
      refine P_w (fun hJ _ _ q => E_iast dX11_empties_15 (kd79 hJ.1.1) (by decide) (inB_vp g4) q) (fun hJ => Sy_wI hJ.1) rfl rfl rfl (fun σ5 hσ5 => ?_)
      refine P_l (fun hJ _ _ q => E_iinc (v := 1) (ls2 := [some (.ref 67), some (.int (s3.1 + 1))]) dX11_empties_16 rfl (by decide) (by decide) rfl (E_goto 2 dX11_empties_19 (by decide) q)) ?_
      exact P_back ((s3.1 + 1, σ5))
  · skip
    refine P_l (fun hJ _ _ q => E_iconst (v := 0) dX11_empties_22 (by decide) (E_istore_n (ls2 := [some (.ref 67), some (.int 0)]) dX11_empties_23 (by decide) rfl q)) ?_
    refine P_join (pc2 := 57) (fun j7 => [some (.ref 67), none]) (fun j7 => []) (fun j7 => j7) ?_ (fun j7 => ?_)
    · skip
      refine P_loop (fun s8 => [some (.ref 67), some (.int s8.1)]) (fun s8 => s8.2) (fun s8 => ?_) _ ((0, j2))
      unfold b_X11_empties_24
      refine P_l (fun hJ _ _ q => E_iload_n dX11_empties_24 rfl (E_bipush (v := 52) dX11_empties_25 (by decide) q)) ?_
      refine P_if (fun hJ _ _ h1 h2 => E_icmp_ge 57 dX11_empties_27 (by decide) h1 h2) ?_ ?_
      · skip
        refine P_less [some (.ref 67), none] (And.intro rfl trivial) ?_
        exact P_inl (P_back s8.2)
      · skip
        refine P_l (fun hJ _ _ q => E_aload_n dX11_empties_30 rfl (E_getR (b := 80) clX11 19 (by decide) flX11_66 (Or.inr ⟨_, rfl⟩) dX11_empties_31 (kd67 hJ.1.1) (rf67_19 hJ.1.1) (by decide) (E_iload_n dX11_empties_34 rfl (E_iconst (v := 0) dX11_empties_35 (by decide) q)))) ?_
        refine P_g (fun g9 => ?_)
        refine P_w (fun hJ _ _ q => E_iast dX11_empties_36 (kd80 hJ.1.1) (by decide) (inB_vp g9) q) (fun hJ => Sy_wI hJ.1) rfl rfl rfl (fun σ10 hσ10 => ?_)
        refine P_l (fun hJ _ _ q => E_aload_n dX11_empties_37 rfl (E_getR (b := 81) clX11 20 (by decide) flX11_69 (Or.inr ⟨_, rfl⟩) dX11_empties_38 (kd67 hJ.1.1) (rf67_20 hJ.1.1) (by decide) (E_iload_n dX11_empties_41 rfl (E_iconst (v := 0) dX11_empties_42 (by decide) q)))) ?_
        refine P_w (fun hJ _ _ q => E_iast dX11_empties_43 (kd81 hJ.1.1) (by decide) (inB_vp g9) q) (fun hJ => Sy_wI hJ.1) rfl rfl rfl (fun σ11 hσ11 => ?_)
        refine P_l (fun hJ _ _ q => E_aload_n dX11_empties_44 rfl (E_getR (b := 82) clX11 21 (by decide) flX11_72 (Or.inr ⟨_, rfl⟩) dX11_empties_45 (kd67 hJ.1.1) (rf67_21 hJ.1.1) (by decide) (E_iload_n dX11_empties_48 rfl (E_iconst (v := 0) dX11_empties_49 (by decide) q)))) ?_
        refine P_g (fun g12 => ?_)
        refine P_w (fun hJ _ _ q => E_iast dX11_empties_50 (kd82 hJ.1.1) (by decide) (inB_vp g12) q) (fun hJ => Sy_wI hJ.1) rfl rfl rfl (fun σ13 hσ13 => ?_)
        refine P_l (fun hJ _ _ q => E_iinc (v := 1) (ls2 := [some (.ref 67), some (.int (s8.1 + 1))]) dX11_empties_51 rfl (by decide) (by decide) rfl (E_goto 24 dX11_empties_54 (by decide) q)) ?_
        exact P_back ((s8.1 + 1, σ13))
    · skip
      refine P_l (fun hJ _ _ q => E_aload_n dX11_empties_57 rfl (E_getR (b := 82) clX11 21 (by decide) flX11_72 (Or.inr ⟨_, rfl⟩) dX11_empties_58 (kd67 hJ.1.1) (rf67_21 hJ.1.1) (by decide) (E_bipush (v := 52) dX11_empties_61 (by decide) (E_iconst (v := 0) dX11_empties_63 (by decide) q)))) ?_
      refine P_w (fun hJ _ _ q => E_iast dX11_empties_64 (kd82 hJ.1.1) (by decide) (inB_vp (by decide)) q) (fun hJ => Sy_wI hJ.1) rfl rfl rfl (fun σ14 hσ14 => ?_)
      refine P_l (fun hJ _ _ q => E_aload_n dX11_empties_65 rfl (E_iconst (v := 0) dX11_empties_66 (by decide) q)) ?_
      refine P_w (fun hJ _ _ q => E_putI clX11 22 (by decide) flX11_300 (Or.inl rfl) rfl dX11_empties_67 (kd67 hJ.1.1) q) (fun hJ => Sy_wI hJ.1) rfl rfl rfl (fun σ15 hσ15 => ?_)
      refine P_l (fun hJ _ _ q => E_aload_n dX11_empties_70 rfl (E_iconst (v := 0) dX11_empties_71 (by decide) q)) ?_
      refine P_w (fun hJ _ _ q => E_putI clX11 30 (by decide) flX11_303 (Or.inl rfl) rfl dX11_empties_72 (kd67 hJ.1.1) q) (fun hJ => Sy_wI hJ.1) rfl rfl rfl (fun σ16 hσ16 => ?_)
      refine P_l (fun hJ _ _ q => E_aload_n dX11_empties_75 rfl (E_iconst (v := 0) dX11_empties_76 (by decide) q)) ?_
      refine P_w (fun hJ _ _ q => E_putI clX11 32 (by decide) flX11_306 (Or.inl rfl) rfl dX11_empties_77 (kd67 hJ.1.1) q) (fun hJ => Sy_wI hJ.1) rfl rfl rfl (fun σ17 hσ17 => ?_)
      exact P_ret (fun _ _ => E_vret rfl dX11_empties_80)

def f_X11_rules (σ : rS) (p1 : Int32) (p2 : Int32) (p3 : Int32) (p4 : Int32) (p5 : Int32) : Option (Int32 × rS) := oLet ((if (v_X11_in σ p1 5 13) = 0 then 0 else (if (v_X11_in σ p2 3 4) = 0 then 0 else (if (v_X11_in σ p3 0 3) = 0 then 0 else (if (v_X11_in σ p4 0 99) = 0 then 0 else (if (v_X11_in σ p5 1 9) = 0 then 0 else 1)))) : Int32) : Int32) fun x1 => oB (f_X11_holds σ ((if x1 = 0 then 1 else (if (rI σ 67 24) = ((-1)) then 0 else 2) : Int32))) fun v2 σ3 => if v2 = 0 then (oLet (wI σ3 67 1 p1) fun σ4 => oLet (wI σ4 67 2 p2) fun σ5 => oLet (wI σ5 67 3 p3) fun σ6 => oLet (wI σ6 67 4 p4) fun σ7 => oLet (wI σ7 67 5 p5) fun σ8 => oB (f_X11_empties σ8) fun _ σ10 => some (((8 * (rI σ10 67 1)) + (rI σ10 67 3), σ10))) else (some (((-1), σ3)))
set_option maxRecDepth 20000 in
set_option maxHeartbeats 2000000 in
theorem ok_X11_rules {σ : rS} {p1 : Int32} {p2 : Int32} {p3 : Int32} {p4 : Int32} {p5 : Int32}   : rFn Sy yX11_rules mX11_rules 1 [.ref 67, .int p1, .int p2, .int p3, .int p4, .int p5] σ 0 0 (fun v => .inl (some (.int v))) (f_X11_rules σ p1 p2 p3 p4 p5) := by
  refine rF_of (ls := [some (.ref 67), some (.int p1), some (.int p2), some (.int p3), some (.int p4), some (.int p5), none]) yfX11_rules rfl (Nat.le_of_ble_eq_true rfl) (fun o τ => ?_)
  unfold f_X11_rules
  refine P_l (fun hJ _ _ q => E_aload_n dX11_rules_0 rfl (E_iload_n dX11_rules_1 rfl (E_iconst (v := 5) dX11_rules_2 (by decide) (E_bipush (v := 13) dX11_rules_3 (by decide) (E_callV (as := [.int p1, .int 5, .int 13]) (b := 67) (st := []) (ok_X11_in (σ := σ) (p1 := p1) (p2 := 5) (p3 := 13) hJ ) (by decide) yfX11_in mlX11_182 imX11_in seX11_in clX11 (kd67 hJ.1.1) rfl (Nat.le_of_ble_eq_true rfl) rfl dX11_rules_5 q))))) ?_
  refine P_l (pc2 := 60) (ls2 := [some (.ref 67), some (.int p1), some (.int p2), some (.int p3), some (.int p4), some (.int p5), none]) (st2 := [.int ((if (v_X11_in σ p1 5 13) = 0 then 0 else (if (v_X11_in σ p2 3 4) = 0 then 0 else (if (v_X11_in σ p3 0 3) = 0 then 0 else (if (v_X11_in σ p4 0 99) = 0 then 0 else (if (v_X11_in σ p5 1 9) = 0 then 0 else 1)))) : Int32))]) (fun hJ _ _ hq => ?_) ?_
  · skip
    refine E_if_eq 59 dX11_rules_8 (by decide) (fun c_8_0 => ?_) (fun c_8_0 => ?_)
    · skip
      refine E_iconst (v := 0) dX11_rules_59 (by decide) ?_
      simp only [if_pos c_8_0] at hq
      exact hq
    · skip
      refine E_aload_n dX11_rules_11 rfl ?_
      refine E_iload_n dX11_rules_12 rfl ?_
      refine E_iconst (v := 3) dX11_rules_13 (by decide) ?_
      refine E_iconst (v := 4) dX11_rules_14 (by decide) ?_
      refine E_callV (as := [.int p2, .int 3, .int 4]) (b := 67) (st := []) (ok_X11_in (σ := σ) (p1 := p2) (p2 := 3) (p3 := 4) hJ ) (by decide) yfX11_in mlX11_182 imX11_in seX11_in clX11 (kd67 hJ.1.1) rfl (Nat.le_of_ble_eq_true rfl) rfl dX11_rules_15 ?_
      refine E_if_eq 59 dX11_rules_18 (by decide) (fun c_18_1 => ?_) (fun c_18_1 => ?_)
      · skip
        refine E_iconst (v := 0) dX11_rules_59 (by decide) ?_
        simp only [if_neg c_8_0, if_pos c_18_1] at hq
        exact hq
      · skip
        refine E_aload_n dX11_rules_21 rfl ?_
        refine E_iload_n dX11_rules_22 rfl ?_
        refine E_iconst (v := 0) dX11_rules_23 (by decide) ?_
        refine E_iconst (v := 3) dX11_rules_24 (by decide) ?_
        refine E_callV (as := [.int p3, .int 0, .int 3]) (b := 67) (st := []) (ok_X11_in (σ := σ) (p1 := p3) (p2 := 0) (p3 := 3) hJ ) (by decide) yfX11_in mlX11_182 imX11_in seX11_in clX11 (kd67 hJ.1.1) rfl (Nat.le_of_ble_eq_true rfl) rfl dX11_rules_25 ?_
        refine E_if_eq 59 dX11_rules_28 (by decide) (fun c_28_2 => ?_) (fun c_28_2 => ?_)
        · skip
          refine E_iconst (v := 0) dX11_rules_59 (by decide) ?_
          simp only [if_neg c_8_0, if_neg c_18_1, if_pos c_28_2] at hq
          exact hq
        · skip
          refine E_aload_n dX11_rules_31 rfl ?_
          refine E_iload dX11_rules_32 rfl ?_
          refine E_iconst (v := 0) dX11_rules_34 (by decide) ?_
          refine E_bipush (v := 99) dX11_rules_35 (by decide) ?_
          refine E_callV (as := [.int p4, .int 0, .int 99]) (b := 67) (st := []) (ok_X11_in (σ := σ) (p1 := p4) (p2 := 0) (p3 := 99) hJ ) (by decide) yfX11_in mlX11_182 imX11_in seX11_in clX11 (kd67 hJ.1.1) rfl (Nat.le_of_ble_eq_true rfl) rfl dX11_rules_37 ?_
          refine E_if_eq 59 dX11_rules_40 (by decide) (fun c_40_3 => ?_) (fun c_40_3 => ?_)
          · skip
            refine E_iconst (v := 0) dX11_rules_59 (by decide) ?_
            simp only [if_neg c_8_0, if_neg c_18_1, if_neg c_28_2, if_pos c_40_3] at hq
            exact hq
          · skip
            refine E_aload_n dX11_rules_43 rfl ?_
            refine E_iload dX11_rules_44 rfl ?_
            refine E_iconst (v := 1) dX11_rules_46 (by decide) ?_
            refine E_bipush (v := 9) dX11_rules_47 (by decide) ?_
            refine E_callV (as := [.int p5, .int 1, .int 9]) (b := 67) (st := []) (ok_X11_in (σ := σ) (p1 := p5) (p2 := 1) (p3 := 9) hJ ) (by decide) yfX11_in mlX11_182 imX11_in seX11_in clX11 (kd67 hJ.1.1) rfl (Nat.le_of_ble_eq_true rfl) rfl dX11_rules_49 ?_
            refine E_if_eq 59 dX11_rules_52 (by decide) (fun c_52_4 => ?_) (fun c_52_4 => ?_)
            · skip
              refine E_iconst (v := 0) dX11_rules_59 (by decide) ?_
              simp only [if_neg c_8_0, if_neg c_18_1, if_neg c_28_2, if_neg c_40_3, if_pos c_52_4] at hq
              exact hq
            · skip
              refine E_iconst (v := 1) dX11_rules_55 (by decide) ?_
              refine E_goto 60 dX11_rules_56 (by decide) ?_
              simp only [if_neg c_8_0, if_neg c_18_1, if_neg c_28_2, if_neg c_40_3, if_neg c_52_4] at hq
              exact hq
  · skip
    refine P_l (fun hJ _ _ q => E_istore (ls2 := [some (.ref 67), some (.int p1), some (.int p2), some (.int p3), some (.int p4), some (.int p5), some (.int ((if (v_X11_in σ p1 5 13) = 0 then 0 else (if (v_X11_in σ p2 3 4) = 0 then 0 else (if (v_X11_in σ p3 0 3) = 0 then 0 else (if (v_X11_in σ p4 0 99) = 0 then 0 else (if (v_X11_in σ p5 1 9) = 0 then 0 else 1)))) : Int32)))]) dX11_rules_60 (by decide) rfl q) ?_
    refine P_v ((if (v_X11_in σ p1 5 13) = 0 then 0 else (if (v_X11_in σ p2 3 4) = 0 then 0 else (if (v_X11_in σ p3 0 3) = 0 then 0 else (if (v_X11_in σ p4 0 99) = 0 then 0 else (if (v_X11_in σ p5 1 9) = 0 then 0 else 1)))) : Int32)) (fun x => [some (.ref 67), some (.int p1), some (.int p2), some (.int p3), some (.int p4), some (.int p5), some (.int x)]) (fun x1 => ?_)
    refine P_l (fun hJ _ _ q => E_aload_n dX11_rules_62 rfl (E_iload dX11_rules_63 rfl q)) ?_
    refine P_l (pc2 := 85) (ls2 := [some (.ref 67), some (.int p1), some (.int p2), some (.int p3), some (.int p4), some (.int p5), none]) (st2 := [.int ((if x1 = 0 then 1 else (if (rI σ 67 24) = ((-1)) then 0 else 2) : Int32)), .ref 67]) (fun hJ _ _ hq => ?_) ?_
    · skip
      refine E_if_ne 72 dX11_rules_65 (by decide) (fun c_65_0 => ?_) (fun c_65_0 => ?_)
      · skip
        refine E_aload_n dX11_rules_72 rfl ?_
        refine E_getI clX11 24 (by decide) flX11_75 (Or.inl rfl) dX11_rules_73 (kd67 hJ.1.1) ?_
        refine E_iconst (v := (-1)) dX11_rules_76 (by decide) ?_
        refine E_icmp_eq 84 dX11_rules_77 (by decide) (fun c_77_1 => ?_) (fun c_77_1 => ?_)
        · skip
          refine E_iconst (v := 0) dX11_rules_84 (by decide) ?_
          simp only [if_neg c_65_0, if_pos c_77_1] at hq
          exact E_less (ls2 := [some (.ref 67), some (.int p1), some (.int p2), some (.int p3), some (.int p4), some (.int p5), none]) hq (rLe_at [some (.ref 67), some (.int p1), some (.int p2), some (.int p3), some (.int p4), some (.int p5), none] [some (.ref 67), some (.int p1), some (.int p2), some (.int p3), some (.int p4), some (.int p5), some (.int x1)] (And.intro rfl (And.intro rfl (And.intro rfl (And.intro rfl (And.intro rfl (And.intro rfl trivial)))))))
        · skip
          refine E_iconst (v := 2) dX11_rules_80 (by decide) ?_
          refine E_goto 85 dX11_rules_81 (by decide) ?_
          simp only [if_neg c_65_0, if_neg c_77_1] at hq
          exact E_less (ls2 := [some (.ref 67), some (.int p1), some (.int p2), some (.int p3), some (.int p4), some (.int p5), none]) hq (rLe_at [some (.ref 67), some (.int p1), some (.int p2), some (.int p3), some (.int p4), some (.int p5), none] [some (.ref 67), some (.int p1), some (.int p2), some (.int p3), some (.int p4), some (.int p5), some (.int x1)] (And.intro rfl (And.intro rfl (And.intro rfl (And.intro rfl (And.intro rfl (And.intro rfl trivial)))))))
      · skip
        refine E_iconst (v := 1) dX11_rules_68 (by decide) ?_
        refine E_goto 85 dX11_rules_69 (by decide) ?_
        simp only [if_pos c_65_0] at hq
        exact E_less (ls2 := [some (.ref 67), some (.int p1), some (.int p2), some (.int p3), some (.int p4), some (.int p5), none]) hq (rLe_at [some (.ref 67), some (.int p1), some (.int p2), some (.int p3), some (.int p4), some (.int p5), none] [some (.ref 67), some (.int p1), some (.int p2), some (.int p3), some (.int p4), some (.int p5), some (.int x1)] (And.intro rfl (And.intro rfl (And.intro rfl (And.intro rfl (And.intro rfl (And.intro rfl trivial)))))))
    · skip
      refine P_call (t := fun v => some (.int v)) (st2 := fun v => .int v :: []) (kc2 := 0) (ks2 := 0) (fun hJ => (ok_X11_holds (σ := σ) (p1 := (if x1 = 0 then 1 else (if (rI σ 67 24) = ((-1)) then 0 else 2) : Int32)) )) (fun hJ _ _ _ _ v τ1 hM q => E_callV (as := [.int ((if x1 = 0 then 1 else (if (rI σ 67 24) = ((-1)) then 0 else 2) : Int32))]) (b := 67) (st := []) hM (by decide) yfX11_holds mlX11_265 imX11_holds seX11_holds clX11 (kd67 hJ.1.1) rfl (Nat.le_of_ble_eq_true rfl) rfl dX11_rules_85 q) (by decide) (by decide) (fun v2 σ3 => ?_)
      refine P_if (fun hJ _ _ h1 h2 => E_if_eq 93 dX11_rules_88 (by decide) h1 h2) ?_ ?_
      · skip
        refine P_l (fun hJ _ _ q => E_aload_n dX11_rules_93 rfl (E_iload_n dX11_rules_94 rfl q)) ?_
        refine P_w (fun hJ _ _ q => E_putI clX11 1 (by decide) flX11_9 (Or.inl rfl) rfl dX11_rules_95 (kd67 hJ.1.1) q) (fun hJ => Sy_wI hJ.1) rfl rfl rfl (fun σ4 hσ4 => ?_)
        refine P_l (fun hJ _ _ q => E_aload_n dX11_rules_98 rfl (E_iload_n dX11_rules_99 rfl q)) ?_
        refine P_w (fun hJ _ _ q => E_putI clX11 2 (by decide) flX11_15 (Or.inl rfl) rfl dX11_rules_100 (kd67 hJ.1.1) q) (fun hJ => Sy_wI hJ.1) rfl rfl rfl (fun σ5 hσ5 => ?_)
        refine P_l (fun hJ _ _ q => E_aload_n dX11_rules_103 rfl (E_iload_n dX11_rules_104 rfl q)) ?_
        refine P_w (fun hJ _ _ q => E_putI clX11 3 (by decide) flX11_18 (Or.inl rfl) rfl dX11_rules_105 (kd67 hJ.1.1) q) (fun hJ => Sy_wI hJ.1) rfl rfl rfl (fun σ6 hσ6 => ?_)
        refine P_l (fun hJ _ _ q => E_aload_n dX11_rules_108 rfl (E_iload dX11_rules_109 rfl q)) ?_
        refine P_w (fun hJ _ _ q => E_putI clX11 4 (by decide) flX11_21 (Or.inl rfl) rfl dX11_rules_111 (kd67 hJ.1.1) q) (fun hJ => Sy_wI hJ.1) rfl rfl rfl (fun σ7 hσ7 => ?_)
        refine P_l (fun hJ _ _ q => E_aload_n dX11_rules_114 rfl (E_iload dX11_rules_115 rfl q)) ?_
        refine P_w (fun hJ _ _ q => E_putI clX11 5 (by decide) flX11_24 (Or.inl rfl) rfl dX11_rules_117 (kd67 hJ.1.1) q) (fun hJ => Sy_wI hJ.1) rfl rfl rfl (fun σ8 hσ8 => ?_)
        refine P_l (fun hJ _ _ q => E_aload_n dX11_rules_120 rfl q) ?_
        refine P_call (t := fun _ => none) (st2 := fun _ => []) (kc2 := 0) (ks2 := 0) (fun hJ => (ok_X11_empties (σ := σ8)  )) (fun hJ _ _ _ _ v τ1 hM q => E_callV (as := []) (b := 67) (st := []) hM (by decide) yfX11_empties mlX11_309 imX11_empties seX11_empties clX11 (kd67 hJ.1.1) rfl (Nat.le_of_ble_eq_true rfl) rfl dX11_rules_121 q) (by decide) (by decide) (fun v9 σ10 => ?_)
        refine P_l (fun hJ _ _ q => E_bipush (v := 8) dX11_rules_124 (by decide) (E_aload_n dX11_rules_126 rfl (E_getI clX11 1 (by decide) flX11_9 (Or.inl rfl) dX11_rules_127 (kd67 hJ.1.1) (E_imul dX11_rules_130 (E_aload_n dX11_rules_131 rfl (E_getI clX11 3 (by decide) flX11_18 (Or.inl rfl) dX11_rules_132 (kd67 hJ.1.1) (E_iadd dX11_rules_135 q))))))) ?_
        exact P_ret (fun _ _ => E_iret rfl dX11_rules_136)
      · skip
        refine P_l (fun hJ _ _ q => E_iconst (v := (-1)) dX11_rules_91 (by decide) q) ?_
        exact P_ret (fun _ _ => E_iret rfl dX11_rules_92)

def f_X11_player (σ : rS) (p1 : Int32) (p2 : Int32) : Option (Int32 × rS) := oB (f_X11_holds σ ((if (v_X11_in σ p1 0 1) = 0 then 1 else (if (v_X11_in σ p2 0 3) = 0 then 1 else (if (rI σ 67 6) = 4 then 2 else (if (rI σ 67 24) = ((-1)) then 0 else 2))) : Int32))) fun v1 σ2 => if v1 = 0 then (if inB (rI σ2 67 6) 4 then (oLet (wI σ2 68 (rI σ2 67 6 : Int32).toNatClampNeg p1) fun σ4 => if inB (rI σ4 67 6) 4 then (oLet (wI σ4 69 (rI σ4 67 6 : Int32).toNatClampNeg p2) fun σ6 => if inB (rI σ6 67 6) 4 then (oLet (wI σ6 74 (rI σ6 67 6 : Int32).toNatClampNeg (rI σ6 67 6)) fun σ8 => oLet (wI σ8 67 6 ((rI σ8 67 6) + 1)) fun σ9 => some (((rI σ9 67 6) - 1, σ9))) else none) else none) else none) else (some (((-1), σ2)))
set_option maxRecDepth 20000 in
set_option maxHeartbeats 2000000 in
theorem ok_X11_player {σ : rS} {p1 : Int32} {p2 : Int32}   : rFn Sy yX11_player mX11_player 1 [.ref 67, .int p1, .int p2] σ 0 0 (fun v => .inl (some (.int v))) (f_X11_player σ p1 p2) := by
  refine rF_of (ls := [some (.ref 67), some (.int p1), some (.int p2)]) yfX11_player rfl (Nat.le_of_ble_eq_true rfl) (fun o τ => ?_)
  unfold f_X11_player
  refine P_l (fun hJ _ _ q => E_aload_n dX11_player_0 rfl (E_aload_n dX11_player_1 rfl (E_iload_n dX11_player_2 rfl (E_iconst (v := 0) dX11_player_3 (by decide) (E_iconst (v := 1) dX11_player_4 (by decide) (E_callV (as := [.int p1, .int 0, .int 1]) (b := 67) (st := [.ref 67]) (ok_X11_in (σ := σ) (p1 := p1) (p2 := 0) (p3 := 1) hJ ) (by decide) yfX11_in mlX11_182 imX11_in seX11_in clX11 (kd67 hJ.1.1) rfl (Nat.le_of_ble_eq_true rfl) rfl dX11_player_5 q)))))) ?_
  refine P_l (pc2 := 46) (ls2 := [some (.ref 67), some (.int p1), some (.int p2)]) (st2 := [.int ((if (v_X11_in σ p1 0 1) = 0 then 1 else (if (v_X11_in σ p2 0 3) = 0 then 1 else (if (rI σ 67 6) = 4 then 2 else (if (rI σ 67 24) = ((-1)) then 0 else 2))) : Int32)), .ref 67]) (fun hJ _ _ hq => ?_) ?_
  · skip
    refine E_if_eq 21 dX11_player_8 (by decide) (fun c_8_0 => ?_) (fun c_8_0 => ?_)
    · skip
      refine E_iconst (v := 1) dX11_player_21 (by decide) ?_
      refine E_goto 46 dX11_player_22 (by decide) ?_
      simp only [if_pos c_8_0] at hq
      exact hq
    · skip
      refine E_aload_n dX11_player_11 rfl ?_
      refine E_iload_n dX11_player_12 rfl ?_
      refine E_iconst (v := 0) dX11_player_13 (by decide) ?_
      refine E_iconst (v := 3) dX11_player_14 (by decide) ?_
      refine E_callV (as := [.int p2, .int 0, .int 3]) (b := 67) (st := [.ref 67]) (ok_X11_in (σ := σ) (p1 := p2) (p2 := 0) (p3 := 3) hJ ) (by decide) yfX11_in mlX11_182 imX11_in seX11_in clX11 (kd67 hJ.1.1) rfl (Nat.le_of_ble_eq_true rfl) rfl dX11_player_15 ?_
      refine E_if_ne 25 dX11_player_18 (by decide) (fun c_18_1 => ?_) (fun c_18_1 => ?_)
      · skip
        refine E_aload_n dX11_player_25 rfl ?_
        refine E_getI clX11 6 (by decide) flX11_186 (Or.inl rfl) dX11_player_26 (kd67 hJ.1.1) ?_
        refine E_iconst (v := 4) dX11_player_29 (by decide) ?_
        refine E_icmp_eq 41 dX11_player_30 (by decide) (fun c_30_2 => ?_) (fun c_30_2 => ?_)
        · skip
          refine E_iconst (v := 2) dX11_player_41 (by decide) ?_
          refine E_goto 46 dX11_player_42 (by decide) ?_
          simp only [if_neg c_8_0, if_neg c_18_1, if_pos c_30_2] at hq
          exact hq
        · skip
          refine E_aload_n dX11_player_33 rfl ?_
          refine E_getI clX11 24 (by decide) flX11_75 (Or.inl rfl) dX11_player_34 (kd67 hJ.1.1) ?_
          refine E_iconst (v := (-1)) dX11_player_37 (by decide) ?_
          refine E_icmp_eq 45 dX11_player_38 (by decide) (fun c_38_3 => ?_) (fun c_38_3 => ?_)
          · skip
            refine E_iconst (v := 0) dX11_player_45 (by decide) ?_
            simp only [if_neg c_8_0, if_neg c_18_1, if_neg c_30_2, if_pos c_38_3] at hq
            exact hq
          · skip
            refine E_iconst (v := 2) dX11_player_41 (by decide) ?_
            refine E_goto 46 dX11_player_42 (by decide) ?_
            simp only [if_neg c_8_0, if_neg c_18_1, if_neg c_30_2, if_neg c_38_3] at hq
            exact hq
      · skip
        refine E_iconst (v := 1) dX11_player_21 (by decide) ?_
        refine E_goto 46 dX11_player_22 (by decide) ?_
        simp only [if_neg c_8_0, if_pos c_18_1] at hq
        exact hq
  · skip
    refine P_call (t := fun v => some (.int v)) (st2 := fun v => .int v :: []) (kc2 := 0) (ks2 := 0) (fun hJ => (ok_X11_holds (σ := σ) (p1 := (if (v_X11_in σ p1 0 1) = 0 then 1 else (if (v_X11_in σ p2 0 3) = 0 then 1 else (if (rI σ 67 6) = 4 then 2 else (if (rI σ 67 24) = ((-1)) then 0 else 2))) : Int32)) )) (fun hJ _ _ _ _ v τ1 hM q => E_callV (as := [.int ((if (v_X11_in σ p1 0 1) = 0 then 1 else (if (v_X11_in σ p2 0 3) = 0 then 1 else (if (rI σ 67 6) = 4 then 2 else (if (rI σ 67 24) = ((-1)) then 0 else 2))) : Int32))]) (b := 67) (st := []) hM (by decide) yfX11_holds mlX11_265 imX11_holds seX11_holds clX11 (kd67 hJ.1.1) rfl (Nat.le_of_ble_eq_true rfl) rfl dX11_player_46 q) (by decide) (by decide) (fun v1 σ2 => ?_)
    refine P_if (fun hJ _ _ h1 h2 => E_if_eq 54 dX11_player_49 (by decide) h1 h2) ?_ ?_
    · skip
      refine P_l (fun hJ _ _ q => E_aload_n dX11_player_54 rfl (E_getR (b := 68) clX11 7 (by decide) flX11_27 (Or.inr ⟨_, rfl⟩) dX11_player_55 (kd67 hJ.1.1) (rf67_7 hJ.1.1) (by decide) (E_aload_n dX11_player_58 rfl (E_getI clX11 6 (by decide) flX11_186 (Or.inl rfl) dX11_player_59 (kd67 hJ.1.1) (E_iload_n dX11_player_62 rfl q))))) ?_
      refine P_g (fun g3 => ?_)
      refine P_w (fun hJ _ _ q => E_iast dX11_player_63 (kd68 hJ.1.1) (by decide) (inB_vp g3) q) (fun hJ => Sy_wI hJ.1) rfl rfl rfl (fun σ4 hσ4 => ?_)
      refine P_l (fun hJ _ _ q => E_aload_n dX11_player_64 rfl (E_getR (b := 69) clX11 8 (by decide) flX11_31 (Or.inr ⟨_, rfl⟩) dX11_player_65 (kd67 hJ.1.1) (rf67_8 hJ.1.1) (by decide) (E_aload_n dX11_player_68 rfl (E_getI clX11 6 (by decide) flX11_186 (Or.inl rfl) dX11_player_69 (kd67 hJ.1.1) (E_iload_n dX11_player_72 rfl q))))) ?_
      refine P_g (fun g5 => ?_)
      refine P_w (fun hJ _ _ q => E_iast dX11_player_73 (kd69 hJ.1.1) (by decide) (inB_vp g5) q) (fun hJ => Sy_wI hJ.1) rfl rfl rfl (fun σ6 hσ6 => ?_)
      refine P_l (fun hJ _ _ q => E_aload_n dX11_player_74 rfl (E_getR (b := 74) clX11 13 (by decide) flX11_47 (Or.inr ⟨_, rfl⟩) dX11_player_75 (kd67 hJ.1.1) (rf67_13 hJ.1.1) (by decide) (E_aload_n dX11_player_78 rfl (E_getI clX11 6 (by decide) flX11_186 (Or.inl rfl) dX11_player_79 (kd67 hJ.1.1) (E_aload_n dX11_player_82 rfl (E_getI clX11 6 (by decide) flX11_186 (Or.inl rfl) dX11_player_83 (kd67 hJ.1.1) q)))))) ?_
      refine P_g (fun g7 => ?_)
      refine P_w (fun hJ _ _ q => E_iast dX11_player_86 (kd74 hJ.1.1) (by decide) (inB_vp g7) q) (fun hJ => Sy_wI hJ.1) rfl rfl rfl (fun σ8 hσ8 => ?_)
      refine P_l (fun hJ _ _ q => E_aload_n dX11_player_87 rfl (E_dup dX11_player_88 rfl (E_getI clX11 6 (by decide) flX11_186 (Or.inl rfl) dX11_player_89 (kd67 hJ.1.1) (E_iconst (v := 1) dX11_player_92 (by decide) (E_iadd dX11_player_93 q))))) ?_
      refine P_w (fun hJ _ _ q => E_putI clX11 6 (by decide) flX11_186 (Or.inl rfl) rfl dX11_player_94 (kd67 hJ.1.1) q) (fun hJ => Sy_wI hJ.1) rfl rfl rfl (fun σ9 hσ9 => ?_)
      refine P_l (fun hJ _ _ q => E_aload_n dX11_player_97 rfl (E_getI clX11 6 (by decide) flX11_186 (Or.inl rfl) dX11_player_98 (kd67 hJ.1.1) (E_iconst (v := 1) dX11_player_101 (by decide) (E_isub dX11_player_102 q)))) ?_
      exact P_ret (fun _ _ => E_iret rfl dX11_player_103)
    · skip
      refine P_l (fun hJ _ _ q => E_iconst (v := (-1)) dX11_player_52 (by decide) q) ?_
      exact P_ret (fun _ _ => E_iret rfl dX11_player_53)

