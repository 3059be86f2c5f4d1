def b_X11_laysUses_c_22 (s2 : Int32 × rS) (s4 : Int32 × rS) (s8 : Int32 × rS) : Option (((((Unit × rS) ⊕ (Int32 × rS)) ⊕ (Int32 × rS)) ⊕ (rS)) ⊕ (Int32 × rS)) := if rN s8.2 = 114 then (if 4 ≤ s8.1 then (some (.inl (.inr s8.2))) else (if rR s8.2 67 42 = 93 then (if inB ((4 * (rI s8.2 67 44)) + s8.1) 84 then (oLet (wI s8.2 93 ((4 * (rI s8.2 67 44)) + s8.1 : Int32).toNatClampNeg (((if s2.1 = 5 then 1 else (if (s2.1 - 1) = s8.1 then 0 else 1) : Int32)) + ((if s4.1 ≤ 0 then 0 else (if s4.1 = 5 then 1 else (if (s4.1 - 1) = s8.1 then 0 else 1)) : Int32)))) fun σ12 => some (.inr ((s8.1 + 1, σ12)))) else none) else none)) else none
def b_X11_laysUses_c_15 (s2 : Int32 × rS) (s4 : Int32 × rS) : Option (((Unit × rS) ⊕ (Int32 × rS)) ⊕ (Int32 × rS)) := if rN s4.2 = 114 then (if s2.1 < s4.1 then (some (.inl (.inr ((s2.1 + 1, s4.2))))) else (oJoin (oLoop (b_X11_laysUses_c_22 s2 s4) oFuel ((0, s4.2))) fun j7 => if rN j7 = 114 then (if rR j7 67 43 = 94 then (if inB (rI j7 67 44) 21 then (oLet (wI j7 94 (rI j7 67 44 : Int32).toNatClampNeg ((if s4.1 ≤ 0 then 1 else 2 : Int32))) fun σ16 => oLet (wI σ16 67 44 ((rI σ16 67 44) + 1)) fun σ17 => some (.inr ((s4.1 + 1, σ17)))) else none) else none) else none)) else none
def b_X11_laysUses_c_7 (s2 : Int32 × rS) : Option ((Unit × rS) ⊕ (Int32 × rS)) := if rN s2.2 = 114 then (if 6 ≤ s2.1 then (some (.inl (((), s2.2)))) else (oLoop (b_X11_laysUses_c_15 s2) oFuel ((0, s2.2)))) else none
def f_X11_laysUses_c (σ : rS) : Option (Unit × rS) := oLet (wI σ 67 44 1) fun σ1 => oLoop (b_X11_laysUses_c_7) oFuel ((1, σ1))
set_option maxRecDepth 20000 in
set_option maxHeartbeats 2000000 in
theorem ok_X11_laysUses_c {σ : rS}  (hr : rN σ = 114) : rFn PSy yX11_laysUses mX11_laysUses 0 [.ref 67] σ 0 0 (fun _ => .inl none) (f_X11_laysUses_c σ) := by
  refine rF_of (ls := [some (.ref 67), none, none, none]) yfX11_laysUses rfl (Nat.le_of_ble_eq_true rfl) (fun o τ => ?_)
  unfold f_X11_laysUses_c
  refine P_l (fun hJ _ _ q => E_aload_n dX11_laysUses_0 rfl (E_iconst (v := 1) dX11_laysUses_1 (by decide) q)) ?_
  refine P_wc (fun hJ _ _ q => E_putI clX11 44 (by decide) flX11_189 (Or.inl rfl) rfl dX11_laysUses_2 (PSy_k (n := 114) (i := 67) (q := (13, 0)) hJ.1 hr (by decide) (by decide)) q) (fun hJ => PSy_wI hJ.1) rfl rfl rfl (fun σ1 hσ1 => ?_)
  refine P_l (fun hJ _ _ q => E_iconst (v := 1) dX11_laysUses_5 (by decide) (E_istore_n (ls2 := [some (.ref 67), some (.int 1), none, none]) dX11_laysUses_6 (by decide) rfl q)) ?_
  refine P_loop (fun s2 => [some (.ref 67), some (.int s2.1), none, none]) (fun s2 => s2.2) (fun s2 => ?_) _ ((1, σ1))
  unfold b_X11_laysUses_c_7
  refine P_g (fun r3 => ?_)
  refine P_l (fun hJ _ _ q => E_iload_n dX11_laysUses_7 rfl (E_bipush (v := 6) dX11_laysUses_8 (by decide) q)) ?_
  refine P_if (fun hJ _ _ h1 h2 => E_icmp_ge 125 dX11_laysUses_10 (by decide) h1 h2) ?_ ?_
  · skip
    exact P_inl (P_ret (fun _ _ => E_vret rfl dX11_laysUses_125))
  · skip
    refine P_l (fun hJ _ _ q => E_iconst (v := 0) dX11_laysUses_13 (by decide) (E_istore_n (ls2 := [some (.ref 67), some (.int s2.1), some (.int 0), none]) dX11_laysUses_14 (by decide) rfl q)) ?_
    refine P_loop (fun s4 => [some (.ref 67), some (.int s2.1), some (.int s4.1), none]) (fun s4 => s4.2) (fun s4 => ?_) _ ((0, s2.2))
    unfold b_X11_laysUses_c_15
    refine P_g (fun r5 => ?_)
    refine P_l (fun hJ _ _ q => E_iload_n dX11_laysUses_15 rfl (E_iload_n dX11_laysUses_16 rfl q)) ?_
    refine P_if (fun hJ _ _ h1 h2 => E_icmp_gt 119 dX11_laysUses_17 (by decide) h1 h2) ?_ ?_
    · skip
      refine P_l (fun hJ _ _ q => E_iinc (v := 1) (ls2 := [some (.ref 67), some (.int (s2.1 + 1)), some (.int s4.1), none]) dX11_laysUses_119 rfl (by decide) (by decide) rfl (E_goto 7 dX11_laysUses_122 (by decide) q)) ?_
      refine P_less [some (.ref 67), some (.int (s2.1 + 1)), none, none] (And.intro rfl (And.intro rfl trivial)) ?_
      exact P_inl (P_back ((s2.1 + 1, s4.2)))
    · skip
      refine P_l (fun hJ _ _ q => E_iconst (v := 0) dX11_laysUses_20 (by decide) (E_istore_n (ls2 := [some (.ref 67), some (.int s2.1), some (.int s4.1), some (.int 0)]) dX11_laysUses_21 (by decide) rfl q)) ?_
      refine P_join (pc2 := 85) (fun j7 => [some (.ref 67), some (.int s2.1), some (.int s4.1), none]) (fun j7 => []) (fun j7 => j7) ?_ (fun j7 => ?_)
      · skip
        refine P_loop (fun s8 => [some (.ref 67), some (.int s2.1), some (.int s4.1), some (.int s8.1)]) (fun s8 => s8.2) (fun s8 => ?_) _ ((0, s4.2))
        unfold b_X11_laysUses_c_22
        refine P_g (fun r9 => ?_)
        refine P_l (fun hJ _ _ q => E_iload_n dX11_laysUses_22 rfl (E_iconst (v := 4) dX11_laysUses_23 (by decide) q)) ?_
        refine P_if (fun hJ _ _ h1 h2 => E_icmp_ge 85 dX11_laysUses_24 (by decide) h1 h2) ?_ ?_
        · skip
          refine P_less [some (.ref 67), some (.int s2.1), some (.int s4.1), none] (And.intro rfl (And.intro rfl (And.intro rfl trivial))) ?_
          exact P_inl (P_back s8.2)
        · skip
          refine P_l (fun hJ _ _ q => E_aload_n dX11_laysUses_27 rfl q) ?_
          refine P_g (fun g10 => ?_)
          refine P_l (fun hJ _ _ q => E_getR (b := 93) clX11 42 (by decide) flX11_112 (Or.inr ⟨_, rfl⟩) dX11_laysUses_28 (PSy_k (n := 114) (i := 67) (q := (13, 0)) hJ.1 r9 (by decide) (by decide)) g10 (by decide) (E_iconst (v := 4) dX11_laysUses_31 (by decide) (E_aload_n dX11_laysUses_32 rfl (E_getI clX11 44 (by decide) flX11_189 (Or.inl rfl) dX11_laysUses_33 (PSy_k (n := 114) (i := 67) (q := (13, 0)) hJ.1 r9 (by decide) (by decide)) (E_imul dX11_laysUses_36 (E_iload_n dX11_laysUses_37 rfl (E_iadd dX11_laysUses_38 (E_iload_n dX11_laysUses_39 rfl (E_iconst (v := 5) dX11_laysUses_40 (by decide) q))))))))) ?_
          refine P_l (pc2 := 56) (ls2 := [some (.ref 67), some (.int s2.1), some (.int s4.1), some (.int s8.1)]) (st2 := [.int ((if s2.1 = 5 then 1 else (if (s2.1 - 1) = s8.1 then 0 else 1) : Int32)), .int ((4 * (rI s8.2 67 44)) + s8.1), .ref 93]) (fun hJ _ _ hq => ?_) ?_
          · skip
            refine E_icmp_eq 51 dX11_laysUses_41 (by decide) (fun c_41_0 => ?_) (fun c_41_0 => ?_)
            · skip
              refine E_iconst (v := 1) dX11_laysUses_51 (by decide) ?_
              refine E_goto 56 dX11_laysUses_52 (by decide) ?_
              simp only [if_pos c_41_0] at hq
              exact hq
            · skip
              refine E_iload_n dX11_laysUses_44 rfl ?_
              refine E_iconst (v := 1) dX11_laysUses_45 (by decide) ?_
              refine E_isub dX11_laysUses_46 ?_
              refine E_iload_n dX11_laysUses_47 rfl ?_
              refine E_icmp_eq 55 dX11_laysUses_48 (by decide) (fun c_48_1 => ?_) (fun c_48_1 => ?_)
              · skip
                refine E_iconst (v := 0) dX11_laysUses_55 (by decide) ?_
                simp only [if_neg c_41_0, if_pos c_48_1] at hq
                exact hq
              · skip
                refine E_iconst (v := 1) dX11_laysUses_51 (by decide) ?_
                refine E_goto 56 dX11_laysUses_52 (by decide) ?_
                simp only [if_neg c_41_0, if_neg c_48_1] at hq
                exact hq
          · skip
            refine P_l (fun hJ _ _ q => E_iload_n dX11_laysUses_56 rfl q) ?_
            refine P_l (pc2 := 77) (ls2 := [some (.ref 67), some (.int s2.1), some (.int s4.1), some (.int s8.1)]) (st2 := [.int ((if s4.1 ≤ 0 then 0 else (if s4.1 = 5 then 1 else (if (s4.1 - 1) = s8.1 then 0 else 1)) : Int32)), .int ((if s2.1 = 5 then 1 else (if (s2.1 - 1) = s8.1 then 0 else 1) : Int32)), .int ((4 * (rI s8.2 67 44)) + s8.1), .ref 93]) (fun hJ _ _ hq => ?_) ?_
            · skip
              refine E_if_le 76 dX11_laysUses_57 (by decide) (fun c_57_0 => ?_) (fun c_57_0 => ?_)
              · skip
                refine E_iconst (v := 0) dX11_laysUses_76 (by decide) ?_
                simp only [if_pos c_57_0] at hq
                exact hq
              · skip
                refine E_iload_n dX11_laysUses_60 rfl ?_
                refine E_iconst (v := 5) dX11_laysUses_61 (by decide) ?_
                refine E_icmp_eq 72 dX11_laysUses_62 (by decide) (fun c_62_1 => ?_) (fun c_62_1 => ?_)
                · skip
                  refine E_iconst (v := 1) dX11_laysUses_72 (by decide) ?_
                  refine E_goto 77 dX11_laysUses_73 (by decide) ?_
                  simp only [if_neg c_57_0, if_pos c_62_1] at hq
                  exact hq
                · skip
                  refine E_iload_n dX11_laysUses_65 rfl ?_
                  refine E_iconst (v := 1) dX11_laysUses_66 (by decide) ?_
                  refine E_isub dX11_laysUses_67 ?_
                  refine E_iload_n dX11_laysUses_68 rfl ?_
                  refine E_icmp_eq 76 dX11_laysUses_69 (by decide) (fun c_69_2 => ?_) (fun c_69_2 => ?_)
                  · skip
                    refine E_iconst (v := 0) dX11_laysUses_76 (by decide) ?_
                    simp only [if_neg c_57_0, if_neg c_62_1, if_pos c_69_2] at hq
                    exact hq
                  · skip
                    refine E_iconst (v := 1) dX11_laysUses_72 (by decide) ?_
                    refine E_goto 77 dX11_laysUses_73 (by decide) ?_
                    simp only [if_neg c_57_0, if_neg c_62_1, if_neg c_69_2] at hq
                    exact hq
            · skip
              refine P_l (fun hJ _ _ q => E_iadd dX11_laysUses_77 q) ?_
              refine P_g (fun g11 => ?_)
              refine P_wc (fun hJ _ _ q => E_iast dX11_laysUses_78 (PSy_k (n := 114) (i := 93) (q := (0, 84)) hJ.1 r9 (by decide) (by decide)) (by decide) (inB_vp g11) q) (fun hJ => PSy_wI hJ.1) rfl rfl rfl (fun σ12 hσ12 => ?_)
              refine P_l (fun hJ _ _ q => E_iinc (v := 1) (ls2 := [some (.ref 67), some (.int s2.1), some (.int s4.1), some (.int (s8.1 + 1))]) dX11_laysUses_79 rfl (by decide) (by decide) rfl (E_goto 22 dX11_laysUses_82 (by decide) q)) ?_
              exact P_back ((s8.1 + 1, σ12))
      · skip
        refine P_g (fun r13 => ?_)
        refine P_l (fun hJ _ _ q => E_aload_n dX11_laysUses_85 rfl q) ?_
        refine P_g (fun g14 => ?_)
        refine P_l (fun hJ _ _ q => E_getR (b := 94) clX11 43 (by decide) flX11_115 (Or.inr ⟨_, rfl⟩) dX11_laysUses_86 (PSy_k (n := 114) (i := 67) (q := (13, 0)) hJ.1 r13 (by decide) (by decide)) g14 (by decide) (E_aload_n dX11_laysUses_89 rfl (E_getI clX11 44 (by decide) flX11_189 (Or.inl rfl) dX11_laysUses_90 (PSy_k (n := 114) (i := 67) (q := (13, 0)) hJ.1 r13 (by decide) (by decide)) (E_iload_n dX11_laysUses_93 rfl q)))) ?_
        refine P_l (pc2 := 102) (ls2 := [some (.ref 67), some (.int s2.1), some (.int s4.1), none]) (st2 := [.int ((if s4.1 ≤ 0 then 1 else 2 : Int32)), .int (rI j7 67 44), .ref 94]) (fun hJ _ _ hq => ?_) ?_
        · skip
          refine E_if_le 101 dX11_laysUses_94 (by decide) (fun c_94_0 => ?_) (fun c_94_0 => ?_)
          · skip
            refine E_iconst (v := 1) dX11_laysUses_101 (by decide) ?_
            simp only [if_pos c_94_0] at hq
            exact hq
          · skip
            refine E_iconst (v := 2) dX11_laysUses_97 (by decide) ?_
            refine E_goto 102 dX11_laysUses_98 (by decide) ?_
            simp only [if_neg c_94_0] at hq
            exact hq
        · skip
          refine P_g (fun g15 => ?_)
          refine P_wc (fun hJ _ _ q => E_iast dX11_laysUses_102 (PSy_k (n := 114) (i := 94) (q := (0, 21)) hJ.1 r13 (by decide) (by decide)) (by decide) (inB_vp g15) q) (fun hJ => PSy_wI hJ.1) rfl rfl rfl (fun σ16 hσ16 => ?_)
          refine P_l (fun hJ _ _ q => E_aload_n dX11_laysUses_103 rfl (E_dup dX11_laysUses_104 rfl (E_getI clX11 44 (by decide) flX11_189 (Or.inl rfl) dX11_laysUses_105 (PSy_k (n := 114) (i := 67) (q := (13, 0)) hJ.1 (hσ16.trans r13) (by decide) (by decide)) (E_iconst (v := 1) dX11_laysUses_108 (by decide) (E_iadd dX11_laysUses_109 q))))) ?_
          refine P_wc (fun hJ _ _ q => E_putI clX11 44 (by decide) flX11_189 (Or.inl rfl) rfl dX11_laysUses_110 (PSy_k (n := 114) (i := 67) (q := (13, 0)) hJ.1 (hσ16.trans r13) (by decide) (by decide)) q) (fun hJ => PSy_wI hJ.1) rfl rfl rfl (fun σ17 hσ17 => ?_)
          refine P_l (fun hJ _ _ q => E_iinc (v := 1) (ls2 := [some (.ref 67), some (.int s2.1), some (.int (s4.1 + 1)), none]) dX11_laysUses_113 rfl (by decide) (by decide) rfl (E_goto 15 dX11_laysUses_116 (by decide) q)) ?_
          exact P_back ((s4.1 + 1, σ17))

def b_X11_init_415 (s100 : Int32 × Int32 × rS) (s108 : Int32 × Int32 × rS) : Option (((Unit × rS) ⊕ (Int32 × Int32 × rS)) ⊕ (Int32 × Int32 × rS)) := if rN s108.2.2 = 114 then (if 5 ≤ s108.2.1 then (some (.inl (.inr ((s108.1, s100.2.1 + 1, s108.2.2))))) else (if rR s108.2.2 67 38 = 89 then (if inB s108.1 16 then (oLet (wI s108.2.2 89 (s108.1 : Int32).toNatClampNeg s100.2.1) fun σ112 => if rR σ112 67 39 = 90 then (oLet (wI σ112 90 (s108.1 : Int32).toNatClampNeg s108.2.1) fun σ114 => some (.inr ((s108.1 + 1, s108.2.1 + 1, σ114)))) else none) else none) else none)) else none
def b_X11_init_401 (s100 : Int32 × Int32 × rS) : Option ((Unit × rS) ⊕ (Int32 × Int32 × rS)) := if rN s100.2.2 = 114 then (if 5 ≤ s100.2.1 then (oB (f_X11_laysUses_c s100.2.2) fun _ σ103 => if rN σ103 = 114 then (some (.inl (((), σ103)))) else none) else (if rR s100.2.2 67 39 = 90 then (if inB s100.2.1 16 then (oLet (wI s100.2.2 90 (s100.2.1 : Int32).toNatClampNeg s100.2.1) fun σ107 => oLoop (b_X11_init_415 s100) oFuel ((s100.1, s100.2.1, σ107))) else none) else none)) else none
def f_X11_init (σ : rS) : Option (Unit × rS) := oLet (wI σ 67 1 13) fun σ1 => oLet (wI σ1 67 2 3) fun σ2 => oLet (wI σ2 67 3 2) fun σ3 => oLet (wI σ3 67 4 30) fun σ4 => oLet (wI σ4 67 5 3) fun σ5 => if uC σ5 + 1 ≤ bC ∧ uS σ5 + 4 ≤ bS then (oLet (wN σ5 (0, 4)) fun σ6 => oLet (wR σ6 67 7 68) fun σ7 => if uC σ7 + 1 ≤ bC ∧ uS σ7 + 4 ≤ bS then (oLet (wN σ7 (0, 4)) fun σ8 => oLet (wR σ8 67 8 69) fun σ9 => if uC σ9 + 1 ≤ bC ∧ uS σ9 + 4 ≤ bS then (oLet (wN σ9 (0, 4)) fun σ10 => oLet (wR σ10 67 9 70) fun σ11 => if uC σ11 + 1 ≤ bC ∧ uS σ11 + 4 ≤ bS then (oLet (wN σ11 (0, 4)) fun σ12 => oLet (wR σ12 67 10 71) fun σ13 => if uC σ13 + 1 ≤ bC ∧ uS σ13 + 4 ≤ bS then (oLet (wN σ13 (2, 4)) fun σ14 => oLet (wR σ14 67 11 72) fun σ15 => if uC σ15 + 1 ≤ bC ∧ uS σ15 + 4 ≤ bS then (oLet (wN σ15 (0, 4)) fun σ16 => oLet (wR σ16 67 12 73) fun σ17 => if uC σ17 + 1 ≤ bC ∧ uS σ17 + 4 ≤ bS then (oLet (wN σ17 (0, 4)) fun σ18 => oLet (wR σ18 67 13 74) fun σ19 => if uC σ19 + 1 ≤ bC ∧ uS σ19 + 4 ≤ bS then (oLet (wN σ19 (1, 4)) fun σ20 => oLet (wR σ20 67 14 75) fun σ21 => if uC σ21 + 1 ≤ bC ∧ uS σ21 + 4 ≤ bS then (oLet (wN σ21 (2, 4)) fun σ22 => oLet (wR σ22 67 15 76) fun σ23 => if uC σ23 + 1 ≤ bC ∧ uS σ23 + 4 ≤ bS then (oLet (wN σ23 (0, 4)) fun σ24 => oLet (wR σ24 67 16 77) fun σ25 => if uC σ25 + 1 ≤ bC ∧ uS σ25 + 208 ≤ bS then (oLet (wN σ25 (0, 208)) fun σ26 => oLet (wR σ26 67 17 78) fun σ27 => if uC σ27 + 1 ≤ bC ∧ uS σ27 + 212 ≤ bS then (oLet (wN σ27 (0, 212)) fun σ28 => oLet (wR σ28 67 18 79) fun σ29 => if uC σ29 + 1 ≤ bC ∧ uS σ29 + 52 ≤ bS then (oLet (wN σ29 (0, 52)) fun σ30 => oLet (wR σ30 67 19 80) fun σ31 => if uC σ31 + 1 ≤ bC ∧ uS σ31 + 52 ≤ bS then (oLet (wN σ31 (0, 52)) fun σ32 => oLet (wR σ32 67 20 81) fun σ33 => if uC σ33 + 1 ≤ bC ∧ uS σ33 + 53 ≤ bS then (oLet (wN σ33 (0, 53)) fun σ34 => oLet (wR σ34 67 21 82) fun σ35 => oLet (wI σ35 67 24 ((-1))) fun σ36 => oLet (wI σ36 67 27 ((-1))) fun σ37 => if uC σ37 + 1 ≤ bC ∧ uS σ37 + 128 ≤ bS then (oLet (wN σ37 (0, 128)) fun σ38 => oLet (wR σ38 67 28 83) fun σ39 => if uC σ39 + 1 ≤ bC ∧ uS σ39 + 128 ≤ bS then (oLet (wN σ39 (0, 128)) fun σ40 => oLet (wR σ40 67 29 84) fun σ41 => if uC σ41 + 1 ≤ bC ∧ uS σ41 + 100000 ≤ bS then (oLet (wN σ41 (0, 100000)) fun σ42 => oLet (wR σ42 67 31 85) fun σ43 => if uC σ43 + 1 ≤ bC ∧ uS σ43 + 40 ≤ bS then (oLet (wN σ43 (0, 40)) fun σ44 => oLet (wR σ44 67 33 86) fun σ45 => if uC σ45 + 1 ≤ bC ∧ uS σ45 + 40 ≤ bS then (oLet (wN σ45 (0, 40)) fun σ46 => oLet (wR σ46 67 35 87) fun σ47 => if uC σ47 + 1 ≤ bC ∧ uS σ47 + 40 ≤ bS then (oLet (wN σ47 (0, 40)) fun σ48 => oLet (wR σ48 67 36 88) fun σ49 => if uC σ49 + 1 ≤ bC ∧ uS σ49 + 16 ≤ bS then (oLet (wN σ49 (0, 16)) fun σ50 => oLet (wR σ50 67 38 89) fun σ51 => if uC σ51 + 1 ≤ bC ∧ uS σ51 + 16 ≤ bS then (oLet (wN σ51 (0, 16)) fun σ52 => oLet (wR σ52 67 39 90) fun σ53 => if uC σ53 + 1 ≤ bC ∧ uS σ53 + 52 ≤ bS then (oLet (wN σ53 (0, 52)) fun σ54 => oLet (wR σ54 67 40 91) fun σ55 => if uC σ55 + 1 ≤ bC ∧ uS σ55 + 52 ≤ bS then (oLet (wN σ55 (0, 52)) fun σ56 => oLet (wR σ56 67 41 92) fun σ57 => if uC σ57 + 1 ≤ bC ∧ uS σ57 + 84 ≤ bS then (oLet (wN σ57 (0, 84)) fun σ58 => oLet (wR σ58 67 42 93) fun σ59 => if uC σ59 + 1 ≤ bC ∧ uS σ59 + 21 ≤ bS then (oLet (wN σ59 (0, 21)) fun σ60 => oLet (wR σ60 67 43 94) fun σ61 => if uC σ61 + 1 ≤ bC ∧ uS σ61 + 65536 ≤ bS then (oLet (wN σ61 (1, 65536)) fun σ62 => oLet (wR σ62 67 45 95) fun σ63 => if uC σ63 + 1 ≤ bC ∧ uS σ63 + 65536 ≤ bS then (oLet (wN σ63 (1, 65536)) fun σ64 => oLet (wR σ64 67 46 96) fun σ65 => if uC σ65 + 1 ≤ bC ∧ uS σ65 + 65536 ≤ bS then (oLet (wN σ65 (1, 65536)) fun σ66 => oLet (wR σ66 67 47 97) fun σ67 => if uC σ67 + 1 ≤ bC ∧ uS σ67 + 65536 ≤ bS then (oLet (wN σ67 (2, 65536)) fun σ68 => oLet (wR σ68 67 48 98) fun σ69 => if uC σ69 + 1 ≤ bC ∧ uS σ69 + 65536 ≤ bS then (oLet (wN σ69 (0, 65536)) fun σ70 => oLet (wR σ70 67 49 99) fun σ71 => if uC σ71 + 1 ≤ bC ∧ uS σ71 + 65536 ≤ bS then (oLet (wN σ71 (1, 65536)) fun σ72 => oLet (wR σ72 67 51 100) fun σ73 => if uC σ73 + 1 ≤ bC ∧ uS σ73 + 65536 ≤ bS then (oLet (wN σ73 (1, 65536)) fun σ74 => oLet (wR σ74 67 52 101) fun σ75 => if uC σ75 + 1 ≤ bC ∧ uS σ75 + 65536 ≤ bS then (oLet (wN σ75 (1, 65536)) fun σ76 => oLet (wR σ76 67 53 102) fun σ77 => if uC σ77 + 1 ≤ bC ∧ uS σ77 + 65536 ≤ bS then (oLet (wN σ77 (2, 65536)) fun σ78 => oLet (wR σ78 67 54 103) fun σ79 => if uC σ79 + 1 ≤ bC ∧ uS σ79 + 65536 ≤ bS then (oLet (wN σ79 (0, 65536)) fun σ80 => oLet (wR σ80 67 55 104) fun σ81 => if uC σ81 + 1 ≤ bC ∧ uS σ81 + 4 ≤ bS then (oLet (wN σ81 (0, 4)) fun σ82 => oLet (wR σ82 67 57 105) fun σ83 => if uC σ83 + 1 ≤ bC ∧ uS σ83 + 4 ≤ bS then (oLet (wN σ83 (0, 4)) fun σ84 => oLet (wR σ84 67 58 106) fun σ85 => if uC σ85 + 1 ≤ bC ∧ uS σ85 + 4 ≤ bS then (oLet (wN σ85 (0, 4)) fun σ86 => oLet (wR σ86 67 59 107) fun σ87 => if uC σ87 + 1 ≤ bC ∧ uS σ87 + 4 ≤ bS then (oLet (wN σ87 (0, 4)) fun σ88 => oLet (wR σ88 67 60 108) fun σ89 => if uC σ89 + 1 ≤ bC ∧ uS σ89 + 52 ≤ bS then (oLet (wN σ89 (0, 52)) fun σ90 => oLet (wR σ90 67 64 109) fun σ91 => if uC σ91 + 1 ≤ bC ∧ uS σ91 + 64 ≤ bS then (oLet (wN σ91 (0, 64)) fun σ92 => oLet (wR σ92 67 66 110) fun σ93 => if uC σ93 + 1 ≤ bC ∧ uS σ93 + 64 ≤ bS then (oLet (wN σ93 (0, 64)) fun σ94 => oLet (wR σ94 67 67 111) fun σ95 => if uC σ95 + 1 ≤ bC ∧ uS σ95 + 4 ≤ bS then (oLet (wN σ95 (0, 4)) fun σ96 => oLet (wR σ96 67 68 112) fun σ97 => if uC σ97 + 1 ≤ bC ∧ uS σ97 + 4 ≤ bS then (oLet (wN σ97 (0, 4)) fun σ98 => oLet (wR σ98 67 69 113) fun σ99 => oLoop (b_X11_init_401) oFuel ((5, 1, σ99))) else none) else none) else none) else none) else none) else none) else none) else none) else none) else none) else none) else none) else none) else none) else none) else none) else none) else none) else none) else none) else none) else none) else none) else none) else none) else none) else none) else none) else none) else none) else none) else none) else none) else none) else none) else none) else none) else none) else none) else none) else none) else none) else none) else none) else none) else none
set_option maxRecDepth 20000 in
set_option maxHeartbeats 2000000 in
theorem ok_X11_init {σ : rS}  (hr : rN σ = 68) : rFn PSy yX11_init mX11_init 1 [.ref 67] σ 0 0 (fun _ => .inl none) (f_X11_init σ) := by
  refine rF_of (ls := [some (.ref 67), none, none, none]) yfX11_init rfl (Nat.le_of_ble_eq_true rfl) (fun o τ => ?_)
  unfold f_X11_init
  refine P_l (fun hJ _ _ q => E_aload_n dX11_init_0 rfl (E_objInit mlX11_3 oiInst oiCode (by decide) (Nat.le_of_ble_eq_true rfl) dX11_init_1 (E_aload_n dX11_init_4 rfl (E_bipush (v := 13) dX11_init_5 (by decide) q)))) ?_
  refine P_wc (fun hJ _ _ q => E_putI clX11 1 (by decide) flX11_9 (Or.inl rfl) rfl dX11_init_7 (PSy_k (n := 68) (i := 67) (q := (13, 0)) hJ.1 hr (by decide) (by decide)) q) (fun hJ => PSy_wI hJ.1) rfl rfl rfl (fun σ1 hσ1 => ?_)
  refine P_l (fun hJ _ _ q => E_aload_n dX11_init_10 rfl (E_iconst (v := 3) dX11_init_11 (by decide) q)) ?_
  refine P_wc (fun hJ _ _ q => E_putI clX11 2 (by decide) flX11_15 (Or.inl rfl) rfl dX11_init_12 (PSy_k (n := 68) (i := 67) (q := (13, 0)) hJ.1 (hσ1.trans hr) (by decide) (by decide)) q) (fun hJ => PSy_wI hJ.1) rfl rfl rfl (fun σ2 hσ2 => ?_)
  refine P_l (fun hJ _ _ q => E_aload_n dX11_init_15 rfl (E_iconst (v := 2) dX11_init_16 (by decide) q)) ?_
  refine P_wc (fun hJ _ _ q => E_putI clX11 3 (by decide) flX11_18 (Or.inl rfl) rfl dX11_init_17 (PSy_k (n := 68) (i := 67) (q := (13, 0)) hJ.1 (hσ2.trans (hσ1.trans hr)) (by decide) (by decide)) q) (fun hJ => PSy_wI hJ.1) rfl rfl rfl (fun σ3 hσ3 => ?_)
  refine P_l (fun hJ _ _ q => E_aload_n dX11_init_20 rfl (E_bipush (v := 30) dX11_init_21 (by decide) q)) ?_
  refine P_wc (fun hJ _ _ q => E_putI clX11 4 (by decide) flX11_21 (Or.inl rfl) rfl dX11_init_23 (PSy_k (n := 68) (i := 67) (q := (13, 0)) hJ.1 (hσ3.trans (hσ2.trans (hσ1.trans hr))) (by decide) (by decide)) q) (fun hJ => PSy_wI hJ.1) rfl rfl rfl (fun σ4 hσ4 => ?_)
  refine P_l (fun hJ _ _ q => E_aload_n dX11_init_26 rfl (E_iconst (v := 3) dX11_init_27 (by decide) q)) ?_
  refine P_wc (fun hJ _ _ q => E_putI clX11 5 (by decide) flX11_24 (Or.inl rfl) rfl dX11_init_28 (PSy_k (n := 68) (i := 67) (q := (13, 0)) hJ.1 (hσ4.trans (hσ3.trans (hσ2.trans (hσ1.trans hr)))) (by decide) (by decide)) q) (fun hJ => PSy_wI hJ.1) rfl rfl rfl (fun σ5 hσ5 => ?_)
  refine P_l (fun hJ _ _ q => E_aload_n dX11_init_31 rfl (E_iconst (v := 4) dX11_init_32 (by decide) q)) ?_
  refine P_nc (c := 68) (c2 := 69) (q := (0, 4)) (n := 4) (st := [.ref 67]) (hσ5.trans (hσ4.trans (hσ3.trans (hσ2.trans (hσ1.trans hr))))) (by first | rfl | omega) (fun hJ _ _ q => E_newaI (n := 4) ac_int dX11_init_33 rfl (Nat.le_of_ble_eq_true rfl) q) (by first | rfl | decide) (fun hJ => hJ.1.1) (fun hJ => PSy_wN hJ.1 (hσ5.trans (hσ4.trans (hσ3.trans (hσ2.trans (hσ1.trans hr))))) (by decide)) (fun σ6 hσ6 => ?_)
  refine P_wc (fun hJ _ _ q => E_putRF clX11 7 (by decide) flX11_27 (Or.inr ⟨_, rfl⟩) rfl rfl rfl dX11_init_35 (PSy_k (n := 69) (i := 67) (q := (13, 0)) hJ.1 hσ6 (by decide) (by decide)) q) (fun hJ => PSy_wR hJ.1) rfl rfl rfl (fun σ7 hσ7 => ?_)
  refine P_l (fun hJ _ _ q => E_aload_n dX11_init_38 rfl (E_iconst (v := 4) dX11_init_39 (by decide) q)) ?_
  refine P_nc (c := 69) (c2 := 70) (q := (0, 4)) (n := 4) (st := [.ref 67]) (hσ7.trans hσ6) (by first | rfl | omega) (fun hJ _ _ q => E_newaI (n := 4) ac_int dX11_init_40 rfl (Nat.le_of_ble_eq_true rfl) q) (by first | rfl | decide) (fun hJ => hJ.1.1) (fun hJ => PSy_wN hJ.1 (hσ7.trans hσ6) (by decide)) (fun σ8 hσ8 => ?_)
  refine P_wc (fun hJ _ _ q => E_putRF clX11 8 (by decide) flX11_31 (Or.inr ⟨_, rfl⟩) rfl rfl rfl dX11_init_42 (PSy_k (n := 70) (i := 67) (q := (13, 0)) hJ.1 hσ8 (by decide) (by decide)) q) (fun hJ => PSy_wR hJ.1) rfl rfl rfl (fun σ9 hσ9 => ?_)
  refine P_l (fun hJ _ _ q => E_aload_n dX11_init_45 rfl (E_iconst (v := 4) dX11_init_46 (by decide) q)) ?_
  refine P_nc (c := 70) (c2 := 71) (q := (0, 4)) (n := 4) (st := [.ref 67]) (hσ9.trans hσ8) (by first | rfl | omega) (fun hJ _ _ q => E_newaI (n := 4) ac_int dX11_init_47 rfl (Nat.le_of_ble_eq_true rfl) q) (by first | rfl | decide) (fun hJ => hJ.1.1) (fun hJ => PSy_wN hJ.1 (hσ9.trans hσ8) (by decide)) (fun σ10 hσ10 => ?_)
  refine P_wc (fun hJ _ _ q => E_putRF clX11 9 (by decide) flX11_34 (Or.inr ⟨_, rfl⟩) rfl rfl rfl dX11_init_49 (PSy_k (n := 71) (i := 67) (q := (13, 0)) hJ.1 hσ10 (by decide) (by decide)) q) (fun hJ => PSy_wR hJ.1) rfl rfl rfl (fun σ11 hσ11 => ?_)
  refine P_l (fun hJ _ _ q => E_aload_n dX11_init_52 rfl (E_iconst (v := 4) dX11_init_53 (by decide) q)) ?_
  refine P_nc (c := 71) (c2 := 72) (q := (0, 4)) (n := 4) (st := [.ref 67]) (hσ11.trans hσ10) (by first | rfl | omega) (fun hJ _ _ q => E_newaI (n := 4) ac_int dX11_init_54 rfl (Nat.le_of_ble_eq_true rfl) q) (by first | rfl | decide) (fun hJ => hJ.1.1) (fun hJ => PSy_wN hJ.1 (hσ11.trans hσ10) (by decide)) (fun σ12 hσ12 => ?_)
  refine P_wc (fun hJ _ _ q => E_putRF clX11 10 (by decide) flX11_37 (Or.inr ⟨_, rfl⟩) rfl rfl rfl dX11_init_56 (PSy_k (n := 72) (i := 67) (q := (13, 0)) hJ.1 hσ12 (by decide) (by decide)) q) (fun hJ => PSy_wR hJ.1) rfl rfl rfl (fun σ13 hσ13 => ?_)
  refine P_l (fun hJ _ _ q => E_aload_n dX11_init_59 rfl (E_iconst (v := 4) dX11_init_60 (by decide) q)) ?_
  refine P_nc (c := 72) (c2 := 73) (q := (2, 4)) (n := 4) (st := [.ref 67]) (hσ13.trans hσ12) (by first | rfl | omega) (fun hJ _ _ q => E_newaZ (n := 4) ac_boolean dX11_init_61 rfl (Nat.le_of_ble_eq_true rfl) q) (by first | rfl | decide) (fun hJ => hJ.1.1) (fun hJ => PSy_wN hJ.1 (hσ13.trans hσ12) (by decide)) (fun σ14 hσ14 => ?_)
  refine P_wc (fun hJ _ _ q => E_putRF clX11 11 (by decide) flX11_40 (Or.inr ⟨_, rfl⟩) rfl rfl rfl dX11_init_63 (PSy_k (n := 73) (i := 67) (q := (13, 0)) hJ.1 hσ14 (by decide) (by decide)) q) (fun hJ => PSy_wR hJ.1) rfl rfl rfl (fun σ15 hσ15 => ?_)
  refine P_l (fun hJ _ _ q => E_aload_n dX11_init_66 rfl (E_iconst (v := 4) dX11_init_67 (by decide) q)) ?_
  refine P_nc (c := 73) (c2 := 74) (q := (0, 4)) (n := 4) (st := [.ref 67]) (hσ15.trans hσ14) (by first | rfl | omega) (fun hJ _ _ q => E_newaI (n := 4) ac_int dX11_init_68 rfl (Nat.le_of_ble_eq_true rfl) q) (by first | rfl | decide) (fun hJ => hJ.1.1) (fun hJ => PSy_wN hJ.1 (hσ15.trans hσ14) (by decide)) (fun σ16 hσ16 => ?_)
  refine P_wc (fun hJ _ _ q => E_putRF clX11 12 (by decide) flX11_44 (Or.inr ⟨_, rfl⟩) rfl rfl rfl dX11_init_70 (PSy_k (n := 74) (i := 67) (q := (13, 0)) hJ.1 hσ16 (by decide) (by decide)) q) (fun hJ => PSy_wR hJ.1) rfl rfl rfl (fun σ17 hσ17 => ?_)
  refine P_l (fun hJ _ _ q => E_aload_n dX11_init_73 rfl (E_iconst (v := 4) dX11_init_74 (by decide) q)) ?_
  refine P_nc (c := 74) (c2 := 75) (q := (0, 4)) (n := 4) (st := [.ref 67]) (hσ17.trans hσ16) (by first | rfl | omega) (fun hJ _ _ q => E_newaI (n := 4) ac_int dX11_init_75 rfl (Nat.le_of_ble_eq_true rfl) q) (by first | rfl | decide) (fun hJ => hJ.1.1) (fun hJ => PSy_wN hJ.1 (hσ17.trans hσ16) (by decide)) (fun σ18 hσ18 => ?_)
  refine P_wc (fun hJ _ _ q => E_putRF clX11 13 (by decide) flX11_47 (Or.inr ⟨_, rfl⟩) rfl rfl rfl dX11_init_77 (PSy_k (n := 75) (i := 67) (q := (13, 0)) hJ.1 hσ18 (by decide) (by decide)) q) (fun hJ => PSy_wR hJ.1) rfl rfl rfl (fun σ19 hσ19 => ?_)
  refine P_l (fun hJ _ _ q => E_aload_n dX11_init_80 rfl (E_iconst (v := 4) dX11_init_81 (by decide) q)) ?_
  refine P_nc (c := 75) (c2 := 76) (q := (1, 4)) (n := 4) (st := [.ref 67]) (hσ19.trans hσ18) (by first | rfl | omega) (fun hJ _ _ q => E_newaJ (n := 4) ac_long dX11_init_82 rfl (Nat.le_of_ble_eq_true rfl) q) (by first | rfl | decide) (fun hJ => hJ.1.1) (fun hJ => PSy_wN hJ.1 (hσ19.trans hσ18) (by decide)) (fun σ20 hσ20 => ?_)
  refine P_wc (fun hJ _ _ q => E_putRF clX11 14 (by decide) flX11_50 (Or.inr ⟨_, rfl⟩) rfl rfl rfl dX11_init_84 (PSy_k (n := 76) (i := 67) (q := (13, 0)) hJ.1 hσ20 (by decide) (by decide)) q) (fun hJ => PSy_wR hJ.1) rfl rfl rfl (fun σ21 hσ21 => ?_)
  refine P_l (fun hJ _ _ q => E_aload_n dX11_init_87 rfl (E_iconst (v := 4) dX11_init_88 (by decide) q)) ?_
  refine P_nc (c := 76) (c2 := 77) (q := (2, 4)) (n := 4) (st := [.ref 67]) (hσ21.trans hσ20) (by first | rfl | omega) (fun hJ _ _ q => E_newaZ (n := 4) ac_boolean dX11_init_89 rfl (Nat.le_of_ble_eq_true rfl) q) (by first | rfl | decide) (fun hJ => hJ.1.1) (fun hJ => PSy_wN hJ.1 (hσ21.trans hσ20) (by decide)) (fun σ22 hσ22 => ?_)
  refine P_wc (fun hJ _ _ q => E_putRF clX11 15 (by decide) flX11_54 (Or.inr ⟨_, rfl⟩) rfl rfl rfl dX11_init_91 (PSy_k (n := 77) (i := 67) (q := (13, 0)) hJ.1 hσ22 (by decide) (by decide)) q) (fun hJ => PSy_wR hJ.1) rfl rfl rfl (fun σ23 hσ23 => ?_)
  refine P_l (fun hJ _ _ q => E_aload_n dX11_init_94 rfl (E_iconst (v := 4) dX11_init_95 (by decide) q)) ?_
  refine P_nc (c := 77) (c2 := 78) (q := (0, 4)) (n := 4) (st := [.ref 67]) (hσ23.trans hσ22) (by first | rfl | omega) (fun hJ _ _ q => E_newaI (n := 4) ac_int dX11_init_96 rfl (Nat.le_of_ble_eq_true rfl) q) (by first | rfl | decide) (fun hJ => hJ.1.1) (fun hJ => PSy_wN hJ.1 (hσ23.trans hσ22) (by decide)) (fun σ24 hσ24 => ?_)
  refine P_wc (fun hJ _ _ q => E_putRF clX11 16 (by decide) flX11_57 (Or.inr ⟨_, rfl⟩) rfl rfl rfl dX11_init_98 (PSy_k (n := 78) (i := 67) (q := (13, 0)) hJ.1 hσ24 (by decide) (by decide)) q) (fun hJ => PSy_wR hJ.1) rfl rfl rfl (fun σ25 hσ25 => ?_)
  refine P_l (fun hJ _ _ q => E_aload_n dX11_init_101 rfl (E_sipush (v := 208) dX11_init_102 (by decide) q)) ?_
  refine P_nc (c := 78) (c2 := 79) (q := (0, 208)) (n := 208) (st := [.ref 67]) (hσ25.trans hσ24) (by first | rfl | omega) (fun hJ _ _ q => E_newaI (n := 208) ac_int dX11_init_105 rfl (Nat.le_of_ble_eq_true rfl) q) (by first | rfl | decide) (fun hJ => hJ.1.1) (fun hJ => PSy_wN hJ.1 (hσ25.trans hσ24) (by decide)) (fun σ26 hσ26 => ?_)
  refine P_wc (fun hJ _ _ q => E_putRF clX11 17 (by decide) flX11_60 (Or.inr ⟨_, rfl⟩) rfl rfl rfl dX11_init_107 (PSy_k (n := 79) (i := 67) (q := (13, 0)) hJ.1 hσ26 (by decide) (by decide)) q) (fun hJ => PSy_wR hJ.1) rfl rfl rfl (fun σ27 hσ27 => ?_)
  refine P_l (fun hJ _ _ q => E_aload_n dX11_init_110 rfl (E_sipush (v := 212) dX11_init_111 (by decide) q)) ?_
  refine P_nc (c := 79) (c2 := 80) (q := (0, 212)) (n := 212) (st := [.ref 67]) (hσ27.trans hσ26) (by first | rfl | omega) (fun hJ _ _ q => E_newaI (n := 212) ac_int dX11_init_114 rfl (Nat.le_of_ble_eq_true rfl) q) (by first | rfl | decide) (fun hJ => hJ.1.1) (fun hJ => PSy_wN hJ.1 (hσ27.trans hσ26) (by decide)) (fun σ28 hσ28 => ?_)
  refine P_wc (fun hJ _ _ q => E_putRF clX11 18 (by decide) flX11_63 (Or.inr ⟨_, rfl⟩) rfl rfl rfl dX11_init_116 (PSy_k (n := 80) (i := 67) (q := (13, 0)) hJ.1 hσ28 (by decide) (by decide)) q) (fun hJ => PSy_wR hJ.1) rfl rfl rfl (fun σ29 hσ29 => ?_)
  refine P_l (fun hJ _ _ q => E_aload_n dX11_init_119 rfl (E_bipush (v := 52) dX11_init_120 (by decide) q)) ?_
  refine P_nc (c := 80) (c2 := 81) (q := (0, 52)) (n := 52) (st := [.ref 67]) (hσ29.trans hσ28) (by first | rfl | omega) (fun hJ _ _ q => E_newaI (n := 52) ac_int dX11_init_122 rfl (Nat.le_of_ble_eq_true rfl) q) (by first | rfl | decide) (fun hJ => hJ.1.1) (fun hJ => PSy_wN hJ.1 (hσ29.trans hσ28) (by decide)) (fun σ30 hσ30 => ?_)
  refine P_wc (fun hJ _ _ q => E_putRF clX11 19 (by decide) flX11_66 (Or.inr ⟨_, rfl⟩) rfl rfl rfl dX11_init_124 (PSy_k (n := 81) (i := 67) (q := (13, 0)) hJ.1 hσ30 (by decide) (by decide)) q) (fun hJ => PSy_wR hJ.1) rfl rfl rfl (fun σ31 hσ31 => ?_)
  refine P_l (fun hJ _ _ q => E_aload_n dX11_init_127 rfl (E_bipush (v := 52) dX11_init_128 (by decide) q)) ?_
  refine P_nc (c := 81) (c2 := 82) (q := (0, 52)) (n := 52) (st := [.ref 67]) (hσ31.trans hσ30) (by first | rfl | omega) (fun hJ _ _ q => E_newaI (n := 52) ac_int dX11_init_130 rfl (Nat.le_of_ble_eq_true rfl) q) (by first | rfl | decide) (fun hJ => hJ.1.1) (fun hJ => PSy_wN hJ.1 (hσ31.trans hσ30) (by decide)) (fun σ32 hσ32 => ?_)
  refine P_wc (fun hJ _ _ q => E_putRF clX11 20 (by decide) flX11_69 (Or.inr ⟨_, rfl⟩) rfl rfl rfl dX11_init_132 (PSy_k (n := 82) (i := 67) (q := (13, 0)) hJ.1 hσ32 (by decide) (by decide)) q) (fun hJ => PSy_wR hJ.1) rfl rfl rfl (fun σ33 hσ33 => ?_)
  refine P_l (fun hJ _ _ q => E_aload_n dX11_init_135 rfl (E_bipush (v := 53) dX11_init_136 (by decide) q)) ?_
  refine P_nc (c := 82) (c2 := 83) (q := (0, 53)) (n := 53) (st := [.ref 67]) (hσ33.trans hσ32) (by first | rfl | omega) (fun hJ _ _ q => E_newaI (n := 53) ac_int dX11_init_138 rfl (Nat.le_of_ble_eq_true rfl) q) (by first | rfl | decide) (fun hJ => hJ.1.1) (fun hJ => PSy_wN hJ.1 (hσ33.trans hσ32) (by decide)) (fun σ34 hσ34 => ?_)
  refine P_wc (fun hJ _ _ q => E_putRF clX11 21 (by decide) flX11_72 (Or.inr ⟨_, rfl⟩) rfl rfl rfl dX11_init_140 (PSy_k (n := 83) (i := 67) (q := (13, 0)) hJ.1 hσ34 (by decide) (by decide)) q) (fun hJ => PSy_wR hJ.1) rfl rfl rfl (fun σ35 hσ35 => ?_)
  refine P_l (fun hJ _ _ q => E_aload_n dX11_init_143 rfl (E_iconst (v := (-1)) dX11_init_144 (by decide) q)) ?_
  refine P_wc (fun hJ _ _ q => E_putI clX11 24 (by decide) flX11_75 (Or.inl rfl) rfl dX11_init_145 (PSy_k (n := 83) (i := 67) (q := (13, 0)) hJ.1 (hσ35.trans hσ34) (by decide) (by decide)) q) (fun hJ => PSy_wI hJ.1) rfl rfl rfl (fun σ36 hσ36 => ?_)
  refine P_l (fun hJ _ _ q => E_aload_n dX11_init_148 rfl (E_iconst (v := (-1)) dX11_init_149 (by decide) q)) ?_
  refine P_wc (fun hJ _ _ q => E_putI clX11 27 (by decide) flX11_78 (Or.inl rfl) rfl dX11_init_150 (PSy_k (n := 83) (i := 67) (q := (13, 0)) hJ.1 (hσ36.trans (hσ35.trans hσ34)) (by decide) (by decide)) q) (fun hJ => PSy_wI hJ.1) rfl rfl rfl (fun σ37 hσ37 => ?_)
  refine P_l (fun hJ _ _ q => E_aload_n dX11_init_153 rfl (E_sipush (v := 128) dX11_init_154 (by decide) q)) ?_
  refine P_nc (c := 83) (c2 := 84) (q := (0, 128)) (n := 128) (st := [.ref 67]) (hσ37.trans (hσ36.trans (hσ35.trans hσ34))) (by first | rfl | omega) (fun hJ _ _ q => E_newaI (n := 128) ac_int dX11_init_157 rfl (Nat.le_of_ble_eq_true rfl) q) (by first | rfl | decide) (fun hJ => hJ.1.1) (fun hJ => PSy_wN hJ.1 (hσ37.trans (hσ36.trans (hσ35.trans hσ34))) (by decide)) (fun σ38 hσ38 => ?_)
  refine P_wc (fun hJ _ _ q => E_putRF clX11 28 (by decide) flX11_81 (Or.inr ⟨_, rfl⟩) rfl rfl rfl dX11_init_159 (PSy_k (n := 84) (i := 67) (q := (13, 0)) hJ.1 hσ38 (by decide) (by decide)) q) (fun hJ => PSy_wR hJ.1) rfl rfl rfl (fun σ39 hσ39 => ?_)
  refine P_l (fun hJ _ _ q => E_aload_n dX11_init_162 rfl (E_sipush (v := 128) dX11_init_163 (by decide) q)) ?_
  refine P_nc (c := 84) (c2 := 85) (q := (0, 128)) (n := 128) (st := [.ref 67]) (hσ39.trans hσ38) (by first | rfl | omega) (fun hJ _ _ q => E_newaI (n := 128) ac_int dX11_init_166 rfl (Nat.le_of_ble_eq_true rfl) q) (by first | rfl | decide) (fun hJ => hJ.1.1) (fun hJ => PSy_wN hJ.1 (hσ39.trans hσ38) (by decide)) (fun σ40 hσ40 => ?_)
  refine P_wc (fun hJ _ _ q => E_putRF clX11 29 (by decide) flX11_84 (Or.inr ⟨_, rfl⟩) rfl rfl rfl dX11_init_168 (PSy_k (n := 85) (i := 67) (q := (13, 0)) hJ.1 hσ40 (by decide) (by decide)) q) (fun hJ => PSy_wR hJ.1) rfl rfl rfl (fun σ41 hσ41 => ?_)
  refine P_l (fun hJ _ _ q => E_aload_n dX11_init_171 rfl (E_ldc dX11_init_172 kcX11_87 q)) ?_
  refine P_nc (c := 85) (c2 := 86) (q := (0, 100000)) (n := 100000) (st := [.ref 67]) (hσ41.trans hσ40) (by first | rfl | omega) (fun hJ _ _ q => E_newaI (n := 100000) ac_int dX11_init_174 rfl (Nat.le_of_ble_eq_true rfl) q) (by first | rfl | decide) (fun hJ => hJ.1.1) (fun hJ => PSy_wN hJ.1 (hσ41.trans hσ40) (by decide)) (fun σ42 hσ42 => ?_)
  refine P_wc (fun hJ _ _ q => E_putRF clX11 31 (by decide) flX11_88 (Or.inr ⟨_, rfl⟩) rfl rfl rfl dX11_init_176 (PSy_k (n := 86) (i := 67) (q := (13, 0)) hJ.1 hσ42 (by decide) (by decide)) q) (fun hJ => PSy_wR hJ.1) rfl rfl rfl (fun σ43 hσ43 => ?_)
  refine P_l (fun hJ _ _ q => E_aload_n dX11_init_179 rfl (E_bipush (v := 40) dX11_init_180 (by decide) q)) ?_
  refine P_nc (c := 86) (c2 := 87) (q := (0, 40)) (n := 40) (st := [.ref 67]) (hσ43.trans hσ42) (by first | rfl | omega) (fun hJ _ _ q => E_newaI (n := 40) ac_int dX11_init_182 rfl (Nat.le_of_ble_eq_true rfl) q) (by first | rfl | decide) (fun hJ => hJ.1.1) (fun hJ => PSy_wN hJ.1 (hσ43.trans hσ42) (by decide)) (fun σ44 hσ44 => ?_)
  refine P_wc (fun hJ _ _ q => E_putRF clX11 33 (by decide) flX11_91 (Or.inr ⟨_, rfl⟩) rfl rfl rfl dX11_init_184 (PSy_k (n := 87) (i := 67) (q := (13, 0)) hJ.1 hσ44 (by decide) (by decide)) q) (fun hJ => PSy_wR hJ.1) rfl rfl rfl (fun σ45 hσ45 => ?_)
  refine P_l (fun hJ _ _ q => E_aload_n dX11_init_187 rfl (E_bipush (v := 40) dX11_init_188 (by decide) q)) ?_
  refine P_nc (c := 87) (c2 := 88) (q := (0, 40)) (n := 40) (st := [.ref 67]) (hσ45.trans hσ44) (by first | rfl | omega) (fun hJ _ _ q => E_newaI (n := 40) ac_int dX11_init_190 rfl (Nat.le_of_ble_eq_true rfl) q) (by first | rfl | decide) (fun hJ => hJ.1.1) (fun hJ => PSy_wN hJ.1 (hσ45.trans hσ44) (by decide)) (fun σ46 hσ46 => ?_)
  refine P_wc (fun hJ _ _ q => E_putRF clX11 35 (by decide) flX11_94 (Or.inr ⟨_, rfl⟩) rfl rfl rfl dX11_init_192 (PSy_k (n := 88) (i := 67) (q := (13, 0)) hJ.1 hσ46 (by decide) (by decide)) q) (fun hJ => PSy_wR hJ.1) rfl rfl rfl (fun σ47 hσ47 => ?_)
  refine P_l (fun hJ _ _ q => E_aload_n dX11_init_195 rfl (E_bipush (v := 40) dX11_init_196 (by decide) q)) ?_
  refine P_nc (c := 88) (c2 := 89) (q := (0, 40)) (n := 40) (st := [.ref 67]) (hσ47.trans hσ46) (by first | rfl | omega) (fun hJ _ _ q => E_newaI (n := 40) ac_int dX11_init_198 rfl (Nat.le_of_ble_eq_true rfl) q) (by first | rfl | decide) (fun hJ => hJ.1.1) (fun hJ => PSy_wN hJ.1 (hσ47.trans hσ46) (by decide)) (fun σ48 hσ48 => ?_)
  refine P_wc (fun hJ _ _ q => E_putRF clX11 36 (by decide) flX11_97 (Or.inr ⟨_, rfl⟩) rfl rfl rfl dX11_init_200 (PSy_k (n := 89) (i := 67) (q := (13, 0)) hJ.1 hσ48 (by decide) (by decide)) q) (fun hJ => PSy_wR hJ.1) rfl rfl rfl (fun σ49 hσ49 => ?_)
  refine P_l (fun hJ _ _ q => E_aload_n dX11_init_203 rfl (E_bipush (v := 16) dX11_init_204 (by decide) q)) ?_
  refine P_nc (c := 89) (c2 := 90) (q := (0, 16)) (n := 16) (st := [.ref 67]) (hσ49.trans hσ48) (by first | rfl | omega) (fun hJ _ _ q => E_newaI (n := 16) ac_int dX11_init_206 rfl (Nat.le_of_ble_eq_true rfl) q) (by first | rfl | decide) (fun hJ => hJ.1.1) (fun hJ => PSy_wN hJ.1 (hσ49.trans hσ48) (by decide)) (fun σ50 hσ50 => ?_)
  refine P_wc (fun hJ _ _ q => E_putRF clX11 38 (by decide) flX11_100 (Or.inr ⟨_, rfl⟩) rfl rfl rfl dX11_init_208 (PSy_k (n := 90) (i := 67) (q := (13, 0)) hJ.1 hσ50 (by decide) (by decide)) q) (fun hJ => PSy_wR hJ.1) rfl rfl rfl (fun σ51 hσ51 => ?_)
  refine P_l (fun hJ _ _ q => E_aload_n dX11_init_211 rfl (E_bipush (v := 16) dX11_init_212 (by decide) q)) ?_
  refine P_nc (c := 90) (c2 := 91) (q := (0, 16)) (n := 16) (st := [.ref 67]) (hσ51.trans hσ50) (by first | rfl | omega) (fun hJ _ _ q => E_newaI (n := 16) ac_int dX11_init_214 rfl (Nat.le_of_ble_eq_true rfl) q) (by first | rfl | decide) (fun hJ => hJ.1.1) (fun hJ => PSy_wN hJ.1 (hσ51.trans hσ50) (by decide)) (fun σ52 hσ52 => ?_)
  refine P_wc (fun hJ _ _ q => E_putRF clX11 39 (by decide) flX11_103 (Or.inr ⟨_, rfl⟩) rfl rfl rfl dX11_init_216 (PSy_k (n := 91) (i := 67) (q := (13, 0)) hJ.1 hσ52 (by decide) (by decide)) q) (fun hJ => PSy_wR hJ.1) rfl rfl rfl (fun σ53 hσ53 => ?_)
  refine P_l (fun hJ _ _ q => E_aload_n dX11_init_219 rfl (E_bipush (v := 52) dX11_init_220 (by decide) q)) ?_
  refine P_nc (c := 91) (c2 := 92) (q := (0, 52)) (n := 52) (st := [.ref 67]) (hσ53.trans hσ52) (by first | rfl | omega) (fun hJ _ _ q => E_newaI (n := 52) ac_int dX11_init_222 rfl (Nat.le_of_ble_eq_true rfl) q) (by first | rfl | decide) (fun hJ => hJ.1.1) (fun hJ => PSy_wN hJ.1 (hσ53.trans hσ52) (by decide)) (fun σ54 hσ54 => ?_)
  refine P_wc (fun hJ _ _ q => E_putRF clX11 40 (by decide) flX11_106 (Or.inr ⟨_, rfl⟩) rfl rfl rfl dX11_init_224 (PSy_k (n := 92) (i := 67) (q := (13, 0)) hJ.1 hσ54 (by decide) (by decide)) q) (fun hJ => PSy_wR hJ.1) rfl rfl rfl (fun σ55 hσ55 => ?_)
  refine P_l (fun hJ _ _ q => E_aload_n dX11_init_227 rfl (E_bipush (v := 52) dX11_init_228 (by decide) q)) ?_
  refine P_nc (c := 92) (c2 := 93) (q := (0, 52)) (n := 52) (st := [.ref 67]) (hσ55.trans hσ54) (by first | rfl | omega) (fun hJ _ _ q => E_newaI (n := 52) ac_int dX11_init_230 rfl (Nat.le_of_ble_eq_true rfl) q) (by first | rfl | decide) (fun hJ => hJ.1.1) (fun hJ => PSy_wN hJ.1 (hσ55.trans hσ54) (by decide)) (fun σ56 hσ56 => ?_)
  refine P_wc (fun hJ _ _ q => E_putRF clX11 41 (by decide) flX11_109 (Or.inr ⟨_, rfl⟩) rfl rfl rfl dX11_init_232 (PSy_k (n := 93) (i := 67) (q := (13, 0)) hJ.1 hσ56 (by decide) (by decide)) q) (fun hJ => PSy_wR hJ.1) rfl rfl rfl (fun σ57 hσ57 => ?_)
  refine P_l (fun hJ _ _ q => E_aload_n dX11_init_235 rfl (E_bipush (v := 84) dX11_init_236 (by decide) q)) ?_
  refine P_nc (c := 93) (c2 := 94) (q := (0, 84)) (n := 84) (st := [.ref 67]) (hσ57.trans hσ56) (by first | rfl | omega) (fun hJ _ _ q => E_newaI (n := 84) ac_int dX11_init_238 rfl (Nat.le_of_ble_eq_true rfl) q) (by first | rfl | decide) (fun hJ => hJ.1.1) (fun hJ => PSy_wN hJ.1 (hσ57.trans hσ56) (by decide)) (fun σ58 hσ58 => ?_)
  refine P_wc (fun hJ _ _ q => E_putRF clX11 42 (by decide) flX11_112 (Or.inr ⟨_, rfl⟩) rfl rfl rfl dX11_init_240 (PSy_k (n := 94) (i := 67) (q := (13, 0)) hJ.1 hσ58 (by decide) (by decide)) q) (fun hJ => PSy_wR hJ.1) rfl rfl rfl (fun σ59 hσ59 => ?_)
  refine P_l (fun hJ _ _ q => E_aload_n dX11_init_243 rfl (E_bipush (v := 21) dX11_init_244 (by decide) q)) ?_
  refine P_nc (c := 94) (c2 := 95) (q := (0, 21)) (n := 21) (st := [.ref 67]) (hσ59.trans hσ58) (by first | rfl | omega) (fun hJ _ _ q => E_newaI (n := 21) ac_int dX11_init_246 rfl (Nat.le_of_ble_eq_true rfl) q) (by first | rfl | decide) (fun hJ => hJ.1.1) (fun hJ => PSy_wN hJ.1 (hσ59.trans hσ58) (by decide)) (fun σ60 hσ60 => ?_)
  refine P_wc (fun hJ _ _ q => E_putRF clX11 43 (by decide) flX11_115 (Or.inr ⟨_, rfl⟩) rfl rfl rfl dX11_init_248 (PSy_k (n := 95) (i := 67) (q := (13, 0)) hJ.1 hσ60 (by decide) (by decide)) q) (fun hJ => PSy_wR hJ.1) rfl rfl rfl (fun σ61 hσ61 => ?_)
  refine P_l (fun hJ _ _ q => E_aload_n dX11_init_251 rfl (E_ldc dX11_init_252 kcX11_118 q)) ?_
  refine P_nc (c := 95) (c2 := 96) (q := (1, 65536)) (n := 65536) (st := [.ref 67]) (hσ61.trans hσ60) (by first | rfl | omega) (fun hJ _ _ q => E_newaJ (n := 65536) ac_long dX11_init_254 rfl (Nat.le_of_ble_eq_true rfl) q) (by first | rfl | decide) (fun hJ => hJ.1.1) (fun hJ => PSy_wN hJ.1 (hσ61.trans hσ60) (by decide)) (fun σ62 hσ62 => ?_)
  refine P_wc (fun hJ _ _ q => E_putRF clX11 45 (by decide) flX11_119 (Or.inr ⟨_, rfl⟩) rfl rfl rfl dX11_init_256 (PSy_k (n := 96) (i := 67) (q := (13, 0)) hJ.1 hσ62 (by decide) (by decide)) q) (fun hJ => PSy_wR hJ.1) rfl rfl rfl (fun σ63 hσ63 => ?_)
  refine P_l (fun hJ _ _ q => E_aload_n dX11_init_259 rfl (E_ldc dX11_init_260 kcX11_118 q)) ?_
  refine P_nc (c := 96) (c2 := 97) (q := (1, 65536)) (n := 65536) (st := [.ref 67]) (hσ63.trans hσ62) (by first | rfl | omega) (fun hJ _ _ q => E_newaJ (n := 65536) ac_long dX11_init_262 rfl (Nat.le_of_ble_eq_true rfl) q) (by first | rfl | decide) (fun hJ => hJ.1.1) (fun hJ => PSy_wN hJ.1 (hσ63.trans hσ62) (by decide)) (fun σ64 hσ64 => ?_)
  refine P_wc (fun hJ _ _ q => E_putRF clX11 46 (by decide) flX11_122 (Or.inr ⟨_, rfl⟩) rfl rfl rfl dX11_init_264 (PSy_k (n := 97) (i := 67) (q := (13, 0)) hJ.1 hσ64 (by decide) (by decide)) q) (fun hJ => PSy_wR hJ.1) rfl rfl rfl (fun σ65 hσ65 => ?_)
  refine P_l (fun hJ _ _ q => E_aload_n dX11_init_267 rfl (E_ldc dX11_init_268 kcX11_118 q)) ?_
  refine P_nc (c := 97) (c2 := 98) (q := (1, 65536)) (n := 65536) (st := [.ref 67]) (hσ65.trans hσ64) (by first | rfl | omega) (fun hJ _ _ q => E_newaJ (n := 65536) ac_long dX11_init_270 rfl (Nat.le_of_ble_eq_true rfl) q) (by first | rfl | decide) (fun hJ => hJ.1.1) (fun hJ => PSy_wN hJ.1 (hσ65.trans hσ64) (by decide)) (fun σ66 hσ66 => ?_)
  refine P_wc (fun hJ _ _ q => E_putRF clX11 47 (by decide) flX11_125 (Or.inr ⟨_, rfl⟩) rfl rfl rfl dX11_init_272 (PSy_k (n := 98) (i := 67) (q := (13, 0)) hJ.1 hσ66 (by decide) (by decide)) q) (fun hJ => PSy_wR hJ.1) rfl rfl rfl (fun σ67 hσ67 => ?_)
  refine P_l (fun hJ _ _ q => E_aload_n dX11_init_275 rfl (E_ldc dX11_init_276 kcX11_118 q)) ?_
  refine P_nc (c := 98) (c2 := 99) (q := (2, 65536)) (n := 65536) (st := [.ref 67]) (hσ67.trans hσ66) (by first | rfl | omega) (fun hJ _ _ q => E_newaZ (n := 65536) ac_boolean dX11_init_278 rfl (Nat.le_of_ble_eq_true rfl) q) (by first | rfl | decide) (fun hJ => hJ.1.1) (fun hJ => PSy_wN hJ.1 (hσ67.trans hσ66) (by decide)) (fun σ68 hσ68 => ?_)
  refine P_wc (fun hJ _ _ q => E_putRF clX11 48 (by decide) flX11_128 (Or.inr ⟨_, rfl⟩) rfl rfl rfl dX11_init_280 (PSy_k (n := 99) (i := 67) (q := (13, 0)) hJ.1 hσ68 (by decide) (by decide)) q) (fun hJ => PSy_wR hJ.1) rfl rfl rfl (fun σ69 hσ69 => ?_)
  refine P_l (fun hJ _ _ q => E_aload_n dX11_init_283 rfl (E_ldc dX11_init_284 kcX11_118 q)) ?_
  refine P_nc (c := 99) (c2 := 100) (q := (0, 65536)) (n := 65536) (st := [.ref 67]) (hσ69.trans hσ68) (by first | rfl | omega) (fun hJ _ _ q => E_newaI (n := 65536) ac_int dX11_init_286 rfl (Nat.le_of_ble_eq_true rfl) q) (by first | rfl | decide) (fun hJ => hJ.1.1) (fun hJ => PSy_wN hJ.1 (hσ69.trans hσ68) (by decide)) (fun σ70 hσ70 => ?_)
  refine P_wc (fun hJ _ _ q => E_putRF clX11 49 (by decide) flX11_131 (Or.inr ⟨_, rfl⟩) rfl rfl rfl dX11_init_288 (PSy_k (n := 100) (i := 67) (q := (13, 0)) hJ.1 hσ70 (by decide) (by decide)) q) (fun hJ => PSy_wR hJ.1) rfl rfl rfl (fun σ71 hσ71 => ?_)
  refine P_l (fun hJ _ _ q => E_aload_n dX11_init_291 rfl (E_ldc dX11_init_292 kcX11_118 q)) ?_
  refine P_nc (c := 100) (c2 := 101) (q := (1, 65536)) (n := 65536) (st := [.ref 67]) (hσ71.trans hσ70) (by first | rfl | omega) (fun hJ _ _ q => E_newaJ (n := 65536) ac_long dX11_init_294 rfl (Nat.le_of_ble_eq_true rfl) q) (by first | rfl | decide) (fun hJ => hJ.1.1) (fun hJ => PSy_wN hJ.1 (hσ71.trans hσ70) (by decide)) (fun σ72 hσ72 => ?_)
  refine P_wc (fun hJ _ _ q => E_putRF clX11 51 (by decide) flX11_134 (Or.inr ⟨_, rfl⟩) rfl rfl rfl dX11_init_296 (PSy_k (n := 101) (i := 67) (q := (13, 0)) hJ.1 hσ72 (by decide) (by decide)) q) (fun hJ => PSy_wR hJ.1) rfl rfl rfl (fun σ73 hσ73 => ?_)
  refine P_l (fun hJ _ _ q => E_aload_n dX11_init_299 rfl (E_ldc dX11_init_300 kcX11_118 q)) ?_
  refine P_nc (c := 101) (c2 := 102) (q := (1, 65536)) (n := 65536) (st := [.ref 67]) (hσ73.trans hσ72) (by first | rfl | omega) (fun hJ _ _ q => E_newaJ (n := 65536) ac_long dX11_init_302 rfl (Nat.le_of_ble_eq_true rfl) q) (by first | rfl | decide) (fun hJ => hJ.1.1) (fun hJ => PSy_wN hJ.1 (hσ73.trans hσ72) (by decide)) (fun σ74 hσ74 => ?_)
  refine P_wc (fun hJ _ _ q => E_putRF clX11 52 (by decide) flX11_137 (Or.inr ⟨_, rfl⟩) rfl rfl rfl dX11_init_304 (PSy_k (n := 102) (i := 67) (q := (13, 0)) hJ.1 hσ74 (by decide) (by decide)) q) (fun hJ => PSy_wR hJ.1) rfl rfl rfl (fun σ75 hσ75 => ?_)
  refine P_l (fun hJ _ _ q => E_aload_n dX11_init_307 rfl (E_ldc dX11_init_308 kcX11_118 q)) ?_
  refine P_nc (c := 102) (c2 := 103) (q := (1, 65536)) (n := 65536) (st := [.ref 67]) (hσ75.trans hσ74) (by first | rfl | omega) (fun hJ _ _ q => E_newaJ (n := 65536) ac_long dX11_init_310 rfl (Nat.le_of_ble_eq_true rfl) q) (by first | rfl | decide) (fun hJ => hJ.1.1) (fun hJ => PSy_wN hJ.1 (hσ75.trans hσ74) (by decide)) (fun σ76 hσ76 => ?_)
  refine P_wc (fun hJ _ _ q => E_putRF clX11 53 (by decide) flX11_140 (Or.inr ⟨_, rfl⟩) rfl rfl rfl dX11_init_312 (PSy_k (n := 103) (i := 67) (q := (13, 0)) hJ.1 hσ76 (by decide) (by decide)) q) (fun hJ => PSy_wR hJ.1) rfl rfl rfl (fun σ77 hσ77 => ?_)
  refine P_l (fun hJ _ _ q => E_aload_n dX11_init_315 rfl (E_ldc dX11_init_316 kcX11_118 q)) ?_
  refine P_nc (c := 103) (c2 := 104) (q := (2, 65536)) (n := 65536) (st := [.ref 67]) (hσ77.trans hσ76) (by first | rfl | omega) (fun hJ _ _ q => E_newaZ (n := 65536) ac_boolean dX11_init_318 rfl (Nat.le_of_ble_eq_true rfl) q) (by first | rfl | decide) (fun hJ => hJ.1.1) (fun hJ => PSy_wN hJ.1 (hσ77.trans hσ76) (by decide)) (fun σ78 hσ78 => ?_)
  refine P_wc (fun hJ _ _ q => E_putRF clX11 54 (by decide) flX11_143 (Or.inr ⟨_, rfl⟩) rfl rfl rfl dX11_init_320 (PSy_k (n := 104) (i := 67) (q := (13, 0)) hJ.1 hσ78 (by decide) (by decide)) q) (fun hJ => PSy_wR hJ.1) rfl rfl rfl (fun σ79 hσ79 => ?_)
  refine P_l (fun hJ _ _ q => E_aload_n dX11_init_323 rfl (E_ldc dX11_init_324 kcX11_118 q)) ?_
  refine P_nc (c := 104) (c2 := 105) (q := (0, 65536)) (n := 65536) (st := [.ref 67]) (hσ79.trans hσ78) (by first | rfl | omega) (fun hJ _ _ q => E_newaI (n := 65536) ac_int dX11_init_326 rfl (Nat.le_of_ble_eq_true rfl) q) (by first | rfl | decide) (fun hJ => hJ.1.1) (fun hJ => PSy_wN hJ.1 (hσ79.trans hσ78) (by decide)) (fun σ80 hσ80 => ?_)
  refine P_wc (fun hJ _ _ q => E_putRF clX11 55 (by decide) flX11_146 (Or.inr ⟨_, rfl⟩) rfl rfl rfl dX11_init_328 (PSy_k (n := 105) (i := 67) (q := (13, 0)) hJ.1 hσ80 (by decide) (by decide)) q) (fun hJ => PSy_wR hJ.1) rfl rfl rfl (fun σ81 hσ81 => ?_)
  refine P_l (fun hJ _ _ q => E_aload_n dX11_init_331 rfl (E_iconst (v := 4) dX11_init_332 (by decide) q)) ?_
  refine P_nc (c := 105) (c2 := 106) (q := (0, 4)) (n := 4) (st := [.ref 67]) (hσ81.trans hσ80) (by first | rfl | omega) (fun hJ _ _ q => E_newaI (n := 4) ac_int dX11_init_333 rfl (Nat.le_of_ble_eq_true rfl) q) (by first | rfl | decide) (fun hJ => hJ.1.1) (fun hJ => PSy_wN hJ.1 (hσ81.trans hσ80) (by decide)) (fun σ82 hσ82 => ?_)
  refine P_wc (fun hJ _ _ q => E_putRF clX11 57 (by decide) flX11_149 (Or.inr ⟨_, rfl⟩) rfl rfl rfl dX11_init_335 (PSy_k (n := 106) (i := 67) (q := (13, 0)) hJ.1 hσ82 (by decide) (by decide)) q) (fun hJ => PSy_wR hJ.1) rfl rfl rfl (fun σ83 hσ83 => ?_)
  refine P_l (fun hJ _ _ q => E_aload_n dX11_init_338 rfl (E_iconst (v := 4) dX11_init_339 (by decide) q)) ?_
  refine P_nc (c := 106) (c2 := 107) (q := (0, 4)) (n := 4) (st := [.ref 67]) (hσ83.trans hσ82) (by first | rfl | omega) (fun hJ _ _ q => E_newaI (n := 4) ac_int dX11_init_340 rfl (Nat.le_of_ble_eq_true rfl) q) (by first | rfl | decide) (fun hJ => hJ.1.1) (fun hJ => PSy_wN hJ.1 (hσ83.trans hσ82) (by decide)) (fun σ84 hσ84 => ?_)
  refine P_wc (fun hJ _ _ q => E_putRF clX11 58 (by decide) flX11_152 (Or.inr ⟨_, rfl⟩) rfl rfl rfl dX11_init_342 (PSy_k (n := 107) (i := 67) (q := (13, 0)) hJ.1 hσ84 (by decide) (by decide)) q) (fun hJ => PSy_wR hJ.1) rfl rfl rfl (fun σ85 hσ85 => ?_)
  refine P_l (fun hJ _ _ q => E_aload_n dX11_init_345 rfl (E_iconst (v := 4) dX11_init_346 (by decide) q)) ?_
  refine P_nc (c := 107) (c2 := 108) (q := (0, 4)) (n := 4) (st := [.ref 67]) (hσ85.trans hσ84) (by first | rfl | omega) (fun hJ _ _ q => E_newaI (n := 4) ac_int dX11_init_347 rfl (Nat.le_of_ble_eq_true rfl) q) (by first | rfl | decide) (fun hJ => hJ.1.1) (fun hJ => PSy_wN hJ.1 (hσ85.trans hσ84) (by decide)) (fun σ86 hσ86 => ?_)
  refine P_wc (fun hJ _ _ q => E_putRF clX11 59 (by decide) flX11_155 (Or.inr ⟨_, rfl⟩) rfl rfl rfl dX11_init_349 (PSy_k (n := 108) (i := 67) (q := (13, 0)) hJ.1 hσ86 (by decide) (by decide)) q) (fun hJ => PSy_wR hJ.1) rfl rfl rfl (fun σ87 hσ87 => ?_)
  refine P_l (fun hJ _ _ q => E_aload_n dX11_init_352 rfl (E_iconst (v := 4) dX11_init_353 (by decide) q)) ?_
  refine P_nc (c := 108) (c2 := 109) (q := (0, 4)) (n := 4) (st := [.ref 67]) (hσ87.trans hσ86) (by first | rfl | omega) (fun hJ _ _ q => E_newaI (n := 4) ac_int dX11_init_354 rfl (Nat.le_of_ble_eq_true rfl) q) (by first | rfl | decide) (fun hJ => hJ.1.1) (fun hJ => PSy_wN hJ.1 (hσ87.trans hσ86) (by decide)) (fun σ88 hσ88 => ?_)
  refine P_wc (fun hJ _ _ q => E_putRF clX11 60 (by decide) flX11_158 (Or.inr ⟨_, rfl⟩) rfl rfl rfl dX11_init_356 (PSy_k (n := 109) (i := 67) (q := (13, 0)) hJ.1 hσ88 (by decide) (by decide)) q) (fun hJ => PSy_wR hJ.1) rfl rfl rfl (fun σ89 hσ89 => ?_)
  refine P_l (fun hJ _ _ q => E_aload_n dX11_init_359 rfl (E_bipush (v := 52) dX11_init_360 (by decide) q)) ?_
  refine P_nc (c := 109) (c2 := 110) (q := (0, 52)) (n := 52) (st := [.ref 67]) (hσ89.trans hσ88) (by first | rfl | omega) (fun hJ _ _ q => E_newaI (n := 52) ac_int dX11_init_362 rfl (Nat.le_of_ble_eq_true rfl) q) (by first | rfl | decide) (fun hJ => hJ.1.1) (fun hJ => PSy_wN hJ.1 (hσ89.trans hσ88) (by decide)) (fun σ90 hσ90 => ?_)
  refine P_wc (fun hJ _ _ q => E_putRF clX11 64 (by decide) flX11_161 (Or.inr ⟨_, rfl⟩) rfl rfl rfl dX11_init_364 (PSy_k (n := 110) (i := 67) (q := (13, 0)) hJ.1 hσ90 (by decide) (by decide)) q) (fun hJ => PSy_wR hJ.1) rfl rfl rfl (fun σ91 hσ91 => ?_)
  refine P_l (fun hJ _ _ q => E_aload_n dX11_init_367 rfl (E_bipush (v := 64) dX11_init_368 (by decide) q)) ?_
  refine P_nc (c := 110) (c2 := 111) (q := (0, 64)) (n := 64) (st := [.ref 67]) (hσ91.trans hσ90) (by first | rfl | omega) (fun hJ _ _ q => E_newaI (n := 64) ac_int dX11_init_370 rfl (Nat.le_of_ble_eq_true rfl) q) (by first | rfl | decide) (fun hJ => hJ.1.1) (fun hJ => PSy_wN hJ.1 (hσ91.trans hσ90) (by decide)) (fun σ92 hσ92 => ?_)
  refine P_wc (fun hJ _ _ q => E_putRF clX11 66 (by decide) flX11_164 (Or.inr ⟨_, rfl⟩) rfl rfl rfl dX11_init_372 (PSy_k (n := 111) (i := 67) (q := (13, 0)) hJ.1 hσ92 (by decide) (by decide)) q) (fun hJ => PSy_wR hJ.1) rfl rfl rfl (fun σ93 hσ93 => ?_)
  refine P_l (fun hJ _ _ q => E_aload_n dX11_init_375 rfl (E_bipush (v := 64) dX11_init_376 (by decide) q)) ?_
  refine P_nc (c := 111) (c2 := 112) (q := (0, 64)) (n := 64) (st := [.ref 67]) (hσ93.trans hσ92) (by first | rfl | omega) (fun hJ _ _ q => E_newaI (n := 64) ac_int dX11_init_378 rfl (Nat.le_of_ble_eq_true rfl) q) (by first | rfl | decide) (fun hJ => hJ.1.1) (fun hJ => PSy_wN hJ.1 (hσ93.trans hσ92) (by decide)) (fun σ94 hσ94 => ?_)
  refine P_wc (fun hJ _ _ q => E_putRF clX11 67 (by decide) flX11_167 (Or.inr ⟨_, rfl⟩) rfl rfl rfl dX11_init_380 (PSy_k (n := 112) (i := 67) (q := (13, 0)) hJ.1 hσ94 (by decide) (by decide)) q) (fun hJ => PSy_wR hJ.1) rfl rfl rfl (fun σ95 hσ95 => ?_)
  refine P_l (fun hJ _ _ q => E_aload_n dX11_init_383 rfl (E_iconst (v := 4) dX11_init_384 (by decide) q)) ?_
  refine P_nc (c := 112) (c2 := 113) (q := (0, 4)) (n := 4) (st := [.ref 67]) (hσ95.trans hσ94) (by first | rfl | omega) (fun hJ _ _ q => E_newaI (n := 4) ac_int dX11_init_385 rfl (Nat.le_of_ble_eq_true rfl) q) (by first | rfl | decide) (fun hJ => hJ.1.1) (fun hJ => PSy_wN hJ.1 (hσ95.trans hσ94) (by decide)) (fun σ96 hσ96 => ?_)
  refine P_wc (fun hJ _ _ q => E_putRF clX11 68 (by decide) flX11_170 (Or.inr ⟨_, rfl⟩) rfl rfl rfl dX11_init_387 (PSy_k (n := 113) (i := 67) (q := (13, 0)) hJ.1 hσ96 (by decide) (by decide)) q) (fun hJ => PSy_wR hJ.1) rfl rfl rfl (fun σ97 hσ97 => ?_)
  refine P_l (fun hJ _ _ q => E_aload_n dX11_init_390 rfl (E_iconst (v := 4) dX11_init_391 (by decide) q)) ?_
  refine P_nc (c := 113) (c2 := 114) (q := (0, 4)) (n := 4) (st := [.ref 67]) (hσ97.trans hσ96) (by first | rfl | omega) (fun hJ _ _ q => E_newaI (n := 4) ac_int dX11_init_392 rfl (Nat.le_of_ble_eq_true rfl) q) (by first | rfl | decide) (fun hJ => hJ.1.1) (fun hJ => PSy_wN hJ.1 (hσ97.trans hσ96) (by decide)) (fun σ98 hσ98 => ?_)
  refine P_wc (fun hJ _ _ q => E_putRF clX11 69 (by decide) flX11_173 (Or.inr ⟨_, rfl⟩) rfl rfl rfl dX11_init_394 (PSy_k (n := 114) (i := 67) (q := (13, 0)) hJ.1 hσ98 (by decide) (by decide)) q) (fun hJ => PSy_wR hJ.1) rfl rfl rfl (fun σ99 hσ99 => ?_)
  refine P_l (fun hJ _ _ q => E_iconst (v := 5) dX11_init_397 (by decide) (E_istore_n (ls2 := [some (.ref 67), some (.int 5), none, none]) dX11_init_398 (by decide) rfl (E_iconst (v := 1) dX11_init_399 (by decide) (E_istore_n (ls2 := [some (.ref 67), some (.int 5), some (.int 1), none]) dX11_init_400 (by decide) rfl q)))) ?_
  refine P_loop (fun s100 => [some (.ref 67), some (.int s100.1), some (.int s100.2.1), none]) (fun s100 => s100.2.2) (fun s100 => ?_) _ ((5, 1, σ99))
  unfold b_X11_init_401
  refine P_g (fun r101 => ?_)
  refine P_l (fun hJ _ _ q => E_iload_n dX11_init_401 rfl (E_iconst (v := 5) dX11_init_402 (by decide) q)) ?_
  refine P_if (fun hJ _ _ h1 h2 => E_icmp_ge 449 dX11_init_403 (by decide) h1 h2) ?_ ?_
  · skip
    refine P_l (fun hJ _ _ q => E_aload_n dX11_init_449 rfl q) ?_
    refine P_call (t := fun _ => none) (st2 := fun _ => []) (kc2 := 0) (ks2 := 0) (fun hJ => (ok_X11_laysUses_c (σ := s100.2.2)  r101)) (fun hJ _ _ _ _ v τ1 hM q => E_callV (as := []) (b := 67) (st := []) hM (by decide) yfX11_laysUses mlX11_176 imX11_laysUses seX11_laysUses clX11 (PSy_k (n := 114) (i := 67) (q := (13, 0)) hJ.1 r101 (by decide) (by decide)) rfl (Nat.le_of_ble_eq_true rfl) rfl dX11_init_450 q) (by decide) (by decide) (fun v102 σ103 => ?_)
    refine P_g (fun r104 => ?_)
    exact P_inl (P_ret (fun _ _ => E_vret rfl dX11_init_453))
  · skip
    refine P_l (fun hJ _ _ q => E_aload_n dX11_init_406 rfl q) ?_
    refine P_g (fun g105 => ?_)
    refine P_l (fun hJ _ _ q => E_getR (b := 90) clX11 39 (by decide) flX11_103 (Or.inr ⟨_, rfl⟩) dX11_init_407 (PSy_k (n := 114) (i := 67) (q := (13, 0)) hJ.1 r101 (by decide) (by decide)) g105 (by decide) (E_iload_n dX11_init_410 rfl (E_iload_n dX11_init_411 rfl q))) ?_
    refine P_g (fun g106 => ?_)
    refine P_wc (fun hJ _ _ q => E_iast dX11_init_412 (PSy_k (n := 114) (i := 90) (q := (0, 16)) hJ.1 r101 (by decide) (by decide)) (by decide) (inB_vp g106) q) (fun hJ => PSy_wI hJ.1) rfl rfl rfl (fun σ107 hσ107 => ?_)
    refine P_l (fun hJ _ _ q => E_iload_n dX11_init_413 rfl (E_istore_n (ls2 := [some (.ref 67), some (.int s100.1), some (.int s100.2.1), some (.int s100.2.1)]) dX11_init_414 (by decide) rfl q)) ?_
    refine P_loop (fun s108 => [some (.ref 67), some (.int s108.1), some (.int s100.2.1), some (.int s108.2.1)]) (fun s108 => s108.2.2) (fun s108 => ?_) _ ((s100.1, s100.2.1, σ107))
    unfold b_X11_init_415
    refine P_g (fun r109 => ?_)
    refine P_l (fun hJ _ _ q => E_iload_n dX11_init_415 rfl (E_iconst (v := 5) dX11_init_416 (by decide) q)) ?_
    refine P_if (fun hJ _ _ h1 h2 => E_icmp_ge 443 dX11_init_417 (by decide) h1 h2) ?_ ?_
    · skip
      refine P_l (fun hJ _ _ q => E_iinc (v := 1) (ls2 := [some (.ref 67), some (.int s108.1), some (.int (s100.2.1 + 1)), some (.int s108.2.1)]) dX11_init_443 rfl (by decide) (by decide) rfl (E_goto 401 dX11_init_446 (by decide) q)) ?_
      refine P_less [some (.ref 67), some (.int s108.1), some (.int (s100.2.1 + 1)), none] (And.intro rfl (And.intro rfl (And.intro rfl trivial))) ?_
      exact P_inl (P_back ((s108.1, s100.2.1 + 1, s108.2.2)))
    · skip
      refine P_l (fun hJ _ _ q => E_aload_n dX11_init_420 rfl q) ?_
      refine P_g (fun g110 => ?_)
      refine P_l (fun hJ _ _ q => E_getR (b := 89) clX11 38 (by decide) flX11_100 (Or.inr ⟨_, rfl⟩) dX11_init_421 (PSy_k (n := 114) (i := 67) (q := (13, 0)) hJ.1 r109 (by decide) (by decide)) g110 (by decide) (E_iload_n dX11_init_424 rfl (E_iload_n dX11_init_425 rfl q))) ?_
      refine P_g (fun g111 => ?_)
      refine P_wc (fun hJ _ _ q => E_iast dX11_init_426 (PSy_k (n := 114) (i := 89) (q := (0, 16)) hJ.1 r109 (by decide) (by decide)) (by decide) (inB_vp g111) q) (fun hJ => PSy_wI hJ.1) rfl rfl rfl (fun σ112 hσ112 => ?_)
      refine P_l (fun hJ _ _ q => E_aload_n dX11_init_427 rfl q) ?_
      refine P_g (fun g113 => ?_)
      refine P_l (fun hJ _ _ q => E_getR (b := 90) clX11 39 (by decide) flX11_103 (Or.inr ⟨_, rfl⟩) dX11_init_428 (PSy_k (n := 114) (i := 67) (q := (13, 0)) hJ.1 (hσ112.trans r109) (by decide) (by decide)) g113 (by decide) (E_iload_n dX11_init_431 rfl (E_iload_n dX11_init_432 rfl q))) ?_
      refine P_wc (fun hJ _ _ q => E_iast dX11_init_433 (PSy_k (n := 114) (i := 90) (q := (0, 16)) hJ.1 (hσ112.trans r109) (by decide) (by decide)) (by decide) (inB_vp g111) q) (fun hJ => PSy_wI hJ.1) rfl rfl rfl (fun σ114 hσ114 => ?_)
      refine P_l (fun hJ _ _ q => E_iinc (v := 1) (ls2 := [some (.ref 67), some (.int (s108.1 + 1)), some (.int s100.2.1), some (.int s108.2.1)]) dX11_init_434 rfl (by decide) (by decide) rfl (E_iinc (v := 1) (ls2 := [some (.ref 67), some (.int (s108.1 + 1)), some (.int s100.2.1), some (.int (s108.2.1 + 1))]) dX11_init_437 rfl (by decide) (by decide) rfl (E_goto 415 dX11_init_440 (by decide) q))) ?_
      exact P_back ((s108.1 + 1, s108.2.1 + 1, σ114))

