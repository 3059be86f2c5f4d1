def b_L_law_92 (v1 : Int32) (s12 : Int32 × Int32 × rS) : Option (((Int32 × rS) ⊕ (Int32 × rS)) ⊕ (Int32 × Int32 × rS)) := if 3 ≤ s12.2.1 then (some (.inl (.inr ((s12.1, s12.2.2))))) else (oJoin (if s12.2.1 = 0 then (some (.inr ((1 : Int32)))) else ((f_L_low s12.2.2 (v1 >>> ((s12.2.1 + 3) &&& 31)) 3).bind fun v14 => some (.inr (1 + v14)))) fun j13 => oB (f_L_ask s12.2.2 1 (iRem s12.2.1 2) j13) fun v15 σ16 => oLet (s12.1 &&& ((if (lg_cmp v15 (((s12.2.1 : Int32)).toInt64)) = 0 then 1 else 0 : Int32)) : Int32) fun x17 => some (.inr ((x17, s12.2.1 + 1, σ16))))
def b_L_law_204 (v2 : Int32) (v3 : Int32) (s27 : Int32 × Int32 × rS) : Option (((Int32 × rS) ⊕ (Int32 × rS)) ⊕ (Int32 × Int32 × rS)) := if (if 24 ≤ s27.2.1 then true else (if s27.1 = 0 then true else false)) = true then (some (.inl (.inr ((s27.1, s27.2.2))))) else ((f_L_cell s27.2.2 ((2 * s27.2.1) + 2)).bind fun v28 => (f_L_cell s27.2.2 ((2 * s27.2.1) + 3)).bind fun v29 => (f_L_low s27.2.2 (v28 >>> ((4 : Int32) &&& 31)) 27).bind fun v30 => if 21 ≤ v30 then (if 23 ≤ v30 then (if 25 ≤ v30 then (oB (f_L_balances s27.2.2 ((8 * (5 + v2)) + v3)) fun v31 σ32 => some (.inr ((v31, s27.2.1 + 1, σ32)))) else (oB (f_L_looks s27.2.2 v29 (5 + v2)) fun v33 σ34 => some (.inr ((v33, s27.2.1 + 1, σ34))))) else ((f_L_low s27.2.2 v29 3).bind fun v35 => oB (f_L_plans s27.2.2 v35) fun v36 σ37 => some (.inr ((v36, s27.2.1 + 1, σ37))))) else (oB (f_seg s27.2.2 v28 v29 v30 (5 + v2)) fun v38 σ39 => some (.inr ((v38, s27.2.1 + 1, σ39)))))
def f_L_run (σ : rS) : Option (Int32 × rS) := (f_L_cell σ 0).bind fun v1 => (f_L_low σ v1 9).bind fun v2 => (f_L_low σ (v1 >>> ((4 : Int32) &&& 31)) 4).bind fun v3 => (f_L_low σ (v1 >>> ((6 : Int32) &&& 31)) 2).bind fun v4 => (f_L_low σ (v1 >>> ((8 : Int32) &&& 31)) 31).bind fun v5 => (f_L_low σ (v1 >>> ((13 : Int32) &&& 31)) 9).bind fun v6 => oB (f_L_does σ 0 (5 + v2) (3 + v4) v3 v5 (1 + v6)) fun v7 σ8 => oLet ((if (lg_cmp v7 ((((8 * (5 + v2)) + v3 : Int32)).toInt64)) = 0 then 1 else 0 : Int32) : Int32) fun x9 => oJoin (oLoop (b_L_law_92 v1) 4 ((x9, 0, σ8))) fun j11 => (f_L_cell j11.2 1).bind fun v18 => (f_L_low j11.2 v18 65536).bind fun v19 => (f_L_cell j11.2 1).bind fun v20 => (f_L_low j11.2 (v20 >>> ((5 : Int32) &&& 31)) 8).bind fun v21 => oB (f_L_does j11.2 2 v19 (6 + v21) 500 0 0) fun v22 σ23 => oLet (j11.1 &&& ((if (lg_cmp v22 (0 : Int64)) < 0 then 0 else 1 : Int32)) : Int32) fun x24 => oJoin (oLoop (b_L_law_204 v2 v3) 25 ((x24, 0, σ23))) fun j26 => if j26.1 = 0 then (some ((0, j26.2))) else (oB (f_L_balances j26.2 ((8 * (5 + v2)) + v3)) fun v40 σ41 => if v40 = 0 then (some ((0, σ41))) else (oB (f_L_plans σ41 0) fun v42 σ43 => some (((if v42 = 0 then 0 else 1 : Int32), σ43))))
set_option maxRecDepth 20000 in
set_option maxHeartbeats 8000000 in
theorem ok_run {σ τ : rS} {o : Option Value ⊕ String} : rP Sy mL_law 28 45474 275644 o τ Prod.snd (K0 tI o τ) 8 [some (.ref 2), some (.ref 3), none, none, none, none, none, none, none, none, none] [] σ (f_L_run σ) := by
  unfold f_L_run
  refine P_l (fun hJ _ _ q => E_aload_n dL_law_8 rfl (E_iconst (v := 0) dL_law_9 (by decide) q)) ?_
  refine P_callr (t := fun v => some (.int v)) (st2 := fun v => .int v :: []) (fun hJ => (ok_L_cell (σ := σ) (p1 := 0) )) (fun hJ _ _ v hM q => E_callS (as := [.ref 2, .int 0]) (st := []) hM (by decide) yfL_cell mlL_162 stL_cell rfl (Nat.le_of_ble_eq_true rfl) rfl dL_law_10 q) (fun v1 => ?_)
  refine P_l (fun hJ _ _ q => E_istore_n (ls2 := [some (.ref 2), some (.ref 3), some (.int v1), none, none, none, none, none, none, none, none]) dL_law_13 (by decide) rfl (E_iconst (v := 5) dL_law_14 (by decide) (E_iload_n dL_law_15 rfl (E_bipush (v := 9) dL_law_16 (by decide) q)))) ?_
  refine P_callr (t := fun v => some (.int v)) (st2 := fun v => .int v :: [.int 5]) (fun hJ => (ok_L_low (σ := σ) (p1 := v1) (p2 := 9) )) (fun hJ _ _ v hM q => E_callS (as := [.int v1, .int 9]) (st := [.int 5]) hM (by decide) yfL_low mlL_153 stL_low rfl (Nat.le_of_ble_eq_true rfl) rfl dL_law_18 q) (fun v2 => ?_)
  refine P_l (fun hJ _ _ q => E_iadd dL_law_21 (E_istore_n (ls2 := [some (.ref 2), some (.ref 3), some (.int v1), some (.int (5 + v2)), none, none, none, none, none, none, none]) dL_law_22 (by decide) rfl (E_iload_n dL_law_23 rfl (E_iconst (v := 4) dL_law_24 (by decide) (E_ishr dL_law_25 (E_iconst (v := 4) dL_law_26 (by decide) q)))))) ?_
  refine P_callr (t := fun v => some (.int v)) (st2 := fun v => .int v :: []) (fun hJ => (ok_L_low (σ := σ) (p1 := v1 >>> ((4 : Int32) &&& 31)) (p2 := 4) )) (fun hJ _ _ v hM q => E_callS (as := [.int (v1 >>> ((4 : Int32) &&& 31)), .int 4]) (st := []) hM (by decide) yfL_low mlL_153 stL_low rfl (Nat.le_of_ble_eq_true rfl) rfl dL_law_27 q) (fun v3 => ?_)
  refine P_l (fun hJ _ _ q => E_istore (ls2 := [some (.ref 2), some (.ref 3), some (.int v1), some (.int (5 + v2)), some (.int v3), none, none, none, none, none, none]) dL_law_30 (by decide) rfl (E_aload_n dL_law_32 rfl (E_iconst (v := 0) dL_law_33 (by decide) (E_iload_n dL_law_34 rfl (E_iconst (v := 3) dL_law_35 (by decide) (E_iload_n dL_law_36 rfl (E_bipush (v := 6) dL_law_37 (by decide) (E_ishr dL_law_39 (E_iconst (v := 2) dL_law_40 (by decide) q))))))))) ?_
  refine P_callr (t := fun v => some (.int v)) (st2 := fun v => .int v :: [.int 3, .int (5 + v2), .int 0, .ref 3]) (fun hJ => (ok_L_low (σ := σ) (p1 := v1 >>> ((6 : Int32) &&& 31)) (p2 := 2) )) (fun hJ _ _ v hM q => E_callS (as := [.int (v1 >>> ((6 : Int32) &&& 31)), .int 2]) (st := [.int 3, .int (5 + v2), .int 0, .ref 3]) hM (by decide) yfL_low mlL_153 stL_low rfl (Nat.le_of_ble_eq_true rfl) rfl dL_law_41 q) (fun v4 => ?_)
  refine P_l (fun hJ _ _ q => E_iadd dL_law_44 (E_iload dL_law_45 rfl (E_iload_n dL_law_47 rfl (E_bipush (v := 8) dL_law_48 (by decide) (E_ishr dL_law_50 (E_bipush (v := 31) dL_law_51 (by decide) q)))))) ?_
  refine P_callr (t := fun v => some (.int v)) (st2 := fun v => .int v :: [.int v3, .int (3 + v4), .int (5 + v2), .int 0, .ref 3]) (fun hJ => (ok_L_low (σ := σ) (p1 := v1 >>> ((8 : Int32) &&& 31)) (p2 := 31) )) (fun hJ _ _ v hM q => E_callS (as := [.int (v1 >>> ((8 : Int32) &&& 31)), .int 31]) (st := [.int v3, .int (3 + v4), .int (5 + v2), .int 0, .ref 3]) hM (by decide) yfL_low mlL_153 stL_low rfl (Nat.le_of_ble_eq_true rfl) rfl dL_law_53 q) (fun v5 => ?_)
  refine P_l (fun hJ _ _ q => E_iconst (v := 1) dL_law_56 (by decide) (E_iload_n dL_law_57 rfl (E_bipush (v := 13) dL_law_58 (by decide) (E_ishr dL_law_60 (E_bipush (v := 9) dL_law_61 (by decide) q))))) ?_
  refine P_callr (t := fun v => some (.int v)) (st2 := fun v => .int v :: [.int 1, .int v5, .int v3, .int (3 + v4), .int (5 + v2), .int 0, .ref 3]) (fun hJ => (ok_L_low (σ := σ) (p1 := v1 >>> ((13 : Int32) &&& 31)) (p2 := 9) )) (fun hJ _ _ v hM q => E_callS (as := [.int (v1 >>> ((13 : Int32) &&& 31)), .int 9]) (st := [.int 1, .int v5, .int v3, .int (3 + v4), .int (5 + v2), .int 0, .ref 3]) hM (by decide) yfL_low mlL_153 stL_low rfl (Nat.le_of_ble_eq_true rfl) rfl dL_law_63 q) (fun v6 => ?_)
  refine P_l (fun hJ _ _ q => E_iadd dL_law_66 q) ?_
  refine P_callH (st2 := fun v => .long v :: []) (kc2 := 45470) (ks2 := 275620) (fun hJ => (ok_L_does (σ := σ) (p1 := 0) (p2 := 5 + v2) (p3 := 3 + v4) (p4 := v3) (p5 := v5) (p6 := 1 + v6))) (fun hJ _ _ _ _ v τ1 hM q => E_callSH (as := [.ref 3, .int 0, .int (5 + v2), .int (3 + v4), .int v3, .int v5, .int (1 + v6)]) (st := []) hM (by decide) yfL_does mlL_133 stL_does rfl (Nat.le_of_ble_eq_true rfl) rfl dL_law_67 q) (by omega) (by omega) (fun v7 σ8 => ?_)
  refine P_l (fun hJ _ _ q => E_bipush (v := 8) dL_law_70 (by decide) (E_iload_n dL_law_72 rfl (E_imul dL_law_73 (E_iload dL_law_74 rfl (E_iadd dL_law_76 (E_i2l dL_law_77 (E_lcmp dL_law_78 q))))))) ?_
  refine P_l (pc2 := 87) (ls2 := [some (.ref 2), some (.ref 3), some (.int v1), some (.int (5 + v2)), some (.int v3), none, none, none, none, none, none]) (st2 := [.int ((if (lg_cmp v7 ((((8 * (5 + v2)) + v3 : Int32)).toInt64)) = 0 then 1 else 0 : Int32))]) (fun hJ _ _ hq => ?_) ?_
  · skip
    refine E_if_ne 86 dL_law_79 (by decide) (fun c_79_0 => ?_) (fun c_79_0 => ?_)
    · skip
      refine E_iconst (v := 0) dL_law_86 (by decide) ?_
      simp only [if_neg c_79_0] at hq
      exact hq
    · skip
      refine E_iconst (v := 1) dL_law_82 (by decide) ?_
      refine E_goto 87 dL_law_83 (by decide) ?_
      simp only [if_pos c_79_0] at hq
      exact hq
  · skip
    refine P_l (fun hJ _ _ q => E_istore (ls2 := [some (.ref 2), some (.ref 3), some (.int v1), some (.int (5 + v2)), some (.int v3), some (.int ((if (lg_cmp v7 ((((8 * (5 + v2)) + v3 : Int32)).toInt64)) = 0 then 1 else 0 : Int32))), none, none, none, none, none]) dL_law_87 (by decide) rfl q) ?_
    refine P_v ((if (lg_cmp v7 ((((8 * (5 + v2)) + v3 : Int32)).toInt64)) = 0 then 1 else 0 : Int32)) (fun x => [some (.ref 2), some (.ref 3), some (.int v1), some (.int (5 + v2)), some (.int v3), some (.int x), none, none, none, none, none]) (fun x9 => ?_)
    refine P_l (fun hJ _ _ q => E_iconst (v := 0) dL_law_89 (by decide) (E_istore (ls2 := [some (.ref 2), some (.ref 3), some (.int v1), some (.int (5 + v2)), some (.int v3), some (.int x9), some (.int 0), none, none, none, none]) dL_law_90 (by decide) rfl q)) ?_
    refine P_joinF (kr := 45454) (sr := 275524) (pc2 := 151) (fun j11 => [some (.ref 2), some (.ref 3), none, some (.int (5 + v2)), some (.int v3), some (.int j11.1), none, none, none, none, none]) (fun j11 => []) (fun j11 => j11.2) ?_ (fun j11 => ?_)
    · skip
      refine P_loopG (r := 45454) (q := 275524) (c := 4) (d := 24) (n := 4) (s := ((x9, 0, σ8))) (ls := fun (s12 : Int32 × Int32 × rS) => [some (.ref 2), some (.ref 3), some (.int v1), some (.int (5 + v2)), some (.int v3), some (.int s12.1), some (.int s12.2.1), none, none, none, none]) (w := fun (s12 : Int32 × Int32 × rS) => s12.2.2) (by omega) (by omega) (fun kN ksN s12 => ?_)
      unfold b_L_law_92
      refine P_l (fun hJ _ _ q => E_iload dL_law_92 rfl (E_iconst (v := 3) dL_law_94 (by decide) q)) ?_
      refine P_if (fun hJ _ _ h1 h2 => E_icmp_ge 151 dL_law_95 (by decide) h1 h2) ?_ ?_
      · skip
        refine P_less [some (.ref 2), some (.ref 3), none, some (.int (5 + v2)), some (.int v3), some (.int s12.1), none, none, none, none, none] (And.intro rfl (And.intro rfl (And.intro rfl (And.intro rfl (And.intro rfl trivial))))) ?_
        refine P_room (kc2 := 45454) (ks2 := 275524) (by omega) (by omega) ?_
        exact P_inl (P_back ((s12.1, s12.2.2)))
      · skip
        refine P_l (fun hJ _ _ q => E_iload dL_law_98 rfl (E_aload_n dL_law_100 rfl (E_iconst (v := 1) dL_law_101 (by decide) (E_iload dL_law_102 rfl (E_iconst (v := 2) dL_law_104 (by decide) (E_irem dL_law_105 (by decide) (E_iload dL_law_106 rfl q))))))) ?_
        refine P_join (pc2 := 127) (fun j13 => [some (.ref 2), some (.ref 3), some (.int v1), some (.int (5 + v2)), some (.int v3), none, some (.int s12.2.1), none, none, none, none]) (fun j13 => [.int j13, .int (iRem s12.2.1 2), .int 1, .ref 3, .int s12.1]) (fun _ => s12.2.2) ?_ (fun j13 => ?_)
        · skip
          refine P_if (fun hJ _ _ h1 h2 => E_if_ne 115 dL_law_108 (by decide) h2 h1) ?_ ?_
          · skip
            refine P_l (fun hJ _ _ q => E_iconst (v := 1) dL_law_111 (by decide) (E_goto 127 dL_law_112 (by decide) q)) ?_
            refine P_less [some (.ref 2), some (.ref 3), some (.int v1), some (.int (5 + v2)), some (.int v3), none, some (.int s12.2.1), none, none, none, none] (And.intro rfl (And.intro rfl (And.intro rfl (And.intro rfl (And.intro rfl (And.intro rfl trivial)))))) ?_
            exact P_back ((1 : Int32))
          · skip
            refine P_l (fun hJ _ _ q => E_iconst (v := 1) dL_law_115 (by decide) (E_iload_n dL_law_116 rfl (E_iload dL_law_117 rfl (E_iconst (v := 3) dL_law_119 (by decide) (E_iadd dL_law_120 (E_ishr dL_law_121 (E_iconst (v := 3) dL_law_122 (by decide) q))))))) ?_
            refine P_callr (t := fun v => some (.int v)) (st2 := fun v => .int v :: [.int 1, .int (iRem s12.2.1 2), .int 1, .ref 3, .int s12.1]) (fun hJ => (ok_L_low (σ := s12.2.2) (p1 := v1 >>> ((s12.2.1 + 3) &&& 31)) (p2 := 3) )) (fun hJ _ _ v hM q => E_callS (as := [.int (v1 >>> ((s12.2.1 + 3) &&& 31)), .int 3]) (st := [.int 1, .int (iRem s12.2.1 2), .int 1, .ref 3, .int s12.1]) hM (by decide) yfL_low mlL_153 stL_low rfl (Nat.le_of_ble_eq_true rfl) rfl dL_law_123 q) (fun v14 => ?_)
            refine P_l (fun hJ _ _ q => E_iadd dL_law_126 q) ?_
            refine P_less [some (.ref 2), some (.ref 3), some (.int v1), some (.int (5 + v2)), some (.int v3), none, some (.int s12.2.1), none, none, none, none] (And.intro rfl (And.intro rfl (And.intro rfl (And.intro rfl (And.intro rfl (And.intro rfl trivial)))))) ?_
            exact P_back (1 + v14)
        · skip
          refine P_call (t := fun v => some (.long v)) (st2 := fun v => .long v :: [.int s12.1]) (kc2 := kN + 45454) (ks2 := ksN + 275524) (fun hJ => (ok_L_ask (σ := s12.2.2) (p1 := 1) (p2 := iRem s12.2.1 2) (p3 := j13))) (fun hJ _ _ _ _ v τ1 hM q => E_callS (as := [.ref 3, .int 1, .int (iRem s12.2.1 2), .int j13]) (st := [.int s12.1]) hM (by decide) yfL_ask mlL_139 stL_ask rfl (Nat.le_of_ble_eq_true rfl) rfl dL_law_127 q) (by omega) (by omega) (fun v15 σ16 => ?_)
          refine P_l (fun hJ _ _ q => E_iload dL_law_130 rfl (E_i2l dL_law_132 (E_lcmp dL_law_133 q))) ?_
          refine P_l (pc2 := 142) (ls2 := [some (.ref 2), some (.ref 3), some (.int v1), some (.int (5 + v2)), some (.int v3), none, some (.int s12.2.1), none, none, none, none]) (st2 := [.int ((if (lg_cmp v15 (((s12.2.1 : Int32)).toInt64)) = 0 then 1 else 0 : Int32)), .int s12.1]) (fun hJ _ _ hq => ?_) ?_
          · skip
            refine E_if_ne 141 dL_law_134 (by decide) (fun c_134_0 => ?_) (fun c_134_0 => ?_)
            · skip
              refine E_iconst (v := 0) dL_law_141 (by decide) ?_
              simp only [if_neg c_134_0] at hq
              exact hq
            · skip
              refine E_iconst (v := 1) dL_law_137 (by decide) ?_
              refine E_goto 142 dL_law_138 (by decide) ?_
              simp only [if_pos c_134_0] at hq
              exact hq
          · skip
            refine P_l (fun hJ _ _ q => E_iand dL_law_142 (E_istore (ls2 := [some (.ref 2), some (.ref 3), some (.int v1), some (.int (5 + v2)), some (.int v3), some (.int (s12.1 &&& ((if (lg_cmp v15 (((s12.2.1 : Int32)).toInt64)) = 0 then 1 else 0 : Int32)))), some (.int s12.2.1), none, none, none, none]) dL_law_143 (by decide) rfl q)) ?_
            refine P_v (s12.1 &&& ((if (lg_cmp v15 (((s12.2.1 : Int32)).toInt64)) = 0 then 1 else 0 : Int32))) (fun x => [some (.ref 2), some (.ref 3), some (.int v1), some (.int (5 + v2)), some (.int v3), some (.int x), some (.int s12.2.1), none, none, none, none]) (fun x17 => ?_)
            refine P_l (fun hJ _ _ q => E_iinc (v := 1) (ls2 := [some (.ref 2), some (.ref 3), some (.int v1), some (.int (5 + v2)), some (.int v3), some (.int x17), some (.int (s12.2.1 + 1)), none, none, none, none]) dL_law_145 rfl (by decide) (by decide) rfl (E_goto 92 dL_law_148 (by decide) q)) ?_
            refine P_room (kc2 := kN + 45454) (ks2 := ksN + 275524) (by omega) (by omega) ?_
            exact P_back ((x17, s12.2.1 + 1, σ16))
    · skip
      refine P_l (fun hJ _ _ q => E_iload dL_law_151 rfl (E_aload_n dL_law_153 rfl (E_iconst (v := 2) dL_law_154 (by decide) (E_aload_n dL_law_155 rfl (E_iconst (v := 1) dL_law_156 (by decide) q))))) ?_
      refine P_callr (t := fun v => some (.int v)) (st2 := fun v => .int v :: [.int 2, .ref 3, .int j11.1]) (fun hJ => (ok_L_cell (σ := j11.2) (p1 := 1) )) (fun hJ _ _ v hM q => E_callS (as := [.ref 2, .int 1]) (st := [.int 2, .ref 3, .int j11.1]) hM (by decide) yfL_cell mlL_162 stL_cell rfl (Nat.le_of_ble_eq_true rfl) rfl dL_law_157 q) (fun v18 => ?_)
      refine P_l (fun hJ _ _ q => E_ldc dL_law_160 kcL_160 q) ?_
      refine P_callr (t := fun v => some (.int v)) (st2 := fun v => .int v :: [.int 2, .ref 3, .int j11.1]) (fun hJ => (ok_L_low (σ := j11.2) (p1 := v18) (p2 := 65536) )) (fun hJ _ _ v hM q => E_callS (as := [.int v18, .int 65536]) (st := [.int 2, .ref 3, .int j11.1]) hM (by decide) yfL_low mlL_153 stL_low rfl (Nat.le_of_ble_eq_true rfl) rfl dL_law_162 q) (fun v19 => ?_)
      refine P_l (fun hJ _ _ q => E_bipush (v := 6) dL_law_165 (by decide) (E_aload_n dL_law_167 rfl (E_iconst (v := 1) dL_law_168 (by decide) q))) ?_
      refine P_callr (t := fun v => some (.int v)) (st2 := fun v => .int v :: [.int 6, .int v19, .int 2, .ref 3, .int j11.1]) (fun hJ => (ok_L_cell (σ := j11.2) (p1 := 1) )) (fun hJ _ _ v hM q => E_callS (as := [.ref 2, .int 1]) (st := [.int 6, .int v19, .int 2, .ref 3, .int j11.1]) hM (by decide) yfL_cell mlL_162 stL_cell rfl (Nat.le_of_ble_eq_true rfl) rfl dL_law_169 q) (fun v20 => ?_)
      refine P_l (fun hJ _ _ q => E_iconst (v := 5) dL_law_172 (by decide) (E_ishr dL_law_173 (E_bipush (v := 8) dL_law_174 (by decide) q))) ?_
      refine P_callr (t := fun v => some (.int v)) (st2 := fun v => .int v :: [.int 6, .int v19, .int 2, .ref 3, .int j11.1]) (fun hJ => (ok_L_low (σ := j11.2) (p1 := v20 >>> ((5 : Int32) &&& 31)) (p2 := 8) )) (fun hJ _ _ v hM q => E_callS (as := [.int (v20 >>> ((5 : Int32) &&& 31)), .int 8]) (st := [.int 6, .int v19, .int 2, .ref 3, .int j11.1]) hM (by decide) yfL_low mlL_153 stL_low rfl (Nat.le_of_ble_eq_true rfl) rfl dL_law_176 q) (fun v21 => ?_)
      refine P_l (fun hJ _ _ q => E_iadd dL_law_179 (E_sipush (v := 500) dL_law_180 (by decide) (E_iconst (v := 0) dL_law_183 (by decide) (E_iconst (v := 0) dL_law_184 (by decide) q)))) ?_
      refine P_callH (st2 := fun v => .long v :: [.int j11.1]) (kc2 := 45450) (ks2 := 275500) (fun hJ => (ok_L_does (σ := j11.2) (p1 := 2) (p2 := v19) (p3 := 6 + v21) (p4 := 500) (p5 := 0) (p6 := 0))) (fun hJ _ _ _ _ v τ1 hM q => E_callSH (as := [.ref 3, .int 2, .int v19, .int (6 + v21), .int 500, .int 0, .int 0]) (st := [.int j11.1]) hM (by decide) yfL_does mlL_133 stL_does rfl (Nat.le_of_ble_eq_true rfl) rfl dL_law_185 q) (by omega) (by omega) (fun v22 σ23 => ?_)
      refine P_l (fun hJ _ _ q => E_lconst (v := 0) dL_law_188 (by decide) (E_lcmp dL_law_189 q)) ?_
      refine P_l (pc2 := 198) (ls2 := [some (.ref 2), some (.ref 3), none, some (.int (5 + v2)), some (.int v3), none, none, none, none, none, none]) (st2 := [.int ((if (lg_cmp v22 (0 : Int64)) < 0 then 0 else 1 : Int32)), .int j11.1]) (fun hJ _ _ hq => ?_) ?_
      · skip
        refine E_if_lt 197 dL_law_190 (by decide) (fun c_190_0 => ?_) (fun c_190_0 => ?_)
        · skip
          refine E_iconst (v := 0) dL_law_197 (by decide) ?_
          simp only [if_pos c_190_0] at hq
          exact E_less (ls2 := [some (.ref 2), some (.ref 3), none, some (.int (5 + v2)), some (.int v3), none, none, none, none, none, none]) hq (rLe_at [some (.ref 2), some (.ref 3), none, some (.int (5 + v2)), some (.int v3), none, none, none, none, none, none] [some (.ref 2), some (.ref 3), none, some (.int (5 + v2)), some (.int v3), some (.int j11.1), none, none, none, none, none] (And.intro rfl (And.intro rfl (And.intro rfl (And.intro rfl trivial)))))
        · skip
          refine E_iconst (v := 1) dL_law_193 (by decide) ?_
          refine E_goto 198 dL_law_194 (by decide) ?_
          simp only [if_neg c_190_0] at hq
          exact E_less (ls2 := [some (.ref 2), some (.ref 3), none, some (.int (5 + v2)), some (.int v3), none, none, none, none, none, none]) hq (rLe_at [some (.ref 2), some (.ref 3), none, some (.int (5 + v2)), some (.int v3), none, none, none, none, none, none] [some (.ref 2), some (.ref 3), none, some (.int (5 + v2)), some (.int v3), some (.int j11.1), none, none, none, none, none] (And.intro rfl (And.intro rfl (And.intro rfl (And.intro rfl trivial)))))
      · skip
        refine P_l (fun hJ _ _ q => E_iand dL_law_198 (E_istore (ls2 := [some (.ref 2), some (.ref 3), none, some (.int (5 + v2)), some (.int v3), some (.int (j11.1 &&& ((if (lg_cmp v22 (0 : Int64)) < 0 then 0 else 1 : Int32)))), none, none, none, none, none]) dL_law_199 (by decide) rfl q)) ?_
        refine P_v (j11.1 &&& ((if (lg_cmp v22 (0 : Int64)) < 0 then 0 else 1 : Int32))) (fun x => [some (.ref 2), some (.ref 3), none, some (.int (5 + v2)), some (.int v3), some (.int x), none, none, none, none, none]) (fun x24 => ?_)
        refine P_l (fun hJ _ _ q => E_iconst (v := 0) dL_law_201 (by decide) (E_istore (ls2 := [some (.ref 2), some (.ref 3), none, some (.int (5 + v2)), some (.int v3), some (.int x24), some (.int 0), none, none, none, none]) dL_law_202 (by decide) rfl q)) ?_
        refine P_joinF (kr := 1100) (sr := 6600) (pc2 := 389) (fun j26 => [none, some (.ref 3), none, some (.int (5 + v2)), some (.int v3), some (.int j26.1), none, none, none, none, none]) (fun j26 => []) (fun j26 => j26.2) ?_ (fun j26 => ?_)
        · skip
          refine P_loopG (r := 1100) (q := 6600) (c := 1774) (d := 10756) (n := 25) (s := ((x24, 0, σ23))) (ls := fun (s27 : Int32 × Int32 × rS) => [some (.ref 2), some (.ref 3), none, some (.int (5 + v2)), some (.int v3), some (.int s27.1), some (.int s27.2.1), none, none, none, none]) (w := fun (s27 : Int32 × Int32 × rS) => s27.2.2) (by omega) (by omega) (fun kN ksN s27 => ?_)
          unfold b_L_law_204
          refine P_l (fun hJ _ _ q => E_iload dL_law_204 rfl (E_bipush (v := 24) dL_law_206 (by decide) q)) ?_
          refine P_if (c := (if 24 ≤ s27.2.1 then true else (if s27.1 = 0 then true else false)) = true) (pc1 := 389) (ls1 := [some (.ref 2), some (.ref 3), none, some (.int (5 + v2)), some (.int v3), some (.int s27.1), some (.int s27.2.1), none, none, none, none]) (st1 := []) (pc2 := 216) (ls2 := [some (.ref 2), some (.ref 3), none, some (.int (5 + v2)), some (.int v3), some (.int s27.1), some (.int s27.2.1), none, none, none, none]) (st2 := []) (fun hJ _ _ hX hY => ?_) ?_ ?_
          · skip
            refine E_icmp_ge 389 dL_law_208 (by decide) (fun c_208_0 => ?_) (fun c_208_0 => ?_)
            · skip
              exact hX (by simp only [if_pos c_208_0])
            · skip
              refine E_iload dL_law_211 rfl ?_
              refine E_if_eq 389 dL_law_213 (by decide) (fun c_213_1 => ?_) (fun c_213_1 => ?_)
              · skip
                exact hX (by simp only [if_neg c_208_0, if_pos c_213_1])
              · skip
                exact hY (by simp only [if_neg c_208_0, if_neg c_213_1]; exact Bool.false_ne_true)
          · skip
            refine P_less [none, some (.ref 3), none, some (.int (5 + v2)), some (.int v3), some (.int s27.1), none, none, none, none, none] (And.intro rfl (And.intro rfl (And.intro rfl (And.intro rfl trivial)))) ?_
            refine P_room (kc2 := 1100) (ks2 := 6600) (by omega) (by omega) ?_
            exact P_inl (P_back ((s27.1, s27.2.2)))
          · skip
            refine P_l (fun hJ _ _ q => E_aload_n dL_law_216 rfl (E_iconst (v := 2) dL_law_217 (by decide) (E_iload dL_law_218 rfl (E_imul dL_law_220 (E_iconst (v := 2) dL_law_221 (by decide) (E_iadd dL_law_222 q)))))) ?_
            refine P_callr (t := fun v => some (.int v)) (st2 := fun v => .int v :: []) (fun hJ => (ok_L_cell (σ := s27.2.2) (p1 := (2 * s27.2.1) + 2) )) (fun hJ _ _ v hM q => E_callS (as := [.ref 2, .int ((2 * s27.2.1) + 2)]) (st := []) hM (by decide) yfL_cell mlL_162 stL_cell rfl (Nat.le_of_ble_eq_true rfl) rfl dL_law_223 q) (fun v28 => ?_)
            refine P_l (fun hJ _ _ q => E_istore (ls2 := [some (.ref 2), some (.ref 3), none, some (.int (5 + v2)), some (.int v3), some (.int s27.1), some (.int s27.2.1), some (.int v28), none, none, none]) dL_law_226 (by decide) rfl (E_aload_n dL_law_228 rfl (E_iconst (v := 2) dL_law_229 (by decide) (E_iload dL_law_230 rfl (E_imul dL_law_232 (E_iconst (v := 3) dL_law_233 (by decide) (E_iadd dL_law_234 q))))))) ?_
            refine P_callr (t := fun v => some (.int v)) (st2 := fun v => .int v :: []) (fun hJ => (ok_L_cell (σ := s27.2.2) (p1 := (2 * s27.2.1) + 3) )) (fun hJ _ _ v hM q => E_callS (as := [.ref 2, .int ((2 * s27.2.1) + 3)]) (st := []) hM (by decide) yfL_cell mlL_162 stL_cell rfl (Nat.le_of_ble_eq_true rfl) rfl dL_law_235 q) (fun v29 => ?_)
            refine P_l (fun hJ _ _ q => E_istore (ls2 := [some (.ref 2), some (.ref 3), none, some (.int (5 + v2)), some (.int v3), some (.int s27.1), some (.int s27.2.1), some (.int v28), some (.int v29), none, none]) dL_law_238 (by decide) rfl (E_iload dL_law_240 rfl (E_iconst (v := 4) dL_law_242 (by decide) (E_ishr dL_law_243 (E_bipush (v := 27) dL_law_244 (by decide) q))))) ?_
            refine P_callr (t := fun v => some (.int v)) (st2 := fun v => .int v :: []) (fun hJ => (ok_L_low (σ := s27.2.2) (p1 := v28 >>> ((4 : Int32) &&& 31)) (p2 := 27) )) (fun hJ _ _ v hM q => E_callS (as := [.int (v28 >>> ((4 : Int32) &&& 31)), .int 27]) (st := []) hM (by decide) yfL_low mlL_153 stL_low rfl (Nat.le_of_ble_eq_true rfl) rfl dL_law_246 q) (fun v30 => ?_)
            refine P_l (fun hJ _ _ q => E_istore (ls2 := [some (.ref 2), some (.ref 3), none, some (.int (5 + v2)), some (.int v3), some (.int s27.1), some (.int s27.2.1), some (.int v28), some (.int v29), some (.int v30), none]) dL_law_249 (by decide) rfl (E_iload dL_law_251 rfl (E_bipush (v := 21) dL_law_253 (by decide) q))) ?_
            refine P_if (fun hJ _ _ h1 h2 => E_icmp_ge 329 dL_law_255 (by decide) h1 h2) ?_ ?_
            · skip
              refine P_l (fun hJ _ _ q => E_iload dL_law_329 rfl (E_bipush (v := 23) dL_law_331 (by decide) q)) ?_
              refine P_if (fun hJ _ _ h1 h2 => E_icmp_ge 351 dL_law_333 (by decide) h1 h2) ?_ ?_
              · skip
                refine P_l (fun hJ _ _ q => E_iload dL_law_351 rfl (E_bipush (v := 25) dL_law_353 (by decide) q)) ?_
                refine P_if (fun hJ _ _ h1 h2 => E_icmp_ge 370 dL_law_355 (by decide) h1 h2) ?_ ?_
                · skip
                  refine P_l (fun hJ _ _ q => E_aload_n dL_law_370 rfl (E_bipush (v := 8) dL_law_371 (by decide) (E_iload_n dL_law_373 rfl (E_imul dL_law_374 (E_iload dL_law_375 rfl (E_iadd dL_law_377 q)))))) ?_
                  refine P_call (t := fun v => some (.int v)) (st2 := fun v => .int v :: []) (kc2 := kN + 2746) (ks2 := ksN + 16588) (fun hJ => (ok_L_balances (σ := s27.2.2) (p1 := (8 * (5 + v2)) + v3))) (fun hJ _ _ _ _ v τ1 hM q => E_callS (as := [.ref 3, .int ((8 * (5 + v2)) + v3)]) (st := []) hM (by decide) yfL_balances mlL_188 stL_balances rfl (Nat.le_of_ble_eq_true rfl) rfl dL_law_378 q) (by omega) (by omega) (fun v31 σ32 => ?_)
                  refine P_l (fun hJ _ _ q => E_istore (ls2 := [some (.ref 2), some (.ref 3), none, some (.int (5 + v2)), some (.int v3), some (.int v31), some (.int s27.2.1), some (.int v28), some (.int v29), some (.int v30), none]) dL_law_381 (by decide) rfl (E_iinc (v := 1) (ls2 := [some (.ref 2), some (.ref 3), none, some (.int (5 + v2)), some (.int v3), some (.int v31), some (.int (s27.2.1 + 1)), some (.int v28), some (.int v29), some (.int v30), none]) dL_law_383 rfl (by decide) (by decide) rfl (E_goto 204 dL_law_386 (by decide) q))) ?_
                  refine P_less [some (.ref 2), some (.ref 3), none, some (.int (5 + v2)), some (.int v3), some (.int v31), some (.int (s27.2.1 + 1)), none, none, none, none] (And.intro rfl (And.intro rfl (And.intro rfl (And.intro rfl (And.intro rfl (And.intro rfl trivial)))))) ?_
                  refine P_room (kc2 := kN + 1100) (ks2 := ksN + 6600) (by omega) (by omega) ?_
                  exact P_back ((v31, s27.2.1 + 1, σ32))
                · skip
                  refine P_l (fun hJ _ _ q => E_aload_n dL_law_358 rfl (E_iload dL_law_359 rfl (E_iload_n dL_law_361 rfl q))) ?_
                  refine P_call (t := fun v => some (.int v)) (st2 := fun v => .int v :: []) (kc2 := kN + 2754) (ks2 := ksN + 16636) (fun hJ => (ok_L_looks (σ := s27.2.2) (p1 := v29) (p2 := 5 + v2))) (fun hJ _ _ _ _ v τ1 hM q => E_callS (as := [.ref 3, .int v29, .int (5 + v2)]) (st := []) hM (by decide) yfL_looks mlL_184 stL_looks rfl (Nat.le_of_ble_eq_true rfl) rfl dL_law_362 q) (by omega) (by omega) (fun v33 σ34 => ?_)
                  refine P_l (fun hJ _ _ q => E_istore (ls2 := [some (.ref 2), some (.ref 3), none, some (.int (5 + v2)), some (.int v3), some (.int v33), some (.int s27.2.1), some (.int v28), some (.int v29), some (.int v30), none]) dL_law_365 (by decide) rfl (E_goto 383 dL_law_367 (by decide) (E_iinc (v := 1) (ls2 := [some (.ref 2), some (.ref 3), none, some (.int (5 + v2)), some (.int v3), some (.int v33), some (.int (s27.2.1 + 1)), some (.int v28), some (.int v29), some (.int v30), none]) dL_law_383 rfl (by decide) (by decide) rfl (E_goto 204 dL_law_386 (by decide) q)))) ?_
                  refine P_less [some (.ref 2), some (.ref 3), none, some (.int (5 + v2)), some (.int v3), some (.int v33), some (.int (s27.2.1 + 1)), none, none, none, none] (And.intro rfl (And.intro rfl (And.intro rfl (And.intro rfl (And.intro rfl (And.intro rfl trivial)))))) ?_
                  refine P_room (kc2 := kN + 1100) (ks2 := ksN + 6600) (by omega) (by omega) ?_
                  exact P_back ((v33, s27.2.1 + 1, σ34))
              · skip
                refine P_l (fun hJ _ _ q => E_aload_n dL_law_336 rfl (E_iload dL_law_337 rfl (E_iconst (v := 3) dL_law_339 (by decide) q))) ?_
                refine P_callr (t := fun v => some (.int v)) (st2 := fun v => .int v :: [.ref 3]) (fun hJ => (ok_L_low (σ := s27.2.2) (p1 := v29) (p2 := 3) )) (fun hJ _ _ v hM q => E_callS (as := [.int v29, .int 3]) (st := [.ref 3]) hM (by decide) yfL_low mlL_153 stL_low rfl (Nat.le_of_ble_eq_true rfl) rfl dL_law_340 q) (fun v35 => ?_)
                refine P_call (t := fun v => some (.int v)) (st2 := fun v => .int v :: []) (kc2 := kN + 1902) (ks2 := ksN + 11524) (fun hJ => (ok_L_plans (σ := s27.2.2) (p1 := v35))) (fun hJ _ _ _ _ v τ1 hM q => E_callS (as := [.ref 3, .int v35]) (st := []) hM (by decide) yfL_plans mlL_180 stL_plans rfl (Nat.le_of_ble_eq_true rfl) rfl dL_law_343 q) (by omega) (by omega) (fun v36 σ37 => ?_)
                refine P_l (fun hJ _ _ q => E_istore (ls2 := [some (.ref 2), some (.ref 3), none, some (.int (5 + v2)), some (.int v3), some (.int v36), some (.int s27.2.1), some (.int v28), some (.int v29), some (.int v30), none]) dL_law_346 (by decide) rfl (E_goto 383 dL_law_348 (by decide) (E_iinc (v := 1) (ls2 := [some (.ref 2), some (.ref 3), none, some (.int (5 + v2)), some (.int v3), some (.int v36), some (.int (s27.2.1 + 1)), some (.int v28), some (.int v29), some (.int v30), none]) dL_law_383 rfl (by decide) (by decide) rfl (E_goto 204 dL_law_386 (by decide) q)))) ?_
                refine P_less [some (.ref 2), some (.ref 3), none, some (.int (5 + v2)), some (.int v3), some (.int v36), some (.int (s27.2.1 + 1)), none, none, none, none] (And.intro rfl (And.intro rfl (And.intro rfl (And.intro rfl (And.intro rfl (And.intro rfl trivial)))))) ?_
                refine P_room (kc2 := kN + 1100) (ks2 := ksN + 6600) (by omega) (by omega) ?_
                exact P_back ((v36, s27.2.1 + 1, σ37))
            · skip
              refine P_seg (a := 0) (kc2 := kN + 2320) (ks2 := ksN + 13920) (by omega) (by omega) (fun v38 σ39 => ?_)
              refine P_l (fun hJ _ _ q => E_iinc (v := 1) (ls2 := [some (.ref 2), some (.ref 3), none, some (.int (5 + v2)), some (.int v3), some (.int v38), some (.int (s27.2.1 + 1)), some (.int v28), some (.int v29), some (.int v30), none]) dL_law_383 rfl (by decide) (by decide) rfl (E_goto 204 dL_law_386 (by decide) q)) ?_
              refine P_less [some (.ref 2), some (.ref 3), none, some (.int (5 + v2)), some (.int v3), some (.int v38), some (.int (s27.2.1 + 1)), none, none, none, none] (And.intro rfl (And.intro rfl (And.intro rfl (And.intro rfl (And.intro rfl (And.intro rfl trivial)))))) ?_
              refine P_room (kc2 := kN + 1100) (ks2 := ksN + 6600) (by omega) (by omega) ?_
              exact P_back ((v38, s27.2.1 + 1, σ39))
        · skip
          refine P_l (fun hJ _ _ q => E_iload dL_law_389 rfl q) ?_
          refine P_if (fun hJ _ _ h1 h2 => E_if_eq 420 dL_law_391 (by decide) h1 h2) ?_ ?_
          · skip
            refine P_l (fun hJ _ _ q => E_iconst (v := 0) dL_law_420 (by decide) q) ?_
            exact P_ret (fun _ _ => E_zret01 rfl (by decide) dL_law_421)
          · skip
            refine P_l (fun hJ _ _ q => E_aload_n dL_law_394 rfl (E_bipush (v := 8) dL_law_395 (by decide) (E_iload_n dL_law_397 rfl (E_imul dL_law_398 (E_iload dL_law_399 rfl (E_iadd dL_law_401 q)))))) ?_
            refine P_call (t := fun v => some (.int v)) (st2 := fun v => .int v :: []) (kc2 := 972) (ks2 := 5832) (fun hJ => (ok_L_balances (σ := j26.2) (p1 := (8 * (5 + v2)) + v3))) (fun hJ _ _ _ _ v τ1 hM q => E_callS (as := [.ref 3, .int ((8 * (5 + v2)) + v3)]) (st := []) hM (by decide) yfL_balances mlL_188 stL_balances rfl (Nat.le_of_ble_eq_true rfl) rfl dL_law_402 q) (by omega) (by omega) (fun v40 σ41 => ?_)
            refine P_if (fun hJ _ _ h1 h2 => E_if_eq 420 dL_law_405 (by decide) h1 h2) ?_ ?_
            · skip
              refine P_l (fun hJ _ _ q => E_iconst (v := 0) dL_law_420 (by decide) q) ?_
              exact P_ret (fun _ _ => E_zret01 rfl (by decide) dL_law_421)
            · skip
              refine P_l (fun hJ _ _ q => E_aload_n dL_law_408 rfl (E_iconst (v := 0) dL_law_409 (by decide) q)) ?_
              refine P_call (t := fun v => some (.int v)) (st2 := fun v => .int v :: []) (kc2 := 0) (ks2 := 0) (fun hJ => (ok_L_plans (σ := σ41) (p1 := 0))) (fun hJ _ _ _ _ v τ1 hM q => E_callS (as := [.ref 3, .int 0]) (st := []) hM (by decide) yfL_plans mlL_180 stL_plans rfl (Nat.le_of_ble_eq_true rfl) rfl dL_law_410 q) (by omega) (by omega) (fun v42 σ43 => ?_)
              refine P_l (pc2 := 421) (ls2 := [none, none, none, none, none, none, none, none, none, none, none]) (st2 := [.int ((if v42 = 0 then 0 else 1 : Int32))]) (fun hJ _ _ hq => ?_) ?_
              · skip
                refine E_if_eq 420 dL_law_413 (by decide) (fun c_413_0 => ?_) (fun c_413_0 => ?_)
                · skip
                  refine E_iconst (v := 0) dL_law_420 (by decide) ?_
                  simp only [if_pos c_413_0] at hq
                  exact E_less (ls2 := [none, none, none, none, none, none, none, none, none, none, none]) hq (rLe_at [none, none, none, none, none, none, none, none, none, none, none] [none, some (.ref 3), none, some (.int (5 + v2)), some (.int v3), some (.int j26.1), none, none, none, none, none] trivial)
                · skip
                  refine E_iconst (v := 1) dL_law_416 (by decide) ?_
                  refine E_goto 421 dL_law_417 (by decide) ?_
                  simp only [if_neg c_413_0] at hq
                  exact E_less (ls2 := [none, none, none, none, none, none, none, none, none, none, none]) hq (rLe_at [none, none, none, none, none, none, none, none, none, none, none] [none, some (.ref 3), none, some (.int (5 + v2)), some (.int v3), some (.int j26.1), none, none, none, none, none] trivial)
              · skip
                exact P_ret (fun _ _ => E_zret01 rfl (by split <;> decide) dL_law_421)
