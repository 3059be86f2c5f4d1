def b_X9_turnOver_2 (s3 : Int32 × rS) : Option (((Unit × rS) ⊕ (rS)) ⊕ (Int32 × rS)) := if (if (rI s3.2 (rR s3.2 37 6) 3) ≤ s3.1 then true else (if (nI (rK s3.2 (rR s3.2 (rR s3.2 37 6) 0)).2) ≤ s3.1 then true else false)) = true then (some (.inl (.inr s3.2))) else (if inB s3.1 ((rK s3.2 (rR s3.2 (rR s3.2 37 6) 0)).2) then (if inB ((rI s3.2 (rR s3.2 (rR s3.2 37 6) 0) (s3.1 : Int32).toNatClampNeg) &&& 65535) 65536 then (oLet (wI s3.2 50 ((rI s3.2 (rR s3.2 (rR s3.2 37 6) 0) (s3.1 : Int32).toNatClampNeg) &&& 65535 : Int32).toNatClampNeg 0) fun σ6 => some (.inr ((s3.1 + 1, σ6)))) else none) else none)
def f_X9_turnOver (σ : rS) : Option (Unit × rS) := oJoin (oLoop (b_X9_turnOver_2) oFuel ((0, σ))) fun j2 => oLet (wR (wR j2 37 5 (rR j2 37 6)) 37 6 (rR j2 37 5)) fun σ7 => some (((), σ7))
set_option maxRecDepth 20000 in
set_option maxHeartbeats 2000000 in
theorem ok_X9_turnOver {σ : rS}   : rFn Sy yX9_turnOver mX9_turnOver 0 [.ref 37] σ 0 0 (fun _ => .inl none) (f_X9_turnOver σ) := by
  refine rF_of (ls := [some (.ref 37), none]) yfX9_turnOver rfl (Nat.le_of_ble_eq_true rfl) (fun o τ => ?_)
  unfold f_X9_turnOver
  refine P_l (fun hJ _ _ q => E_iconst (v := 0) dX9_turnOver_0 (by decide) (E_istore_n (ls2 := [some (.ref 37), some (.int 0)]) dX9_turnOver_1 (by decide) rfl q)) ?_
  refine P_join (pc2 := 49) (fun j2 => [some (.ref 37), none]) (fun j2 => []) (fun j2 => j2) ?_ (fun j2 => ?_)
  · skip
    refine P_loop (fun s3 => [some (.ref 37), some (.int s3.1)]) (fun s3 => s3.2) (fun s3 => ?_) _ ((0, σ))
    unfold b_X9_turnOver_2
    refine P_l (fun hJ _ _ q => E_iload_n dX9_turnOver_2 rfl (E_aload_n dX9_turnOver_3 rfl (E_getR (b := rR s3.2 37 6) clX9 6 (by decide) flX9_41 (Or.inl ⟨_, rfl⟩) dX9_turnOver_4 (kd37 hJ.1.1) rfl (Nat.pos_iff_ne_zero.mp (Nat.lt_of_lt_of_le (by decide : 0 < 3) (Sy_there hJ.1).2)) (E_getIN clX3 3 (by decide) flX9_114 (Or.inl rfl) dX9_turnOver_7 (Sy_there hJ.1).1 q)))) ?_
    refine P_if (c := (if (rI s3.2 (rR s3.2 37 6) 3) ≤ s3.1 then true else (if (nI (rK s3.2 (rR s3.2 (rR s3.2 37 6) 0)).2) ≤ s3.1 then true else false)) = true) (pc1 := 49) (ls1 := [some (.ref 37), some (.int s3.1)]) (st1 := []) (pc2 := 25) (ls2 := [some (.ref 37), some (.int s3.1)]) (st2 := []) (fun hJ _ _ hX hY => ?_) ?_ ?_
    · skip
      refine E_icmp_ge 49 dX9_turnOver_10 (by decide) (fun c_10_0 => ?_) (fun c_10_0 => ?_)
      · skip
        exact hX (by simp only [if_pos c_10_0])
      · skip
        refine E_iload_n dX9_turnOver_13 rfl ?_
        refine E_aload_n dX9_turnOver_14 rfl ?_
        refine E_getR (b := rR s3.2 37 6) clX9 6 (by decide) flX9_41 (Or.inl ⟨_, rfl⟩) dX9_turnOver_15 (kd37 hJ.1.1) rfl (Nat.pos_iff_ne_zero.mp (Nat.lt_of_lt_of_le (by decide : 0 < 3) (Sy_there hJ.1).2)) ?_
        refine E_getRN (b := rR s3.2 (rR s3.2 37 6) 0) clX3 0 (by decide) flX9_117 (Or.inr ⟨_, rfl⟩) dX9_turnOver_18 (Sy_there hJ.1).1 rfl (Nat.pos_iff_ne_zero.mp (Nat.lt_of_lt_of_le (by decide : 0 < 3) (Sy_there0 hJ.1).2)) ?_
        refine E_alen (v := nI (rK s3.2 (rR s3.2 (rR s3.2 37 6) 0)).2) dX9_turnOver_21 (Sy_there0 hJ.1).1 (by decide) rfl ?_
        refine E_icmp_ge 49 dX9_turnOver_22 (by decide) (fun c_22_1 => ?_) (fun c_22_1 => ?_)
        · skip
          exact hX (by simp only [if_neg c_10_0, if_pos c_22_1])
        · skip
          exact hY (by simp only [if_neg c_10_0, if_neg c_22_1]; exact Bool.false_ne_true)
    · skip
      refine P_less [some (.ref 37), none] (And.intro rfl trivial) ?_
      exact P_inl (P_back s3.2)
    · skip
      refine P_l (fun hJ _ _ q => E_aload_n dX9_turnOver_25 rfl (E_getR (b := 50) clX9 4 (by decide) flX9_33 (Or.inr ⟨_, rfl⟩) dX9_turnOver_26 (kd37 hJ.1.1) (rf37_4 hJ.1.1) (by decide) (E_aload_n dX9_turnOver_29 rfl (E_getR (b := rR s3.2 37 6) clX9 6 (by decide) flX9_41 (Or.inl ⟨_, rfl⟩) dX9_turnOver_30 (kd37 hJ.1.1) rfl (Nat.pos_iff_ne_zero.mp (Nat.lt_of_lt_of_le (by decide : 0 < 3) (Sy_there hJ.1).2)) (E_getRN (b := rR s3.2 (rR s3.2 37 6) 0) clX3 0 (by decide) flX9_117 (Or.inr ⟨_, rfl⟩) dX9_turnOver_33 (Sy_there hJ.1).1 rfl (Nat.pos_iff_ne_zero.mp (Nat.lt_of_lt_of_le (by decide : 0 < 3) (Sy_there0 hJ.1).2)) (E_iload_n dX9_turnOver_36 rfl q)))))) ?_
      refine P_g (fun g4 => ?_)
      refine P_l (fun hJ _ _ q => E_iald dX9_turnOver_37 (Sy_there0 hJ.1).1 (inB_vp g4) (E_ldc dX9_turnOver_38 kcX9_140 (E_iand dX9_turnOver_40 (E_iconst (v := 0) dX9_turnOver_41 (by decide) q)))) ?_
      refine P_g (fun g5 => ?_)
      refine P_w (fun hJ _ _ q => E_iast dX9_turnOver_42 (kd50 hJ.1.1) (by decide) (inB_vp g5) q) (fun hJ => Sy_wI hJ.1) rfl rfl rfl (fun σ6 hσ6 => ?_)
      refine P_l (fun hJ _ _ q => E_iinc (v := 1) (ls2 := [some (.ref 37), some (.int (s3.1 + 1))]) dX9_turnOver_43 rfl (by decide) (by decide) rfl (E_goto 2 dX9_turnOver_46 (by decide) q)) ?_
      exact P_back ((s3.1 + 1, σ6))
  · skip
    refine P_w (fun hJ _ _ q => E_aload_n dX9_turnOver_49 rfl (E_getR (b := rR j2 37 5) clX9 5 (by decide) flX9_37 (Or.inl ⟨_, rfl⟩) dX9_turnOver_50 (kd37 hJ.1.1) rfl (Nat.pos_iff_ne_zero.mp (Nat.lt_of_lt_of_le (by decide : 0 < 3) (Sy_here hJ.1).2)) (E_astore_n (ls2 := [some (.ref 37), some (.ref (rR j2 37 5))]) dX9_turnOver_53 (by decide) rfl (E_aload_n dX9_turnOver_54 rfl (E_aload_n dX9_turnOver_55 rfl (E_getR (b := rR j2 37 6) clX9 6 (by decide) flX9_41 (Or.inl ⟨_, rfl⟩) dX9_turnOver_56 (kd37 hJ.1.1) rfl (Nat.pos_iff_ne_zero.mp (Nat.lt_of_lt_of_le (by decide : 0 < 3) (Sy_there hJ.1).2)) (E_putR clX9 5 (by decide) flX9_37 (Or.inl ⟨_, rfl⟩) rfl dX9_turnOver_59 (have e := (kd37 hJ.1.1); e) (E_aload_n dX9_turnOver_62 rfl (E_aload_n dX9_turnOver_63 rfl (E_putR clX9 6 (by decide) flX9_41 (Or.inl ⟨_, rfl⟩) rfl dX9_turnOver_64 (have e := (kd37 hJ.1.1); e) q)))))))))) (fun hJ => Sy_turn hJ.1) rfl rfl rfl (fun σ7 hσ7 => ?_)
    exact P_ret (fun _ _ => E_vret rfl dX9_turnOver_67)

def b_X9_spread_341 (p1 : Int32) (s3 : Int32 × rS) (x9 : Int32) (x19 : Int32) (x22 : Int32) (s23 : Int32 × rS) (x25 : Int32) (s26 : Int32 × rS) : Option ((((((Unit × rS) ⊕ (Int32 × rS)) ⊕ (Int32 × rS)) ⊕ (Int32 × rS)) ⊕ (Int32 × rS)) ⊕ (Int32 × rS)) := if (x9 + 3) ≤ s26.1 then (some (.inl (.inr ((s23.1 + 1, s26.2))))) else (if inB s26.1 256 then (if (rI s26.2 (rR s26.2 37 15) (s26.1 : Int32).toNatClampNeg) = 0 then (some (.inl (.inr ((s23.1 + 1, s26.2))))) else (oLet (rI s26.2 (rR s26.2 37 15) (s26.1 : Int32).toNatClampNeg : Int32) fun x28 => if (((rI s26.2 63 (3 : Int32).toNatClampNeg) >>> ((x28 &&& 15) &&& 31)) &&& 1) = 1 then (oLet ((((x19 &&& 15) ||| ((x22 &&& 15) <<< ((4 : Int32) &&& 31))) ||| ((x25 &&& 15) <<< ((8 : Int32) &&& 31))) ||| ((x28 &&& 15) <<< ((12 : Int32) &&& 31)) : Int32) fun x29 => oB (f_X9_put s26.2 p1 s3.1 x29 (((x19 + x22) + x25) + x28)) fun _ σ31 => some (.inr ((s26.1 + 1, σ31)))) else (some (.inr ((s26.1 + 1, s26.2)))))) else none)
def b_X9_spread_289 (p1 : Int32) (s3 : Int32 × rS) (x8 : Int32) (x9 : Int32) (x19 : Int32) (s20 : Int32 × rS) (x22 : Int32) (s23 : Int32 × rS) : Option (((((Unit × rS) ⊕ (Int32 × rS)) ⊕ (Int32 × rS)) ⊕ (Int32 × rS)) ⊕ (Int32 × rS)) := if (x8 + 3) ≤ s23.1 then (some (.inl (.inr ((s20.1 + 1, s23.2))))) else (if inB s23.1 256 then (if (rI s23.2 (rR s23.2 37 15) (s23.1 : Int32).toNatClampNeg) = 0 then (some (.inl (.inr ((s20.1 + 1, s23.2))))) else (oLet (rI s23.2 (rR s23.2 37 15) (s23.1 : Int32).toNatClampNeg : Int32) fun x25 => if (((rI s23.2 63 (2 : Int32).toNatClampNeg) >>> ((x25 &&& 15) &&& 31)) &&& 1) = 0 then (some (.inr ((s23.1 + 1, s23.2)))) else (oLoop (b_X9_spread_341 p1 s3 x9 x19 x22 s23 x25) oFuel ((x9, s23.2))))) else none)
def b_X9_spread_237 (p1 : Int32) (s3 : Int32 × rS) (x7 : Int32) (x8 : Int32) (x9 : Int32) (s17 : Int32 × rS) (x19 : Int32) (s20 : Int32 × rS) : Option ((((Unit × rS) ⊕ (Int32 × rS)) ⊕ (Int32 × rS)) ⊕ (Int32 × rS)) := if (x7 + 3) ≤ s20.1 then (some (.inl (.inr ((s17.1 + 1, s20.2))))) else (if inB s20.1 256 then (if (rI s20.2 (rR s20.2 37 15) (s20.1 : Int32).toNatClampNeg) = 0 then (some (.inl (.inr ((s17.1 + 1, s20.2))))) else (oLet (rI s20.2 (rR s20.2 37 15) (s20.1 : Int32).toNatClampNeg : Int32) fun x22 => if (((rI s20.2 63 (1 : Int32).toNatClampNeg) >>> ((x22 &&& 15) &&& 31)) &&& 1) = 0 then (some (.inr ((s20.1 + 1, s20.2)))) else (oLoop (b_X9_spread_289 p1 s3 x8 x9 x19 s20 x22) oFuel ((x8, s20.2))))) else none)
def b_X9_spread_185 (p1 : Int32) (s3 : Int32 × rS) (x6 : Int32) (x7 : Int32) (x8 : Int32) (x9 : Int32) (s17 : Int32 × rS) : Option (((Unit × rS) ⊕ (Int32 × rS)) ⊕ (Int32 × rS)) := if (x6 + 3) ≤ s17.1 then (some (.inl (.inr ((s3.1 + 1, s17.2))))) else (if inB s17.1 256 then (if (rI s17.2 (rR s17.2 37 15) (s17.1 : Int32).toNatClampNeg) = 0 then (some (.inl (.inr ((s3.1 + 1, s17.2))))) else (oLet (rI s17.2 (rR s17.2 37 15) (s17.1 : Int32).toNatClampNeg : Int32) fun x19 => if (((rI s17.2 63 (0 : Int32).toNatClampNeg) >>> ((x19 &&& 15) &&& 31)) &&& 1) = 0 then (some (.inr ((s17.1 + 1, s17.2)))) else (oLoop (b_X9_spread_237 p1 s3 x7 x8 x9 s17 x19) oFuel ((x7, s17.2))))) else none)
def b_X9_spread_12 (p1 : Int32) (x2 : Int32) (s3 : Int32 × rS) : Option ((Unit × rS) ⊕ (Int32 × rS)) := if (if (rI s3.2 37 11) ≤ s3.1 then true else (if 81 ≤ s3.1 then true else false)) = true then (some (.inl (((), s3.2)))) else (if inB s3.1 81 then (oLet (rI s3.2 59 (s3.1 : Int32).toNatClampNeg : Int32) fun x5 => oLet (((x2 &&& 15) <<< ((4 : Int32) &&& 31)) ||| ((x5 &&& 3) <<< ((2 : Int32) &&& 31)) : Int32) fun x6 => oLet ((((x2 >>> ((4 : Int32) &&& 31)) &&& 15) <<< ((4 : Int32) &&& 31)) ||| (((x5 >>> ((4 : Int32) &&& 31)) &&& 3) <<< ((2 : Int32) &&& 31)) : Int32) fun x7 => oLet ((((x2 >>> ((8 : Int32) &&& 31)) &&& 15) <<< ((4 : Int32) &&& 31)) ||| (((x5 >>> ((8 : Int32) &&& 31)) &&& 3) <<< ((2 : Int32) &&& 31)) : Int32) fun x8 => oLet ((((x2 >>> ((12 : Int32) &&& 31)) &&& 15) <<< ((4 : Int32) &&& 31)) ||| (((x5 >>> ((12 : Int32) &&& 31)) &&& 3) <<< ((2 : Int32) &&& 31)) : Int32) fun x9 => if inB x6 256 then (if (rI s3.2 (rR s3.2 37 15) (x6 : Int32).toNatClampNeg) = 0 then (some (.inr ((s3.1 + 1, s3.2)))) else (if inB x7 256 then (if (rI s3.2 (rR s3.2 37 15) (x7 : Int32).toNatClampNeg) = 0 then (some (.inr ((s3.1 + 1, s3.2)))) else (if inB x8 256 then (if (rI s3.2 (rR s3.2 37 15) (x8 : Int32).toNatClampNeg) = 0 then (some (.inr ((s3.1 + 1, s3.2)))) else (if inB x9 256 then (if (rI s3.2 (rR s3.2 37 15) (x9 : Int32).toNatClampNeg) = 0 then (some (.inr ((s3.1 + 1, s3.2)))) else (oJoin (if ((rI s3.2 (rR s3.2 37 6) 3) + 81) ≤ (nI (rK s3.2 (rR s3.2 (rR s3.2 37 6) 0)).2) then (some (.inr s3.2)) else (oB (f_X3_grow s3.2) fun _ σ16 => some (.inr σ16))) fun j14 => oLoop (b_X9_spread_185 p1 s3 x6 x7 x8 x9) oFuel ((x6, j14)))) else none)) else none)) else none)) else none) else none)
def f_X9_spread (σ : rS) (p1 : Int32) : Option (Unit × rS) := if inB p1 ((rK σ (rR σ (rR σ 37 5) 0)).2) then (oLet (rI σ (rR σ (rR σ 37 5) 0) (p1 : Int32).toNatClampNeg : Int32) fun x2 => oLoop (b_X9_spread_12 p1 x2) oFuel ((0, σ))) else none
set_option maxRecDepth 20000 in
set_option maxHeartbeats 2000000 in
theorem ok_X9_spread {σ : rS} {p1 : Int32}   : rFn Sy yX9_spread mX9_spread 3 [.ref 37, .int p1] σ 0 0 (fun _ => .inl none) (f_X9_spread σ p1) := by
  refine rF_of (ls := [some (.ref 37), some (.int p1), none, none, none, none, none, none, none, none, none, none, none, none, none, none, none, none]) yfX9_spread rfl (Nat.le_of_ble_eq_true rfl) (fun o τ => ?_)
  unfold f_X9_spread
  refine P_l (fun hJ _ _ q => E_aload_n dX9_spread_0 rfl (E_getR (b := rR σ 37 5) clX9 5 (by decide) flX9_37 (Or.inl ⟨_, rfl⟩) dX9_spread_1 (kd37 hJ.1.1) rfl (Nat.pos_iff_ne_zero.mp (Nat.lt_of_lt_of_le (by decide : 0 < 3) (Sy_here hJ.1).2)) (E_getRN (b := rR σ (rR σ 37 5) 0) clX3 0 (by decide) flX9_117 (Or.inr ⟨_, rfl⟩) dX9_spread_4 (Sy_here hJ.1).1 rfl (Nat.pos_iff_ne_zero.mp (Nat.lt_of_lt_of_le (by decide : 0 < 3) (Sy_here0 hJ.1).2)) (E_iload_n dX9_spread_7 rfl q)))) ?_
  refine P_g (fun g1 => ?_)
  refine P_l (fun hJ _ _ q => E_iald dX9_spread_8 (Sy_here0 hJ.1).1 (inB_vp g1) (E_istore_n (ls2 := [some (.ref 37), some (.int p1), some (.int (rI σ (rR σ (rR σ 37 5) 0) (p1 : Int32).toNatClampNeg)), none, none, none, none, none, none, none, none, none, none, none, none, none, none, none]) dX9_spread_9 (by decide) rfl q)) ?_
  refine P_v (rI σ (rR σ (rR σ 37 5) 0) (p1 : Int32).toNatClampNeg) (fun x => [some (.ref 37), some (.int p1), some (.int x), none, none, none, none, none, none, none, none, none, none, none, none, none, none, none]) (fun x2 => ?_)
  refine P_l (fun hJ _ _ q => E_iconst (v := 0) dX9_spread_10 (by decide) (E_istore_n (ls2 := [some (.ref 37), some (.int p1), some (.int x2), some (.int 0), none, none, none, none, none, none, none, none, none, none, none, none, none, none]) dX9_spread_11 (by decide) rfl q)) ?_
  refine P_loop (fun s3 => [some (.ref 37), some (.int p1), some (.int x2), some (.int s3.1), none, none, none, none, none, none, none, none, none, none, none, none, none, none]) (fun s3 => s3.2) (fun s3 => ?_) _ ((0, σ))
  unfold b_X9_spread_12
  refine P_l (fun hJ _ _ q => E_iload_n dX9_spread_12 rfl (E_aload_n dX9_spread_13 rfl (E_getI clX9 11 (by decide) flX9_151 (Or.inl rfl) dX9_spread_14 (kd37 hJ.1.1) q))) ?_
  refine P_if (c := (if (rI s3.2 37 11) ≤ s3.1 then true else (if 81 ≤ s3.1 then true else false)) = true) (pc1 := 469) (ls1 := [some (.ref 37), some (.int p1), some (.int x2), some (.int s3.1), none, none, none, none, none, none, none, none, none, none, none, none, none, none]) (st1 := []) (pc2 := 26) (ls2 := [some (.ref 37), some (.int p1), some (.int x2), some (.int s3.1), none, none, none, none, none, none, none, none, none, none, none, none, none, none]) (st2 := []) (fun hJ _ _ hX hY => ?_) ?_ ?_
  · skip
    refine E_icmp_ge 469 dX9_spread_17 (by decide) (fun c_17_0 => ?_) (fun c_17_0 => ?_)
    · skip
      exact hX (by simp only [if_pos c_17_0])
    · skip
      refine E_iload_n dX9_spread_20 rfl ?_
      refine E_bipush (v := 81) dX9_spread_21 (by decide) ?_
      refine E_icmp_ge 469 dX9_spread_23 (by decide) (fun c_23_1 => ?_) (fun c_23_1 => ?_)
      · skip
        exact hX (by simp only [if_neg c_17_0, if_pos c_23_1])
      · skip
        exact hY (by simp only [if_neg c_17_0, if_neg c_23_1]; exact Bool.false_ne_true)
  · skip
    exact P_inl (P_ret (fun _ _ => E_vret rfl dX9_spread_469))
  · skip
    refine P_l (fun hJ _ _ q => E_aload_n dX9_spread_26 rfl (E_getR (b := 59) clX9 7 (by decide) flX9_44 (Or.inr ⟨_, rfl⟩) dX9_spread_27 (kd37 hJ.1.1) (rf37_7 hJ.1.1) (by decide) (E_iload_n dX9_spread_30 rfl q))) ?_
    refine P_g (fun g4 => ?_)
    refine P_l (fun hJ _ _ q => E_iald dX9_spread_31 (kd59 hJ.1.1) (inB_vp g4) (E_istore (ls2 := [some (.ref 37), some (.int p1), some (.int x2), some (.int s3.1), some (.int (rI s3.2 59 (s3.1 : Int32).toNatClampNeg)), none, none, none, none, none, none, none, none, none, none, none, none, none]) dX9_spread_32 (by decide) rfl q)) ?_
    refine P_v (rI s3.2 59 (s3.1 : Int32).toNatClampNeg) (fun x => [some (.ref 37), some (.int p1), some (.int x2), some (.int s3.1), some (.int x), none, none, none, none, none, none, none, none, none, none, none, none, none]) (fun x5 => ?_)
    refine P_l (fun hJ _ _ q => E_iload_n dX9_spread_34 rfl (E_bipush (v := 15) dX9_spread_35 (by decide) (E_iand dX9_spread_37 (E_iconst (v := 4) dX9_spread_38 (by decide) (E_ishl dX9_spread_39 (E_iload dX9_spread_40 rfl (E_iconst (v := 3) dX9_spread_42 (by decide) (E_iand dX9_spread_43 (E_iconst (v := 2) dX9_spread_44 (by decide) (E_ishl dX9_spread_45 (E_ior dX9_spread_46 (E_istore (ls2 := [some (.ref 37), some (.int p1), some (.int x2), some (.int s3.1), some (.int x5), some (.int (((x2 &&& 15) <<< ((4 : Int32) &&& 31)) ||| ((x5 &&& 3) <<< ((2 : Int32) &&& 31)))), none, none, none, none, none, none, none, none, none, none, none, none]) dX9_spread_47 (by decide) rfl q)))))))))))) ?_
    refine P_v (((x2 &&& 15) <<< ((4 : Int32) &&& 31)) ||| ((x5 &&& 3) <<< ((2 : Int32) &&& 31))) (fun x => [some (.ref 37), some (.int p1), some (.int x2), some (.int s3.1), some (.int x5), some (.int x), none, none, none, none, none, none, none, none, none, none, none, none]) (fun x6 => ?_)
    refine P_l (fun hJ _ _ q => E_iload_n dX9_spread_49 rfl (E_iconst (v := 4) dX9_spread_50 (by decide) (E_ishr dX9_spread_51 (E_bipush (v := 15) dX9_spread_52 (by decide) (E_iand dX9_spread_54 (E_iconst (v := 4) dX9_spread_55 (by decide) (E_ishl dX9_spread_56 (E_iload dX9_spread_57 rfl (E_iconst (v := 4) dX9_spread_59 (by decide) (E_ishr dX9_spread_60 (E_iconst (v := 3) dX9_spread_61 (by decide) (E_iand dX9_spread_62 (E_iconst (v := 2) dX9_spread_63 (by decide) (E_ishl dX9_spread_64 q)))))))))))))) ?_
    refine P_l (fun hJ _ _ q => E_ior dX9_spread_65 (E_istore (ls2 := [some (.ref 37), some (.int p1), some (.int x2), some (.int s3.1), some (.int x5), some (.int x6), some (.int ((((x2 >>> ((4 : Int32) &&& 31)) &&& 15) <<< ((4 : Int32) &&& 31)) ||| (((x5 >>> ((4 : Int32) &&& 31)) &&& 3) <<< ((2 : Int32) &&& 31)))), none, none, none, none, none, none, none, none, none, none, none]) dX9_spread_66 (by decide) rfl q)) ?_
    refine P_v ((((x2 >>> ((4 : Int32) &&& 31)) &&& 15) <<< ((4 : Int32) &&& 31)) ||| (((x5 >>> ((4 : Int32) &&& 31)) &&& 3) <<< ((2 : Int32) &&& 31))) (fun x => [some (.ref 37), some (.int p1), some (.int x2), some (.int s3.1), some (.int x5), some (.int x6), some (.int x), none, none, none, none, none, none, none, none, none, none, none]) (fun x7 => ?_)
    refine P_l (fun hJ _ _ q => E_iload_n dX9_spread_68 rfl (E_bipush (v := 8) dX9_spread_69 (by decide) (E_ishr dX9_spread_71 (E_bipush (v := 15) dX9_spread_72 (by decide) (E_iand dX9_spread_74 (E_iconst (v := 4) dX9_spread_75 (by decide) (E_ishl dX9_spread_76 (E_iload dX9_spread_77 rfl (E_bipush (v := 8) dX9_spread_79 (by decide) (E_ishr dX9_spread_81 (E_iconst (v := 3) dX9_spread_82 (by decide) (E_iand dX9_spread_83 (E_iconst (v := 2) dX9_spread_84 (by decide) (E_ishl dX9_spread_85 q)))))))))))))) ?_
    refine P_l (fun hJ _ _ q => E_ior dX9_spread_86 (E_istore (ls2 := [some (.ref 37), some (.int p1), some (.int x2), some (.int s3.1), some (.int x5), some (.int x6), some (.int x7), some (.int ((((x2 >>> ((8 : Int32) &&& 31)) &&& 15) <<< ((4 : Int32) &&& 31)) ||| (((x5 >>> ((8 : Int32) &&& 31)) &&& 3) <<< ((2 : Int32) &&& 31)))), none, none, none, none, none, none, none, none, none, none]) dX9_spread_87 (by decide) rfl q)) ?_
    refine P_v ((((x2 >>> ((8 : Int32) &&& 31)) &&& 15) <<< ((4 : Int32) &&& 31)) ||| (((x5 >>> ((8 : Int32) &&& 31)) &&& 3) <<< ((2 : Int32) &&& 31))) (fun x => [some (.ref 37), some (.int p1), some (.int x2), some (.int s3.1), some (.int x5), some (.int x6), some (.int x7), some (.int x), none, none, none, none, none, none, none, none, none, none]) (fun x8 => ?_)
    refine P_l (fun hJ _ _ q => E_iload_n dX9_spread_89 rfl (E_bipush (v := 12) dX9_spread_90 (by decide) (E_ishr dX9_spread_92 (E_bipush (v := 15) dX9_spread_93 (by decide) (E_iand dX9_spread_95 (E_iconst (v := 4) dX9_spread_96 (by decide) (E_ishl dX9_spread_97 (E_iload dX9_spread_98 rfl (E_bipush (v := 12) dX9_spread_100 (by decide) (E_ishr dX9_spread_102 (E_iconst (v := 3) dX9_spread_103 (by decide) (E_iand dX9_spread_104 (E_iconst (v := 2) dX9_spread_105 (by decide) (E_ishl dX9_spread_106 q)))))))))))))) ?_
    refine P_l (fun hJ _ _ q => E_ior dX9_spread_107 (E_istore (ls2 := [some (.ref 37), some (.int p1), some (.int x2), some (.int s3.1), some (.int x5), some (.int x6), some (.int x7), some (.int x8), some (.int ((((x2 >>> ((12 : Int32) &&& 31)) &&& 15) <<< ((4 : Int32) &&& 31)) ||| (((x5 >>> ((12 : Int32) &&& 31)) &&& 3) <<< ((2 : Int32) &&& 31)))), none, none, none, none, none, none, none, none, none]) dX9_spread_108 (by decide) rfl q)) ?_
    refine P_v ((((x2 >>> ((12 : Int32) &&& 31)) &&& 15) <<< ((4 : Int32) &&& 31)) ||| (((x5 >>> ((12 : Int32) &&& 31)) &&& 3) <<< ((2 : Int32) &&& 31))) (fun x => [some (.ref 37), some (.int p1), some (.int x2), some (.int s3.1), some (.int x5), some (.int x6), some (.int x7), some (.int x8), some (.int x), none, none, none, none, none, none, none, none, none]) (fun x9 => ?_)
    refine P_l (fun hJ _ _ q => E_aload_n dX9_spread_110 rfl (E_getR (b := rR s3.2 37 15) clX9 15 (by decide) flX9_69 (Or.inr ⟨_, rfl⟩) dX9_spread_111 (kd37 hJ.1.1) rfl (Nat.pos_iff_ne_zero.mp (Nat.lt_of_lt_of_le (by decide : 0 < 3) (Sy_table hJ.1).2)) (E_iload dX9_spread_114 rfl q))) ?_
    refine P_g (fun g10 => ?_)
    refine P_l (fun hJ _ _ q => E_iald dX9_spread_116 (Sy_table hJ.1).1 (inB_vp g10) q) ?_
    refine P_if (fun hJ _ _ h1 h2 => E_if_eq 463 dX9_spread_117 (by decide) h1 h2) ?_ ?_
    · skip
      refine P_l (fun hJ _ _ q => E_iinc (v := 1) (ls2 := [some (.ref 37), some (.int p1), some (.int x2), some (.int (s3.1 + 1)), some (.int x5), some (.int x6), some (.int x7), some (.int x8), some (.int x9), none, none, none, none, none, none, none, none, none]) dX9_spread_463 rfl (by decide) (by decide) rfl (E_goto 12 dX9_spread_466 (by decide) q)) ?_
      refine P_less [some (.ref 37), some (.int p1), some (.int x2), some (.int (s3.1 + 1)), none, none, none, none, none, none, none, none, none, none, none, none, none, none] (And.intro rfl (And.intro rfl (And.intro rfl (And.intro rfl trivial)))) ?_
      exact P_back ((s3.1 + 1, s3.2))
    · skip
      refine P_l (fun hJ _ _ q => E_aload_n dX9_spread_120 rfl (E_getR (b := rR s3.2 37 15) clX9 15 (by decide) flX9_69 (Or.inr ⟨_, rfl⟩) dX9_spread_121 (kd37 hJ.1.1) rfl (Nat.pos_iff_ne_zero.mp (Nat.lt_of_lt_of_le (by decide : 0 < 3) (Sy_table hJ.1).2)) (E_iload dX9_spread_124 rfl q))) ?_
      refine P_g (fun g11 => ?_)
      refine P_l (fun hJ _ _ q => E_iald dX9_spread_126 (Sy_table hJ.1).1 (inB_vp g11) q) ?_
      refine P_if (fun hJ _ _ h1 h2 => E_if_eq 463 dX9_spread_127 (by decide) h1 h2) ?_ ?_
      · skip
        refine P_l (fun hJ _ _ q => E_iinc (v := 1) (ls2 := [some (.ref 37), some (.int p1), some (.int x2), some (.int (s3.1 + 1)), some (.int x5), some (.int x6), some (.int x7), some (.int x8), some (.int x9), none, none, none, none, none, none, none, none, none]) dX9_spread_463 rfl (by decide) (by decide) rfl (E_goto 12 dX9_spread_466 (by decide) q)) ?_
        refine P_less [some (.ref 37), some (.int p1), some (.int x2), some (.int (s3.1 + 1)), none, none, none, none, none, none, none, none, none, none, none, none, none, none] (And.intro rfl (And.intro rfl (And.intro rfl (And.intro rfl trivial)))) ?_
        exact P_back ((s3.1 + 1, s3.2))
      · skip
        refine P_l (fun hJ _ _ q => E_aload_n dX9_spread_130 rfl (E_getR (b := rR s3.2 37 15) clX9 15 (by decide) flX9_69 (Or.inr ⟨_, rfl⟩) dX9_spread_131 (kd37 hJ.1.1) rfl (Nat.pos_iff_ne_zero.mp (Nat.lt_of_lt_of_le (by decide : 0 < 3) (Sy_table hJ.1).2)) (E_iload dX9_spread_134 rfl q))) ?_
        refine P_g (fun g12 => ?_)
        refine P_l (fun hJ _ _ q => E_iald dX9_spread_136 (Sy_table hJ.1).1 (inB_vp g12) q) ?_
        refine P_if (fun hJ _ _ h1 h2 => E_if_eq 463 dX9_spread_137 (by decide) h1 h2) ?_ ?_
        · skip
          refine P_l (fun hJ _ _ q => E_iinc (v := 1) (ls2 := [some (.ref 37), some (.int p1), some (.int x2), some (.int (s3.1 + 1)), some (.int x5), some (.int x6), some (.int x7), some (.int x8), some (.int x9), none, none, none, none, none, none, none, none, none]) dX9_spread_463 rfl (by decide) (by decide) rfl (E_goto 12 dX9_spread_466 (by decide) q)) ?_
          refine P_less [some (.ref 37), some (.int p1), some (.int x2), some (.int (s3.1 + 1)), none, none, none, none, none, none, none, none, none, none, none, none, none, none] (And.intro rfl (And.intro rfl (And.intro rfl (And.intro rfl trivial)))) ?_
          exact P_back ((s3.1 + 1, s3.2))
        · skip
          refine P_l (fun hJ _ _ q => E_aload_n dX9_spread_140 rfl (E_getR (b := rR s3.2 37 15) clX9 15 (by decide) flX9_69 (Or.inr ⟨_, rfl⟩) dX9_spread_141 (kd37 hJ.1.1) rfl (Nat.pos_iff_ne_zero.mp (Nat.lt_of_lt_of_le (by decide : 0 < 3) (Sy_table hJ.1).2)) (E_iload dX9_spread_144 rfl q))) ?_
          refine P_g (fun g13 => ?_)
          refine P_l (fun hJ _ _ q => E_iald dX9_spread_146 (Sy_table hJ.1).1 (inB_vp g13) q) ?_
          refine P_if (fun hJ _ _ h1 h2 => E_if_ne 153 dX9_spread_147 (by decide) h2 h1) ?_ ?_
          · skip
            refine P_l (fun hJ _ _ q => E_goto 463 dX9_spread_150 (by decide) (E_iinc (v := 1) (ls2 := [some (.ref 37), some (.int p1), some (.int x2), some (.int (s3.1 + 1)), some (.int x5), some (.int x6), some (.int x7), some (.int x8), some (.int x9), none, none, none, none, none, none, none, none, none]) dX9_spread_463 rfl (by decide) (by decide) rfl (E_goto 12 dX9_spread_466 (by decide) q))) ?_
            refine P_less [some (.ref 37), some (.int p1), some (.int x2), some (.int (s3.1 + 1)), none, none, none, none, none, none, none, none, none, none, none, none, none, none] (And.intro rfl (And.intro rfl (And.intro rfl (And.intro rfl trivial)))) ?_
            exact P_back ((s3.1 + 1, s3.2))
          · skip
            refine P_l (fun hJ _ _ q => E_aload_n dX9_spread_153 rfl (E_getR (b := rR s3.2 37 6) clX9 6 (by decide) flX9_41 (Or.inl ⟨_, rfl⟩) dX9_spread_154 (kd37 hJ.1.1) rfl (Nat.pos_iff_ne_zero.mp (Nat.lt_of_lt_of_le (by decide : 0 < 3) (Sy_there hJ.1).2)) (E_getIN clX3 3 (by decide) flX9_114 (Or.inl rfl) dX9_spread_157 (Sy_there hJ.1).1 (E_bipush (v := 81) dX9_spread_160 (by decide) (E_iadd dX9_spread_162 (E_aload_n dX9_spread_163 rfl (E_getR (b := rR s3.2 37 6) clX9 6 (by decide) flX9_41 (Or.inl ⟨_, rfl⟩) dX9_spread_164 (kd37 hJ.1.1) rfl (Nat.pos_iff_ne_zero.mp (Nat.lt_of_lt_of_le (by decide : 0 < 3) (Sy_there hJ.1).2)) (E_getRN (b := rR s3.2 (rR s3.2 37 6) 0) clX3 0 (by decide) flX9_117 (Or.inr ⟨_, rfl⟩) dX9_spread_167 (Sy_there hJ.1).1 rfl (Nat.pos_iff_ne_zero.mp (Nat.lt_of_lt_of_le (by decide : 0 < 3) (Sy_there0 hJ.1).2)) (E_alen (v := nI (rK s3.2 (rR s3.2 (rR s3.2 37 6) 0)).2) dX9_spread_170 (Sy_there0 hJ.1).1 (by decide) rfl q))))))))) ?_
            refine P_join (pc2 := 181) (fun j14 => [some (.ref 37), some (.int p1), some (.int x2), some (.int s3.1), none, some (.int x6), some (.int x7), some (.int x8), some (.int x9), none, none, none, none, none, none, none, none, none]) (fun j14 => []) (fun j14 => j14) ?_ (fun j14 => ?_)
            · skip
              refine P_if (fun hJ _ _ h1 h2 => E_icmp_le 181 dX9_spread_171 (by decide) h1 h2) ?_ ?_
              · skip
                refine P_less [some (.ref 37), some (.int p1), some (.int x2), some (.int s3.1), none, some (.int x6), some (.int x7), some (.int x8), some (.int x9), none, none, none, none, none, none, none, none, none] (And.intro rfl (And.intro rfl (And.intro rfl (And.intro rfl (And.intro rfl (And.intro rfl (And.intro rfl (And.intro rfl trivial)))))))) ?_
                exact P_back s3.2
              · skip
                refine P_l (fun hJ _ _ q => E_aload_n dX9_spread_174 rfl (E_getR (b := rR s3.2 37 6) clX9 6 (by decide) flX9_41 (Or.inl ⟨_, rfl⟩) dX9_spread_175 (kd37 hJ.1.1) rfl (Nat.pos_iff_ne_zero.mp (Nat.lt_of_lt_of_le (by decide : 0 < 3) (Sy_there hJ.1).2)) q)) ?_
                refine P_call (t := fun _ => none) (st2 := fun _ => []) (kc2 := 0) (ks2 := 0) (fun hJ => (ok_X3_grow (σ := s3.2))) (fun hJ _ _ _ _ v τ1 hM q => E_callVN (as := []) (b := rR s3.2 37 6) (st := []) hM (by decide) yfX3_grow mlX9_179 imX3_grow seX3_grow clX3 (Sy_there hJ.1).1 rfl (Nat.le_of_ble_eq_true rfl) rfl dX9_spread_178 q) (by decide) (by decide) (fun v15 σ16 => ?_)
                refine P_less [some (.ref 37), some (.int p1), some (.int x2), some (.int s3.1), none, some (.int x6), some (.int x7), some (.int x8), some (.int x9), none, none, none, none, none, none, none, none, none] (And.intro rfl (And.intro rfl (And.intro rfl (And.intro rfl (And.intro rfl (And.intro rfl (And.intro rfl (And.intro rfl trivial)))))))) ?_
                exact P_back σ16
            · skip
              refine P_l (fun hJ _ _ q => E_iload dX9_spread_181 rfl (E_istore (ls2 := [some (.ref 37), some (.int p1), some (.int x2), some (.int s3.1), none, some (.int x6), some (.int x7), some (.int x8), some (.int x9), some (.int x6), none, none, none, none, none, none, none, none]) dX9_spread_183 (by decide) rfl q)) ?_
              refine P_loop (fun s17 => [some (.ref 37), some (.int p1), some (.int x2), some (.int s3.1), none, some (.int x6), some (.int x7), some (.int x8), some (.int x9), some (.int s17.1), none, none, none, none, none, none, none, none]) (fun s17 => s17.2) (fun s17 => ?_) _ ((x6, j14))
              unfold b_X9_spread_185
              refine P_l (fun hJ _ _ q => E_iload dX9_spread_185 rfl (E_iload dX9_spread_187 rfl (E_iconst (v := 3) dX9_spread_189 (by decide) (E_iadd dX9_spread_190 q)))) ?_
              refine P_if (fun hJ _ _ h1 h2 => E_icmp_ge 463 dX9_spread_191 (by decide) h1 h2) ?_ ?_
              · skip
                refine P_l (fun hJ _ _ q => E_iinc (v := 1) (ls2 := [some (.ref 37), some (.int p1), some (.int x2), some (.int (s3.1 + 1)), none, some (.int x6), some (.int x7), some (.int x8), some (.int x9), some (.int s17.1), none, none, none, none, none, none, none, none]) dX9_spread_463 rfl (by decide) (by decide) rfl (E_goto 12 dX9_spread_466 (by decide) q)) ?_
                refine P_less [some (.ref 37), some (.int p1), some (.int x2), some (.int (s3.1 + 1)), none, none, none, none, none, none, none, none, none, none, none, none, none, none] (And.intro rfl (And.intro rfl (And.intro rfl (And.intro rfl trivial)))) ?_
                exact P_inl (P_back ((s3.1 + 1, s17.2)))
              · skip
                refine P_l (fun hJ _ _ q => E_aload_n dX9_spread_194 rfl (E_getR (b := rR s17.2 37 15) clX9 15 (by decide) flX9_69 (Or.inr ⟨_, rfl⟩) dX9_spread_195 (kd37 hJ.1.1) rfl (Nat.pos_iff_ne_zero.mp (Nat.lt_of_lt_of_le (by decide : 0 < 3) (Sy_table hJ.1).2)) (E_iload dX9_spread_198 rfl q))) ?_
                refine P_g (fun g18 => ?_)
                refine P_l (fun hJ _ _ q => E_iald dX9_spread_200 (Sy_table hJ.1).1 (inB_vp g18) q) ?_
                refine P_if (fun hJ _ _ h1 h2 => E_if_eq 463 dX9_spread_201 (by decide) h1 h2) ?_ ?_
                · skip
                  refine P_l (fun hJ _ _ q => E_iinc (v := 1) (ls2 := [some (.ref 37), some (.int p1), some (.int x2), some (.int (s3.1 + 1)), none, some (.int x6), some (.int x7), some (.int x8), some (.int x9), some (.int s17.1), none, none, none, none, none, none, none, none]) dX9_spread_463 rfl (by decide) (by decide) rfl (E_goto 12 dX9_spread_466 (by decide) q)) ?_
                  refine P_less [some (.ref 37), some (.int p1), some (.int x2), some (.int (s3.1 + 1)), none, none, none, none, none, none, none, none, none, none, none, none, none, none] (And.intro rfl (And.intro rfl (And.intro rfl (And.intro rfl trivial)))) ?_
                  exact P_inl (P_back ((s3.1 + 1, s17.2)))
                · skip
                  refine P_l (fun hJ _ _ q => E_aload_n dX9_spread_204 rfl (E_getR (b := rR s17.2 37 15) clX9 15 (by decide) flX9_69 (Or.inr ⟨_, rfl⟩) dX9_spread_205 (kd37 hJ.1.1) rfl (Nat.pos_iff_ne_zero.mp (Nat.lt_of_lt_of_le (by decide : 0 < 3) (Sy_table hJ.1).2)) (E_iload dX9_spread_208 rfl (E_iald dX9_spread_210 (Sy_table hJ.1).1 (inB_vp g18) (E_istore (ls2 := [some (.ref 37), some (.int p1), some (.int x2), some (.int s3.1), none, some (.int x6), some (.int x7), some (.int x8), some (.int x9), some (.int s17.1), some (.int (rI s17.2 (rR s17.2 37 15) (s17.1 : Int32).toNatClampNeg)), none, none, none, none, none, none, none]) dX9_spread_211 (by decide) rfl q))))) ?_
                  refine P_v (rI s17.2 (rR s17.2 37 15) (s17.1 : Int32).toNatClampNeg) (fun x => [some (.ref 37), some (.int p1), some (.int x2), some (.int s3.1), none, some (.int x6), some (.int x7), some (.int x8), some (.int x9), some (.int s17.1), some (.int x), none, none, none, none, none, none, none]) (fun x19 => ?_)
                  refine P_l (fun hJ _ _ q => E_aload_n dX9_spread_213 rfl (E_getR (b := 63) clX9 12 (by decide) flX9_57 (Or.inr ⟨_, rfl⟩) dX9_spread_214 (kd37 hJ.1.1) (rf37_12 hJ.1.1) (by decide) (E_iconst (v := 0) dX9_spread_217 (by decide) (E_iald dX9_spread_218 (kd63 hJ.1.1) (inB_vp (by decide)) (E_iload dX9_spread_219 rfl (E_bipush (v := 15) dX9_spread_221 (by decide) (E_iand dX9_spread_223 (E_ishr dX9_spread_224 (E_iconst (v := 1) dX9_spread_225 (by decide) (E_iand dX9_spread_226 q)))))))))) ?_
                  refine P_if (fun hJ _ _ h1 h2 => E_if_ne 233 dX9_spread_227 (by decide) h2 h1) ?_ ?_
                  · skip
                    refine P_l (fun hJ _ _ q => E_goto 457 dX9_spread_230 (by decide) (E_iinc (v := 1) (ls2 := [some (.ref 37), some (.int p1), some (.int x2), some (.int s3.1), none, some (.int x6), some (.int x7), some (.int x8), some (.int x9), some (.int (s17.1 + 1)), some (.int x19), none, none, none, none, none, none, none]) dX9_spread_457 rfl (by decide) (by decide) rfl (E_goto 185 dX9_spread_460 (by decide) q))) ?_
                    refine P_less [some (.ref 37), some (.int p1), some (.int x2), some (.int s3.1), none, some (.int x6), some (.int x7), some (.int x8), some (.int x9), some (.int (s17.1 + 1)), none, none, none, none, none, none, none, none] (And.intro rfl (And.intro rfl (And.intro rfl (And.intro rfl (And.intro rfl (And.intro rfl (And.intro rfl (And.intro rfl (And.intro rfl trivial))))))))) ?_
                    exact P_back ((s17.1 + 1, s17.2))
                  · skip
                    refine P_l (fun hJ _ _ q => E_iload dX9_spread_233 rfl (E_istore (ls2 := [some (.ref 37), some (.int p1), some (.int x2), some (.int s3.1), none, some (.int x6), some (.int x7), some (.int x8), some (.int x9), some (.int s17.1), some (.int x19), some (.int x7), none, none, none, none, none, none]) dX9_spread_235 (by decide) rfl q)) ?_
                    refine P_loop (fun s20 => [some (.ref 37), some (.int p1), some (.int x2), some (.int s3.1), none, some (.int x6), some (.int x7), some (.int x8), some (.int x9), some (.int s17.1), some (.int x19), some (.int s20.1), none, none, none, none, none, none]) (fun s20 => s20.2) (fun s20 => ?_) _ ((x7, s17.2))
                    unfold b_X9_spread_237
                    refine P_l (fun hJ _ _ q => E_iload dX9_spread_237 rfl (E_iload dX9_spread_239 rfl (E_iconst (v := 3) dX9_spread_241 (by decide) (E_iadd dX9_spread_242 q)))) ?_
                    refine P_if (fun hJ _ _ h1 h2 => E_icmp_ge 457 dX9_spread_243 (by decide) h1 h2) ?_ ?_
                    · skip
                      refine P_l (fun hJ _ _ q => E_iinc (v := 1) (ls2 := [some (.ref 37), some (.int p1), some (.int x2), some (.int s3.1), none, some (.int x6), some (.int x7), some (.int x8), some (.int x9), some (.int (s17.1 + 1)), some (.int x19), some (.int s20.1), none, none, none, none, none, none]) dX9_spread_457 rfl (by decide) (by decide) rfl (E_goto 185 dX9_spread_460 (by decide) q)) ?_
                      refine P_less [some (.ref 37), some (.int p1), some (.int x2), some (.int s3.1), none, some (.int x6), some (.int x7), some (.int x8), some (.int x9), some (.int (s17.1 + 1)), none, none, none, none, none, none, none, none] (And.intro rfl (And.intro rfl (And.intro rfl (And.intro rfl (And.intro rfl (And.intro rfl (And.intro rfl (And.intro rfl (And.intro rfl trivial))))))))) ?_
                      exact P_inl (P_back ((s17.1 + 1, s20.2)))
                    · skip
                      refine P_l (fun hJ _ _ q => E_aload_n dX9_spread_246 rfl (E_getR (b := rR s20.2 37 15) clX9 15 (by decide) flX9_69 (Or.inr ⟨_, rfl⟩) dX9_spread_247 (kd37 hJ.1.1) rfl (Nat.pos_iff_ne_zero.mp (Nat.lt_of_lt_of_le (by decide : 0 < 3) (Sy_table hJ.1).2)) (E_iload dX9_spread_250 rfl q))) ?_
                      refine P_g (fun g21 => ?_)
                      refine P_l (fun hJ _ _ q => E_iald dX9_spread_252 (Sy_table hJ.1).1 (inB_vp g21) q) ?_
                      refine P_if (fun hJ _ _ h1 h2 => E_if_eq 457 dX9_spread_253 (by decide) h1 h2) ?_ ?_
                      · skip
                        refine P_l (fun hJ _ _ q => E_iinc (v := 1) (ls2 := [some (.ref 37), some (.int p1), some (.int x2), some (.int s3.1), none, some (.int x6), some (.int x7), some (.int x8), some (.int x9), some (.int (s17.1 + 1)), some (.int x19), some (.int s20.1), none, none, none, none, none, none]) dX9_spread_457 rfl (by decide) (by decide) rfl (E_goto 185 dX9_spread_460 (by decide) q)) ?_
                        refine P_less [some (.ref 37), some (.int p1), some (.int x2), some (.int s3.1), none, some (.int x6), some (.int x7), some (.int x8), some (.int x9), some (.int (s17.1 + 1)), none, none, none, none, none, none, none, none] (And.intro rfl (And.intro rfl (And.intro rfl (And.intro rfl (And.intro rfl (And.intro rfl (And.intro rfl (And.intro rfl (And.intro rfl trivial))))))))) ?_
                        exact P_inl (P_back ((s17.1 + 1, s20.2)))
                      · skip
                        refine P_l (fun hJ _ _ q => E_aload_n dX9_spread_256 rfl (E_getR (b := rR s20.2 37 15) clX9 15 (by decide) flX9_69 (Or.inr ⟨_, rfl⟩) dX9_spread_257 (kd37 hJ.1.1) rfl (Nat.pos_iff_ne_zero.mp (Nat.lt_of_lt_of_le (by decide : 0 < 3) (Sy_table hJ.1).2)) (E_iload dX9_spread_260 rfl (E_iald dX9_spread_262 (Sy_table hJ.1).1 (inB_vp g21) (E_istore (ls2 := [some (.ref 37), some (.int p1), some (.int x2), some (.int s3.1), none, some (.int x6), some (.int x7), some (.int x8), some (.int x9), some (.int s17.1), some (.int x19), some (.int s20.1), some (.int (rI s20.2 (rR s20.2 37 15) (s20.1 : Int32).toNatClampNeg)), none, none, none, none, none]) dX9_spread_263 (by decide) rfl q))))) ?_
                        refine P_v (rI s20.2 (rR s20.2 37 15) (s20.1 : Int32).toNatClampNeg) (fun x => [some (.ref 37), some (.int p1), some (.int x2), some (.int s3.1), none, some (.int x6), some (.int x7), some (.int x8), some (.int x9), some (.int s17.1), some (.int x19), some (.int s20.1), some (.int x), none, none, none, none, none]) (fun x22 => ?_)
                        refine P_l (fun hJ _ _ q => E_aload_n dX9_spread_265 rfl (E_getR (b := 63) clX9 12 (by decide) flX9_57 (Or.inr ⟨_, rfl⟩) dX9_spread_266 (kd37 hJ.1.1) (rf37_12 hJ.1.1) (by decide) (E_iconst (v := 1) dX9_spread_269 (by decide) (E_iald dX9_spread_270 (kd63 hJ.1.1) (inB_vp (by decide)) (E_iload dX9_spread_271 rfl (E_bipush (v := 15) dX9_spread_273 (by decide) (E_iand dX9_spread_275 (E_ishr dX9_spread_276 (E_iconst (v := 1) dX9_spread_277 (by decide) (E_iand dX9_spread_278 q)))))))))) ?_
                        refine P_if (fun hJ _ _ h1 h2 => E_if_ne 285 dX9_spread_279 (by decide) h2 h1) ?_ ?_
                        · skip
                          refine P_l (fun hJ _ _ q => E_goto 451 dX9_spread_282 (by decide) (E_iinc (v := 1) (ls2 := [some (.ref 37), some (.int p1), some (.int x2), some (.int s3.1), none, some (.int x6), some (.int x7), some (.int x8), some (.int x9), some (.int s17.1), some (.int x19), some (.int (s20.1 + 1)), some (.int x22), none, none, none, none, none]) dX9_spread_451 rfl (by decide) (by decide) rfl (E_goto 237 dX9_spread_454 (by decide) q))) ?_
                          refine P_less [some (.ref 37), some (.int p1), some (.int x2), some (.int s3.1), none, some (.int x6), some (.int x7), some (.int x8), some (.int x9), some (.int s17.1), some (.int x19), some (.int (s20.1 + 1)), none, none, none, none, none, none] (And.intro rfl (And.intro rfl (And.intro rfl (And.intro rfl (And.intro rfl (And.intro rfl (And.intro rfl (And.intro rfl (And.intro rfl (And.intro rfl (And.intro rfl trivial))))))))))) ?_
                          exact P_back ((s20.1 + 1, s20.2))
                        · skip
                          refine P_l (fun hJ _ _ q => E_iload dX9_spread_285 rfl (E_istore (ls2 := [some (.ref 37), some (.int p1), some (.int x2), some (.int s3.1), none, some (.int x6), some (.int x7), some (.int x8), some (.int x9), some (.int s17.1), some (.int x19), some (.int s20.1), some (.int x22), some (.int x8), none, none, none, none]) dX9_spread_287 (by decide) rfl q)) ?_
                          refine P_loop (fun s23 => [some (.ref 37), some (.int p1), some (.int x2), some (.int s3.1), none, some (.int x6), some (.int x7), some (.int x8), some (.int x9), some (.int s17.1), some (.int x19), some (.int s20.1), some (.int x22), some (.int s23.1), none, none, none, none]) (fun s23 => s23.2) (fun s23 => ?_) _ ((x8, s20.2))
                          unfold b_X9_spread_289
                          refine P_l (fun hJ _ _ q => E_iload dX9_spread_289 rfl (E_iload dX9_spread_291 rfl (E_iconst (v := 3) dX9_spread_293 (by decide) (E_iadd dX9_spread_294 q)))) ?_
                          refine P_if (fun hJ _ _ h1 h2 => E_icmp_ge 451 dX9_spread_295 (by decide) h1 h2) ?_ ?_
                          · skip
                            refine P_l (fun hJ _ _ q => E_iinc (v := 1) (ls2 := [some (.ref 37), some (.int p1), some (.int x2), some (.int s3.1), none, some (.int x6), some (.int x7), some (.int x8), some (.int x9), some (.int s17.1), some (.int x19), some (.int (s20.1 + 1)), some (.int x22), some (.int s23.1), none, none, none, none]) dX9_spread_451 rfl (by decide) (by decide) rfl (E_goto 237 dX9_spread_454 (by decide) q)) ?_
                            refine P_less [some (.ref 37), some (.int p1), some (.int x2), some (.int s3.1), none, some (.int x6), some (.int x7), some (.int x8), some (.int x9), some (.int s17.1), some (.int x19), some (.int (s20.1 + 1)), none, none, none, none, none, none] (And.intro rfl (And.intro rfl (And.intro rfl (And.intro rfl (And.intro rfl (And.intro rfl (And.intro rfl (And.intro rfl (And.intro rfl (And.intro rfl (And.intro rfl trivial))))))))))) ?_
                            exact P_inl (P_back ((s20.1 + 1, s23.2)))
                          · skip
                            refine P_l (fun hJ _ _ q => E_aload_n dX9_spread_298 rfl (E_getR (b := rR s23.2 37 15) clX9 15 (by decide) flX9_69 (Or.inr ⟨_, rfl⟩) dX9_spread_299 (kd37 hJ.1.1) rfl (Nat.pos_iff_ne_zero.mp (Nat.lt_of_lt_of_le (by decide : 0 < 3) (Sy_table hJ.1).2)) (E_iload dX9_spread_302 rfl q))) ?_
                            refine P_g (fun g24 => ?_)
                            refine P_l (fun hJ _ _ q => E_iald dX9_spread_304 (Sy_table hJ.1).1 (inB_vp g24) q) ?_
                            refine P_if (fun hJ _ _ h1 h2 => E_if_eq 451 dX9_spread_305 (by decide) h1 h2) ?_ ?_
                            · skip
                              refine P_l (fun hJ _ _ q => E_iinc (v := 1) (ls2 := [some (.ref 37), some (.int p1), some (.int x2), some (.int s3.1), none, some (.int x6), some (.int x7), some (.int x8), some (.int x9), some (.int s17.1), some (.int x19), some (.int (s20.1 + 1)), some (.int x22), some (.int s23.1), none, none, none, none]) dX9_spread_451 rfl (by decide) (by decide) rfl (E_goto 237 dX9_spread_454 (by decide) q)) ?_
                              refine P_less [some (.ref 37), some (.int p1), some (.int x2), some (.int s3.1), none, some (.int x6), some (.int x7), some (.int x8), some (.int x9), some (.int s17.1), some (.int x19), some (.int (s20.1 + 1)), none, none, none, none, none, none] (And.intro rfl (And.intro rfl (And.intro rfl (And.intro rfl (And.intro rfl (And.intro rfl (And.intro rfl (And.intro rfl (And.intro rfl (And.intro rfl (And.intro rfl trivial))))))))))) ?_
                              exact P_inl (P_back ((s20.1 + 1, s23.2)))
                            · skip
                              refine P_l (fun hJ _ _ q => E_aload_n dX9_spread_308 rfl (E_getR (b := rR s23.2 37 15) clX9 15 (by decide) flX9_69 (Or.inr ⟨_, rfl⟩) dX9_spread_309 (kd37 hJ.1.1) rfl (Nat.pos_iff_ne_zero.mp (Nat.lt_of_lt_of_le (by decide : 0 < 3) (Sy_table hJ.1).2)) (E_iload dX9_spread_312 rfl (E_iald dX9_spread_314 (Sy_table hJ.1).1 (inB_vp g24) (E_istore (ls2 := [some (.ref 37), some (.int p1), some (.int x2), some (.int s3.1), none, some (.int x6), some (.int x7), some (.int x8), some (.int x9), some (.int s17.1), some (.int x19), some (.int s20.1), some (.int x22), some (.int s23.1), some (.int (rI s23.2 (rR s23.2 37 15) (s23.1 : Int32).toNatClampNeg)), none, none, none]) dX9_spread_315 (by decide) rfl q))))) ?_
                              refine P_v (rI s23.2 (rR s23.2 37 15) (s23.1 : Int32).toNatClampNeg) (fun x => [some (.ref 37), some (.int p1), some (.int x2), some (.int s3.1), none, some (.int x6), some (.int x7), some (.int x8), some (.int x9), some (.int s17.1), some (.int x19), some (.int s20.1), some (.int x22), some (.int s23.1), some (.int x), none, none, none]) (fun x25 => ?_)
                              refine P_l (fun hJ _ _ q => E_aload_n dX9_spread_317 rfl (E_getR (b := 63) clX9 12 (by decide) flX9_57 (Or.inr ⟨_, rfl⟩) dX9_spread_318 (kd37 hJ.1.1) (rf37_12 hJ.1.1) (by decide) (E_iconst (v := 2) dX9_spread_321 (by decide) (E_iald dX9_spread_322 (kd63 hJ.1.1) (inB_vp (by decide)) (E_iload dX9_spread_323 rfl (E_bipush (v := 15) dX9_spread_325 (by decide) (E_iand dX9_spread_327 (E_ishr dX9_spread_328 (E_iconst (v := 1) dX9_spread_329 (by decide) (E_iand dX9_spread_330 q)))))))))) ?_
                              refine P_if (fun hJ _ _ h1 h2 => E_if_ne 337 dX9_spread_331 (by decide) h2 h1) ?_ ?_
                              · skip
                                refine P_l (fun hJ _ _ q => E_goto 445 dX9_spread_334 (by decide) (E_iinc (v := 1) (ls2 := [some (.ref 37), some (.int p1), some (.int x2), some (.int s3.1), none, some (.int x6), some (.int x7), some (.int x8), some (.int x9), some (.int s17.1), some (.int x19), some (.int s20.1), some (.int x22), some (.int (s23.1 + 1)), some (.int x25), none, none, none]) dX9_spread_445 rfl (by decide) (by decide) rfl (E_goto 289 dX9_spread_448 (by decide) q))) ?_
                                refine P_less [some (.ref 37), some (.int p1), some (.int x2), some (.int s3.1), none, some (.int x6), some (.int x7), some (.int x8), some (.int x9), some (.int s17.1), some (.int x19), some (.int s20.1), some (.int x22), some (.int (s23.1 + 1)), none, none, none, none] (And.intro rfl (And.intro rfl (And.intro rfl (And.intro rfl (And.intro rfl (And.intro rfl (And.intro rfl (And.intro rfl (And.intro rfl (And.intro rfl (And.intro rfl (And.intro rfl (And.intro rfl trivial))))))))))))) ?_
                                exact P_back ((s23.1 + 1, s23.2))
                              · skip
                                refine P_l (fun hJ _ _ q => E_iload dX9_spread_337 rfl (E_istore (ls2 := [some (.ref 37), some (.int p1), some (.int x2), some (.int s3.1), none, some (.int x6), some (.int x7), some (.int x8), some (.int x9), some (.int s17.1), some (.int x19), some (.int s20.1), some (.int x22), some (.int s23.1), some (.int x25), some (.int x9), none, none]) dX9_spread_339 (by decide) rfl q)) ?_
                                refine P_loop (fun s26 => [some (.ref 37), some (.int p1), some (.int x2), some (.int s3.1), none, some (.int x6), some (.int x7), some (.int x8), some (.int x9), some (.int s17.1), some (.int x19), some (.int s20.1), some (.int x22), some (.int s23.1), some (.int x25), some (.int s26.1), none, none]) (fun s26 => s26.2) (fun s26 => ?_) _ ((x9, s23.2))
                                unfold b_X9_spread_341
                                refine P_l (fun hJ _ _ q => E_iload dX9_spread_341 rfl (E_iload dX9_spread_343 rfl (E_iconst (v := 3) dX9_spread_345 (by decide) (E_iadd dX9_spread_346 q)))) ?_
                                refine P_if (fun hJ _ _ h1 h2 => E_icmp_ge 445 dX9_spread_347 (by decide) h1 h2) ?_ ?_
                                · skip
                                  refine P_l (fun hJ _ _ q => E_iinc (v := 1) (ls2 := [some (.ref 37), some (.int p1), some (.int x2), some (.int s3.1), none, some (.int x6), some (.int x7), some (.int x8), some (.int x9), some (.int s17.1), some (.int x19), some (.int s20.1), some (.int x22), some (.int (s23.1 + 1)), some (.int x25), some (.int s26.1), none, none]) dX9_spread_445 rfl (by decide) (by decide) rfl (E_goto 289 dX9_spread_448 (by decide) q)) ?_
                                  refine P_less [some (.ref 37), some (.int p1), some (.int x2), some (.int s3.1), none, some (.int x6), some (.int x7), some (.int x8), some (.int x9), some (.int s17.1), some (.int x19), some (.int s20.1), some (.int x22), some (.int (s23.1 + 1)), none, none, none, none] (And.intro rfl (And.intro rfl (And.intro rfl (And.intro rfl (And.intro rfl (And.intro rfl (And.intro rfl (And.intro rfl (And.intro rfl (And.intro rfl (And.intro rfl (And.intro rfl (And.intro rfl trivial))))))))))))) ?_
                                  exact P_inl (P_back ((s23.1 + 1, s26.2)))
                                · skip
                                  refine P_l (fun hJ _ _ q => E_aload_n dX9_spread_350 rfl (E_getR (b := rR s26.2 37 15) clX9 15 (by decide) flX9_69 (Or.inr ⟨_, rfl⟩) dX9_spread_351 (kd37 hJ.1.1) rfl (Nat.pos_iff_ne_zero.mp (Nat.lt_of_lt_of_le (by decide : 0 < 3) (Sy_table hJ.1).2)) (E_iload dX9_spread_354 rfl q))) ?_
                                  refine P_g (fun g27 => ?_)
                                  refine P_l (fun hJ _ _ q => E_iald dX9_spread_356 (Sy_table hJ.1).1 (inB_vp g27) q) ?_
                                  refine P_if (fun hJ _ _ h1 h2 => E_if_eq 445 dX9_spread_357 (by decide) h1 h2) ?_ ?_
                                  · skip
                                    refine P_l (fun hJ _ _ q => E_iinc (v := 1) (ls2 := [some (.ref 37), some (.int p1), some (.int x2), some (.int s3.1), none, some (.int x6), some (.int x7), some (.int x8), some (.int x9), some (.int s17.1), some (.int x19), some (.int s20.1), some (.int x22), some (.int (s23.1 + 1)), some (.int x25), some (.int s26.1), none, none]) dX9_spread_445 rfl (by decide) (by decide) rfl (E_goto 289 dX9_spread_448 (by decide) q)) ?_
                                    refine P_less [some (.ref 37), some (.int p1), some (.int x2), some (.int s3.1), none, some (.int x6), some (.int x7), some (.int x8), some (.int x9), some (.int s17.1), some (.int x19), some (.int s20.1), some (.int x22), some (.int (s23.1 + 1)), none, none, none, none] (And.intro rfl (And.intro rfl (And.intro rfl (And.intro rfl (And.intro rfl (And.intro rfl (And.intro rfl (And.intro rfl (And.intro rfl (And.intro rfl (And.intro rfl (And.intro rfl (And.intro rfl trivial))))))))))))) ?_
                                    exact P_inl (P_back ((s23.1 + 1, s26.2)))
                                  · skip
                                    refine P_l (fun hJ _ _ q => E_aload_n dX9_spread_360 rfl (E_getR (b := rR s26.2 37 15) clX9 15 (by decide) flX9_69 (Or.inr ⟨_, rfl⟩) dX9_spread_361 (kd37 hJ.1.1) rfl (Nat.pos_iff_ne_zero.mp (Nat.lt_of_lt_of_le (by decide : 0 < 3) (Sy_table hJ.1).2)) (E_iload dX9_spread_364 rfl (E_iald dX9_spread_366 (Sy_table hJ.1).1 (inB_vp g27) (E_istore (ls2 := [some (.ref 37), some (.int p1), some (.int x2), some (.int s3.1), none, some (.int x6), some (.int x7), some (.int x8), some (.int x9), some (.int s17.1), some (.int x19), some (.int s20.1), some (.int x22), some (.int s23.1), some (.int x25), some (.int s26.1), some (.int (rI s26.2 (rR s26.2 37 15) (s26.1 : Int32).toNatClampNeg)), none]) dX9_spread_367 (by decide) rfl q))))) ?_
                                    refine P_v (rI s26.2 (rR s26.2 37 15) (s26.1 : Int32).toNatClampNeg) (fun x => [some (.ref 37), some (.int p1), some (.int x2), some (.int s3.1), none, some (.int x6), some (.int x7), some (.int x8), some (.int x9), some (.int s17.1), some (.int x19), some (.int s20.1), some (.int x22), some (.int s23.1), some (.int x25), some (.int s26.1), some (.int x), none]) (fun x28 => ?_)
                                    refine P_l (fun hJ _ _ q => E_aload_n dX9_spread_369 rfl (E_getR (b := 63) clX9 12 (by decide) flX9_57 (Or.inr ⟨_, rfl⟩) dX9_spread_370 (kd37 hJ.1.1) (rf37_12 hJ.1.1) (by decide) (E_iconst (v := 3) dX9_spread_373 (by decide) (E_iald dX9_spread_374 (kd63 hJ.1.1) (inB_vp (by decide)) (E_iload dX9_spread_375 rfl (E_bipush (v := 15) dX9_spread_377 (by decide) (E_iand dX9_spread_379 (E_ishr dX9_spread_380 (E_iconst (v := 1) dX9_spread_381 (by decide) (E_iand dX9_spread_382 (E_iconst (v := 1) dX9_spread_383 (by decide) q))))))))))) ?_
                                    refine P_if (fun hJ _ _ h1 h2 => E_icmp_ne 439 dX9_spread_384 (by decide) h2 h1) ?_ ?_
                                    · skip
                                      refine P_l (fun hJ _ _ q => E_iload dX9_spread_387 rfl (E_bipush (v := 15) dX9_spread_389 (by decide) (E_iand dX9_spread_391 (E_iload dX9_spread_392 rfl (E_bipush (v := 15) dX9_spread_394 (by decide) (E_iand dX9_spread_396 (E_iconst (v := 4) dX9_spread_397 (by decide) (E_ishl dX9_spread_398 (E_ior dX9_spread_399 (E_iload dX9_spread_400 rfl (E_bipush (v := 15) dX9_spread_402 (by decide) (E_iand dX9_spread_404 (E_bipush (v := 8) dX9_spread_405 (by decide) (E_ishl dX9_spread_407 q)))))))))))))) ?_
                                      refine P_l (fun hJ _ _ q => E_ior dX9_spread_408 (E_iload dX9_spread_409 rfl (E_bipush (v := 15) dX9_spread_411 (by decide) (E_iand dX9_spread_413 (E_bipush (v := 12) dX9_spread_414 (by decide) (E_ishl dX9_spread_416 (E_ior dX9_spread_417 (E_istore (ls2 := [some (.ref 37), some (.int p1), some (.int x2), some (.int s3.1), none, some (.int x6), some (.int x7), some (.int x8), some (.int x9), some (.int s17.1), some (.int x19), some (.int s20.1), some (.int x22), some (.int s23.1), some (.int x25), some (.int s26.1), some (.int x28), some (.int ((((x19 &&& 15) ||| ((x22 &&& 15) <<< ((4 : Int32) &&& 31))) ||| ((x25 &&& 15) <<< ((8 : Int32) &&& 31))) ||| ((x28 &&& 15) <<< ((12 : Int32) &&& 31))))]) dX9_spread_418 (by decide) rfl q)))))))) ?_
                                      refine P_v ((((x19 &&& 15) ||| ((x22 &&& 15) <<< ((4 : Int32) &&& 31))) ||| ((x25 &&& 15) <<< ((8 : Int32) &&& 31))) ||| ((x28 &&& 15) <<< ((12 : Int32) &&& 31))) (fun x => [some (.ref 37), some (.int p1), some (.int x2), some (.int s3.1), none, some (.int x6), some (.int x7), some (.int x8), some (.int x9), some (.int s17.1), some (.int x19), some (.int s20.1), some (.int x22), some (.int s23.1), some (.int x25), some (.int s26.1), some (.int x28), some (.int x)]) (fun x29 => ?_)
                                      refine P_l (fun hJ _ _ q => E_aload_n dX9_spread_420 rfl (E_iload_n dX9_spread_421 rfl (E_iload_n dX9_spread_422 rfl (E_iload dX9_spread_423 rfl (E_iload dX9_spread_425 rfl (E_iload dX9_spread_427 rfl (E_iadd dX9_spread_429 (E_iload dX9_spread_430 rfl (E_iadd dX9_spread_432 (E_iload dX9_spread_433 rfl (E_iadd dX9_spread_435 q))))))))))) ?_
                                      refine P_call (t := fun _ => none) (st2 := fun _ => []) (kc2 := 0) (ks2 := 0) (fun hJ => (ok_X9_put (σ := s26.2) (p1 := p1) (p2 := s3.1) (p3 := x29) (p4 := ((x19 + x22) + x25) + x28) )) (fun hJ _ _ _ _ v τ1 hM q => E_callV (as := [.int p1, .int s3.1, .int x29, .int (((x19 + x22) + x25) + x28)]) (b := 37) (st := []) hM (by decide) yfX9_put mlX9_182 imX9_put seX9_put clX9 (kd37 hJ.1.1) rfl (Nat.le_of_ble_eq_true rfl) rfl dX9_spread_436 q) (by decide) (by decide) (fun v30 σ31 => ?_)
                                      refine P_l (fun hJ _ _ q => E_iinc (v := 1) (ls2 := [some (.ref 37), some (.int p1), some (.int x2), some (.int s3.1), none, some (.int x6), some (.int x7), some (.int x8), some (.int x9), some (.int s17.1), some (.int x19), some (.int s20.1), some (.int x22), some (.int s23.1), some (.int x25), some (.int (s26.1 + 1)), some (.int x28), some (.int x29)]) dX9_spread_439 rfl (by decide) (by decide) rfl (E_goto 341 dX9_spread_442 (by decide) q)) ?_
                                      refine P_less [some (.ref 37), some (.int p1), some (.int x2), some (.int s3.1), none, some (.int x6), some (.int x7), some (.int x8), some (.int x9), some (.int s17.1), some (.int x19), some (.int s20.1), some (.int x22), some (.int s23.1), some (.int x25), some (.int (s26.1 + 1)), none, none] (And.intro rfl (And.intro rfl (And.intro rfl (And.intro rfl (And.intro rfl (And.intro rfl (And.intro rfl (And.intro rfl (And.intro rfl (And.intro rfl (And.intro rfl (And.intro rfl (And.intro rfl (And.intro rfl (And.intro rfl trivial))))))))))))))) ?_
                                      exact P_back ((s26.1 + 1, σ31))
                                    · skip
                                      refine P_l (fun hJ _ _ q => E_iinc (v := 1) (ls2 := [some (.ref 37), some (.int p1), some (.int x2), some (.int s3.1), none, some (.int x6), some (.int x7), some (.int x8), some (.int x9), some (.int s17.1), some (.int x19), some (.int s20.1), some (.int x22), some (.int s23.1), some (.int x25), some (.int (s26.1 + 1)), some (.int x28), none]) dX9_spread_439 rfl (by decide) (by decide) rfl (E_goto 341 dX9_spread_442 (by decide) q)) ?_
                                      refine P_less [some (.ref 37), some (.int p1), some (.int x2), some (.int s3.1), none, some (.int x6), some (.int x7), some (.int x8), some (.int x9), some (.int s17.1), some (.int x19), some (.int s20.1), some (.int x22), some (.int s23.1), some (.int x25), some (.int (s26.1 + 1)), none, none] (And.intro rfl (And.intro rfl (And.intro rfl (And.intro rfl (And.intro rfl (And.intro rfl (And.intro rfl (And.intro rfl (And.intro rfl (And.intro rfl (And.intro rfl (And.intro rfl (And.intro rfl (And.intro rfl (And.intro rfl trivial))))))))))))))) ?_
                                      exact P_back ((s26.1 + 1, s26.2))

def b_X9_go_188 (s12 : Int32 × rS) (s18 : Int32 × rS) : Option (((Int32 × rS) ⊕ (Int32 × rS)) ⊕ (Int32 × rS)) := if (if (rI s18.2 (rR s18.2 37 5) 3) ≤ s18.1 then true else (if (nI (rK s18.2 (rR s18.2 (rR s18.2 37 5) 0)).2) ≤ s18.1 then true else false)) = true then (oB (f_X9_turnOver s18.2) fun _ σ20 => some (.inl (.inr ((s12.1 + 1, σ20))))) else (oB (f_X9_spread s18.2 s18.1) fun _ σ22 => some (.inr ((s18.1 + 1, σ22))))
def b_X9_go_149 (p3 : Int32) (s12 : Int32 × rS) : Option ((Int32 × rS) ⊕ (Int32 × rS)) := if (if p3 < s12.1 then true else (if (rI s12.2 (rR s12.2 37 5) 3) ≤ 0 then true else false)) = true then (some (.inl ((rI s12.2 (rR s12.2 37 5) 3, s12.2)))) else (oB (f_X9_gatherWays s12.2 s12.1) fun _ σ14 => oB (f_X9_lookAhead σ14 s12.1) fun _ σ16 => oLet (wI σ16 (rR σ16 37 6) 3 0) fun σ17 => oLoop (b_X9_go_188 s12) oFuel ((0, σ17)))
def f_X9_go (σ : rS) (p2 : Int32) (p3 : Int32) : Option (Int32 × rS) := oLet (wR σ 37 14 ((if (rI σ 4 1) = 4 then 43 else 38 : Nat))) fun σ1 => oLet (wI σ1 37 17 p2) fun σ2 => oLet (wR σ2 37 15 ((if (rI σ2 37 17) = 2 then (rR σ2 37 14 + 1) else (if (rI σ2 37 17) = 0 then (rR σ2 37 14 + 2) else (rR σ2 37 14 + 3)) : Nat))) fun σ3 => oLet (wI σ3 37 16 (rI σ3 4 0)) fun σ4 => oLet (wI σ4 (rR σ4 37 5) 3 1) fun σ5 => if inB 0 ((rK σ5 (rR σ5 (rR σ5 37 5) 0)).2) then (oLet (wI σ5 (rR σ5 (rR σ5 37 5) 0) (0 : Int32).toNatClampNeg 0) fun σ7 => if inB 0 ((rK σ7 (rR σ7 (rR σ7 37 5) 0)).2) then (oLet (wL σ7 (rR σ7 (rR σ7 37 5) 1) (0 : Int32).toNatClampNeg ((if (rI σ7 37 17) = 3 then (4503599627370496 : Int64) else (if (rI σ7 37 17) = 2 then (1 : Int64) else (0 : Int64)) : Int64))) fun σ9 => if inB 0 ((rK σ9 (rR σ9 (rR σ9 37 5) 0)).2) then (oLet (wL σ9 (rR σ9 (rR σ9 37 5) 2) (0 : Int32).toNatClampNeg (0 : Int64)) fun σ11 => oLoop (b_X9_go_149 p3) oFuel ((1, σ11))) else none) else none) else none
set_option maxRecDepth 20000 in
set_option maxHeartbeats 2000000 in
theorem ok_X9_go {σ : rS} {p2 : Int32} {p3 : Int32}   : rFn Sy yX9_go mX9_go 4 [.ref 37, .ref 4, .int p2, .int p3] σ 0 0 (fun v => .inl (some (.int v))) (f_X9_go σ p2 p3) := by
  refine rF_of (ls := [some (.ref 37), some (.ref 4), some (.int p2), some (.int p3), none, none]) yfX9_go rfl (Nat.le_of_ble_eq_true rfl) (fun o τ => ?_)
  unfold f_X9_go
  refine P_l (fun hJ _ _ q => E_aload_n dX9_go_0 rfl (E_aload_n dX9_go_1 rfl (E_getIN clX5 1 (by decide) flX9_95 (Or.inl rfl) dX9_go_2 (kd4 hJ.1.1) (E_iconst (v := 4) dX9_go_5 (by decide) q)))) ?_
  refine P_l (pc2 := 20) (ls2 := [some (.ref 37), some (.ref 4), some (.int p2), some (.int p3), none, none]) (st2 := [.ref ((if (rI σ 4 1) = 4 then 43 else 38 : Nat)), .ref 37]) (fun hJ _ _ hq => ?_) ?_
  · skip
    refine E_icmp_ne 16 dX9_go_6 (by decide) (fun c_6_0 => ?_) (fun c_6_0 => ?_)
    · skip
      refine E_aload_n dX9_go_16 rfl ?_
      refine E_getR (b := 38) clX9 0 (by decide) flX9_14 (Or.inl ⟨_, rfl⟩) dX9_go_17 (kd37 hJ.1.1) (rf37_0 hJ.1.1) (by decide) ?_
      simp only [if_neg c_6_0] at hq
      exact hq
    · skip
      refine E_aload_n dX9_go_9 rfl ?_
      refine E_getR (b := 43) clX9 1 (by decide) flX9_20 (Or.inl ⟨_, rfl⟩) dX9_go_10 (kd37 hJ.1.1) (rf37_1 hJ.1.1) (by decide) ?_
      refine E_goto 20 dX9_go_13 (by decide) ?_
      simp only [if_pos c_6_0] at hq
      exact hq
  · skip
    refine P_w (fun hJ _ _ q => E_putR clX9 14 (by decide) flX9_63 (Or.inl ⟨_, rfl⟩) rfl dX9_go_20 (kd37 hJ.1.1) q) (fun hJ => Sy_wsteps hJ.1 (by split <;> first | exact isT_43 | exact isT_38)) rfl rfl rfl (fun σ1 hσ1 => ?_)
    refine P_l (fun hJ _ _ q => E_aload_n dX9_go_23 rfl (E_iload_n dX9_go_24 rfl q)) ?_
    refine P_w (fun hJ _ _ q => E_putI clX9 17 (by decide) flX9_101 (Or.inl rfl) rfl dX9_go_25 (kd37 hJ.1.1) q) (fun hJ => Sy_wI hJ.1) rfl rfl rfl (fun σ2 hσ2 => ?_)
    refine P_l (fun hJ _ _ q => E_aload_n dX9_go_28 rfl (E_aload_n dX9_go_29 rfl (E_getI clX9 17 (by decide) flX9_101 (Or.inl rfl) dX9_go_30 (kd37 hJ.1.1) (E_iconst (v := 2) dX9_go_33 (by decide) q)))) ?_
    refine P_l (pc2 := 71) (ls2 := [some (.ref 37), some (.ref 4), none, some (.int p3), none, none]) (st2 := [.ref ((if (rI σ2 37 17) = 2 then (rR σ2 37 14 + 1) else (if (rI σ2 37 17) = 0 then (rR σ2 37 14 + 2) else (rR σ2 37 14 + 3)) : Nat)), .ref 37]) (fun hJ _ _ hq => ?_) ?_
    · skip
      refine E_icmp_ne 47 dX9_go_34 (by decide) (fun c_34_0 => ?_) (fun c_34_0 => ?_)
      · skip
        refine E_aload_n dX9_go_47 rfl ?_
        refine E_getI clX9 17 (by decide) flX9_101 (Or.inl rfl) dX9_go_48 (kd37 hJ.1.1) ?_
        refine E_if_ne 64 dX9_go_51 (by decide) (fun c_51_1 => ?_) (fun c_51_1 => ?_)
        · skip
          refine E_aload_n dX9_go_64 rfl ?_
          refine E_getR (b := rR σ2 37 14) clX9 14 (by decide) flX9_63 (Or.inl ⟨_, rfl⟩) dX9_go_65 (kd37 hJ.1.1) rfl (Nat.pos_iff_ne_zero.mp (Nat.lt_of_lt_of_le (by decide : 0 < 3) (Sy_steps hJ.1).2.1)) ?_
          refine E_getRN (b := rR σ2 37 14 + 3) clX8 3 (by decide) flX9_107 (Or.inr ⟨_, rfl⟩) dX9_go_68 (Sy_steps hJ.1).1 (rfT3 hJ.1.1 (Sy_steps hJ.1).2.2) (isT0 (Sy_steps hJ.1).2.2) ?_
          simp only [if_neg c_34_0, if_neg c_51_1] at hq
          exact E_less (ls2 := [some (.ref 37), some (.ref 4), none, some (.int p3), none, none]) hq (rLe_at [some (.ref 37), some (.ref 4), none, some (.int p3), none, none] [some (.ref 37), some (.ref 4), some (.int p2), some (.int p3), none, none] (And.intro rfl (And.intro rfl (And.intro rfl trivial))))
        · skip
          refine E_aload_n dX9_go_54 rfl ?_
          refine E_getR (b := rR σ2 37 14) clX9 14 (by decide) flX9_63 (Or.inl ⟨_, rfl⟩) dX9_go_55 (kd37 hJ.1.1) rfl (Nat.pos_iff_ne_zero.mp (Nat.lt_of_lt_of_le (by decide : 0 < 3) (Sy_steps hJ.1).2.1)) ?_
          refine E_getRN (b := rR σ2 37 14 + 2) clX8 2 (by decide) flX9_66 (Or.inr ⟨_, rfl⟩) dX9_go_58 (Sy_steps hJ.1).1 (rfT2 hJ.1.1 (Sy_steps hJ.1).2.2) (isT0 (Sy_steps hJ.1).2.2) ?_
          refine E_goto 71 dX9_go_61 (by decide) ?_
          simp only [if_neg c_34_0, if_pos c_51_1] at hq
          exact E_less (ls2 := [some (.ref 37), some (.ref 4), none, some (.int p3), none, none]) hq (rLe_at [some (.ref 37), some (.ref 4), none, some (.int p3), none, none] [some (.ref 37), some (.ref 4), some (.int p2), some (.int p3), none, none] (And.intro rfl (And.intro rfl (And.intro rfl trivial))))
      · skip
        refine E_aload_n dX9_go_37 rfl ?_
        refine E_getR (b := rR σ2 37 14) clX9 14 (by decide) flX9_63 (Or.inl ⟨_, rfl⟩) dX9_go_38 (kd37 hJ.1.1) rfl (Nat.pos_iff_ne_zero.mp (Nat.lt_of_lt_of_le (by decide : 0 < 3) (Sy_steps hJ.1).2.1)) ?_
        refine E_getRN (b := rR σ2 37 14 + 1) clX8 1 (by decide) flX9_104 (Or.inr ⟨_, rfl⟩) dX9_go_41 (Sy_steps hJ.1).1 (rfT1 hJ.1.1 (Sy_steps hJ.1).2.2) (isT0 (Sy_steps hJ.1).2.2) ?_
        refine E_goto 71 dX9_go_44 (by decide) ?_
        simp only [if_pos c_34_0] at hq
        exact E_less (ls2 := [some (.ref 37), some (.ref 4), none, some (.int p3), none, none]) hq (rLe_at [some (.ref 37), some (.ref 4), none, some (.int p3), none, none] [some (.ref 37), some (.ref 4), some (.int p2), some (.int p3), none, none] (And.intro rfl (And.intro rfl (And.intro rfl trivial))))
    · skip
      refine P_w (fun hJ _ _ q => E_putR clX9 15 (by decide) flX9_69 (Or.inr ⟨_, rfl⟩) rfl dX9_go_71 (kd37 hJ.1.1) q) (fun hJ => Sy_wtable hJ.1 tb3) rfl rfl rfl (fun σ3 hσ3 => ?_)
      refine P_l (fun hJ _ _ q => E_aload_n dX9_go_74 rfl (E_aload_n dX9_go_75 rfl (E_getIN clX5 0 (by decide) flX9_110 (Or.inl rfl) dX9_go_76 (kd4 hJ.1.1) q))) ?_
      refine P_w (fun hJ _ _ q => E_putI clX9 16 (by decide) flX9_113 (Or.inl rfl) rfl dX9_go_79 (kd37 hJ.1.1) q) (fun hJ => Sy_wI hJ.1) rfl rfl rfl (fun σ4 hσ4 => ?_)
      refine P_l (fun hJ _ _ q => E_aload_n dX9_go_82 rfl (E_getR (b := rR σ4 37 5) clX9 5 (by decide) flX9_37 (Or.inl ⟨_, rfl⟩) dX9_go_83 (kd37 hJ.1.1) rfl (Nat.pos_iff_ne_zero.mp (Nat.lt_of_lt_of_le (by decide : 0 < 3) (Sy_here hJ.1).2)) (E_iconst (v := 1) dX9_go_86 (by decide) q))) ?_
      refine P_w (fun hJ _ _ q => E_putIN clX3 3 (by decide) flX9_114 (Or.inl rfl) rfl dX9_go_87 (Sy_here hJ.1).1 q) (fun hJ => Sy_wI hJ.1) rfl rfl rfl (fun σ5 hσ5 => ?_)
      refine P_l (fun hJ _ _ q => E_aload_n dX9_go_90 rfl (E_getR (b := rR σ5 37 5) clX9 5 (by decide) flX9_37 (Or.inl ⟨_, rfl⟩) dX9_go_91 (kd37 hJ.1.1) rfl (Nat.pos_iff_ne_zero.mp (Nat.lt_of_lt_of_le (by decide : 0 < 3) (Sy_here hJ.1).2)) (E_getRN (b := rR σ5 (rR σ5 37 5) 0) clX3 0 (by decide) flX9_117 (Or.inr ⟨_, rfl⟩) dX9_go_94 (Sy_here hJ.1).1 rfl (Nat.pos_iff_ne_zero.mp (Nat.lt_of_lt_of_le (by decide : 0 < 3) (Sy_here0 hJ.1).2)) (E_iconst (v := 0) dX9_go_97 (by decide) (E_iconst (v := 0) dX9_go_98 (by decide) q))))) ?_
      refine P_g (fun g6 => ?_)
      refine P_w (fun hJ _ _ q => E_iast dX9_go_99 (Sy_here0 hJ.1).1 (Sy_here0 hJ.1).2 (inB_vp g6) q) (fun hJ => Sy_wI hJ.1) rfl rfl rfl (fun σ7 hσ7 => ?_)
      refine P_l (fun hJ _ _ q => E_aload_n dX9_go_100 rfl (E_getR (b := rR σ7 37 5) clX9 5 (by decide) flX9_37 (Or.inl ⟨_, rfl⟩) dX9_go_101 (kd37 hJ.1.1) rfl (Nat.pos_iff_ne_zero.mp (Nat.lt_of_lt_of_le (by decide : 0 < 3) (Sy_here hJ.1).2)) (E_getRN (b := rR σ7 (rR σ7 37 5) 1) clX3 1 (by decide) flX9_120 (Or.inr ⟨_, rfl⟩) dX9_go_104 (Sy_here hJ.1).1 rfl (Nat.pos_iff_ne_zero.mp (Nat.lt_of_lt_of_le (by decide : 0 < 3) (Sy_here1 hJ.1).2)) (E_iconst (v := 0) dX9_go_107 (by decide) (E_aload_n dX9_go_108 rfl (E_getI clX9 17 (by decide) flX9_101 (Or.inl rfl) dX9_go_109 (kd37 hJ.1.1) (E_iconst (v := 3) dX9_go_112 (by decide) q))))))) ?_
      refine P_l (pc2 := 135) (ls2 := [some (.ref 37), none, none, some (.int p3), none, none]) (st2 := [.long ((if (rI σ7 37 17) = 3 then (4503599627370496 : Int64) else (if (rI σ7 37 17) = 2 then (1 : Int64) else (0 : Int64)) : Int64)), .int 0, .ref (rR σ7 (rR σ7 37 5) 1)]) (fun hJ _ _ hq => ?_) ?_
      · skip
        refine E_icmp_ne 122 dX9_go_113 (by decide) (fun c_113_0 => ?_) (fun c_113_0 => ?_)
        · skip
          refine E_aload_n dX9_go_122 rfl ?_
          refine E_getI clX9 17 (by decide) flX9_101 (Or.inl rfl) dX9_go_123 (kd37 hJ.1.1) ?_
          refine E_iconst (v := 2) dX9_go_126 (by decide) ?_
          refine E_icmp_ne 134 dX9_go_127 (by decide) (fun c_127_1 => ?_) (fun c_127_1 => ?_)
          · skip
            refine E_lconst (v := 0) dX9_go_134 (by decide) ?_
            simp only [if_neg c_113_0, if_neg c_127_1] at hq
            exact E_less (ls2 := [some (.ref 37), none, none, some (.int p3), none, none]) hq (rLe_at [some (.ref 37), none, none, some (.int p3), none, none] [some (.ref 37), some (.ref 4), none, some (.int p3), none, none] (And.intro rfl (And.intro rfl trivial)))
          · skip
            refine E_lconst (v := 1) dX9_go_130 (by decide) ?_
            refine E_goto 135 dX9_go_131 (by decide) ?_
            simp only [if_neg c_113_0, if_pos c_127_1] at hq
            exact E_less (ls2 := [some (.ref 37), none, none, some (.int p3), none, none]) hq (rLe_at [some (.ref 37), none, none, some (.int p3), none, none] [some (.ref 37), some (.ref 4), none, some (.int p3), none, none] (And.intro rfl (And.intro rfl trivial)))
        · skip
          refine E_ldc2 dX9_go_116 kcX9_123 ?_
          refine E_goto 135 dX9_go_119 (by decide) ?_
          simp only [if_pos c_113_0] at hq
          exact E_less (ls2 := [some (.ref 37), none, none, some (.int p3), none, none]) hq (rLe_at [some (.ref 37), none, none, some (.int p3), none, none] [some (.ref 37), some (.ref 4), none, some (.int p3), none, none] (And.intro rfl (And.intro rfl trivial)))
      · skip
        refine P_g (fun g8 => ?_)
        refine P_w (fun hJ _ _ q => E_last dX9_go_135 (Sy_here1 hJ.1).1 (inB_vp g8) q) (fun hJ => Sy_wL hJ.1) rfl rfl rfl (fun σ9 hσ9 => ?_)
        refine P_l (fun hJ _ _ q => E_aload_n dX9_go_136 rfl (E_getR (b := rR σ9 37 5) clX9 5 (by decide) flX9_37 (Or.inl ⟨_, rfl⟩) dX9_go_137 (kd37 hJ.1.1) rfl (Nat.pos_iff_ne_zero.mp (Nat.lt_of_lt_of_le (by decide : 0 < 3) (Sy_here hJ.1).2)) (E_getRN (b := rR σ9 (rR σ9 37 5) 2) clX3 2 (by decide) flX9_125 (Or.inr ⟨_, rfl⟩) dX9_go_140 (Sy_here hJ.1).1 rfl (Nat.pos_iff_ne_zero.mp (Nat.lt_of_lt_of_le (by decide : 0 < 3) (Sy_here2 hJ.1).2)) (E_iconst (v := 0) dX9_go_143 (by decide) (E_lconst (v := 0) dX9_go_144 (by decide) q))))) ?_
        refine P_g (fun g10 => ?_)
        refine P_w (fun hJ _ _ q => E_last dX9_go_145 (Sy_here2 hJ.1).1 (inB_vp g10) q) (fun hJ => Sy_wL hJ.1) rfl rfl rfl (fun σ11 hσ11 => ?_)
        refine P_l (fun hJ _ _ q => E_iconst (v := 1) dX9_go_146 (by decide) (E_istore (ls2 := [some (.ref 37), none, none, some (.int p3), some (.int 1), none]) dX9_go_147 (by decide) rfl q)) ?_
        refine P_loop (fun s12 => [some (.ref 37), none, none, some (.int p3), some (.int s12.1), none]) (fun s12 => s12.2) (fun s12 => ?_) _ ((1, σ11))
        unfold b_X9_go_149
        refine P_l (fun hJ _ _ q => E_iload dX9_go_149 rfl (E_iload_n dX9_go_151 rfl q)) ?_
        refine P_if (c := (if p3 < s12.1 then true else (if (rI s12.2 (rR s12.2 37 5) 3) ≤ 0 then true else false)) = true) (pc1 := 235) (ls1 := [some (.ref 37), none, none, some (.int p3), some (.int s12.1), none]) (st1 := []) (pc2 := 165) (ls2 := [some (.ref 37), none, none, some (.int p3), some (.int s12.1), none]) (st2 := []) (fun hJ _ _ hX hY => ?_) ?_ ?_
        · skip
          refine E_icmp_gt 235 dX9_go_152 (by decide) (fun c_152_0 => ?_) (fun c_152_0 => ?_)
          · skip
            exact hX (by simp only [if_pos c_152_0])
          · skip
            refine E_aload_n dX9_go_155 rfl ?_
            refine E_getR (b := rR s12.2 37 5) clX9 5 (by decide) flX9_37 (Or.inl ⟨_, rfl⟩) dX9_go_156 (kd37 hJ.1.1) rfl (Nat.pos_iff_ne_zero.mp (Nat.lt_of_lt_of_le (by decide : 0 < 3) (Sy_here hJ.1).2)) ?_
            refine E_getIN clX3 3 (by decide) flX9_114 (Or.inl rfl) dX9_go_159 (Sy_here hJ.1).1 ?_
            refine E_if_le 235 dX9_go_162 (by decide) (fun c_162_1 => ?_) (fun c_162_1 => ?_)
            · skip
              exact hX (by simp only [if_neg c_152_0, if_pos c_162_1])
            · skip
              exact hY (by simp only [if_neg c_152_0, if_neg c_162_1]; exact Bool.false_ne_true)
        · skip
          refine P_l (fun hJ _ _ q => E_aload_n dX9_go_235 rfl (E_getR (b := rR s12.2 37 5) clX9 5 (by decide) flX9_37 (Or.inl ⟨_, rfl⟩) dX9_go_236 (kd37 hJ.1.1) rfl (Nat.pos_iff_ne_zero.mp (Nat.lt_of_lt_of_le (by decide : 0 < 3) (Sy_here hJ.1).2)) (E_getIN clX3 3 (by decide) flX9_114 (Or.inl rfl) dX9_go_239 (Sy_here hJ.1).1 q))) ?_
          exact P_inl (P_ret (fun _ _ => E_iret rfl dX9_go_242))
        · skip
          refine P_l (fun hJ _ _ q => E_aload_n dX9_go_165 rfl (E_iload dX9_go_166 rfl q)) ?_
          refine P_call (t := fun _ => none) (st2 := fun _ => []) (kc2 := 0) (ks2 := 0) (fun hJ => (ok_X9_gatherWays (σ := s12.2) (p1 := s12.1) )) (fun hJ _ _ _ _ v τ1 hM q => E_callV (as := [.int s12.1]) (b := 37) (st := []) hM (by decide) yfX9_gatherWays mlX9_128 imX9_gatherWays seX9_gatherWays clX9 (kd37 hJ.1.1) rfl (Nat.le_of_ble_eq_true rfl) rfl dX9_go_168 q) (by decide) (by decide) (fun v13 σ14 => ?_)
          refine P_l (fun hJ _ _ q => E_aload_n dX9_go_171 rfl (E_iload dX9_go_172 rfl q)) ?_
          refine P_call (t := fun _ => none) (st2 := fun _ => []) (kc2 := 0) (ks2 := 0) (fun hJ => (ok_X9_lookAhead (σ := σ14) (p1 := s12.1) )) (fun hJ _ _ _ _ v τ1 hM q => E_callV (as := [.int s12.1]) (b := 37) (st := []) hM (by decide) yfX9_lookAhead mlX9_131 imX9_lookAhead seX9_lookAhead clX9 (kd37 hJ.1.1) rfl (Nat.le_of_ble_eq_true rfl) rfl dX9_go_174 q) (by decide) (by decide) (fun v15 σ16 => ?_)
          refine P_l (fun hJ _ _ q => E_aload_n dX9_go_177 rfl (E_getR (b := rR σ16 37 6) clX9 6 (by decide) flX9_41 (Or.inl ⟨_, rfl⟩) dX9_go_178 (kd37 hJ.1.1) rfl (Nat.pos_iff_ne_zero.mp (Nat.lt_of_lt_of_le (by decide : 0 < 3) (Sy_there hJ.1).2)) (E_iconst (v := 0) dX9_go_181 (by decide) q))) ?_
          refine P_w (fun hJ _ _ q => E_putIN clX3 3 (by decide) flX9_114 (Or.inl rfl) rfl dX9_go_182 (Sy_there hJ.1).1 q) (fun hJ => Sy_wI hJ.1) rfl rfl rfl (fun σ17 hσ17 => ?_)
          refine P_l (fun hJ _ _ q => E_iconst (v := 0) dX9_go_185 (by decide) (E_istore (ls2 := [some (.ref 37), none, none, some (.int p3), some (.int s12.1), some (.int 0)]) dX9_go_186 (by decide) rfl q)) ?_
          refine P_loop (fun s18 => [some (.ref 37), none, none, some (.int p3), some (.int s12.1), some (.int s18.1)]) (fun s18 => s18.2) (fun s18 => ?_) _ ((0, σ17))
          unfold b_X9_go_188
          refine P_l (fun hJ _ _ q => E_iload dX9_go_188 rfl (E_aload_n dX9_go_190 rfl (E_getR (b := rR s18.2 37 5) clX9 5 (by decide) flX9_37 (Or.inl ⟨_, rfl⟩) dX9_go_191 (kd37 hJ.1.1) rfl (Nat.pos_iff_ne_zero.mp (Nat.lt_of_lt_of_le (by decide : 0 < 3) (Sy_here hJ.1).2)) (E_getIN clX3 3 (by decide) flX9_114 (Or.inl rfl) dX9_go_194 (Sy_here hJ.1).1 q)))) ?_
          refine P_if (c := (if (rI s18.2 (rR s18.2 37 5) 3) ≤ s18.1 then true else (if (nI (rK s18.2 (rR s18.2 (rR s18.2 37 5) 0)).2) ≤ s18.1 then true else false)) = true) (pc1 := 225) (ls1 := [some (.ref 37), none, none, some (.int p3), some (.int s12.1), some (.int s18.1)]) (st1 := []) (pc2 := 213) (ls2 := [some (.ref 37), none, none, some (.int p3), some (.int s12.1), some (.int s18.1)]) (st2 := []) (fun hJ _ _ hX hY => ?_) ?_ ?_
          · skip
            refine E_icmp_ge 225 dX9_go_197 (by decide) (fun c_197_0 => ?_) (fun c_197_0 => ?_)
            · skip
              exact hX (by simp only [if_pos c_197_0])
            · skip
              refine E_iload dX9_go_200 rfl ?_
              refine E_aload_n dX9_go_202 rfl ?_
              refine E_getR (b := rR s18.2 37 5) clX9 5 (by decide) flX9_37 (Or.inl ⟨_, rfl⟩) dX9_go_203 (kd37 hJ.1.1) rfl (Nat.pos_iff_ne_zero.mp (Nat.lt_of_lt_of_le (by decide : 0 < 3) (Sy_here hJ.1).2)) ?_
              refine E_getRN (b := rR s18.2 (rR s18.2 37 5) 0) clX3 0 (by decide) flX9_117 (Or.inr ⟨_, rfl⟩) dX9_go_206 (Sy_here hJ.1).1 rfl (Nat.pos_iff_ne_zero.mp (Nat.lt_of_lt_of_le (by decide : 0 < 3) (Sy_here0 hJ.1).2)) ?_
              refine E_alen (v := nI (rK s18.2 (rR s18.2 (rR s18.2 37 5) 0)).2) dX9_go_209 (Sy_here0 hJ.1).1 (by decide) rfl ?_
              refine E_icmp_ge 225 dX9_go_210 (by decide) (fun c_210_1 => ?_) (fun c_210_1 => ?_)
              · skip
                exact hX (by simp only [if_neg c_197_0, if_pos c_210_1])
              · skip
                exact hY (by simp only [if_neg c_197_0, if_neg c_210_1]; exact Bool.false_ne_true)
          · skip
            refine P_l (fun hJ _ _ q => E_aload_n dX9_go_225 rfl q) ?_
            refine P_call (t := fun _ => none) (st2 := fun _ => []) (kc2 := 0) (ks2 := 0) (fun hJ => (ok_X9_turnOver (σ := s18.2)  )) (fun hJ _ _ _ _ v τ1 hM q => E_callV (as := []) (b := 37) (st := []) hM (by decide) yfX9_turnOver mlX9_137 imX9_turnOver seX9_turnOver clX9 (kd37 hJ.1.1) rfl (Nat.le_of_ble_eq_true rfl) rfl dX9_go_226 q) (by decide) (by decide) (fun v19 σ20 => ?_)
            refine P_l (fun hJ _ _ q => E_iinc (v := 1) (ls2 := [some (.ref 37), none, none, some (.int p3), some (.int (s12.1 + 1)), some (.int s18.1)]) dX9_go_229 rfl (by decide) (by decide) rfl (E_goto 149 dX9_go_232 (by decide) q)) ?_
            refine P_less [some (.ref 37), none, none, some (.int p3), some (.int (s12.1 + 1)), none] (And.intro rfl (And.intro rfl (And.intro rfl trivial))) ?_
            exact P_inl (P_back ((s12.1 + 1, σ20)))
          · skip
            refine P_l (fun hJ _ _ q => E_aload_n dX9_go_213 rfl (E_iload dX9_go_214 rfl q)) ?_
            refine P_call (t := fun _ => none) (st2 := fun _ => []) (kc2 := 0) (ks2 := 0) (fun hJ => (ok_X9_spread (σ := s18.2) (p1 := s18.1) )) (fun hJ _ _ _ _ v τ1 hM q => E_callV (as := [.int s18.1]) (b := 37) (st := []) hM (by decide) yfX9_spread mlX9_134 imX9_spread seX9_spread clX9 (kd37 hJ.1.1) rfl (Nat.le_of_ble_eq_true rfl) rfl dX9_go_216 q) (by decide) (by decide) (fun v21 σ22 => ?_)
            refine P_l (fun hJ _ _ q => E_iinc (v := 1) (ls2 := [some (.ref 37), none, none, some (.int p3), some (.int s12.1), some (.int (s18.1 + 1))]) dX9_go_219 rfl (by decide) (by decide) rfl (E_goto 188 dX9_go_222 (by decide) q)) ?_
            exact P_back ((s18.1 + 1, σ22))

