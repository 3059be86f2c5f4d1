def b_X0_hasRun_2 (σ : rS) (p2 : Int32) (p3 : Int32) (s1 : Int32) : Option (Int32 ⊕ (Int32)) := if p3 ≤ s1 then (some (.inl 1)) else (if (vAt (rI σ 48) 52 (p2 + s1)) = 0 then (some (.inl 0)) else (some (.inr (s1 + 1))))
def f_X0_hasRun (σ : rS) (p2 : Int32) (p3 : Int32) : Option Int32 := oLoop (b_X0_hasRun_2 σ p2 p3) oFuel 0
set_option maxRecDepth 20000 in
set_option maxHeartbeats 2000000 in
theorem ok_X0_hasRun {σ : rS} {p2 : Int32} {p3 : Int32}   : rFr Sy yX0_hasRun mX0_hasRun 1 [.ref 48, .int p2, .int p3] σ (fun v => some (.int v)) (f_X0_hasRun σ p2 p3) := by
  refine rFr_of (ls := [some (.ref 48), some (.int p2), some (.int p3), none]) yfX0_hasRun rfl (Nat.le_of_ble_eq_true rfl) (fun o τ => ?_)
  unfold f_X0_hasRun
  refine P_l (fun hJ _ _ q => E_iconst (v := 0) dX0_hasRun_0 (by decide) (E_istore_n (ls2 := [some (.ref 48), some (.int p2), some (.int p3), some (.int 0)]) dX0_hasRun_1 (by decide) rfl q)) ?_
  refine P_loop (fun s1 => [some (.ref 48), some (.int p2), some (.int p3), some (.int s1)]) (fun _ => σ) (fun s1 => ?_) _ 0
  unfold b_X0_hasRun_2
  refine P_l (fun hJ _ _ q => E_iload_n dX0_hasRun_2 rfl (E_iload_n dX0_hasRun_3 rfl q)) ?_
  refine P_if (fun hJ _ _ h1 h2 => E_icmp_ge 25 dX0_hasRun_4 (by decide) h1 h2) ?_ ?_
  · skip
    refine P_l (fun hJ _ _ q => E_iconst (v := 1) dX0_hasRun_25 (by decide) q) ?_
    exact P_inl (P_retr (fun _ _ => E_zret01 rfl (by decide) dX0_hasRun_26))
  · skip
    refine P_l (fun hJ _ _ q => E_aload_n dX0_hasRun_7 rfl (E_iload_n dX0_hasRun_8 rfl (E_iload_n dX0_hasRun_9 rfl (E_iadd dX0_hasRun_10 (E_callSN (as := [.ref 48, .int (p2 + s1)]) (st := []) (ok_at (σ := σ) (a := 48) (i := p2 + s1) (f := rI σ 48) (kd48 hJ.1.1) (by decide) rfl) (by decide) yfX10_at mlX0_9 stX10_at rfl (Nat.le_of_ble_eq_true rfl) rfl dX0_hasRun_11 q))))) ?_
    refine P_if (fun hJ _ _ h1 h2 => E_if_ne 19 dX0_hasRun_14 (by decide) h2 h1) ?_ ?_
    · skip
      refine P_l (fun hJ _ _ q => E_iconst (v := 0) dX0_hasRun_17 (by decide) q) ?_
      exact P_inl (P_retr (fun _ _ => E_zret01 rfl (by decide) dX0_hasRun_18))
    · skip
      refine P_l (fun hJ _ _ q => E_iinc (v := 1) (ls2 := [some (.ref 48), some (.int p2), some (.int p3), some (.int (s1 + 1))]) dX0_hasRun_19 rfl (by decide) (by decide) rfl (E_goto 2 dX0_hasRun_22 (by decide) q)) ?_
      exact P_back (s1 + 1)

def v_X0_firstColour (σ : rS) (p1 : Int32) : Int32 := if (p1 &&& 1) = 1 then 0 else 1
set_option maxRecDepth 20000 in
theorem ok_X0_firstColour {σ : rS} {p1 : Int32}  (hJ : J Sy σ)  : rMet yX0_firstColour mX0_firstColour 0 [.int p1] σ 0 0 (some (.int (v_X0_firstColour σ p1))) σ := by
  refine rMet_of (ls := [some (.int p1)]) yfX0_firstColour rfl (Nat.le_of_ble_eq_true rfl) ?_
  refine E_iload_n dX0_firstColour_0 rfl ?_
  refine E_iconst (v := 1) dX0_firstColour_1 (by decide) ?_
  refine E_iand dX0_firstColour_2 ?_
  refine E_iconst (v := 1) dX0_firstColour_3 (by decide) ?_
  refine E_icmp_ne 11 dX0_firstColour_4 (by decide) (fun c_4_0 => ?_) (fun c_4_0 => ?_)
  · skip
    refine E_iconst (v := 1) dX0_firstColour_11 (by decide) ?_
    exact E_iretE rfl dX0_firstColour_12 (by unfold v_X0_firstColour; simp only [if_neg c_4_0]) rfl
  · skip
    refine E_iconst (v := 0) dX0_firstColour_7 (by decide) ?_
    refine E_goto 12 dX0_firstColour_8 (by decide) ?_
    exact E_iretE rfl dX0_firstColour_12 (by unfold v_X0_firstColour; simp only [if_pos c_4_0]) rfl

def b_X0_hasGroup_2 (σ : rS) (p2 : Int32) (p3 : Int32) (s1 : Int32) : Option (Int32 ⊕ (Int32)) := if 4 ≤ s1 then (some (.inl 1)) else (if (if ((p3 >>> ((4 * s1) &&& 31)) &&& 1) = 1 then (if (vAt (rI σ 48) 52 ((13 * s1) + p2)) = 0 then false else true) else true) = true then (some (.inr (s1 + 1))) else (some (.inl 0)))
def f_X0_hasGroup (σ : rS) (p2 : Int32) (p3 : Int32) : Option Int32 := oLoop (b_X0_hasGroup_2 σ p2 p3) oFuel 0
set_option maxRecDepth 20000 in
set_option maxHeartbeats 2000000 in
theorem ok_X0_hasGroup {σ : rS} {p2 : Int32} {p3 : Int32}   : rFr Sy yX0_hasGroup mX0_hasGroup 1 [.ref 48, .int p2, .int p3] σ (fun v => some (.int v)) (f_X0_hasGroup σ p2 p3) := by
  refine rFr_of (ls := [some (.ref 48), some (.int p2), some (.int p3), none]) yfX0_hasGroup rfl (Nat.le_of_ble_eq_true rfl) (fun o τ => ?_)
  unfold f_X0_hasGroup
  refine P_l (fun hJ _ _ q => E_iconst (v := 0) dX0_hasGroup_0 (by decide) (E_istore_n (ls2 := [some (.ref 48), some (.int p2), some (.int p3), some (.int 0)]) dX0_hasGroup_1 (by decide) rfl q)) ?_
  refine P_loop (fun s1 => [some (.ref 48), some (.int p2), some (.int p3), some (.int s1)]) (fun _ => σ) (fun s1 => ?_) _ 0
  unfold b_X0_hasGroup_2
  refine P_l (fun hJ _ _ q => E_iload_n dX0_hasGroup_2 rfl (E_iconst (v := 4) dX0_hasGroup_3 (by decide) q)) ?_
  refine P_if (fun hJ _ _ h1 h2 => E_icmp_ge 39 dX0_hasGroup_4 (by decide) h1 h2) ?_ ?_
  · skip
    refine P_l (fun hJ _ _ q => E_iconst (v := 1) dX0_hasGroup_39 (by decide) q) ?_
    exact P_inl (P_retr (fun _ _ => E_zret01 rfl (by decide) dX0_hasGroup_40))
  · skip
    refine P_l (fun hJ _ _ q => E_iload_n dX0_hasGroup_7 rfl (E_iconst (v := 4) dX0_hasGroup_8 (by decide) (E_iload_n dX0_hasGroup_9 rfl (E_imul dX0_hasGroup_10 (E_ishr dX0_hasGroup_11 (E_iconst (v := 1) dX0_hasGroup_12 (by decide) (E_iand dX0_hasGroup_13 (E_iconst (v := 1) dX0_hasGroup_14 (by decide) q)))))))) ?_
    refine P_if (c := (if ((p3 >>> ((4 * s1) &&& 31)) &&& 1) = 1 then (if (vAt (rI σ 48) 52 ((13 * s1) + p2)) = 0 then false else true) else true) = true) (pc1 := 33) (ls1 := [some (.ref 48), some (.int p2), some (.int p3), some (.int s1)]) (st1 := []) (pc2 := 31) (ls2 := [some (.ref 48), some (.int p2), some (.int p3), some (.int s1)]) (st2 := []) (fun hJ _ _ hX hY => ?_) ?_ ?_
    · skip
      refine E_icmp_ne 33 dX0_hasGroup_15 (by decide) (fun c_15_0 => ?_) (fun c_15_0 => ?_)
      · skip
        exact hX (by simp only [if_neg c_15_0])
      · skip
        refine E_aload_n dX0_hasGroup_18 rfl ?_
        refine E_bipush (v := 13) dX0_hasGroup_19 (by decide) ?_
        refine E_iload_n dX0_hasGroup_21 rfl ?_
        refine E_imul dX0_hasGroup_22 ?_
        refine E_iload_n dX0_hasGroup_23 rfl ?_
        refine E_iadd dX0_hasGroup_24 ?_
        refine E_callSN (as := [.ref 48, .int ((13 * s1) + p2)]) (st := []) (ok_at (σ := σ) (a := 48) (i := (13 * s1) + p2) (f := rI σ 48) (kd48 hJ.1.1) (by decide) rfl) (by decide) yfX10_at mlX0_9 stX10_at rfl (Nat.le_of_ble_eq_true rfl) rfl dX0_hasGroup_25 ?_
        refine E_if_ne 33 dX0_hasGroup_28 (by decide) (fun c_28_1 => ?_) (fun c_28_1 => ?_)
        · skip
          exact hX (by simp only [if_pos c_15_0, if_neg c_28_1])
        · skip
          exact hY (by simp only [if_pos c_15_0, if_pos c_28_1]; exact Bool.false_ne_true)
    · skip
      refine P_l (fun hJ _ _ q => E_iinc (v := 1) (ls2 := [some (.ref 48), some (.int p2), some (.int p3), some (.int (s1 + 1))]) dX0_hasGroup_33 rfl (by decide) (by decide) rfl (E_goto 2 dX0_hasGroup_36 (by decide) q)) ?_
      exact P_back (s1 + 1)
    · skip
      refine P_l (fun hJ _ _ q => E_iconst (v := 0) dX0_hasGroup_31 (by decide) q) ?_
      exact P_inl (P_retr (fun _ _ => E_zret01 rfl (by decide) dX0_hasGroup_32))

def f_X0_fits (σ : rS) (p2 : Int32) (p3 : Int32) (p4 : Int32) : Option Int32 := if 14 ≤ p3 then (oLet (vAt (rI σ 1) 21 ((p3 - 14) + 1) : Int32) fun x1 => if (v_X0_firstColour σ x1) = (p2 / 13) then ((f_X0_hasGroup σ (iRem p2 13) x1).bind fun v2 => some ((if v2 = 0 then 0 else 1 : Int32))) else (some 0)) else (if (if p3 < p4 then true else (if 13 < ((iRem p2 13) + p3) then true else false)) = true then (some 0) else ((f_X0_hasRun σ p2 p3).bind fun v3 => some ((if v3 = 0 then 0 else 1 : Int32))))
set_option maxRecDepth 20000 in
set_option maxHeartbeats 2000000 in
theorem ok_X0_fits {σ : rS} {p2 : Int32} {p3 : Int32} {p4 : Int32}   : rFr Sy yX0_fits mX0_fits 2 [.ref 48, .int p2, .int p3, .int p4] σ (fun v => some (.int v)) (f_X0_fits σ p2 p3 p4) := by
  refine rFr_of (ls := [some (.ref 48), some (.int p2), some (.int p3), some (.int p4), none]) yfX0_fits rfl (Nat.le_of_ble_eq_true rfl) (fun o τ => ?_)
  unfold f_X0_fits
  refine P_l (fun hJ _ _ q => E_iload_n dX0_fits_0 rfl (E_bipush (v := 14) dX0_fits_1 (by decide) q)) ?_
  refine P_if (fun hJ _ _ h1 h2 => E_icmp_ge 37 dX0_fits_3 (by decide) h1 h2) ?_ ?_
  · skip
    refine P_l (fun hJ _ _ q => E_getsN flX0_31 dX0_fits_37 (E_iload_n dX0_fits_40 rfl (E_bipush (v := 14) dX0_fits_41 (by decide) (E_isub dX0_fits_43 (E_iconst (v := 1) dX0_fits_44 (by decide) (E_iadd dX0_fits_45 (E_callSN (as := [.ref 1, .int ((p3 - 14) + 1)]) (st := []) (ok_at (σ := σ) (a := 1) (i := (p3 - 14) + 1) (f := rI σ 1) (Sy_one hJ.1) (by decide) rfl) (by decide) yfX10_at mlX0_9 stX10_at rfl (Nat.le_of_ble_eq_true rfl) rfl dX0_fits_46 (E_istore (ls2 := [some (.ref 48), some (.int p2), some (.int p3), some (.int p4), some (.int (vAt (rI σ 1) 21 ((p3 - 14) + 1)))]) dX0_fits_49 (by decide) rfl q)))))))) ?_
    refine P_v (vAt (rI σ 1) 21 ((p3 - 14) + 1)) (fun x => [some (.ref 48), some (.int p2), some (.int p3), some (.int p4), some (.int x)]) (fun x1 => ?_)
    refine P_l (fun hJ _ _ q => E_iload dX0_fits_51 rfl (E_callS (as := [.int x1]) (st := []) (ok_X0_firstColour (σ := σ) (p1 := x1) hJ ) (by decide) yfX0_firstColour mlX0_35 stX0_firstColour rfl (Nat.le_of_ble_eq_true rfl) rfl dX0_fits_53 (E_iload_n dX0_fits_56 rfl (E_bipush (v := 13) dX0_fits_57 (by decide) (E_idiv dX0_fits_59 (by decide) q))))) ?_
    refine P_if (fun hJ _ _ h1 h2 => E_icmp_ne 80 dX0_fits_60 (by decide) h2 h1) ?_ ?_
    · skip
      refine P_l (fun hJ _ _ q => E_aload_n dX0_fits_63 rfl (E_iload_n dX0_fits_64 rfl (E_bipush (v := 13) dX0_fits_65 (by decide) (E_irem dX0_fits_67 (by decide) (E_iload dX0_fits_68 rfl q))))) ?_
      refine P_callr (t := fun v => some (.int v)) (st2 := fun v => .int v :: []) (fun hJ => (ok_X0_hasGroup (σ := σ) (p2 := iRem p2 13) (p3 := x1) )) (fun hJ _ _ v hM q => E_callS (as := [.ref 48, .int (iRem p2 13), .int x1]) (st := []) hM (by decide) yfX0_hasGroup mlX0_39 stX0_hasGroup rfl (Nat.le_of_ble_eq_true rfl) rfl dX0_fits_70 q) (fun v2 => ?_)
      refine P_l (pc2 := 81) (ls2 := [none, none, none, none, none]) (st2 := [.int ((if v2 = 0 then 0 else 1 : Int32))]) (fun hJ _ _ hq => ?_) ?_
      · skip
        refine E_if_eq 80 dX0_fits_73 (by decide) (fun c_73_0 => ?_) (fun c_73_0 => ?_)
        · skip
          refine E_iconst (v := 0) dX0_fits_80 (by decide) ?_
          simp only [if_pos c_73_0] at hq
          exact E_less (ls2 := [none, none, none, none, none]) hq (rLe_at [none, none, none, none, none] [some (.ref 48), some (.int p2), some (.int p3), some (.int p4), some (.int x1)] trivial)
        · skip
          refine E_iconst (v := 1) dX0_fits_76 (by decide) ?_
          refine E_goto 81 dX0_fits_77 (by decide) ?_
          simp only [if_neg c_73_0] at hq
          exact E_less (ls2 := [none, none, none, none, none]) hq (rLe_at [none, none, none, none, none] [some (.ref 48), some (.int p2), some (.int p3), some (.int p4), some (.int x1)] trivial)
      · skip
        exact P_retr (fun _ _ => E_zret01 rfl (by split <;> decide) dX0_fits_81)
    · skip
      refine P_l (fun hJ _ _ q => E_iconst (v := 0) dX0_fits_80 (by decide) q) ?_
      exact P_retr (fun _ _ => E_zret01 rfl (by decide) dX0_fits_81)
  · skip
    refine P_l (fun hJ _ _ q => E_iload_n dX0_fits_6 rfl (E_iload_n dX0_fits_7 rfl q)) ?_
    refine P_if (c := (if p3 < p4 then true else (if 13 < ((iRem p2 13) + p3) then true else false)) = true) (pc1 := 35) (ls1 := [some (.ref 48), some (.int p2), some (.int p3), some (.int p4), none]) (st1 := []) (pc2 := 22) (ls2 := [some (.ref 48), some (.int p2), some (.int p3), some (.int p4), none]) (st2 := []) (fun hJ _ _ hX hY => ?_) ?_ ?_
    · skip
      refine E_icmp_lt 35 dX0_fits_8 (by decide) (fun c_8_0 => ?_) (fun c_8_0 => ?_)
      · skip
        exact hX (by simp only [if_pos c_8_0])
      · skip
        refine E_iload_n dX0_fits_11 rfl ?_
        refine E_bipush (v := 13) dX0_fits_12 (by decide) ?_
        refine E_irem dX0_fits_14 (by decide) ?_
        refine E_iload_n dX0_fits_15 rfl ?_
        refine E_iadd dX0_fits_16 ?_
        refine E_bipush (v := 13) dX0_fits_17 (by decide) ?_
        refine E_icmp_gt 35 dX0_fits_19 (by decide) (fun c_19_1 => ?_) (fun c_19_1 => ?_)
        · skip
          exact hX (by simp only [if_neg c_8_0, if_pos c_19_1])
        · skip
          exact hY (by simp only [if_neg c_8_0, if_neg c_19_1]; exact Bool.false_ne_true)
    · skip
      refine P_l (fun hJ _ _ q => E_iconst (v := 0) dX0_fits_35 (by decide) q) ?_
      exact P_retr (fun _ _ => E_zret01 rfl (by decide) dX0_fits_36)
    · skip
      refine P_l (fun hJ _ _ q => E_aload_n dX0_fits_22 rfl (E_iload_n dX0_fits_23 rfl (E_iload_n dX0_fits_24 rfl q))) ?_
      refine P_callr (t := fun v => some (.int v)) (st2 := fun v => .int v :: []) (fun hJ => (ok_X0_hasRun (σ := σ) (p2 := p2) (p3 := p3) )) (fun hJ _ _ v hM q => E_callS (as := [.ref 48, .int p2, .int p3]) (st := []) hM (by decide) yfX0_hasRun mlX0_27 stX0_hasRun rfl (Nat.le_of_ble_eq_true rfl) rfl dX0_fits_25 q) (fun v3 => ?_)
      refine P_l (pc2 := 36) (ls2 := [none, none, none, none, none]) (st2 := [.int ((if v3 = 0 then 0 else 1 : Int32))]) (fun hJ _ _ hq => ?_) ?_
      · skip
        refine E_if_eq 35 dX0_fits_28 (by decide) (fun c_28_0 => ?_) (fun c_28_0 => ?_)
        · skip
          refine E_iconst (v := 0) dX0_fits_35 (by decide) ?_
          simp only [if_pos c_28_0] at hq
          exact E_less (ls2 := [none, none, none, none, none]) hq (rLe_at [none, none, none, none, none] [some (.ref 48), some (.int p2), some (.int p3), some (.int p4), none] trivial)
        · skip
          refine E_iconst (v := 1) dX0_fits_31 (by decide) ?_
          refine E_goto 36 dX0_fits_32 (by decide) ?_
          simp only [if_neg c_28_0] at hq
          exact E_less (ls2 := [none, none, none, none, none]) hq (rLe_at [none, none, none, none, none] [some (.ref 48), some (.int p2), some (.int p3), some (.int p4), none] trivial)
      · skip
        exact P_retr (fun _ _ => E_zret01 rfl (by split <;> decide) dX0_fits_36)

def b_X0_take_57 (p2 : Int32) (p4 : Int32) (x1 : Int32) (s2 : Int32 × rS) : Option ((Unit × rS) ⊕ (Int32 × rS)) := if 4 ≤ s2.1 then (some (.inl (((), s2.2)))) else (oLet (rowI s2.2 48 (vSet (rI s2.2 48) 52 ((13 * s2.1) + (iRem p2 13)) ((vAt (rI s2.2 48) 52 ((13 * s2.1) + (iRem p2 13))) - (p4 * ((x1 >>> ((4 * s2.1) &&& 31)) &&& 1))))) fun σ3 => some (.inr ((s2.1 + 1, σ3))))
def b_X0_take_9 (p2 : Int32) (p3 : Int32) (p4 : Int32) (s4 : Int32 × rS) : Option ((Unit × rS) ⊕ (Int32 × rS)) := if p3 ≤ s4.1 then (some (.inl (((), s4.2)))) else (oLet (rowI s4.2 48 (vSet (rI s4.2 48) 52 (p2 + s4.1) ((vAt (rI s4.2 48) 52 (p2 + s4.1)) - p4))) fun σ5 => some (.inr ((s4.1 + 1, σ5))))
def f_X0_take (σ : rS) (p2 : Int32) (p3 : Int32) (p4 : Int32) : Option (Unit × rS) := if 14 ≤ p3 then (oLet (vAt (rI σ 1) 21 ((p3 - 14) + 1) : Int32) fun x1 => oLoop (b_X0_take_57 p2 p4 x1) oFuel ((0, σ))) else (oLoop (b_X0_take_9 p2 p3 p4) oFuel ((0, σ)))
set_option maxRecDepth 20000 in
set_option maxHeartbeats 2000000 in
theorem ok_X0_take {σ : rS} {p2 : Int32} {p3 : Int32} {p4 : Int32}   : rFn Sy yX0_take mX0_take 1 [.ref 48, .int p2, .int p3, .int p4] σ 0 0 (fun _ => .inl none) (f_X0_take σ p2 p3 p4) := by
  refine rF_of (ls := [some (.ref 48), some (.int p2), some (.int p3), some (.int p4), none, none, none]) yfX0_take rfl (Nat.le_of_ble_eq_true rfl) (fun o τ => ?_)
  unfold f_X0_take
  refine P_l (fun hJ _ _ q => E_iload_n dX0_take_0 rfl (E_bipush (v := 14) dX0_take_1 (by decide) q)) ?_
  refine P_if (fun hJ _ _ h1 h2 => E_icmp_ge 40 dX0_take_3 (by decide) h1 h2) ?_ ?_
  · skip
    refine P_l (fun hJ _ _ q => E_getsN flX0_31 dX0_take_40 (E_iload_n dX0_take_43 rfl (E_bipush (v := 14) dX0_take_44 (by decide) (E_isub dX0_take_46 (E_iconst (v := 1) dX0_take_47 (by decide) (E_iadd dX0_take_48 (E_callSN (as := [.ref 1, .int ((p3 - 14) + 1)]) (st := []) (ok_at (σ := σ) (a := 1) (i := (p3 - 14) + 1) (f := rI σ 1) (Sy_one hJ.1) (by decide) rfl) (by decide) yfX10_at mlX0_9 stX10_at rfl (Nat.le_of_ble_eq_true rfl) rfl dX0_take_49 (E_istore (ls2 := [some (.ref 48), some (.int p2), some (.int p3), some (.int p4), some (.int (vAt (rI σ 1) 21 ((p3 - 14) + 1))), none, none]) dX0_take_52 (by decide) rfl q)))))))) ?_
    refine P_v (vAt (rI σ 1) 21 ((p3 - 14) + 1)) (fun x => [some (.ref 48), some (.int p2), some (.int p3), some (.int p4), some (.int x), none, none]) (fun x1 => ?_)
    refine P_l (fun hJ _ _ q => E_iconst (v := 0) dX0_take_54 (by decide) (E_istore (ls2 := [some (.ref 48), some (.int p2), some (.int p3), some (.int p4), some (.int x1), some (.int 0), none]) dX0_take_55 (by decide) rfl q)) ?_
    refine P_less [some (.ref 48), some (.int p2), none, some (.int p4), some (.int x1), some (.int 0), none] (And.intro rfl (And.intro rfl (And.intro rfl (And.intro rfl (And.intro rfl trivial))))) ?_
    refine P_loop (fun s2 => [some (.ref 48), some (.int p2), none, some (.int p4), some (.int x1), some (.int s2.1), none]) (fun s2 => s2.2) (fun s2 => ?_) _ ((0, σ))
    unfold b_X0_take_57
    refine P_l (fun hJ _ _ q => E_iload dX0_take_57 rfl (E_iconst (v := 4) dX0_take_59 (by decide) q)) ?_
    refine P_if (fun hJ _ _ h1 h2 => E_icmp_ge 105 dX0_take_60 (by decide) h1 h2) ?_ ?_
    · skip
      exact P_inl (P_ret (fun _ _ => E_vret rfl dX0_take_105))
    · skip
      refine P_l (fun hJ _ _ q => E_bipush (v := 13) dX0_take_63 (by decide) (E_iload dX0_take_65 rfl (E_imul dX0_take_67 (E_iload_n dX0_take_68 rfl (E_bipush (v := 13) dX0_take_69 (by decide) (E_irem dX0_take_71 (by decide) (E_iadd dX0_take_72 (E_istore (ls2 := [some (.ref 48), some (.int p2), none, some (.int p4), some (.int x1), some (.int s2.1), some (.int ((13 * s2.1) + (iRem p2 13)))]) dX0_take_73 (by decide) rfl (E_aload_n dX0_take_75 rfl (E_iload dX0_take_76 rfl (E_aload_n dX0_take_78 rfl (E_iload dX0_take_79 rfl (E_callSN (as := [.ref 48, .int ((13 * s2.1) + (iRem p2 13))]) (st := [.int ((13 * s2.1) + (iRem p2 13)), .ref 48]) (ok_at (σ := s2.2) (a := 48) (i := (13 * s2.1) + (iRem p2 13)) (f := rI s2.2 48) (kd48 hJ.1.1) (by decide) rfl) (by decide) yfX10_at mlX0_9 stX10_at rfl (Nat.le_of_ble_eq_true rfl) rfl dX0_take_81 (E_iload_n dX0_take_84 rfl q)))))))))))))) ?_
      refine P_l (fun hJ _ _ q => E_iload dX0_take_85 rfl (E_iconst (v := 4) dX0_take_87 (by decide) (E_iload dX0_take_88 rfl (E_imul dX0_take_90 (E_ishr dX0_take_91 (E_iconst (v := 1) dX0_take_92 (by decide) (E_iand dX0_take_93 (E_imul dX0_take_94 (E_isub dX0_take_95 q))))))))) ?_
      refine P_w (fun hJ _ _ q => E_callSN (as := [.ref 48, .int ((13 * s2.1) + (iRem p2 13)), .int ((vAt (rI s2.2 48) 52 ((13 * s2.1) + (iRem p2 13))) - (p4 * ((x1 >>> ((4 * s2.1) &&& 31)) &&& 1)))]) (st := []) (ok_set (σ := s2.2) (a := 48) (i := (13 * s2.1) + (iRem p2 13)) (x := (vAt (rI s2.2 48) 52 ((13 * s2.1) + (iRem p2 13))) - (p4 * ((x1 >>> ((4 * s2.1) &&& 31)) &&& 1))) (f := rI s2.2 48) (kd48 hJ.1.1) (by decide) (by decide) rfl) (by decide) yfX10_set mlX0_42 stX10_set rfl (Nat.le_of_ble_eq_true rfl) rfl dX0_take_96 q) (fun hJ => Sy_rowI hJ.1) rfl rfl rfl (fun σ3 hσ3 => ?_)
      refine P_l (fun hJ _ _ q => E_iinc (v := 1) (ls2 := [some (.ref 48), some (.int p2), none, some (.int p4), some (.int x1), some (.int (s2.1 + 1)), some (.int ((13 * s2.1) + (iRem p2 13)))]) dX0_take_99 rfl (by decide) (by decide) rfl (E_goto 57 dX0_take_102 (by decide) q)) ?_
      refine P_less [some (.ref 48), some (.int p2), none, some (.int p4), some (.int x1), some (.int (s2.1 + 1)), none] (And.intro rfl (And.intro rfl (And.intro rfl (And.intro rfl (And.intro rfl trivial))))) ?_
      exact P_back ((s2.1 + 1, σ3))
  · skip
    refine P_l (fun hJ _ _ q => E_iconst (v := 0) dX0_take_6 (by decide) (E_istore (ls2 := [some (.ref 48), some (.int p2), some (.int p3), some (.int p4), some (.int 0), none, none]) dX0_take_7 (by decide) rfl q)) ?_
    refine P_loop (fun s4 => [some (.ref 48), some (.int p2), some (.int p3), some (.int p4), some (.int s4.1), none, none]) (fun s4 => s4.2) (fun s4 => ?_) _ ((0, σ))
    unfold b_X0_take_9
    refine P_l (fun hJ _ _ q => E_iload dX0_take_9 rfl (E_iload_n dX0_take_11 rfl q)) ?_
    refine P_if (fun hJ _ _ h1 h2 => E_icmp_ge 39 dX0_take_12 (by decide) h1 h2) ?_ ?_
    · skip
      exact P_inl (P_ret (fun _ _ => E_vret rfl dX0_take_39))
    · skip
      refine P_l (fun hJ _ _ q => E_aload_n dX0_take_15 rfl (E_iload_n dX0_take_16 rfl (E_iload dX0_take_17 rfl (E_iadd dX0_take_19 (E_aload_n dX0_take_20 rfl (E_iload_n dX0_take_21 rfl (E_iload dX0_take_22 rfl (E_iadd dX0_take_24 (E_callSN (as := [.ref 48, .int (p2 + s4.1)]) (st := [.int (p2 + s4.1), .ref 48]) (ok_at (σ := s4.2) (a := 48) (i := p2 + s4.1) (f := rI s4.2 48) (kd48 hJ.1.1) (by decide) rfl) (by decide) yfX10_at mlX0_9 stX10_at rfl (Nat.le_of_ble_eq_true rfl) rfl dX0_take_25 (E_iload_n dX0_take_28 rfl (E_isub dX0_take_29 q))))))))))) ?_
      refine P_w (fun hJ _ _ q => E_callSN (as := [.ref 48, .int (p2 + s4.1), .int ((vAt (rI s4.2 48) 52 (p2 + s4.1)) - p4)]) (st := []) (ok_set (σ := s4.2) (a := 48) (i := p2 + s4.1) (x := (vAt (rI s4.2 48) 52 (p2 + s4.1)) - p4) (f := rI s4.2 48) (kd48 hJ.1.1) (by decide) (by decide) rfl) (by decide) yfX10_set mlX0_42 stX10_set rfl (Nat.le_of_ble_eq_true rfl) rfl dX0_take_30 q) (fun hJ => Sy_rowI hJ.1) rfl rfl rfl (fun σ5 hσ5 => ?_)
      refine P_l (fun hJ _ _ q => E_iinc (v := 1) (ls2 := [some (.ref 48), some (.int p2), some (.int p3), some (.int p4), some (.int (s4.1 + 1)), none, none]) dX0_take_33 rfl (by decide) (by decide) rfl (E_goto 9 dX0_take_36 (by decide) q)) ?_
      exact P_back ((s4.1 + 1, σ5))

def b_X0_count_3 (σ : rS) (s3 : Int32) : Option (((Int32 × rS) ⊕ (Int32)) ⊕ (Int32)) := if (if 52 ≤ s3 then true else (if (vAt (rI σ 48) 52 s3) = 0 then false else true)) = true then (some (.inl (.inr s3))) else (some (.inr (s3 + 1)))
def b_X0_count_58 (p4 : Int32) (p5 : Int32) (rec : rS → Int32 → Int32 → Int32 → Int32 → Option (Int32 × rS)) (j2 : Int32) (s5 : Int32 × Int32 × rS) : Option ((Int32 × rS) ⊕ (Int32 × Int32 × rS)) := if 19 ≤ s5.2.1 then (some (.inl ((s5.1, s5.2.2)))) else ((f_X0_fits s5.2.2 j2 s5.2.1 p4).bind fun v6 => if v6 = 0 then (some (.inr ((s5.1, s5.2.1 + 1, s5.2.2)))) else (oB (f_X0_take s5.2.2 j2 s5.2.1 1) fun _ σ8 => oB (rec σ8 j2 s5.2.1 p4 (p5 + 1)) fun v9 σ10 => oB (f_X0_take σ10 j2 s5.2.1 ((-1))) fun _ σ12 => some (.inr ((s5.1 + v9, s5.2.1 + 1, σ12)))))
def g_X0_count (σ : rS) (p2 : Int32) (p3 : Int32) (p4 : Int32) (p5 : Int32) (rec : rS → Int32 → Int32 → Int32 → Int32 → Option (Int32 × rS)) : Option (Int32 × rS) := oJoin (oLoop (b_X0_count_3 σ) oFuel p2) fun j2 => if j2 < 52 then (if p5 < 4 then (oLet ((if j2 = p2 then p3 else 0 : Int32) : Int32) fun x4 => oLoop (b_X0_count_58 p4 p5 rec j2) oFuel ((0, x4, σ))) else (some ((0, σ)))) else (some ((1, σ)))
set_option maxRecDepth 20000 in
set_option maxHeartbeats 2000000 in
theorem okg_X0_count {d : Nat} {σ : rS} {p2 : Int32} {p3 : Int32} {p4 : Int32} {p5 : Int32} {rec : rS → Int32 → Int32 → Int32 → Int32 → Option (Int32 × rS)} (hrec : ∀ σ p2 p3 p4 p5, rFn Sy yX0_count mX0_count (2 + d) [.ref 48, .int p2, .int p3, .int p4, .int p5] σ 0 0 (fun v => .inl (some (.int v))) (rec σ p2 p3 p4 p5)) : rFn Sy yX0_count mX0_count (2 + (d + 1)) [.ref 48, .int p2, .int p3, .int p4, .int p5] σ 0 0 (fun v => .inl (some (.int v))) (g_X0_count σ p2 p3 p4 p5 rec) := by
  refine rF_of (ls := [some (.ref 48), some (.int p2), some (.int p3), some (.int p4), some (.int p5), none, none, none]) yfX0_count rfl (Nat.le_of_ble_eq_true rfl) (fun o τ => ?_)
  unfold g_X0_count
  refine P_l (fun hJ _ _ q => E_iload_n dX0_count_0 rfl (E_istore (ls2 := [some (.ref 48), some (.int p2), some (.int p3), some (.int p4), some (.int p5), some (.int p2), none, none]) dX0_count_1 (by decide) rfl q)) ?_
  refine P_join (pc2 := 25) (fun j2 => [some (.ref 48), some (.int p2), some (.int p3), some (.int p4), some (.int p5), some (.int j2), none, none]) (fun j2 => []) (fun _ => σ) ?_ (fun j2 => ?_)
  · skip
    refine P_loop (fun s3 => [some (.ref 48), some (.int p2), some (.int p3), some (.int p4), some (.int p5), some (.int s3), none, none]) (fun _ => σ) (fun s3 => ?_) _ p2
    unfold b_X0_count_3
    refine P_l (fun hJ _ _ q => E_iload dX0_count_3 rfl (E_bipush (v := 52) dX0_count_5 (by decide) q)) ?_
    refine P_if (c := (if 52 ≤ s3 then true else (if (vAt (rI σ 48) 52 s3) = 0 then false else true)) = true) (pc1 := 25) (ls1 := [some (.ref 48), some (.int p2), some (.int p3), some (.int p4), some (.int p5), some (.int s3), none, none]) (st1 := []) (pc2 := 19) (ls2 := [some (.ref 48), some (.int p2), some (.int p3), some (.int p4), some (.int p5), some (.int s3), none, none]) (st2 := []) (fun hJ _ _ hX hY => ?_) ?_ ?_
    · skip
      refine E_icmp_ge 25 dX0_count_7 (by decide) (fun c_7_0 => ?_) (fun c_7_0 => ?_)
      · skip
        exact hX (by simp only [if_pos c_7_0])
      · skip
        refine E_aload_n dX0_count_10 rfl ?_
        refine E_iload dX0_count_11 rfl ?_
        refine E_callSN (as := [.ref 48, .int s3]) (st := []) (ok_at (σ := σ) (a := 48) (i := s3) (f := rI σ 48) (kd48 hJ.1.1) (by decide) rfl) (by omega) yfX10_at mlX0_9 stX10_at rfl (Nat.le_of_ble_eq_true rfl) rfl dX0_count_13 ?_
        refine E_if_ne 25 dX0_count_16 (by decide) (fun c_16_1 => ?_) (fun c_16_1 => ?_)
        · skip
          exact hX (by simp only [if_neg c_7_0, if_neg c_16_1])
        · skip
          exact hY (by simp only [if_neg c_7_0, if_pos c_16_1]; exact Bool.false_ne_true)
    · skip
      exact P_inl (P_back s3)
    · skip
      refine P_l (fun hJ _ _ q => E_iinc (v := 1) (ls2 := [some (.ref 48), some (.int p2), some (.int p3), some (.int p4), some (.int p5), some (.int (s3 + 1)), none, none]) dX0_count_19 rfl (by decide) (by decide) rfl (E_goto 3 dX0_count_22 (by decide) q)) ?_
      exact P_back (s3 + 1)
  · skip
    refine P_l (fun hJ _ _ q => E_iload dX0_count_25 rfl (E_bipush (v := 52) dX0_count_27 (by decide) q)) ?_
    refine P_if (fun hJ _ _ h1 h2 => E_icmp_lt 34 dX0_count_29 (by decide) h1 h2) ?_ ?_
    · skip
      refine P_l (fun hJ _ _ q => E_iload dX0_count_34 rfl (E_iconst (v := 4) dX0_count_36 (by decide) q)) ?_
      refine P_if (fun hJ _ _ h1 h2 => E_icmp_lt 42 dX0_count_37 (by decide) h1 h2) ?_ ?_
      · skip
        refine P_l (fun hJ _ _ q => E_iconst (v := 0) dX0_count_42 (by decide) (E_istore (ls2 := [some (.ref 48), some (.int p2), some (.int p3), some (.int p4), some (.int p5), some (.int j2), some (.int 0), none]) dX0_count_43 (by decide) rfl (E_iload dX0_count_45 rfl (E_iload_n dX0_count_47 rfl q)))) ?_
        refine P_l (pc2 := 56) (ls2 := [some (.ref 48), none, none, some (.int p4), some (.int p5), some (.int j2), some (.int 0), none]) (st2 := [.int ((if j2 = p2 then p3 else 0 : Int32))]) (fun hJ _ _ hq => ?_) ?_
        · skip
          refine E_icmp_ne 55 dX0_count_48 (by decide) (fun c_48_0 => ?_) (fun c_48_0 => ?_)
          · skip
            refine E_iconst (v := 0) dX0_count_55 (by decide) ?_
            simp only [if_neg c_48_0] at hq
            exact E_less (ls2 := [some (.ref 48), none, none, some (.int p4), some (.int p5), some (.int j2), some (.int 0), none]) hq (rLe_at [some (.ref 48), none, none, some (.int p4), some (.int p5), some (.int j2), some (.int 0), none] [some (.ref 48), some (.int p2), some (.int p3), some (.int p4), some (.int p5), some (.int j2), some (.int 0), none] (And.intro rfl (And.intro rfl (And.intro rfl (And.intro rfl (And.intro rfl trivial))))))
          · skip
            refine E_iload_n dX0_count_51 rfl ?_
            refine E_goto 56 dX0_count_52 (by decide) ?_
            simp only [if_pos c_48_0] at hq
            exact E_less (ls2 := [some (.ref 48), none, none, some (.int p4), some (.int p5), some (.int j2), some (.int 0), none]) hq (rLe_at [some (.ref 48), none, none, some (.int p4), some (.int p5), some (.int j2), some (.int 0), none] [some (.ref 48), some (.int p2), some (.int p3), some (.int p4), some (.int p5), some (.int j2), some (.int 0), none] (And.intro rfl (And.intro rfl (And.intro rfl (And.intro rfl (And.intro rfl trivial))))))
        · skip
          refine P_l (fun hJ _ _ q => E_istore (ls2 := [some (.ref 48), none, none, some (.int p4), some (.int p5), some (.int j2), some (.int 0), some (.int ((if j2 = p2 then p3 else 0 : Int32)))]) dX0_count_56 (by decide) rfl q) ?_
          refine P_v ((if j2 = p2 then p3 else 0 : Int32)) (fun x => [some (.ref 48), none, none, some (.int p4), some (.int p5), some (.int j2), some (.int 0), some (.int x)]) (fun x4 => ?_)
          refine P_loop (fun s5 => [some (.ref 48), none, none, some (.int p4), some (.int p5), some (.int j2), some (.int s5.1), some (.int s5.2.1)]) (fun s5 => s5.2.2) (fun s5 => ?_) _ ((0, x4, σ))
          unfold b_X0_count_58
          refine P_l (fun hJ _ _ q => E_iload dX0_count_58 rfl (E_bipush (v := 19) dX0_count_60 (by decide) q)) ?_
          refine P_if (fun hJ _ _ h1 h2 => E_icmp_ge 119 dX0_count_62 (by decide) h1 h2) ?_ ?_
          · skip
            refine P_l (fun hJ _ _ q => E_iload dX0_count_119 rfl q) ?_
            exact P_inl (P_ret (fun _ _ => E_iret rfl dX0_count_121))
          · skip
            refine P_l (fun hJ _ _ q => E_aload_n dX0_count_65 rfl (E_iload dX0_count_66 rfl (E_iload dX0_count_68 rfl (E_iload_n dX0_count_70 rfl q)))) ?_
            refine P_callr (t := fun v => some (.int v)) (st2 := fun v => .int v :: []) (fun hJ => (ok_X0_fits (σ := s5.2.2) (p2 := j2) (p3 := s5.2.1) (p4 := p4) )) (fun hJ _ _ v hM q => E_callS (as := [.ref 48, .int j2, .int s5.2.1, .int p4]) (st := []) hM (by omega) yfX0_fits mlX0_15 stX0_fits rfl (Nat.le_of_ble_eq_true rfl) rfl dX0_count_71 q) (fun v6 => ?_)
            refine P_if (fun hJ _ _ h1 h2 => E_if_eq 113 dX0_count_74 (by decide) h1 h2) ?_ ?_
            · skip
              refine P_l (fun hJ _ _ q => E_iinc (v := 1) (ls2 := [some (.ref 48), none, none, some (.int p4), some (.int p5), some (.int j2), some (.int s5.1), some (.int (s5.2.1 + 1))]) dX0_count_113 rfl (by decide) (by decide) rfl (E_goto 58 dX0_count_116 (by decide) q)) ?_
              exact P_back ((s5.1, s5.2.1 + 1, s5.2.2))
            · skip
              refine P_l (fun hJ _ _ q => E_aload_n dX0_count_77 rfl (E_iload dX0_count_78 rfl (E_iload dX0_count_80 rfl (E_iconst (v := 1) dX0_count_82 (by decide) q)))) ?_
              refine P_call (t := fun _ => none) (st2 := fun _ => []) (kc2 := 0) (ks2 := 0) (fun hJ => (ok_X0_take (σ := s5.2.2) (p2 := j2) (p3 := s5.2.1) (p4 := 1) )) (fun hJ _ _ _ _ v τ1 hM q => E_callS (as := [.ref 48, .int j2, .int s5.2.1, .int 1]) (st := []) hM (by omega) yfX0_take mlX0_19 stX0_take rfl (Nat.le_of_ble_eq_true rfl) rfl dX0_count_83 q) (by decide) (by decide) (fun v7 σ8 => ?_)
              refine P_l (fun hJ _ _ q => E_iload dX0_count_86 rfl (E_aload_n dX0_count_88 rfl (E_iload dX0_count_89 rfl (E_iload dX0_count_91 rfl (E_iload_n dX0_count_93 rfl (E_iload dX0_count_94 rfl (E_iconst (v := 1) dX0_count_96 (by decide) (E_iadd dX0_count_97 q)))))))) ?_
              refine P_call (t := fun v => some (.int v)) (st2 := fun v => .int v :: [.int s5.1]) (kc2 := 0) (ks2 := 0) (fun hJ => (hrec σ8 j2 s5.2.1 p4 (p5 + 1))) (fun hJ _ _ _ _ v τ1 hM q => E_callS (as := [.ref 48, .int j2, .int s5.2.1, .int p4, .int (p5 + 1)]) (st := [.int s5.1]) hM (by omega) yfX0_count mlX0_23 stX0_count rfl (Nat.le_of_ble_eq_true rfl) rfl dX0_count_98 q) (by decide) (by decide) (fun v9 σ10 => ?_)
              refine P_l (fun hJ _ _ q => E_iadd dX0_count_101 (E_istore (ls2 := [some (.ref 48), none, none, some (.int p4), some (.int p5), some (.int j2), some (.int (s5.1 + v9)), some (.int s5.2.1)]) dX0_count_102 (by decide) rfl (E_aload_n dX0_count_104 rfl (E_iload dX0_count_105 rfl (E_iload dX0_count_107 rfl (E_iconst (v := (-1)) dX0_count_109 (by decide) q)))))) ?_
              refine P_call (t := fun _ => none) (st2 := fun _ => []) (kc2 := 0) (ks2 := 0) (fun hJ => (ok_X0_take (σ := σ10) (p2 := j2) (p3 := s5.2.1) (p4 := (-1)) )) (fun hJ _ _ _ _ v τ1 hM q => E_callS (as := [.ref 48, .int j2, .int s5.2.1, .int ((-1))]) (st := []) hM (by omega) yfX0_take mlX0_19 stX0_take rfl (Nat.le_of_ble_eq_true rfl) rfl dX0_count_110 q) (by decide) (by decide) (fun v11 σ12 => ?_)
              refine P_l (fun hJ _ _ q => E_iinc (v := 1) (ls2 := [some (.ref 48), none, none, some (.int p4), some (.int p5), some (.int j2), some (.int (s5.1 + v9)), some (.int (s5.2.1 + 1))]) dX0_count_113 rfl (by decide) (by decide) rfl (E_goto 58 dX0_count_116 (by decide) q)) ?_
              exact P_back ((s5.1 + v9, s5.2.1 + 1, σ12))
      · skip
        refine P_l (fun hJ _ _ q => E_iconst (v := 0) dX0_count_40 (by decide) q) ?_
        exact P_ret (fun _ _ => E_iret rfl dX0_count_41)
    · skip
      refine P_l (fun hJ _ _ q => E_iconst (v := 1) dX0_count_32 (by decide) q) ?_
      exact P_ret (fun _ _ => E_iret rfl dX0_count_33)

def f_X0_count : Nat → rS → Int32 → Int32 → Int32 → Int32 → Option (Int32 × rS)
  | 0, _, _, _, _, _ => none
  | d + 1, σ, p2, p3, p4, p5 => g_X0_count σ p2 p3 p4 p5 (f_X0_count d)
theorem ok_X0_count (d : Nat) : ∀ σ p2 p3 p4 p5, rFn Sy yX0_count mX0_count (2 + d) [.ref 48, .int p2, .int p3, .int p4, .int p5] σ 0 0 (fun v => .inl (some (.int v))) (f_X0_count d σ p2 p3 p4 p5) := by
  induction d with
  | zero => intro σ p2 p3 p4 p5 _ v τ h; cases h
  | succ d ih => intro σ p2 p3 p4 p5; exact okg_X0_count (rec := f_X0_count d) ih
