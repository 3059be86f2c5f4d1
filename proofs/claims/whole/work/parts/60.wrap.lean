theorem jo_ok {ls : List (Option Value)} {j : Nat} (h : ∀ v, ls[j - 1]? = some (some v) → v.category ≠ 2) : ∀ i v, ls[i]? = some (some v) → i + 1 = j → v.category ≠ 2 := fun i v h1 h2 => h v (by rw [show j - 1 = i by omega]; exact h1)
def f_L_rules (σ : rS) (p1 : Int32) (p2 : Int32) (p3 : Int32) (p4 : Int32) (p5 : Int32) : Option (Int32 × rS) := oBc (f_X10_rules σ p1 p2 p3 p4 p5) [("java/lang/IllegalArgumentException", 1), ("java/lang/IllegalStateException", 2)] fun v1 σ1 => oLet (wL σ1 114 (0 : Int32).toNatClampNeg (((v1 : Int32)).toInt64)) fun σ6 => some ((0, σ6))
set_option maxRecDepth 20000 in
theorem ok_L_rules {σ : rS} {p1 : Int32} {p2 : Int32} {p3 : Int32} {p4 : Int32} {p5 : Int32} : rFnH Sy yL_rules mL_rules hL_rules 7 [.ref 3, .int p1, .int p2, .int p3, .int p4, .int p5, .ref 114] σ 1 6 (f_L_rules σ p1 p2 p3 p4 p5) := by
  refine rFnH_of (ls := [some (.ref 3), some (.int p1), some (.int p2), some (.int p3), some (.int p4), some (.int p5), some (.ref 114), none]) yfL_rules rfl (Nat.le_of_ble_eq_true rfl) (fun o τ => ?_)
  unfold f_L_rules
  refine P_l (fun hJ _ _ q => E_aload dL_rules_0 rfl (E_iconst (v := 0) dL_rules_2 (by decide) (E_aload_n dL_rules_3 rfl (E_iload_n dL_rules_4 rfl (E_iload_n dL_rules_5 rfl (E_iload_n dL_rules_6 rfl (E_iload dL_rules_7 rfl (E_iload dL_rules_9 rfl q)))))))) ?_
  refine P_callc (t2 := fun v => some (.int v)) (st2 := fun v => .int v :: [.int 0, .ref 114]) (kc2 := 0) (ks2 := 0) (fun hJ => (ok_X10_rules (σ := σ) (p1 := p1) (p2 := p2) (p3 := p3) (p4 := p4) (p5 := p5) )) (fun hJ _ _ _ _ v τ1 hM q => E_callV (as := [.int p1, .int p2, .int p3, .int p4, .int p5]) (b := 3) (st := [.int 0, .ref 114]) hM (by decide) yfX10_rules mlL_7 imX10_rules seX10_rules clX10 (kd3 hJ.1.1) rfl (Nat.le_of_ble_eq_true rfl) rfl dL_rules_11 q) (fun hJ e c hl kc ks mc ms τ1 hM => ?_) (by decide) (by decide) (fun v1 σ1 => ?_)
  · rcases look2 hl with ⟨rfl, rfl⟩ | ⟨rfl, rfl⟩
    · exact E_callVc (M := mL_rules) (pc := 11) (k := 7) (as := [.int p1, .int p2, .int p3, .int p4, .int p5]) (b := 3) (st := [.int 0, .ref 114]) hM (by decide) yfX10_rules mlL_7 imX10_rules seX10_rules clX10 (kd3 hJ.1.1) rfl (Nat.le_of_ble_eq_true rfl) rfl dL_rules_11 [] (⟨0, 16, 19, 13⟩ : ExceptionTableEntry) [(⟨0, 16, 23, 15⟩ : ExceptionTableEntry)] (nm := "java/lang/IllegalArgumentException") rfl (by decide) (fun z hz => absurd hz List.not_mem_nil) (by decide) (by decide) ckL_13 ca_IllegalArgumentException 7 19 rfl (Or.inl ⟨dL_rules_19, rfl⟩) (by decide) (jo_ok (fun v q => by have q2 : (some (some (.ref 114)) : Option (Option Value)) = some (some v) := q; cases q2; decide))
        (E_iconst (v := 1) dL_rules_21 (by decide) (E_iret rfl dL_rules_22))
    · exact E_callVc (M := mL_rules) (pc := 11) (k := 7) (as := [.int p1, .int p2, .int p3, .int p4, .int p5]) (b := 3) (st := [.int 0, .ref 114]) hM (by decide) yfX10_rules mlL_7 imX10_rules seX10_rules clX10 (kd3 hJ.1.1) rfl (Nat.le_of_ble_eq_true rfl) rfl dL_rules_11 [(⟨0, 16, 19, 13⟩ : ExceptionTableEntry)] (⟨0, 16, 23, 15⟩ : ExceptionTableEntry) [] (nm := "java/lang/IllegalStateException") rfl (by decide) (fun z hz => by cases List.mem_singleton.mp hz; exact Or.inr ⟨by decide, "java/lang/IllegalArgumentException", ckL_13, by decide⟩) (by decide) (by decide) ckL_15 ca_IllegalStateException 7 23 rfl (Or.inl ⟨dL_rules_23, rfl⟩) (by decide) (jo_ok (fun v q => by have q2 : (some (some (.ref 114)) : Option (Option Value)) = some (some v) := q; cases q2; decide))
        (E_iconst (v := 2) dL_rules_25 (by decide) (E_iret rfl dL_rules_26))
  · skip
    refine P_l (fun hJ _ _ q => E_i2l dL_rules_14 q) ?_
    refine P_w (fun hJ _ _ q => E_last dL_rules_15 (kd114 hJ.1.1) (inB_vp (by decide)) q) (fun hJ => Sy_wL hJ.1) rfl rfl rfl (fun σ6 hσ6 => ?_)
    refine P_l (fun hJ _ _ q => E_goto 27 dL_rules_16 (by decide) (E_iconst (v := 0) dL_rules_27 (by decide) q)) ?_
    exact P_ret (fun _ _ => E_iret rfl dL_rules_28)
def f_L_player (σ : rS) (p1 : Int32) (p2 : Int32) : Option (Int32 × rS) := oBc (f_X10_player σ p1 p2) [("java/lang/IllegalArgumentException", 1), ("java/lang/IllegalStateException", 2)] fun v1 σ1 => oLet (wL σ1 114 (0 : Int32).toNatClampNeg (((v1 : Int32)).toInt64)) fun σ6 => some ((0, σ6))
set_option maxRecDepth 20000 in
theorem ok_L_player {σ : rS} {p1 : Int32} {p2 : Int32} : rFnH Sy yL_player mL_player hL_player 7 [.ref 3, .int p1, .int p2, .ref 114] σ 1 6 (f_L_player σ p1 p2) := by
  refine rFnH_of (ls := [some (.ref 3), some (.int p1), some (.int p2), some (.ref 114), none]) yfL_player rfl (Nat.le_of_ble_eq_true rfl) (fun o τ => ?_)
  unfold f_L_player
  refine P_l (fun hJ _ _ q => E_aload_n dL_player_0 rfl (E_iconst (v := 0) dL_player_1 (by decide) (E_aload_n dL_player_2 rfl (E_iload_n dL_player_3 rfl (E_iload_n dL_player_4 rfl q))))) ?_
  refine P_callc (t2 := fun v => some (.int v)) (st2 := fun v => .int v :: [.int 0, .ref 114]) (kc2 := 0) (ks2 := 0) (fun hJ => (ok_X10_player (σ := σ) (p1 := p1) (p2 := p2) )) (fun hJ _ _ _ _ v τ1 hM q => E_callV (as := [.int p1, .int p2]) (b := 3) (st := [.int 0, .ref 114]) hM (by decide) yfX10_player mlL_17 imX10_player seX10_player clX10 (kd3 hJ.1.1) rfl (Nat.le_of_ble_eq_true rfl) rfl dL_player_5 q) (fun hJ e c hl kc ks mc ms τ1 hM => ?_) (by decide) (by decide) (fun v1 σ1 => ?_)
  · rcases look2 hl with ⟨rfl, rfl⟩ | ⟨rfl, rfl⟩
    · exact E_callVc (M := mL_player) (pc := 5) (k := 7) (as := [.int p1, .int p2]) (b := 3) (st := [.int 0, .ref 114]) hM (by decide) yfX10_player mlL_17 imX10_player seX10_player clX10 (kd3 hJ.1.1) rfl (Nat.le_of_ble_eq_true rfl) rfl dL_player_5 [] (⟨0, 10, 13, 13⟩ : ExceptionTableEntry) [(⟨0, 10, 17, 15⟩ : ExceptionTableEntry)] (nm := "java/lang/IllegalArgumentException") rfl (by decide) (fun z hz => absurd hz List.not_mem_nil) (by decide) (by decide) ckL_13 ca_IllegalArgumentException 4 13 rfl (Or.inl ⟨dL_player_13, rfl⟩) (by decide) (jo_ok (fun v q => by have q2 : (some (some (.ref 114)) : Option (Option Value)) = some (some v) := q; cases q2; decide))
        (E_iconst (v := 1) dL_player_15 (by decide) (E_iret rfl dL_player_16))
    · exact E_callVc (M := mL_player) (pc := 5) (k := 7) (as := [.int p1, .int p2]) (b := 3) (st := [.int 0, .ref 114]) hM (by decide) yfX10_player mlL_17 imX10_player seX10_player clX10 (kd3 hJ.1.1) rfl (Nat.le_of_ble_eq_true rfl) rfl dL_player_5 [(⟨0, 10, 13, 13⟩ : ExceptionTableEntry)] (⟨0, 10, 17, 15⟩ : ExceptionTableEntry) [] (nm := "java/lang/IllegalStateException") rfl (by decide) (fun z hz => by cases List.mem_singleton.mp hz; exact Or.inr ⟨by decide, "java/lang/IllegalArgumentException", ckL_13, by decide⟩) (by decide) (by decide) ckL_15 ca_IllegalStateException 4 17 rfl (Or.inl ⟨dL_player_17, rfl⟩) (by decide) (jo_ok (fun v q => by have q2 : (some (some (.ref 114)) : Option (Option Value)) = some (some v) := q; cases q2; decide))
        (E_iconst (v := 2) dL_player_19 (by decide) (E_iret rfl dL_player_20))
  · skip
    refine P_l (fun hJ _ _ q => E_i2l dL_player_8 q) ?_
    refine P_w (fun hJ _ _ q => E_last dL_player_9 (kd114 hJ.1.1) (inB_vp (by decide)) q) (fun hJ => Sy_wL hJ.1) rfl rfl rfl (fun σ6 hσ6 => ?_)
    refine P_l (fun hJ _ _ q => E_goto 21 dL_player_10 (by decide) (E_iconst (v := 0) dL_player_21 (by decide) q)) ?_
    exact P_ret (fun _ _ => E_iret rfl dL_player_22)
def f_L_deal (σ : rS) (p1 : Int32) (p2 : Int32) (p3 : Int32) : Option (Int32 × rS) := oBc (f_X10_deal σ p1 p2 p3) [("java/lang/IllegalArgumentException", 1), ("java/lang/IllegalStateException", 2)] fun v1 σ1 => oLet (wL σ1 114 (0 : Int32).toNatClampNeg (((v1 : Int32)).toInt64)) fun σ6 => some ((0, σ6))
set_option maxRecDepth 20000 in
theorem ok_L_deal {σ : rS} {p1 : Int32} {p2 : Int32} {p3 : Int32} : rFnH Sy yL_deal mL_deal hL_deal 7 [.ref 3, .int p1, .int p2, .int p3, .ref 114] σ 1 6 (f_L_deal σ p1 p2 p3) := by
  refine rFnH_of (ls := [some (.ref 3), some (.int p1), some (.int p2), some (.int p3), some (.ref 114), none]) yfL_deal rfl (Nat.le_of_ble_eq_true rfl) (fun o τ => ?_)
  unfold f_L_deal
  refine P_l (fun hJ _ _ q => E_aload dL_deal_0 rfl (E_iconst (v := 0) dL_deal_2 (by decide) (E_aload_n dL_deal_3 rfl (E_iload_n dL_deal_4 rfl (E_iload_n dL_deal_5 rfl (E_iload_n dL_deal_6 rfl q)))))) ?_
  refine P_callc (t2 := fun v => some (.int v)) (st2 := fun v => .int v :: [.int 0, .ref 114]) (kc2 := 0) (ks2 := 0) (fun hJ => (ok_X10_deal (σ := σ) (p1 := p1) (p2 := p2) (p3 := p3) )) (fun hJ _ _ _ _ v τ1 hM q => E_callV (as := [.int p1, .int p2, .int p3]) (b := 3) (st := [.int 0, .ref 114]) hM (by decide) yfX10_deal mlL_21 imX10_deal seX10_deal clX10 (kd3 hJ.1.1) rfl (Nat.le_of_ble_eq_true rfl) rfl dL_deal_7 q) (fun hJ e c hl kc ks mc ms τ1 hM => ?_) (by decide) (by decide) (fun v1 σ1 => ?_)
  · rcases look2 hl with ⟨rfl, rfl⟩ | ⟨rfl, rfl⟩
    · exact E_callVc (M := mL_deal) (pc := 7) (k := 7) (as := [.int p1, .int p2, .int p3]) (b := 3) (st := [.int 0, .ref 114]) hM (by decide) yfX10_deal mlL_21 imX10_deal seX10_deal clX10 (kd3 hJ.1.1) rfl (Nat.le_of_ble_eq_true rfl) rfl dL_deal_7 [] (⟨0, 12, 15, 13⟩ : ExceptionTableEntry) [(⟨0, 12, 19, 15⟩ : ExceptionTableEntry)] (nm := "java/lang/IllegalArgumentException") rfl (by decide) (fun z hz => absurd hz List.not_mem_nil) (by decide) (by decide) ckL_13 ca_IllegalArgumentException 5 15 rfl (Or.inl ⟨dL_deal_15, rfl⟩) (by decide) (jo_ok (fun v q => by have q2 : (some (some (.ref 114)) : Option (Option Value)) = some (some v) := q; cases q2; decide))
        (E_iconst (v := 1) dL_deal_17 (by decide) (E_iret rfl dL_deal_18))
    · exact E_callVc (M := mL_deal) (pc := 7) (k := 7) (as := [.int p1, .int p2, .int p3]) (b := 3) (st := [.int 0, .ref 114]) hM (by decide) yfX10_deal mlL_21 imX10_deal seX10_deal clX10 (kd3 hJ.1.1) rfl (Nat.le_of_ble_eq_true rfl) rfl dL_deal_7 [(⟨0, 12, 15, 13⟩ : ExceptionTableEntry)] (⟨0, 12, 19, 15⟩ : ExceptionTableEntry) [] (nm := "java/lang/IllegalStateException") rfl (by decide) (fun z hz => by cases List.mem_singleton.mp hz; exact Or.inr ⟨by decide, "java/lang/IllegalArgumentException", ckL_13, by decide⟩) (by decide) (by decide) ckL_15 ca_IllegalStateException 5 19 rfl (Or.inl ⟨dL_deal_19, rfl⟩) (by decide) (jo_ok (fun v q => by have q2 : (some (some (.ref 114)) : Option (Option Value)) = some (some v) := q; cases q2; decide))
        (E_iconst (v := 2) dL_deal_21 (by decide) (E_iret rfl dL_deal_22))
  · skip
    refine P_l (fun hJ _ _ q => E_i2l dL_deal_10 q) ?_
    refine P_w (fun hJ _ _ q => E_last dL_deal_11 (kd114 hJ.1.1) (inB_vp (by decide)) q) (fun hJ => Sy_wL hJ.1) rfl rfl rfl (fun σ6 hσ6 => ?_)
    refine P_l (fun hJ _ _ q => E_goto 23 dL_deal_12 (by decide) (E_iconst (v := 0) dL_deal_23 (by decide) q)) ?_
    exact P_ret (fun _ _ => E_iret rfl dL_deal_24)
def f_L_lay (σ : rS) (p1 : Int32) : Option (Int32 × rS) := oBc (f_X10_lay σ p1) [("java/lang/IllegalArgumentException", 1), ("java/lang/IllegalStateException", 2)] fun v1 σ1 => oLet (wL σ1 114 (0 : Int32).toNatClampNeg (((v1 : Int32)).toInt64)) fun σ6 => some ((0, σ6))
set_option maxRecDepth 20000 in
theorem ok_L_lay {σ : rS} {p1 : Int32} : rFnH Sy yL_lay mL_lay hL_lay 8 [.ref 3, .int p1, .ref 114] σ 2 12 (f_L_lay σ p1) := by
  refine rFnH_of (ls := [some (.ref 3), some (.int p1), some (.ref 114), none]) yfL_lay rfl (Nat.le_of_ble_eq_true rfl) (fun o τ => ?_)
  unfold f_L_lay
  refine P_l (fun hJ _ _ q => E_aload_n dL_lay_0 rfl (E_iconst (v := 0) dL_lay_1 (by decide) (E_aload_n dL_lay_2 rfl (E_iload_n dL_lay_3 rfl q)))) ?_
  refine P_callc (t2 := fun v => some (.int v)) (st2 := fun v => .int v :: [.int 0, .ref 114]) (kc2 := 0) (ks2 := 0) (fun hJ => (ok_X10_lay (σ := σ) (p1 := p1) )) (fun hJ _ _ _ _ v τ1 hM q => E_callV (as := [.int p1]) (b := 3) (st := [.int 0, .ref 114]) hM (by decide) yfX10_lay mlL_25 imX10_lay seX10_lay clX10 (kd3 hJ.1.1) rfl (Nat.le_of_ble_eq_true rfl) rfl dL_lay_4 q) (fun hJ e c hl kc ks mc ms τ1 hM => ?_) (by decide) (by decide) (fun v1 σ1 => ?_)
  · rcases look2 hl with ⟨rfl, rfl⟩ | ⟨rfl, rfl⟩
    · exact E_callVc (M := mL_lay) (pc := 4) (k := 8) (as := [.int p1]) (b := 3) (st := [.int 0, .ref 114]) hM (by decide) yfX10_lay mlL_25 imX10_lay seX10_lay clX10 (kd3 hJ.1.1) rfl (Nat.le_of_ble_eq_true rfl) rfl dL_lay_4 [] (⟨0, 9, 12, 13⟩ : ExceptionTableEntry) [(⟨0, 9, 15, 15⟩ : ExceptionTableEntry)] (nm := "java/lang/IllegalArgumentException") rfl (by decide) (fun z hz => absurd hz List.not_mem_nil) (by decide) (by decide) ckL_13 ca_IllegalArgumentException 3 12 rfl (Or.inr ⟨3, rfl, dL_lay_12, rfl⟩) (by decide) (jo_ok (fun v q => by have q2 : (some (some (.ref 114)) : Option (Option Value)) = some (some v) := q; cases q2; decide))
        (E_iconst (v := 1) dL_lay_13 (by decide) (E_iret rfl dL_lay_14))
    · exact E_callVc (M := mL_lay) (pc := 4) (k := 8) (as := [.int p1]) (b := 3) (st := [.int 0, .ref 114]) hM (by decide) yfX10_lay mlL_25 imX10_lay seX10_lay clX10 (kd3 hJ.1.1) rfl (Nat.le_of_ble_eq_true rfl) rfl dL_lay_4 [(⟨0, 9, 12, 13⟩ : ExceptionTableEntry)] (⟨0, 9, 15, 15⟩ : ExceptionTableEntry) [] (nm := "java/lang/IllegalStateException") rfl (by decide) (fun z hz => by cases List.mem_singleton.mp hz; exact Or.inr ⟨by decide, "java/lang/IllegalArgumentException", ckL_13, by decide⟩) (by decide) (by decide) ckL_15 ca_IllegalStateException 3 15 rfl (Or.inr ⟨3, rfl, dL_lay_15, rfl⟩) (by decide) (jo_ok (fun v q => by have q2 : (some (some (.ref 114)) : Option (Option Value)) = some (some v) := q; cases q2; decide))
        (E_iconst (v := 2) dL_lay_16 (by decide) (E_iret rfl dL_lay_17))
  · skip
    refine P_l (fun hJ _ _ q => E_i2l dL_lay_7 q) ?_
    refine P_w (fun hJ _ _ q => E_last dL_lay_8 (kd114 hJ.1.1) (inB_vp (by decide)) q) (fun hJ => Sy_wL hJ.1) rfl rfl rfl (fun σ6 hσ6 => ?_)
    refine P_l (fun hJ _ _ q => E_goto 18 dL_lay_9 (by decide) (E_iconst (v := 0) dL_lay_18 (by decide) q)) ?_
    exact P_ret (fun _ _ => E_iret rfl dL_lay_19)
def f_L_joker (σ : rS) (p1 : Int32) : Option (Int32 × rS) := oBc (f_X10_joker σ p1) [("java/lang/IllegalArgumentException", 1), ("java/lang/IllegalStateException", 2)] fun v1 σ1 => oLet (wL σ1 114 (0 : Int32).toNatClampNeg (((v1 : Int32)).toInt64)) fun σ6 => some ((0, σ6))
set_option maxRecDepth 20000 in
theorem ok_L_joker {σ : rS} {p1 : Int32} : rFnH Sy yL_joker mL_joker hL_joker 8 [.ref 3, .int p1, .ref 114] σ 2 12 (f_L_joker σ p1) := by
  refine rFnH_of (ls := [some (.ref 3), some (.int p1), some (.ref 114), none]) yfL_joker rfl (Nat.le_of_ble_eq_true rfl) (fun o τ => ?_)
  unfold f_L_joker
  refine P_l (fun hJ _ _ q => E_aload_n dL_joker_0 rfl (E_iconst (v := 0) dL_joker_1 (by decide) (E_aload_n dL_joker_2 rfl (E_iload_n dL_joker_3 rfl q)))) ?_
  refine P_callc (t2 := fun v => some (.int v)) (st2 := fun v => .int v :: [.int 0, .ref 114]) (kc2 := 0) (ks2 := 0) (fun hJ => (ok_X10_joker (σ := σ) (p1 := p1) )) (fun hJ _ _ _ _ v τ1 hM q => E_callV (as := [.int p1]) (b := 3) (st := [.int 0, .ref 114]) hM (by decide) yfX10_joker mlL_29 imX10_joker seX10_joker clX10 (kd3 hJ.1.1) rfl (Nat.le_of_ble_eq_true rfl) rfl dL_joker_4 q) (fun hJ e c hl kc ks mc ms τ1 hM => ?_) (by decide) (by decide) (fun v1 σ1 => ?_)
  · rcases look2 hl with ⟨rfl, rfl⟩ | ⟨rfl, rfl⟩
    · exact E_callVc (M := mL_joker) (pc := 4) (k := 8) (as := [.int p1]) (b := 3) (st := [.int 0, .ref 114]) hM (by decide) yfX10_joker mlL_29 imX10_joker seX10_joker clX10 (kd3 hJ.1.1) rfl (Nat.le_of_ble_eq_true rfl) rfl dL_joker_4 [] (⟨0, 9, 12, 13⟩ : ExceptionTableEntry) [(⟨0, 9, 15, 15⟩ : ExceptionTableEntry)] (nm := "java/lang/IllegalArgumentException") rfl (by decide) (fun z hz => absurd hz List.not_mem_nil) (by decide) (by decide) ckL_13 ca_IllegalArgumentException 3 12 rfl (Or.inr ⟨3, rfl, dL_joker_12, rfl⟩) (by decide) (jo_ok (fun v q => by have q2 : (some (some (.ref 114)) : Option (Option Value)) = some (some v) := q; cases q2; decide))
        (E_iconst (v := 1) dL_joker_13 (by decide) (E_iret rfl dL_joker_14))
    · exact E_callVc (M := mL_joker) (pc := 4) (k := 8) (as := [.int p1]) (b := 3) (st := [.int 0, .ref 114]) hM (by decide) yfX10_joker mlL_29 imX10_joker seX10_joker clX10 (kd3 hJ.1.1) rfl (Nat.le_of_ble_eq_true rfl) rfl dL_joker_4 [(⟨0, 9, 12, 13⟩ : ExceptionTableEntry)] (⟨0, 9, 15, 15⟩ : ExceptionTableEntry) [] (nm := "java/lang/IllegalStateException") rfl (by decide) (fun z hz => by cases List.mem_singleton.mp hz; exact Or.inr ⟨by decide, "java/lang/IllegalArgumentException", ckL_13, by decide⟩) (by decide) (by decide) ckL_15 ca_IllegalStateException 3 15 rfl (Or.inr ⟨3, rfl, dL_joker_15, rfl⟩) (by decide) (jo_ok (fun v q => by have q2 : (some (some (.ref 114)) : Option (Option Value)) = some (some v) := q; cases q2; decide))
        (E_iconst (v := 2) dL_joker_16 (by decide) (E_iret rfl dL_joker_17))
  · skip
    refine P_l (fun hJ _ _ q => E_i2l dL_joker_7 q) ?_
    refine P_w (fun hJ _ _ q => E_last dL_joker_8 (kd114 hJ.1.1) (inB_vp (by decide)) q) (fun hJ => Sy_wL hJ.1) rfl rfl rfl (fun σ6 hσ6 => ?_)
    refine P_l (fun hJ _ _ q => E_goto 18 dL_joker_9 (by decide) (E_iconst (v := 0) dL_joker_18 (by decide) q)) ?_
    exact P_ret (fun _ _ => E_iret rfl dL_joker_19)
def f_L_swap (σ : rS) (p1 : Int32) : Option (Int32 × rS) := oBc (f_X10_swap σ p1) [("java/lang/IllegalArgumentException", 1), ("java/lang/IllegalStateException", 2)] fun v1 σ1 => oLet (wL σ1 114 (0 : Int32).toNatClampNeg (((v1 : Int32)).toInt64)) fun σ6 => some ((0, σ6))
set_option maxRecDepth 20000 in
theorem ok_L_swap {σ : rS} {p1 : Int32} : rFnH Sy yL_swap mL_swap hL_swap 8 [.ref 3, .int p1, .ref 114] σ 2 12 (f_L_swap σ p1) := by
  refine rFnH_of (ls := [some (.ref 3), some (.int p1), some (.ref 114), none]) yfL_swap rfl (Nat.le_of_ble_eq_true rfl) (fun o τ => ?_)
  unfold f_L_swap
  refine P_l (fun hJ _ _ q => E_aload_n dL_swap_0 rfl (E_iconst (v := 0) dL_swap_1 (by decide) (E_aload_n dL_swap_2 rfl (E_iload_n dL_swap_3 rfl q)))) ?_
  refine P_callc (t2 := fun v => some (.int v)) (st2 := fun v => .int v :: [.int 0, .ref 114]) (kc2 := 0) (ks2 := 0) (fun hJ => (ok_X10_swap (σ := σ) (p1 := p1) )) (fun hJ _ _ _ _ v τ1 hM q => E_callV (as := [.int p1]) (b := 3) (st := [.int 0, .ref 114]) hM (by decide) yfX10_swap mlL_32 imX10_swap seX10_swap clX10 (kd3 hJ.1.1) rfl (Nat.le_of_ble_eq_true rfl) rfl dL_swap_4 q) (fun hJ e c hl kc ks mc ms τ1 hM => ?_) (by decide) (by decide) (fun v1 σ1 => ?_)
  · rcases look2 hl with ⟨rfl, rfl⟩ | ⟨rfl, rfl⟩
    · exact E_callVc (M := mL_swap) (pc := 4) (k := 8) (as := [.int p1]) (b := 3) (st := [.int 0, .ref 114]) hM (by decide) yfX10_swap mlL_32 imX10_swap seX10_swap clX10 (kd3 hJ.1.1) rfl (Nat.le_of_ble_eq_true rfl) rfl dL_swap_4 [] (⟨0, 9, 12, 13⟩ : ExceptionTableEntry) [(⟨0, 9, 15, 15⟩ : ExceptionTableEntry)] (nm := "java/lang/IllegalArgumentException") rfl (by decide) (fun z hz => absurd hz List.not_mem_nil) (by decide) (by decide) ckL_13 ca_IllegalArgumentException 3 12 rfl (Or.inr ⟨3, rfl, dL_swap_12, rfl⟩) (by decide) (jo_ok (fun v q => by have q2 : (some (some (.ref 114)) : Option (Option Value)) = some (some v) := q; cases q2; decide))
        (E_iconst (v := 1) dL_swap_13 (by decide) (E_iret rfl dL_swap_14))
    · exact E_callVc (M := mL_swap) (pc := 4) (k := 8) (as := [.int p1]) (b := 3) (st := [.int 0, .ref 114]) hM (by decide) yfX10_swap mlL_32 imX10_swap seX10_swap clX10 (kd3 hJ.1.1) rfl (Nat.le_of_ble_eq_true rfl) rfl dL_swap_4 [(⟨0, 9, 12, 13⟩ : ExceptionTableEntry)] (⟨0, 9, 15, 15⟩ : ExceptionTableEntry) [] (nm := "java/lang/IllegalStateException") rfl (by decide) (fun z hz => by cases List.mem_singleton.mp hz; exact Or.inr ⟨by decide, "java/lang/IllegalArgumentException", ckL_13, by decide⟩) (by decide) (by decide) ckL_15 ca_IllegalStateException 3 15 rfl (Or.inr ⟨3, rfl, dL_swap_15, rfl⟩) (by decide) (jo_ok (fun v q => by have q2 : (some (some (.ref 114)) : Option (Option Value)) = some (some v) := q; cases q2; decide))
        (E_iconst (v := 2) dL_swap_16 (by decide) (E_iret rfl dL_swap_17))
  · skip
    refine P_l (fun hJ _ _ q => E_i2l dL_swap_7 q) ?_
    refine P_w (fun hJ _ _ q => E_last dL_swap_8 (kd114 hJ.1.1) (inB_vp (by decide)) q) (fun hJ => Sy_wL hJ.1) rfl rfl rfl (fun σ6 hσ6 => ?_)
    refine P_l (fun hJ _ _ q => E_goto 18 dL_swap_9 (by decide) (E_iconst (v := 0) dL_swap_18 (by decide) q)) ?_
    exact P_ret (fun _ _ => E_iret rfl dL_swap_19)
def f_L_back (σ : rS) : Option (Int32 × rS) := oBc (f_X10_back σ) [("java/lang/IllegalStateException", 1)] fun v1 σ1 => oLet (wL σ1 114 (0 : Int32).toNatClampNeg (((v1 : Int32)).toInt64)) fun σ6 => some ((0, σ6))
set_option maxRecDepth 20000 in
theorem ok_L_back {σ : rS} : rFnH Sy yL_back mL_back hL_back 7 [.ref 3, .ref 114] σ 1 6 (f_L_back σ) := by
  refine rFnH_of (ls := [some (.ref 3), some (.ref 114), none]) yfL_back rfl (Nat.le_of_ble_eq_true rfl) (fun o τ => ?_)
  unfold f_L_back
  refine P_l (fun hJ _ _ q => E_aload_n dL_back_0 rfl (E_iconst (v := 0) dL_back_1 (by decide) (E_aload_n dL_back_2 rfl q))) ?_
  refine P_callc (t2 := fun v => some (.int v)) (st2 := fun v => .int v :: [.int 0, .ref 114]) (kc2 := 0) (ks2 := 0) (fun hJ => (ok_X10_back (σ := σ)  )) (fun hJ _ _ _ _ v τ1 hM q => E_callV (as := []) (b := 3) (st := [.int 0, .ref 114]) hM (by decide) yfX10_back mlL_35 imX10_back seX10_back clX10 (kd3 hJ.1.1) rfl (Nat.le_of_ble_eq_true rfl) rfl dL_back_3 q) (fun hJ e c hl kc ks mc ms τ1 hM => ?_) (by decide) (by decide) (fun v1 σ1 => ?_)
  · obtain ⟨rfl, rfl⟩ := look1 hl
    exact E_callVc (M := mL_back) (pc := 3) (k := 7) (as := []) (b := 3) (st := [.int 0, .ref 114]) hM (by decide) yfX10_back mlL_35 imX10_back seX10_back clX10 (kd3 hJ.1.1) rfl (Nat.le_of_ble_eq_true rfl) rfl dL_back_3 [] (⟨0, 8, 11, 15⟩ : ExceptionTableEntry) [] (nm := "java/lang/IllegalStateException") rfl (by decide) (fun z hz => absurd hz List.not_mem_nil) (by decide) (by decide) ckL_15 ca_IllegalStateException 2 11 rfl (Or.inr ⟨2, rfl, dL_back_11, rfl⟩) (by decide) (jo_ok (fun v q => by have q2 : (some (some (.ref 114)) : Option (Option Value)) = some (some v) := q; cases q2; decide))
      (E_iconst (v := 1) dL_back_12 (by decide) (E_iret rfl dL_back_13))
  · skip
    refine P_l (fun hJ _ _ q => E_i2l dL_back_6 q) ?_
    refine P_w (fun hJ _ _ q => E_last dL_back_7 (kd114 hJ.1.1) (inB_vp (by decide)) q) (fun hJ => Sy_wL hJ.1) rfl rfl rfl (fun σ6 hσ6 => ?_)
    refine P_l (fun hJ _ _ q => E_goto 14 dL_back_8 (by decide) (E_iconst (v := 0) dL_back_14 (by decide) q)) ?_
    exact P_ret (fun _ _ => E_iret rfl dL_back_15)
def f_L_end (σ : rS) : Option (Int32 × rS) := oBc (f_X10_end σ) [("java/lang/IllegalStateException", 1)] fun v1 σ1 => oLet (wL σ1 114 (0 : Int32).toNatClampNeg (((v1 : Int32)).toInt64)) fun σ6 => some ((0, σ6))
set_option maxRecDepth 20000 in
theorem ok_L_end {σ : rS} : rFnH Sy yL_end mL_end hL_end 7 [.ref 3, .ref 114] σ 1 6 (f_L_end σ) := by
  refine rFnH_of (ls := [some (.ref 3), some (.ref 114), none]) yfL_end rfl (Nat.le_of_ble_eq_true rfl) (fun o τ => ?_)
  unfold f_L_end
  refine P_l (fun hJ _ _ q => E_aload_n dL_end_0 rfl (E_iconst (v := 0) dL_end_1 (by decide) (E_aload_n dL_end_2 rfl q))) ?_
  refine P_callc (t2 := fun v => some (.int v)) (st2 := fun v => .int v :: [.int 0, .ref 114]) (kc2 := 0) (ks2 := 0) (fun hJ => (ok_X10_end (σ := σ)  )) (fun hJ _ _ _ _ v τ1 hM q => E_callV (as := []) (b := 3) (st := [.int 0, .ref 114]) hM (by decide) yfX10_end mlL_39 imX10_end seX10_end clX10 (kd3 hJ.1.1) rfl (Nat.le_of_ble_eq_true rfl) rfl dL_end_3 q) (fun hJ e c hl kc ks mc ms τ1 hM => ?_) (by decide) (by decide) (fun v1 σ1 => ?_)
  · obtain ⟨rfl, rfl⟩ := look1 hl
    exact E_callVc (M := mL_end) (pc := 3) (k := 7) (as := []) (b := 3) (st := [.int 0, .ref 114]) hM (by decide) yfX10_end mlL_39 imX10_end seX10_end clX10 (kd3 hJ.1.1) rfl (Nat.le_of_ble_eq_true rfl) rfl dL_end_3 [] (⟨0, 8, 11, 15⟩ : ExceptionTableEntry) [] (nm := "java/lang/IllegalStateException") rfl (by decide) (fun z hz => absurd hz List.not_mem_nil) (by decide) (by decide) ckL_15 ca_IllegalStateException 2 11 rfl (Or.inr ⟨2, rfl, dL_end_11, rfl⟩) (by decide) (jo_ok (fun v q => by have q2 : (some (some (.ref 114)) : Option (Option Value)) = some (some v) := q; cases q2; decide))
      (E_iconst (v := 1) dL_end_12 (by decide) (E_iret rfl dL_end_13))
  · skip
    refine P_l (fun hJ _ _ q => E_i2l dL_end_6 q) ?_
    refine P_w (fun hJ _ _ q => E_last dL_end_7 (kd114 hJ.1.1) (inB_vp (by decide)) q) (fun hJ => Sy_wL hJ.1) rfl rfl rfl (fun σ6 hσ6 => ?_)
    refine P_l (fun hJ _ _ q => E_goto 14 dL_end_8 (by decide) (E_iconst (v := 0) dL_end_14 (by decide) q)) ?_
    exact P_ret (fun _ _ => E_iret rfl dL_end_15)
def f_L_draw (σ : rS) : Option (Int32 × rS) := oBc (f_X10_draw σ) [("java/lang/IllegalStateException", 1)] fun v1 σ1 => oLet (wL σ1 114 (0 : Int32).toNatClampNeg (((v1 : Int32)).toInt64)) fun σ6 => some ((0, σ6))
set_option maxRecDepth 20000 in
theorem ok_L_draw {σ : rS} : rFnH Sy yL_draw mL_draw hL_draw 8 [.ref 3, .ref 114] σ 1 6 (f_L_draw σ) := by
  refine rFnH_of (ls := [some (.ref 3), some (.ref 114), none]) yfL_draw rfl (Nat.le_of_ble_eq_true rfl) (fun o τ => ?_)
  unfold f_L_draw
  refine P_l (fun hJ _ _ q => E_aload_n dL_draw_0 rfl (E_iconst (v := 0) dL_draw_1 (by decide) (E_aload_n dL_draw_2 rfl q))) ?_
  refine P_callc (t2 := fun v => some (.int v)) (st2 := fun v => .int v :: [.int 0, .ref 114]) (kc2 := 0) (ks2 := 0) (fun hJ => (ok_X10_draw (σ := σ)  )) (fun hJ _ _ _ _ v τ1 hM q => E_callV (as := []) (b := 3) (st := [.int 0, .ref 114]) hM (by decide) yfX10_draw mlL_42 imX10_draw seX10_draw clX10 (kd3 hJ.1.1) rfl (Nat.le_of_ble_eq_true rfl) rfl dL_draw_3 q) (fun hJ e c hl kc ks mc ms τ1 hM => ?_) (by decide) (by decide) (fun v1 σ1 => ?_)
  · obtain ⟨rfl, rfl⟩ := look1 hl
    exact E_callVc (M := mL_draw) (pc := 3) (k := 8) (as := []) (b := 3) (st := [.int 0, .ref 114]) hM (by decide) yfX10_draw mlL_42 imX10_draw seX10_draw clX10 (kd3 hJ.1.1) rfl (Nat.le_of_ble_eq_true rfl) rfl dL_draw_3 [] (⟨0, 8, 11, 15⟩ : ExceptionTableEntry) [] (nm := "java/lang/IllegalStateException") rfl (by decide) (fun z hz => absurd hz List.not_mem_nil) (by decide) (by decide) ckL_15 ca_IllegalStateException 2 11 rfl (Or.inr ⟨2, rfl, dL_draw_11, rfl⟩) (by decide) (jo_ok (fun v q => by have q2 : (some (some (.ref 114)) : Option (Option Value)) = some (some v) := q; cases q2; decide))
      (E_iconst (v := 1) dL_draw_12 (by decide) (E_iret rfl dL_draw_13))
  · skip
    refine P_l (fun hJ _ _ q => E_i2l dL_draw_6 q) ?_
    refine P_w (fun hJ _ _ q => E_last dL_draw_7 (kd114 hJ.1.1) (inB_vp (by decide)) q) (fun hJ => Sy_wL hJ.1) rfl rfl rfl (fun σ6 hσ6 => ?_)
    refine P_l (fun hJ _ _ q => E_goto 14 dL_draw_8 (by decide) (E_iconst (v := 0) dL_draw_14 (by decide) q)) ?_
    exact P_ret (fun _ _ => E_iret rfl dL_draw_15)
def f_L_tick (σ : rS) (p1 : Int32) : Option (Int32 × rS) := oBc (f_X10_tick σ p1) [("java/lang/IllegalArgumentException", 1), ("java/lang/IllegalStateException", 2)] fun v1 σ1 => oLet (wL σ1 114 (0 : Int32).toNatClampNeg (((v1 : Int32)).toInt64)) fun σ6 => some ((0, σ6))
set_option maxRecDepth 20000 in
theorem ok_L_tick {σ : rS} {p1 : Int32} : rFnH Sy yL_tick mL_tick hL_tick 8 [.ref 3, .int p1, .ref 114] σ 2 12 (f_L_tick σ p1) := by
  refine rFnH_of (ls := [some (.ref 3), some (.int p1), some (.ref 114), none]) yfL_tick rfl (Nat.le_of_ble_eq_true rfl) (fun o τ => ?_)
  unfold f_L_tick
  refine P_l (fun hJ _ _ q => E_aload_n dL_tick_0 rfl (E_iconst (v := 0) dL_tick_1 (by decide) (E_aload_n dL_tick_2 rfl (E_iload_n dL_tick_3 rfl q)))) ?_
  refine P_callc (t2 := fun v => some (.int v)) (st2 := fun v => .int v :: [.int 0, .ref 114]) (kc2 := 0) (ks2 := 0) (fun hJ => (ok_X10_tick (σ := σ) (p1 := p1) )) (fun hJ _ _ _ _ v τ1 hM q => E_callV (as := [.int p1]) (b := 3) (st := [.int 0, .ref 114]) hM (by decide) yfX10_tick mlL_45 imX10_tick seX10_tick clX10 (kd3 hJ.1.1) rfl (Nat.le_of_ble_eq_true rfl) rfl dL_tick_4 q) (fun hJ e c hl kc ks mc ms τ1 hM => ?_) (by decide) (by decide) (fun v1 σ1 => ?_)
  · rcases look2 hl with ⟨rfl, rfl⟩ | ⟨rfl, rfl⟩
    · exact E_callVc (M := mL_tick) (pc := 4) (k := 8) (as := [.int p1]) (b := 3) (st := [.int 0, .ref 114]) hM (by decide) yfX10_tick mlL_45 imX10_tick seX10_tick clX10 (kd3 hJ.1.1) rfl (Nat.le_of_ble_eq_true rfl) rfl dL_tick_4 [] (⟨0, 9, 12, 13⟩ : ExceptionTableEntry) [(⟨0, 9, 15, 15⟩ : ExceptionTableEntry)] (nm := "java/lang/IllegalArgumentException") rfl (by decide) (fun z hz => absurd hz List.not_mem_nil) (by decide) (by decide) ckL_13 ca_IllegalArgumentException 3 12 rfl (Or.inr ⟨3, rfl, dL_tick_12, rfl⟩) (by decide) (jo_ok (fun v q => by have q2 : (some (some (.ref 114)) : Option (Option Value)) = some (some v) := q; cases q2; decide))
        (E_iconst (v := 1) dL_tick_13 (by decide) (E_iret rfl dL_tick_14))
    · exact E_callVc (M := mL_tick) (pc := 4) (k := 8) (as := [.int p1]) (b := 3) (st := [.int 0, .ref 114]) hM (by decide) yfX10_tick mlL_45 imX10_tick seX10_tick clX10 (kd3 hJ.1.1) rfl (Nat.le_of_ble_eq_true rfl) rfl dL_tick_4 [(⟨0, 9, 12, 13⟩ : ExceptionTableEntry)] (⟨0, 9, 15, 15⟩ : ExceptionTableEntry) [] (nm := "java/lang/IllegalStateException") rfl (by decide) (fun z hz => by cases List.mem_singleton.mp hz; exact Or.inr ⟨by decide, "java/lang/IllegalArgumentException", ckL_13, by decide⟩) (by decide) (by decide) ckL_15 ca_IllegalStateException 3 15 rfl (Or.inr ⟨3, rfl, dL_tick_15, rfl⟩) (by decide) (jo_ok (fun v q => by have q2 : (some (some (.ref 114)) : Option (Option Value)) = some (some v) := q; cases q2; decide))
        (E_iconst (v := 2) dL_tick_16 (by decide) (E_iret rfl dL_tick_17))
  · skip
    refine P_l (fun hJ _ _ q => E_i2l dL_tick_7 q) ?_
    refine P_w (fun hJ _ _ q => E_last dL_tick_8 (kd114 hJ.1.1) (inB_vp (by decide)) q) (fun hJ => Sy_wL hJ.1) rfl rfl rfl (fun σ6 hσ6 => ?_)
    refine P_l (fun hJ _ _ q => E_goto 18 dL_tick_9 (by decide) (E_iconst (v := 0) dL_tick_18 (by decide) q)) ?_
    exact P_ret (fun _ _ => E_iret rfl dL_tick_19)
def f_L_auto (σ : rS) : Option (Int32 × rS) := oBc (f_X10_auto σ) [("java/lang/IllegalStateException", 1)] fun v1 σ1 => oLet (wL σ1 114 (0 : Int32).toNatClampNeg (((v1 : Int32)).toInt64)) fun σ6 => some ((0, σ6))
set_option maxRecDepth 20000 in
theorem ok_L_auto {σ : rS} : rFnH Sy yL_auto mL_auto hL_auto 9 [.ref 3, .ref 114] σ 2 12 (f_L_auto σ) := by
  refine rFnH_of (ls := [some (.ref 3), some (.ref 114), none]) yfL_auto rfl (Nat.le_of_ble_eq_true rfl) (fun o τ => ?_)
  unfold f_L_auto
  refine P_l (fun hJ _ _ q => E_aload_n dL_auto_0 rfl (E_iconst (v := 0) dL_auto_1 (by decide) (E_aload_n dL_auto_2 rfl q))) ?_
  refine P_callc (t2 := fun v => some (.int v)) (st2 := fun v => .int v :: [.int 0, .ref 114]) (kc2 := 0) (ks2 := 0) (fun hJ => (ok_X10_auto (σ := σ)  )) (fun hJ _ _ _ _ v τ1 hM q => E_callV (as := []) (b := 3) (st := [.int 0, .ref 114]) hM (by decide) yfX10_auto mlL_48 imX10_auto seX10_auto clX10 (kd3 hJ.1.1) rfl (Nat.le_of_ble_eq_true rfl) rfl dL_auto_3 q) (fun hJ e c hl kc ks mc ms τ1 hM => ?_) (by decide) (by decide) (fun v1 σ1 => ?_)
  · obtain ⟨rfl, rfl⟩ := look1 hl
    exact E_callVc (M := mL_auto) (pc := 3) (k := 9) (as := []) (b := 3) (st := [.int 0, .ref 114]) hM (by decide) yfX10_auto mlL_48 imX10_auto seX10_auto clX10 (kd3 hJ.1.1) rfl (Nat.le_of_ble_eq_true rfl) rfl dL_auto_3 [] (⟨0, 8, 11, 15⟩ : ExceptionTableEntry) [] (nm := "java/lang/IllegalStateException") rfl (by decide) (fun z hz => absurd hz List.not_mem_nil) (by decide) (by decide) ckL_15 ca_IllegalStateException 2 11 rfl (Or.inr ⟨2, rfl, dL_auto_11, rfl⟩) (by decide) (jo_ok (fun v q => by have q2 : (some (some (.ref 114)) : Option (Option Value)) = some (some v) := q; cases q2; decide))
      (E_iconst (v := 1) dL_auto_12 (by decide) (E_iret rfl dL_auto_13))
  · skip
    refine P_l (fun hJ _ _ q => E_i2l dL_auto_6 q) ?_
    refine P_w (fun hJ _ _ q => E_last dL_auto_7 (kd114 hJ.1.1) (inB_vp (by decide)) q) (fun hJ => Sy_wL hJ.1) rfl rfl rfl (fun σ6 hσ6 => ?_)
    refine P_l (fun hJ _ _ q => E_goto 14 dL_auto_8 (by decide) (E_iconst (v := 0) dL_auto_14 (by decide) q)) ?_
    exact P_ret (fun _ _ => E_iret rfl dL_auto_15)
def f_L_type (σ : rS) (p1 : Int32) : Option (Int32 × rS) := oBc (f_X10_type σ p1) [("java/lang/IllegalArgumentException", 1), ("java/lang/IllegalStateException", 2)] fun v1 σ1 => oLet (wL σ1 114 (0 : Int32).toNatClampNeg (((v1 : Int32)).toInt64)) fun σ6 => some ((0, σ6))
set_option maxRecDepth 20000 in
theorem ok_L_type {σ : rS} {p1 : Int32} : rFnH Sy yL_type mL_type hL_type 7 [.ref 3, .int p1, .ref 114] σ 1 6 (f_L_type σ p1) := by
  refine rFnH_of (ls := [some (.ref 3), some (.int p1), some (.ref 114), none]) yfL_type rfl (Nat.le_of_ble_eq_true rfl) (fun o τ => ?_)
  unfold f_L_type
  refine P_l (fun hJ _ _ q => E_aload_n dL_type_0 rfl (E_iconst (v := 0) dL_type_1 (by decide) (E_aload_n dL_type_2 rfl (E_iload_n dL_type_3 rfl q)))) ?_
  refine P_callc (t2 := fun v => some (.int v)) (st2 := fun v => .int v :: [.int 0, .ref 114]) (kc2 := 0) (ks2 := 0) (fun hJ => (ok_X10_type (σ := σ) (p1 := p1) )) (fun hJ _ _ _ _ v τ1 hM q => E_callV (as := [.int p1]) (b := 3) (st := [.int 0, .ref 114]) hM (by decide) yfX10_type mlL_51 imX10_type seX10_type clX10 (kd3 hJ.1.1) rfl (Nat.le_of_ble_eq_true rfl) rfl dL_type_4 q) (fun hJ e c hl kc ks mc ms τ1 hM => ?_) (by decide) (by decide) (fun v1 σ1 => ?_)
  · rcases look2 hl with ⟨rfl, rfl⟩ | ⟨rfl, rfl⟩
    · exact E_callVc (M := mL_type) (pc := 4) (k := 7) (as := [.int p1]) (b := 3) (st := [.int 0, .ref 114]) hM (by decide) yfX10_type mlL_51 imX10_type seX10_type clX10 (kd3 hJ.1.1) rfl (Nat.le_of_ble_eq_true rfl) rfl dL_type_4 [] (⟨0, 9, 12, 13⟩ : ExceptionTableEntry) [(⟨0, 9, 15, 15⟩ : ExceptionTableEntry)] (nm := "java/lang/IllegalArgumentException") rfl (by decide) (fun z hz => absurd hz List.not_mem_nil) (by decide) (by decide) ckL_13 ca_IllegalArgumentException 3 12 rfl (Or.inr ⟨3, rfl, dL_type_12, rfl⟩) (by decide) (jo_ok (fun v q => by have q2 : (some (some (.ref 114)) : Option (Option Value)) = some (some v) := q; cases q2; decide))
        (E_iconst (v := 1) dL_type_13 (by decide) (E_iret rfl dL_type_14))
    · exact E_callVc (M := mL_type) (pc := 4) (k := 7) (as := [.int p1]) (b := 3) (st := [.int 0, .ref 114]) hM (by decide) yfX10_type mlL_51 imX10_type seX10_type clX10 (kd3 hJ.1.1) rfl (Nat.le_of_ble_eq_true rfl) rfl dL_type_4 [(⟨0, 9, 12, 13⟩ : ExceptionTableEntry)] (⟨0, 9, 15, 15⟩ : ExceptionTableEntry) [] (nm := "java/lang/IllegalStateException") rfl (by decide) (fun z hz => by cases List.mem_singleton.mp hz; exact Or.inr ⟨by decide, "java/lang/IllegalArgumentException", ckL_13, by decide⟩) (by decide) (by decide) ckL_15 ca_IllegalStateException 3 15 rfl (Or.inr ⟨3, rfl, dL_type_15, rfl⟩) (by decide) (jo_ok (fun v q => by have q2 : (some (some (.ref 114)) : Option (Option Value)) = some (some v) := q; cases q2; decide))
        (E_iconst (v := 2) dL_type_16 (by decide) (E_iret rfl dL_type_17))
  · skip
    refine P_l (fun hJ _ _ q => E_i2l dL_type_7 q) ?_
    refine P_w (fun hJ _ _ q => E_last dL_type_8 (kd114 hJ.1.1) (inB_vp (by decide)) q) (fun hJ => Sy_wL hJ.1) rfl rfl rfl (fun σ6 hσ6 => ?_)
    refine P_l (fun hJ _ _ q => E_goto 18 dL_type_9 (by decide) (E_iconst (v := 0) dL_type_18 (by decide) q)) ?_
    exact P_ret (fun _ _ => E_iret rfl dL_type_19)
def f_L_play (σ : rS) : Option (Int32 × rS) := oBc (f_X10_play σ) [("java/lang/IllegalArgumentException", 1), ("java/lang/IllegalStateException", 2)] fun v1 σ1 => oLet (wL σ1 114 (0 : Int32).toNatClampNeg (((v1 : Int32)).toInt64)) fun σ6 => some ((0, σ6))
set_option maxRecDepth 20000 in
theorem ok_L_play {σ : rS} : rFnH Sy yL_play mL_play hL_play 9 [.ref 3, .ref 114] σ 2 12 (f_L_play σ) := by
  refine rFnH_of (ls := [some (.ref 3), some (.ref 114), none]) yfL_play rfl (Nat.le_of_ble_eq_true rfl) (fun o τ => ?_)
  unfold f_L_play
  refine P_l (fun hJ _ _ q => E_aload_n dL_play_0 rfl (E_iconst (v := 0) dL_play_1 (by decide) (E_aload_n dL_play_2 rfl q))) ?_
  refine P_callc (t2 := fun v => some (.int v)) (st2 := fun v => .int v :: [.int 0, .ref 114]) (kc2 := 0) (ks2 := 0) (fun hJ => (ok_X10_play (σ := σ)  )) (fun hJ _ _ _ _ v τ1 hM q => E_callV (as := []) (b := 3) (st := [.int 0, .ref 114]) hM (by decide) yfX10_play mlL_55 imX10_play seX10_play clX10 (kd3 hJ.1.1) rfl (Nat.le_of_ble_eq_true rfl) rfl dL_play_3 q) (fun hJ e c hl kc ks mc ms τ1 hM => ?_) (by decide) (by decide) (fun v1 σ1 => ?_)
  · rcases look2 hl with ⟨rfl, rfl⟩ | ⟨rfl, rfl⟩
    · exact E_callVc (M := mL_play) (pc := 3) (k := 9) (as := []) (b := 3) (st := [.int 0, .ref 114]) hM (by decide) yfX10_play mlL_55 imX10_play seX10_play clX10 (kd3 hJ.1.1) rfl (Nat.le_of_ble_eq_true rfl) rfl dL_play_3 [] (⟨0, 8, 11, 13⟩ : ExceptionTableEntry) [(⟨0, 8, 14, 15⟩ : ExceptionTableEntry)] (nm := "java/lang/IllegalArgumentException") rfl (by decide) (fun z hz => absurd hz List.not_mem_nil) (by decide) (by decide) ckL_13 ca_IllegalArgumentException 2 11 rfl (Or.inr ⟨2, rfl, dL_play_11, rfl⟩) (by decide) (jo_ok (fun v q => by have q2 : (some (some (.ref 114)) : Option (Option Value)) = some (some v) := q; cases q2; decide))
        (E_iconst (v := 1) dL_play_12 (by decide) (E_iret rfl dL_play_13))
    · exact E_callVc (M := mL_play) (pc := 3) (k := 9) (as := []) (b := 3) (st := [.int 0, .ref 114]) hM (by decide) yfX10_play mlL_55 imX10_play seX10_play clX10 (kd3 hJ.1.1) rfl (Nat.le_of_ble_eq_true rfl) rfl dL_play_3 [(⟨0, 8, 11, 13⟩ : ExceptionTableEntry)] (⟨0, 8, 14, 15⟩ : ExceptionTableEntry) [] (nm := "java/lang/IllegalStateException") rfl (by decide) (fun z hz => by cases List.mem_singleton.mp hz; exact Or.inr ⟨by decide, "java/lang/IllegalArgumentException", ckL_13, by decide⟩) (by decide) (by decide) ckL_15 ca_IllegalStateException 2 14 rfl (Or.inr ⟨2, rfl, dL_play_14, rfl⟩) (by decide) (jo_ok (fun v q => by have q2 : (some (some (.ref 114)) : Option (Option Value)) = some (some v) := q; cases q2; decide))
        (E_iconst (v := 2) dL_play_15 (by decide) (E_iret rfl dL_play_16))
  · skip
    refine P_l (fun hJ _ _ q => E_i2l dL_play_6 q) ?_
    refine P_w (fun hJ _ _ q => E_last dL_play_7 (kd114 hJ.1.1) (inB_vp (by decide)) q) (fun hJ => Sy_wL hJ.1) rfl rfl rfl (fun σ6 hσ6 => ?_)
    refine P_l (fun hJ _ _ q => E_goto 17 dL_play_8 (by decide) (E_iconst (v := 0) dL_play_17 (by decide) q)) ?_
    exact P_ret (fun _ _ => E_iret rfl dL_play_18)
def f_L_cuts (σ : rS) (p1 : Int32) : Option (Int32 × rS) := oBc (f_X10_cuts σ p1) [("java/lang/IllegalArgumentException", 1)] fun v1 σ1 => oLet (wL σ1 114 (0 : Int32).toNatClampNeg (((v1 : Int32)).toInt64)) fun σ6 => some ((0, σ6))
set_option maxRecDepth 20000 in
theorem ok_L_cuts {σ : rS} {p1 : Int32} : rFnH Sy yL_cuts mL_cuts hL_cuts 7 [.ref 3, .int p1, .ref 114] σ 1 6 (f_L_cuts σ p1) := by
  refine rFnH_of (ls := [some (.ref 3), some (.int p1), some (.ref 114), none]) yfL_cuts rfl (Nat.le_of_ble_eq_true rfl) (fun o τ => ?_)
  unfold f_L_cuts
  refine P_l (fun hJ _ _ q => E_aload_n dL_cuts_0 rfl (E_iconst (v := 0) dL_cuts_1 (by decide) (E_aload_n dL_cuts_2 rfl (E_iload_n dL_cuts_3 rfl q)))) ?_
  refine P_callc (t2 := fun v => some (.int v)) (st2 := fun v => .int v :: [.int 0, .ref 114]) (kc2 := 0) (ks2 := 0) (fun hJ => (ok_X10_cuts (σ := σ) (p1 := p1) )) (fun hJ _ _ _ _ v τ1 hM q => E_callV (as := [.int p1]) (b := 3) (st := [.int 0, .ref 114]) hM (by decide) yfX10_cuts mlL_58 imX10_cuts seX10_cuts clX10 (kd3 hJ.1.1) rfl (Nat.le_of_ble_eq_true rfl) rfl dL_cuts_4 q) (fun hJ e c hl kc ks mc ms τ1 hM => ?_) (by decide) (by decide) (fun v1 σ1 => ?_)
  · obtain ⟨rfl, rfl⟩ := look1 hl
    exact E_callVc (M := mL_cuts) (pc := 4) (k := 7) (as := [.int p1]) (b := 3) (st := [.int 0, .ref 114]) hM (by decide) yfX10_cuts mlL_58 imX10_cuts seX10_cuts clX10 (kd3 hJ.1.1) rfl (Nat.le_of_ble_eq_true rfl) rfl dL_cuts_4 [] (⟨0, 9, 12, 13⟩ : ExceptionTableEntry) [] (nm := "java/lang/IllegalArgumentException") rfl (by decide) (fun z hz => absurd hz List.not_mem_nil) (by decide) (by decide) ckL_13 ca_IllegalArgumentException 3 12 rfl (Or.inr ⟨3, rfl, dL_cuts_12, rfl⟩) (by decide) (jo_ok (fun v q => by have q2 : (some (some (.ref 114)) : Option (Option Value)) = some (some v) := q; cases q2; decide))
      (E_iconst (v := 1) dL_cuts_13 (by decide) (E_iret rfl dL_cuts_14))
  · skip
    refine P_l (fun hJ _ _ q => E_i2l dL_cuts_7 q) ?_
    refine P_w (fun hJ _ _ q => E_last dL_cuts_8 (kd114 hJ.1.1) (inB_vp (by decide)) q) (fun hJ => Sy_wL hJ.1) rfl rfl rfl (fun σ6 hσ6 => ?_)
    refine P_l (fun hJ _ _ q => E_goto 15 dL_cuts_9 (by decide) (E_iconst (v := 0) dL_cuts_15 (by decide) q)) ?_
    exact P_ret (fun _ _ => E_iret rfl dL_cuts_16)
def f_L_cutsAnew (σ : rS) : Option (Int32 × rS) := oBc (f_X10_cutsAnew σ) [("java/lang/IllegalStateException", 1)] fun v1 σ1 => oLet (wL σ1 114 (0 : Int32).toNatClampNeg (((v1 : Int32)).toInt64)) fun σ6 => some ((0, σ6))
set_option maxRecDepth 20000 in
theorem ok_L_cutsAnew {σ : rS} : rFnH Sy yL_cutsAnew mL_cutsAnew hL_cutsAnew 24 [.ref 3, .ref 114] σ 1 6 (f_L_cutsAnew σ) := by
  refine rFnH_of (ls := [some (.ref 3), some (.ref 114), none]) yfL_cutsAnew rfl (Nat.le_of_ble_eq_true rfl) (fun o τ => ?_)
  unfold f_L_cutsAnew
  refine P_l (fun hJ _ _ q => E_aload_n dL_cutsAnew_0 rfl (E_iconst (v := 0) dL_cutsAnew_1 (by decide) (E_aload_n dL_cutsAnew_2 rfl q))) ?_
  refine P_callc (t2 := fun v => some (.int v)) (st2 := fun v => .int v :: [.int 0, .ref 114]) (kc2 := 0) (ks2 := 0) (fun hJ => (ok_X10_cutsAnew (σ := σ)  )) (fun hJ _ _ _ _ v τ1 hM q => E_callV (as := []) (b := 3) (st := [.int 0, .ref 114]) hM (by decide) yfX10_cutsAnew mlL_61 imX10_cutsAnew seX10_cutsAnew clX10 (kd3 hJ.1.1) rfl (Nat.le_of_ble_eq_true rfl) rfl dL_cutsAnew_3 q) (fun hJ e c hl kc ks mc ms τ1 hM => ?_) (by decide) (by decide) (fun v1 σ1 => ?_)
  · obtain ⟨rfl, rfl⟩ := look1 hl
    exact E_callVc (M := mL_cutsAnew) (pc := 3) (k := 24) (as := []) (b := 3) (st := [.int 0, .ref 114]) hM (by decide) yfX10_cutsAnew mlL_61 imX10_cutsAnew seX10_cutsAnew clX10 (kd3 hJ.1.1) rfl (Nat.le_of_ble_eq_true rfl) rfl dL_cutsAnew_3 [] (⟨0, 8, 11, 15⟩ : ExceptionTableEntry) [] (nm := "java/lang/IllegalStateException") rfl (by decide) (fun z hz => absurd hz List.not_mem_nil) (by decide) (by decide) ckL_15 ca_IllegalStateException 2 11 rfl (Or.inr ⟨2, rfl, dL_cutsAnew_11, rfl⟩) (by decide) (jo_ok (fun v q => by have q2 : (some (some (.ref 114)) : Option (Option Value)) = some (some v) := q; cases q2; decide))
      (E_iconst (v := 1) dL_cutsAnew_12 (by decide) (E_iret rfl dL_cutsAnew_13))
  · skip
    refine P_l (fun hJ _ _ q => E_i2l dL_cutsAnew_6 q) ?_
    refine P_w (fun hJ _ _ q => E_last dL_cutsAnew_7 (kd114 hJ.1.1) (inB_vp (by decide)) q) (fun hJ => Sy_wL hJ.1) rfl rfl rfl (fun σ6 hσ6 => ?_)
    refine P_l (fun hJ _ _ q => E_goto 14 dL_cutsAnew_8 (by decide) (E_iconst (v := 0) dL_cutsAnew_14 (by decide) q)) ?_
    exact P_ret (fun _ _ => E_iret rfl dL_cutsAnew_15)
def f_L_states (σ : rS) (p1 : Int32) : Option (Int32 × rS) := oBc (f_X10_states σ p1) [("java/lang/IllegalArgumentException", 1)] fun v1 σ1 => oLet (wL σ1 114 (0 : Int32).toNatClampNeg (((v1 : Int32)).toInt64)) fun σ6 => some ((0, σ6))
set_option maxRecDepth 20000 in
theorem ok_L_states {σ : rS} {p1 : Int32} : rFnH Sy yL_states mL_states hL_states 7 [.ref 3, .int p1, .ref 114] σ 1 6 (f_L_states σ p1) := by
  refine rFnH_of (ls := [some (.ref 3), some (.int p1), some (.ref 114), none]) yfL_states rfl (Nat.le_of_ble_eq_true rfl) (fun o τ => ?_)
  unfold f_L_states
  refine P_l (fun hJ _ _ q => E_aload_n dL_states_0 rfl (E_iconst (v := 0) dL_states_1 (by decide) (E_aload_n dL_states_2 rfl (E_iload_n dL_states_3 rfl q)))) ?_
  refine P_callc (t2 := fun v => some (.int v)) (st2 := fun v => .int v :: [.int 0, .ref 114]) (kc2 := 0) (ks2 := 0) (fun hJ => (ok_X10_states (σ := σ) (p1 := p1) )) (fun hJ _ _ _ _ v τ1 hM q => E_callV (as := [.int p1]) (b := 3) (st := [.int 0, .ref 114]) hM (by decide) yfX10_states mlL_64 imX10_states seX10_states clX10 (kd3 hJ.1.1) rfl (Nat.le_of_ble_eq_true rfl) rfl dL_states_4 q) (fun hJ e c hl kc ks mc ms τ1 hM => ?_) (by decide) (by decide) (fun v1 σ1 => ?_)
  · obtain ⟨rfl, rfl⟩ := look1 hl
    exact E_callVc (M := mL_states) (pc := 4) (k := 7) (as := [.int p1]) (b := 3) (st := [.int 0, .ref 114]) hM (by decide) yfX10_states mlL_64 imX10_states seX10_states clX10 (kd3 hJ.1.1) rfl (Nat.le_of_ble_eq_true rfl) rfl dL_states_4 [] (⟨0, 9, 12, 13⟩ : ExceptionTableEntry) [] (nm := "java/lang/IllegalArgumentException") rfl (by decide) (fun z hz => absurd hz List.not_mem_nil) (by decide) (by decide) ckL_13 ca_IllegalArgumentException 3 12 rfl (Or.inr ⟨3, rfl, dL_states_12, rfl⟩) (by decide) (jo_ok (fun v q => by have q2 : (some (some (.ref 114)) : Option (Option Value)) = some (some v) := q; cases q2; decide))
      (E_iconst (v := 1) dL_states_13 (by decide) (E_iret rfl dL_states_14))
  · skip
    refine P_l (fun hJ _ _ q => E_i2l dL_states_7 q) ?_
    refine P_w (fun hJ _ _ q => E_last dL_states_8 (kd114 hJ.1.1) (inB_vp (by decide)) q) (fun hJ => Sy_wL hJ.1) rfl rfl rfl (fun σ6 hσ6 => ?_)
    refine P_l (fun hJ _ _ q => E_goto 15 dL_states_9 (by decide) (E_iconst (v := 0) dL_states_15 (by decide) q)) ?_
    exact P_ret (fun _ _ => E_iret rfl dL_states_16)
def f_L_best (σ : rS) (p1 : Int32) (p2 : Int32) : Option (Int32 × rS) := oBc (f_X10_best σ p1 p2) [("java/lang/IndexOutOfBoundsException", 1), ("java/lang/IllegalArgumentException", 2)] fun v1 σ1 => oLet (wL σ1 114 (0 : Int32).toNatClampNeg (((v1 : Int32)).toInt64)) fun σ6 => some ((0, σ6))
set_option maxRecDepth 20000 in
theorem ok_L_best {σ : rS} {p1 : Int32} {p2 : Int32} : rFnH Sy yL_best mL_best hL_best 8 [.ref 3, .int p1, .int p2, .ref 114] σ 2 12 (f_L_best σ p1 p2) := by
  refine rFnH_of (ls := [some (.ref 3), some (.int p1), some (.int p2), some (.ref 114), none]) yfL_best rfl (Nat.le_of_ble_eq_true rfl) (fun o τ => ?_)
  unfold f_L_best
  refine P_l (fun hJ _ _ q => E_aload_n dL_best_0 rfl (E_iconst (v := 0) dL_best_1 (by decide) (E_aload_n dL_best_2 rfl (E_iload_n dL_best_3 rfl (E_iload_n dL_best_4 rfl q))))) ?_
  refine P_callc (t2 := fun v => some (.int v)) (st2 := fun v => .int v :: [.int 0, .ref 114]) (kc2 := 0) (ks2 := 0) (fun hJ => (ok_X10_best (σ := σ) (p1 := p1) (p2 := p2) )) (fun hJ _ _ _ _ v τ1 hM q => E_callV (as := [.int p1, .int p2]) (b := 3) (st := [.int 0, .ref 114]) hM (by decide) yfX10_best mlL_67 imX10_best seX10_best clX10 (kd3 hJ.1.1) rfl (Nat.le_of_ble_eq_true rfl) rfl dL_best_5 q) (fun hJ e c hl kc ks mc ms τ1 hM => ?_) (by decide) (by decide) (fun v1 σ1 => ?_)
  · rcases look2 hl with ⟨rfl, rfl⟩ | ⟨rfl, rfl⟩
    · exact E_callVc (M := mL_best) (pc := 5) (k := 8) (as := [.int p1, .int p2]) (b := 3) (st := [.int 0, .ref 114]) hM (by decide) yfX10_best mlL_67 imX10_best seX10_best clX10 (kd3 hJ.1.1) rfl (Nat.le_of_ble_eq_true rfl) rfl dL_best_5 [] (⟨0, 10, 13, 70⟩ : ExceptionTableEntry) [(⟨0, 10, 17, 13⟩ : ExceptionTableEntry)] (nm := "java/lang/IndexOutOfBoundsException") rfl (by decide) (fun z hz => absurd hz List.not_mem_nil) (by decide) (by decide) ckL_70 ca_IndexOutOfBoundsException 4 13 rfl (Or.inl ⟨dL_best_13, rfl⟩) (by decide) (jo_ok (fun v q => by have q2 : (some (some (.ref 114)) : Option (Option Value)) = some (some v) := q; cases q2; decide))
        (E_iconst (v := 1) dL_best_15 (by decide) (E_iret rfl dL_best_16))
    · exact E_callVc (M := mL_best) (pc := 5) (k := 8) (as := [.int p1, .int p2]) (b := 3) (st := [.int 0, .ref 114]) hM (by decide) yfX10_best mlL_67 imX10_best seX10_best clX10 (kd3 hJ.1.1) rfl (Nat.le_of_ble_eq_true rfl) rfl dL_best_5 [(⟨0, 10, 13, 70⟩ : ExceptionTableEntry)] (⟨0, 10, 17, 13⟩ : ExceptionTableEntry) [] (nm := "java/lang/IllegalArgumentException") rfl (by decide) (fun z hz => by cases List.mem_singleton.mp hz; exact Or.inr ⟨by decide, "java/lang/IndexOutOfBoundsException", ckL_70, by decide⟩) (by decide) (by decide) ckL_13 ca_IllegalArgumentException 4 17 rfl (Or.inl ⟨dL_best_17, rfl⟩) (by decide) (jo_ok (fun v q => by have q2 : (some (some (.ref 114)) : Option (Option Value)) = some (some v) := q; cases q2; decide))
        (E_iconst (v := 2) dL_best_19 (by decide) (E_iret rfl dL_best_20))
  · skip
    refine P_l (fun hJ _ _ q => E_i2l dL_best_8 q) ?_
    refine P_w (fun hJ _ _ q => E_last dL_best_9 (kd114 hJ.1.1) (inB_vp (by decide)) q) (fun hJ => Sy_wL hJ.1) rfl rfl rfl (fun σ6 hσ6 => ?_)
    refine P_l (fun hJ _ _ q => E_goto 21 dL_best_10 (by decide) (E_iconst (v := 0) dL_best_21 (by decide) q)) ?_
    exact P_ret (fun _ _ => E_iret rfl dL_best_22)
def f_L_plan (σ : rS) (p1 : Int32) (p2 : Int32) : Option (Int32 × rS) := oBc (f_X10_plan σ p1 p2) [("java/lang/IndexOutOfBoundsException", 1), ("java/lang/IllegalArgumentException", 2)] fun v1 σ1 => oLet (wL σ1 114 (0 : Int32).toNatClampNeg (((v1 : Int32)).toInt64)) fun σ6 => some ((0, σ6))
set_option maxRecDepth 20000 in
theorem ok_L_plan {σ : rS} {p1 : Int32} {p2 : Int32} : rFnH Sy yL_plan mL_plan hL_plan 8 [.ref 3, .int p1, .int p2, .ref 114] σ 2 12 (f_L_plan σ p1 p2) := by
  refine rFnH_of (ls := [some (.ref 3), some (.int p1), some (.int p2), some (.ref 114), none]) yfL_plan rfl (Nat.le_of_ble_eq_true rfl) (fun o τ => ?_)
  unfold f_L_plan
  refine P_l (fun hJ _ _ q => E_aload_n dL_plan_0 rfl (E_iconst (v := 0) dL_plan_1 (by decide) (E_aload_n dL_plan_2 rfl (E_iload_n dL_plan_3 rfl (E_iload_n dL_plan_4 rfl q))))) ?_
  refine P_callc (t2 := fun v => some (.int v)) (st2 := fun v => .int v :: [.int 0, .ref 114]) (kc2 := 0) (ks2 := 0) (fun hJ => (ok_X10_plan (σ := σ) (p1 := p1) (p2 := p2) )) (fun hJ _ _ _ _ v τ1 hM q => E_callV (as := [.int p1, .int p2]) (b := 3) (st := [.int 0, .ref 114]) hM (by decide) yfX10_plan mlL_72 imX10_plan seX10_plan clX10 (kd3 hJ.1.1) rfl (Nat.le_of_ble_eq_true rfl) rfl dL_plan_5 q) (fun hJ e c hl kc ks mc ms τ1 hM => ?_) (by decide) (by decide) (fun v1 σ1 => ?_)
  · rcases look2 hl with ⟨rfl, rfl⟩ | ⟨rfl, rfl⟩
    · exact E_callVc (M := mL_plan) (pc := 5) (k := 8) (as := [.int p1, .int p2]) (b := 3) (st := [.int 0, .ref 114]) hM (by decide) yfX10_plan mlL_72 imX10_plan seX10_plan clX10 (kd3 hJ.1.1) rfl (Nat.le_of_ble_eq_true rfl) rfl dL_plan_5 [] (⟨0, 10, 13, 70⟩ : ExceptionTableEntry) [(⟨0, 10, 17, 13⟩ : ExceptionTableEntry)] (nm := "java/lang/IndexOutOfBoundsException") rfl (by decide) (fun z hz => absurd hz List.not_mem_nil) (by decide) (by decide) ckL_70 ca_IndexOutOfBoundsException 4 13 rfl (Or.inl ⟨dL_plan_13, rfl⟩) (by decide) (jo_ok (fun v q => by have q2 : (some (some (.ref 114)) : Option (Option Value)) = some (some v) := q; cases q2; decide))
        (E_iconst (v := 1) dL_plan_15 (by decide) (E_iret rfl dL_plan_16))
    · exact E_callVc (M := mL_plan) (pc := 5) (k := 8) (as := [.int p1, .int p2]) (b := 3) (st := [.int 0, .ref 114]) hM (by decide) yfX10_plan mlL_72 imX10_plan seX10_plan clX10 (kd3 hJ.1.1) rfl (Nat.le_of_ble_eq_true rfl) rfl dL_plan_5 [(⟨0, 10, 13, 70⟩ : ExceptionTableEntry)] (⟨0, 10, 17, 13⟩ : ExceptionTableEntry) [] (nm := "java/lang/IllegalArgumentException") rfl (by decide) (fun z hz => by cases List.mem_singleton.mp hz; exact Or.inr ⟨by decide, "java/lang/IndexOutOfBoundsException", ckL_70, by decide⟩) (by decide) (by decide) ckL_13 ca_IllegalArgumentException 4 17 rfl (Or.inl ⟨dL_plan_17, rfl⟩) (by decide) (jo_ok (fun v q => by have q2 : (some (some (.ref 114)) : Option (Option Value)) = some (some v) := q; cases q2; decide))
        (E_iconst (v := 2) dL_plan_19 (by decide) (E_iret rfl dL_plan_20))
  · skip
    refine P_l (fun hJ _ _ q => E_i2l dL_plan_8 q) ?_
    refine P_w (fun hJ _ _ q => E_last dL_plan_9 (kd114 hJ.1.1) (inB_vp (by decide)) q) (fun hJ => Sy_wL hJ.1) rfl rfl rfl (fun σ6 hσ6 => ?_)
    refine P_l (fun hJ _ _ q => E_goto 21 dL_plan_10 (by decide) (E_iconst (v := 0) dL_plan_21 (by decide) q)) ?_
    exact P_ret (fun _ _ => E_iret rfl dL_plan_22)
def f_L_alone (σ : rS) (p1 : Int32) : Option (Int32 × rS) := oBc (f_X10_alone σ p1) [("java/lang/IllegalArgumentException", 1)] fun v1 σ1 => oLet (wL σ1 114 (0 : Int32).toNatClampNeg ((if v1 = 0 then (0 : Int64) else (1 : Int64) : Int64))) fun σ6 => some ((0, σ6))
set_option maxRecDepth 20000 in
theorem ok_L_alone {σ : rS} {p1 : Int32} : rFnH Sy yL_alone mL_alone hL_alone 8 [.ref 3, .int p1, .ref 114] σ 1 6 (f_L_alone σ p1) := by
  refine rFnH_of (ls := [some (.ref 3), some (.int p1), some (.ref 114), none]) yfL_alone rfl (Nat.le_of_ble_eq_true rfl) (fun o τ => ?_)
  unfold f_L_alone
  refine P_l (fun hJ _ _ q => E_aload_n dL_alone_0 rfl (E_iconst (v := 0) dL_alone_1 (by decide) (E_aload_n dL_alone_2 rfl (E_iload_n dL_alone_3 rfl q)))) ?_
  refine P_callc (t2 := fun v => some (.int v)) (st2 := fun v => .int v :: [.int 0, .ref 114]) (kc2 := 0) (ks2 := 0) (fun hJ => (ok_X10_alone (σ := σ) (p1 := p1) )) (fun hJ _ _ _ _ v τ1 hM q => E_callV (as := [.int p1]) (b := 3) (st := [.int 0, .ref 114]) hM (by decide) yfX10_alone mlL_75 imX10_alone seX10_alone clX10 (kd3 hJ.1.1) rfl (Nat.le_of_ble_eq_true rfl) rfl dL_alone_4 q) (fun hJ e c hl kc ks mc ms τ1 hM => ?_) (by decide) (by decide) (fun v1 σ1 => ?_)
  · obtain ⟨rfl, rfl⟩ := look1 hl
    exact E_callVc (M := mL_alone) (pc := 4) (k := 8) (as := [.int p1]) (b := 3) (st := [.int 0, .ref 114]) hM (by decide) yfX10_alone mlL_75 imX10_alone seX10_alone clX10 (kd3 hJ.1.1) rfl (Nat.le_of_ble_eq_true rfl) rfl dL_alone_4 [] (⟨0, 16, 19, 13⟩ : ExceptionTableEntry) [] (nm := "java/lang/IllegalArgumentException") rfl (by decide) (fun z hz => absurd hz List.not_mem_nil) (by decide) (by decide) ckL_13 ca_IllegalArgumentException 3 19 rfl (Or.inr ⟨3, rfl, dL_alone_19, rfl⟩) (by decide) (jo_ok (fun v q => by have q2 : (some (some (.ref 114)) : Option (Option Value)) = some (some v) := q; cases q2; decide))
      (E_iconst (v := 1) dL_alone_20 (by decide) (E_iret rfl dL_alone_21))
  · skip
    refine P_l (pc2 := 15) (ls2 := [none, none, none, none]) (st2 := [.long ((if v1 = 0 then (0 : Int64) else (1 : Int64) : Int64)), .int 0, .ref 114]) (fun hJ _ _ hq => ?_) ?_
    · skip
      refine E_if_eq 14 dL_alone_7 (by decide) (fun c_7_0 => ?_) (fun c_7_0 => ?_)
      · skip
        refine E_lconst (v := 0) dL_alone_14 (by decide) ?_
        simp only [if_pos c_7_0] at hq
        exact E_less (ls2 := [none, none, none, none]) hq (rLe_at [none, none, none, none] [some (.ref 3), some (.int p1), some (.ref 114), none] trivial)
      · skip
        refine E_lconst (v := 1) dL_alone_10 (by decide) ?_
        refine E_goto 15 dL_alone_11 (by decide) ?_
        simp only [if_neg c_7_0] at hq
        exact E_less (ls2 := [none, none, none, none]) hq (rLe_at [none, none, none, none] [some (.ref 3), some (.int p1), some (.ref 114), none] trivial)
    · skip
      refine P_w (fun hJ _ _ q => E_last dL_alone_15 (kd114 hJ.1.1) (inB_vp (by decide)) q) (fun hJ => Sy_wL hJ.1) rfl rfl rfl (fun σ6 hσ6 => ?_)
      refine P_l (fun hJ _ _ q => E_goto 22 dL_alone_16 (by decide) (E_iconst (v := 0) dL_alone_22 (by decide) q)) ?_
      exact P_ret (fun _ _ => E_iret rfl dL_alone_23)
def f_L_chance (σ : rS) (p1 : Int32) (p2 : Int32) (p3 : Int32) : Option (Int32 × rS) := oBc (f_X10_chance σ p1 p2 p3) [("java/lang/IndexOutOfBoundsException", 1), ("java/lang/IllegalArgumentException", 2)] fun v1 σ1 => oLet (wL σ1 114 (0 : Int32).toNatClampNeg (((v1 : Int32)).toInt64)) fun σ6 => some ((0, σ6))
set_option maxRecDepth 20000 in
theorem ok_L_chance {σ : rS} {p1 : Int32} {p2 : Int32} {p3 : Int32} : rFnH Sy yL_chance mL_chance hL_chance 8 [.ref 3, .int p1, .int p2, .int p3, .ref 114] σ 4 24 (f_L_chance σ p1 p2 p3) := by
  refine rFnH_of (ls := [some (.ref 3), some (.int p1), some (.int p2), some (.int p3), some (.ref 114), none]) yfL_chance rfl (Nat.le_of_ble_eq_true rfl) (fun o τ => ?_)
  unfold f_L_chance
  refine P_l (fun hJ _ _ q => E_aload dL_chance_0 rfl (E_iconst (v := 0) dL_chance_2 (by decide) (E_aload_n dL_chance_3 rfl (E_iload_n dL_chance_4 rfl (E_iload_n dL_chance_5 rfl (E_iload_n dL_chance_6 rfl q)))))) ?_
  refine P_callc (t2 := fun v => some (.int v)) (st2 := fun v => .int v :: [.int 0, .ref 114]) (kc2 := 0) (ks2 := 0) (fun hJ => (ok_X10_chance (σ := σ) (p1 := p1) (p2 := p2) (p3 := p3) )) (fun hJ _ _ _ _ v τ1 hM q => E_callV (as := [.int p1, .int p2, .int p3]) (b := 3) (st := [.int 0, .ref 114]) hM (by decide) yfX10_chance mlL_79 imX10_chance seX10_chance clX10 (kd3 hJ.1.1) rfl (Nat.le_of_ble_eq_true rfl) rfl dL_chance_7 q) (fun hJ e c hl kc ks mc ms τ1 hM => ?_) (by decide) (by decide) (fun v1 σ1 => ?_)
  · rcases look2 hl with ⟨rfl, rfl⟩ | ⟨rfl, rfl⟩
    · exact E_callVc (M := mL_chance) (pc := 7) (k := 8) (as := [.int p1, .int p2, .int p3]) (b := 3) (st := [.int 0, .ref 114]) hM (by decide) yfX10_chance mlL_79 imX10_chance seX10_chance clX10 (kd3 hJ.1.1) rfl (Nat.le_of_ble_eq_true rfl) rfl dL_chance_7 [] (⟨0, 12, 15, 70⟩ : ExceptionTableEntry) [(⟨0, 12, 19, 13⟩ : ExceptionTableEntry)] (nm := "java/lang/IndexOutOfBoundsException") rfl (by decide) (fun z hz => absurd hz List.not_mem_nil) (by decide) (by decide) ckL_70 ca_IndexOutOfBoundsException 5 15 rfl (Or.inl ⟨dL_chance_15, rfl⟩) (by decide) (jo_ok (fun v q => by have q2 : (some (some (.ref 114)) : Option (Option Value)) = some (some v) := q; cases q2; decide))
        (E_iconst (v := 1) dL_chance_17 (by decide) (E_iret rfl dL_chance_18))
    · exact E_callVc (M := mL_chance) (pc := 7) (k := 8) (as := [.int p1, .int p2, .int p3]) (b := 3) (st := [.int 0, .ref 114]) hM (by decide) yfX10_chance mlL_79 imX10_chance seX10_chance clX10 (kd3 hJ.1.1) rfl (Nat.le_of_ble_eq_true rfl) rfl dL_chance_7 [(⟨0, 12, 15, 70⟩ : ExceptionTableEntry)] (⟨0, 12, 19, 13⟩ : ExceptionTableEntry) [] (nm := "java/lang/IllegalArgumentException") rfl (by decide) (fun z hz => by cases List.mem_singleton.mp hz; exact Or.inr ⟨by decide, "java/lang/IndexOutOfBoundsException", ckL_70, by decide⟩) (by decide) (by decide) ckL_13 ca_IllegalArgumentException 5 19 rfl (Or.inl ⟨dL_chance_19, rfl⟩) (by decide) (jo_ok (fun v q => by have q2 : (some (some (.ref 114)) : Option (Option Value)) = some (some v) := q; cases q2; decide))
        (E_iconst (v := 2) dL_chance_21 (by decide) (E_iret rfl dL_chance_22))
  · skip
    refine P_l (fun hJ _ _ q => E_i2l dL_chance_10 q) ?_
    refine P_w (fun hJ _ _ q => E_last dL_chance_11 (kd114 hJ.1.1) (inB_vp (by decide)) q) (fun hJ => Sy_wL hJ.1) rfl rfl rfl (fun σ6 hσ6 => ?_)
    refine P_l (fun hJ _ _ q => E_goto 23 dL_chance_12 (by decide) (E_iconst (v := 0) dL_chance_23 (by decide) q)) ?_
    exact P_ret (fun _ _ => E_iret rfl dL_chance_24)
def f_L_passed (σ : rS) (p1 : Int32) (p2 : Int32) : Option (Int32 × rS) := oBc (f_X10_passed σ p1 p2) [("java/lang/IndexOutOfBoundsException", 1), ("java/lang/IllegalArgumentException", 2)] fun v1 σ1 => oLet (wL σ1 114 (0 : Int32).toNatClampNeg ((if v1 = 0 then (0 : Int64) else (1 : Int64) : Int64))) fun σ6 => some ((0, σ6))
set_option maxRecDepth 20000 in
theorem ok_L_passed {σ : rS} {p1 : Int32} {p2 : Int32} : rFnH Sy yL_passed mL_passed hL_passed 8 [.ref 3, .int p1, .int p2, .ref 114] σ 2 12 (f_L_passed σ p1 p2) := by
  refine rFnH_of (ls := [some (.ref 3), some (.int p1), some (.int p2), some (.ref 114), none]) yfL_passed rfl (Nat.le_of_ble_eq_true rfl) (fun o τ => ?_)
  unfold f_L_passed
  refine P_l (fun hJ _ _ q => E_aload_n dL_passed_0 rfl (E_iconst (v := 0) dL_passed_1 (by decide) (E_aload_n dL_passed_2 rfl (E_iload_n dL_passed_3 rfl (E_iload_n dL_passed_4 rfl q))))) ?_
  refine P_callc (t2 := fun v => some (.int v)) (st2 := fun v => .int v :: [.int 0, .ref 114]) (kc2 := 0) (ks2 := 0) (fun hJ => (ok_X10_passed (σ := σ) (p1 := p1) (p2 := p2) )) (fun hJ _ _ _ _ v τ1 hM q => E_callV (as := [.int p1, .int p2]) (b := 3) (st := [.int 0, .ref 114]) hM (by decide) yfX10_passed mlL_82 imX10_passed seX10_passed clX10 (kd3 hJ.1.1) rfl (Nat.le_of_ble_eq_true rfl) rfl dL_passed_5 q) (fun hJ e c hl kc ks mc ms τ1 hM => ?_) (by decide) (by decide) (fun v1 σ1 => ?_)
  · rcases look2 hl with ⟨rfl, rfl⟩ | ⟨rfl, rfl⟩
    · exact E_callVc (M := mL_passed) (pc := 5) (k := 8) (as := [.int p1, .int p2]) (b := 3) (st := [.int 0, .ref 114]) hM (by decide) yfX10_passed mlL_82 imX10_passed seX10_passed clX10 (kd3 hJ.1.1) rfl (Nat.le_of_ble_eq_true rfl) rfl dL_passed_5 [] (⟨0, 17, 20, 70⟩ : ExceptionTableEntry) [(⟨0, 17, 24, 13⟩ : ExceptionTableEntry)] (nm := "java/lang/IndexOutOfBoundsException") rfl (by decide) (fun z hz => absurd hz List.not_mem_nil) (by decide) (by decide) ckL_70 ca_IndexOutOfBoundsException 4 20 rfl (Or.inl ⟨dL_passed_20, rfl⟩) (by decide) (jo_ok (fun v q => by have q2 : (some (some (.ref 114)) : Option (Option Value)) = some (some v) := q; cases q2; decide))
        (E_iconst (v := 1) dL_passed_22 (by decide) (E_iret rfl dL_passed_23))
    · exact E_callVc (M := mL_passed) (pc := 5) (k := 8) (as := [.int p1, .int p2]) (b := 3) (st := [.int 0, .ref 114]) hM (by decide) yfX10_passed mlL_82 imX10_passed seX10_passed clX10 (kd3 hJ.1.1) rfl (Nat.le_of_ble_eq_true rfl) rfl dL_passed_5 [(⟨0, 17, 20, 70⟩ : ExceptionTableEntry)] (⟨0, 17, 24, 13⟩ : ExceptionTableEntry) [] (nm := "java/lang/IllegalArgumentException") rfl (by decide) (fun z hz => by cases List.mem_singleton.mp hz; exact Or.inr ⟨by decide, "java/lang/IndexOutOfBoundsException", ckL_70, by decide⟩) (by decide) (by decide) ckL_13 ca_IllegalArgumentException 4 24 rfl (Or.inl ⟨dL_passed_24, rfl⟩) (by decide) (jo_ok (fun v q => by have q2 : (some (some (.ref 114)) : Option (Option Value)) = some (some v) := q; cases q2; decide))
        (E_iconst (v := 2) dL_passed_26 (by decide) (E_iret rfl dL_passed_27))
  · skip
    refine P_l (pc2 := 16) (ls2 := [none, none, none, none, none]) (st2 := [.long ((if v1 = 0 then (0 : Int64) else (1 : Int64) : Int64)), .int 0, .ref 114]) (fun hJ _ _ hq => ?_) ?_
    · skip
      refine E_if_eq 15 dL_passed_8 (by decide) (fun c_8_0 => ?_) (fun c_8_0 => ?_)
      · skip
        refine E_lconst (v := 0) dL_passed_15 (by decide) ?_
        simp only [if_pos c_8_0] at hq
        exact E_less (ls2 := [none, none, none, none, none]) hq (rLe_at [none, none, none, none, none] [some (.ref 3), some (.int p1), some (.int p2), some (.ref 114), none] trivial)
      · skip
        refine E_lconst (v := 1) dL_passed_11 (by decide) ?_
        refine E_goto 16 dL_passed_12 (by decide) ?_
        simp only [if_neg c_8_0] at hq
        exact E_less (ls2 := [none, none, none, none, none]) hq (rLe_at [none, none, none, none, none] [some (.ref 3), some (.int p1), some (.int p2), some (.ref 114), none] trivial)
    · skip
      refine P_w (fun hJ _ _ q => E_last dL_passed_16 (kd114 hJ.1.1) (inB_vp (by decide)) q) (fun hJ => Sy_wL hJ.1) rfl rfl rfl (fun σ6 hσ6 => ?_)
      refine P_l (fun hJ _ _ q => E_goto 28 dL_passed_17 (by decide) (E_iconst (v := 0) dL_passed_28 (by decide) q)) ?_
      exact P_ret (fun _ _ => E_iret rfl dL_passed_29)
def f_L_claim (σ : rS) (p1 : Int32) (p2 : Int32) (p3 : Int32) : Option (Int32 × rS) := oBc (f_X10_claim σ p1 p2 p3) [("java/lang/IndexOutOfBoundsException", 1), ("java/lang/IllegalArgumentException", 2)] fun v1 σ1 => oLet (wL σ1 114 (0 : Int32).toNatClampNeg (((v1 : Int32)).toInt64)) fun σ6 => some ((0, σ6))
set_option maxRecDepth 20000 in
theorem ok_L_claim {σ : rS} {p1 : Int32} {p2 : Int32} {p3 : Int32} : rFnH Sy yL_claim mL_claim hL_claim 8 [.ref 3, .int p1, .int p2, .int p3, .ref 114] σ 3 18 (f_L_claim σ p1 p2 p3) := by
  refine rFnH_of (ls := [some (.ref 3), some (.int p1), some (.int p2), some (.int p3), some (.ref 114), none]) yfL_claim rfl (Nat.le_of_ble_eq_true rfl) (fun o τ => ?_)
  unfold f_L_claim
  refine P_l (fun hJ _ _ q => E_aload dL_claim_0 rfl (E_iconst (v := 0) dL_claim_2 (by decide) (E_aload_n dL_claim_3 rfl (E_iload_n dL_claim_4 rfl (E_iload_n dL_claim_5 rfl (E_iload_n dL_claim_6 rfl q)))))) ?_
  refine P_callc (t2 := fun v => some (.int v)) (st2 := fun v => .int v :: [.int 0, .ref 114]) (kc2 := 0) (ks2 := 0) (fun hJ => (ok_X10_claim (σ := σ) (p1 := p1) (p2 := p2) (p3 := p3) )) (fun hJ _ _ _ _ v τ1 hM q => E_callV (as := [.int p1, .int p2, .int p3]) (b := 3) (st := [.int 0, .ref 114]) hM (by decide) yfX10_claim mlL_86 imX10_claim seX10_claim clX10 (kd3 hJ.1.1) rfl (Nat.le_of_ble_eq_true rfl) rfl dL_claim_7 q) (fun hJ e c hl kc ks mc ms τ1 hM => ?_) (by decide) (by decide) (fun v1 σ1 => ?_)
  · rcases look2 hl with ⟨rfl, rfl⟩ | ⟨rfl, rfl⟩
    · exact E_callVc (M := mL_claim) (pc := 7) (k := 8) (as := [.int p1, .int p2, .int p3]) (b := 3) (st := [.int 0, .ref 114]) hM (by decide) yfX10_claim mlL_86 imX10_claim seX10_claim clX10 (kd3 hJ.1.1) rfl (Nat.le_of_ble_eq_true rfl) rfl dL_claim_7 [] (⟨0, 12, 15, 70⟩ : ExceptionTableEntry) [(⟨0, 12, 19, 13⟩ : ExceptionTableEntry)] (nm := "java/lang/IndexOutOfBoundsException") rfl (by decide) (fun z hz => absurd hz List.not_mem_nil) (by decide) (by decide) ckL_70 ca_IndexOutOfBoundsException 5 15 rfl (Or.inl ⟨dL_claim_15, rfl⟩) (by decide) (jo_ok (fun v q => by have q2 : (some (some (.ref 114)) : Option (Option Value)) = some (some v) := q; cases q2; decide))
        (E_iconst (v := 1) dL_claim_17 (by decide) (E_iret rfl dL_claim_18))
    · exact E_callVc (M := mL_claim) (pc := 7) (k := 8) (as := [.int p1, .int p2, .int p3]) (b := 3) (st := [.int 0, .ref 114]) hM (by decide) yfX10_claim mlL_86 imX10_claim seX10_claim clX10 (kd3 hJ.1.1) rfl (Nat.le_of_ble_eq_true rfl) rfl dL_claim_7 [(⟨0, 12, 15, 70⟩ : ExceptionTableEntry)] (⟨0, 12, 19, 13⟩ : ExceptionTableEntry) [] (nm := "java/lang/IllegalArgumentException") rfl (by decide) (fun z hz => by cases List.mem_singleton.mp hz; exact Or.inr ⟨by decide, "java/lang/IndexOutOfBoundsException", ckL_70, by decide⟩) (by decide) (by decide) ckL_13 ca_IllegalArgumentException 5 19 rfl (Or.inl ⟨dL_claim_19, rfl⟩) (by decide) (jo_ok (fun v q => by have q2 : (some (some (.ref 114)) : Option (Option Value)) = some (some v) := q; cases q2; decide))
        (E_iconst (v := 2) dL_claim_21 (by decide) (E_iret rfl dL_claim_22))
  · skip
    refine P_l (fun hJ _ _ q => E_i2l dL_claim_10 q) ?_
    refine P_w (fun hJ _ _ q => E_last dL_claim_11 (kd114 hJ.1.1) (inB_vp (by decide)) q) (fun hJ => Sy_wL hJ.1) rfl rfl rfl (fun σ6 hσ6 => ?_)
    refine P_l (fun hJ _ _ q => E_goto 23 dL_claim_12 (by decide) (E_iconst (v := 0) dL_claim_23 (by decide) q)) ?_
    exact P_ret (fun _ _ => E_iret rfl dL_claim_24)
def f_L_rackIs (σ : rS) (p1 : Int32) (p2 : Int32) : Option (Int32 × rS) := oBc (f_X10_rackIs σ p1 p2) [("java/lang/IndexOutOfBoundsException", 1), ("java/lang/IllegalArgumentException", 2)] fun v1 σ1 => oLet (wL σ1 114 (0 : Int32).toNatClampNeg (((v1 : Int32)).toInt64)) fun σ6 => some ((0, σ6))
set_option maxRecDepth 20000 in
theorem ok_L_rackIs {σ : rS} {p1 : Int32} {p2 : Int32} : rFnH Sy yL_rackIs mL_rackIs hL_rackIs 8 [.ref 3, .int p1, .int p2, .ref 114] σ 2 12 (f_L_rackIs σ p1 p2) := by
  refine rFnH_of (ls := [some (.ref 3), some (.int p1), some (.int p2), some (.ref 114), none]) yfL_rackIs rfl (Nat.le_of_ble_eq_true rfl) (fun o τ => ?_)
  unfold f_L_rackIs
  refine P_l (fun hJ _ _ q => E_aload_n dL_rackIs_0 rfl (E_iconst (v := 0) dL_rackIs_1 (by decide) (E_aload_n dL_rackIs_2 rfl (E_iload_n dL_rackIs_3 rfl (E_iload_n dL_rackIs_4 rfl q))))) ?_
  refine P_callc (t2 := fun v => some (.int v)) (st2 := fun v => .int v :: [.int 0, .ref 114]) (kc2 := 0) (ks2 := 0) (fun hJ => (ok_X10_rackIs (σ := σ) (p1 := p1) (p2 := p2) )) (fun hJ _ _ _ _ v τ1 hM q => E_callV (as := [.int p1, .int p2]) (b := 3) (st := [.int 0, .ref 114]) hM (by decide) yfX10_rackIs mlL_89 imX10_rackIs seX10_rackIs clX10 (kd3 hJ.1.1) rfl (Nat.le_of_ble_eq_true rfl) rfl dL_rackIs_5 q) (fun hJ e c hl kc ks mc ms τ1 hM => ?_) (by decide) (by decide) (fun v1 σ1 => ?_)
  · rcases look2 hl with ⟨rfl, rfl⟩ | ⟨rfl, rfl⟩
    · exact E_callVc (M := mL_rackIs) (pc := 5) (k := 8) (as := [.int p1, .int p2]) (b := 3) (st := [.int 0, .ref 114]) hM (by decide) yfX10_rackIs mlL_89 imX10_rackIs seX10_rackIs clX10 (kd3 hJ.1.1) rfl (Nat.le_of_ble_eq_true rfl) rfl dL_rackIs_5 [] (⟨0, 10, 13, 70⟩ : ExceptionTableEntry) [(⟨0, 10, 17, 13⟩ : ExceptionTableEntry)] (nm := "java/lang/IndexOutOfBoundsException") rfl (by decide) (fun z hz => absurd hz List.not_mem_nil) (by decide) (by decide) ckL_70 ca_IndexOutOfBoundsException 4 13 rfl (Or.inl ⟨dL_rackIs_13, rfl⟩) (by decide) (jo_ok (fun v q => by have q2 : (some (some (.ref 114)) : Option (Option Value)) = some (some v) := q; cases q2; decide))
        (E_iconst (v := 1) dL_rackIs_15 (by decide) (E_iret rfl dL_rackIs_16))
    · exact E_callVc (M := mL_rackIs) (pc := 5) (k := 8) (as := [.int p1, .int p2]) (b := 3) (st := [.int 0, .ref 114]) hM (by decide) yfX10_rackIs mlL_89 imX10_rackIs seX10_rackIs clX10 (kd3 hJ.1.1) rfl (Nat.le_of_ble_eq_true rfl) rfl dL_rackIs_5 [(⟨0, 10, 13, 70⟩ : ExceptionTableEntry)] (⟨0, 10, 17, 13⟩ : ExceptionTableEntry) [] (nm := "java/lang/IllegalArgumentException") rfl (by decide) (fun z hz => by cases List.mem_singleton.mp hz; exact Or.inr ⟨by decide, "java/lang/IndexOutOfBoundsException", ckL_70, by decide⟩) (by decide) (by decide) ckL_13 ca_IllegalArgumentException 4 17 rfl (Or.inl ⟨dL_rackIs_17, rfl⟩) (by decide) (jo_ok (fun v q => by have q2 : (some (some (.ref 114)) : Option (Option Value)) = some (some v) := q; cases q2; decide))
        (E_iconst (v := 2) dL_rackIs_19 (by decide) (E_iret rfl dL_rackIs_20))
  · skip
    refine P_l (fun hJ _ _ q => E_i2l dL_rackIs_8 q) ?_
    refine P_w (fun hJ _ _ q => E_last dL_rackIs_9 (kd114 hJ.1.1) (inB_vp (by decide)) q) (fun hJ => Sy_wL hJ.1) rfl rfl rfl (fun σ6 hσ6 => ?_)
    refine P_l (fun hJ _ _ q => E_goto 21 dL_rackIs_10 (by decide) (E_iconst (v := 0) dL_rackIs_21 (by decide) q)) ?_
    exact P_ret (fun _ _ => E_iret rfl dL_rackIs_22)
def f_L_tableIs (σ : rS) (p1 : Int32) (p2 : Int32) : Option (Int32 × rS) := oBc (f_X10_tableIs σ p1 p2) [("java/lang/IllegalArgumentException", 1)] fun v1 σ1 => oLet (wL σ1 114 (0 : Int32).toNatClampNeg (((v1 : Int32)).toInt64)) fun σ6 => some ((0, σ6))
set_option maxRecDepth 20000 in
theorem ok_L_tableIs {σ : rS} {p1 : Int32} {p2 : Int32} : rFnH Sy yL_tableIs mL_tableIs hL_tableIs 8 [.ref 3, .int p1, .int p2, .ref 114] σ 1 6 (f_L_tableIs σ p1 p2) := by
  refine rFnH_of (ls := [some (.ref 3), some (.int p1), some (.int p2), some (.ref 114), none]) yfL_tableIs rfl (Nat.le_of_ble_eq_true rfl) (fun o τ => ?_)
  unfold f_L_tableIs
  refine P_l (fun hJ _ _ q => E_aload_n dL_tableIs_0 rfl (E_iconst (v := 0) dL_tableIs_1 (by decide) (E_aload_n dL_tableIs_2 rfl (E_iload_n dL_tableIs_3 rfl (E_iload_n dL_tableIs_4 rfl q))))) ?_
  refine P_callc (t2 := fun v => some (.int v)) (st2 := fun v => .int v :: [.int 0, .ref 114]) (kc2 := 0) (ks2 := 0) (fun hJ => (ok_X10_tableIs (σ := σ) (p1 := p1) (p2 := p2) )) (fun hJ _ _ _ _ v τ1 hM q => E_callV (as := [.int p1, .int p2]) (b := 3) (st := [.int 0, .ref 114]) hM (by decide) yfX10_tableIs mlL_92 imX10_tableIs seX10_tableIs clX10 (kd3 hJ.1.1) rfl (Nat.le_of_ble_eq_true rfl) rfl dL_tableIs_5 q) (fun hJ e c hl kc ks mc ms τ1 hM => ?_) (by decide) (by decide) (fun v1 σ1 => ?_)
  · obtain ⟨rfl, rfl⟩ := look1 hl
    exact E_callVc (M := mL_tableIs) (pc := 5) (k := 8) (as := [.int p1, .int p2]) (b := 3) (st := [.int 0, .ref 114]) hM (by decide) yfX10_tableIs mlL_92 imX10_tableIs seX10_tableIs clX10 (kd3 hJ.1.1) rfl (Nat.le_of_ble_eq_true rfl) rfl dL_tableIs_5 [] (⟨0, 10, 13, 13⟩ : ExceptionTableEntry) [] (nm := "java/lang/IllegalArgumentException") rfl (by decide) (fun z hz => absurd hz List.not_mem_nil) (by decide) (by decide) ckL_13 ca_IllegalArgumentException 4 13 rfl (Or.inl ⟨dL_tableIs_13, rfl⟩) (by decide) (jo_ok (fun v q => by have q2 : (some (some (.ref 114)) : Option (Option Value)) = some (some v) := q; cases q2; decide))
      (E_iconst (v := 1) dL_tableIs_15 (by decide) (E_iret rfl dL_tableIs_16))
  · skip
    refine P_l (fun hJ _ _ q => E_i2l dL_tableIs_8 q) ?_
    refine P_w (fun hJ _ _ q => E_last dL_tableIs_9 (kd114 hJ.1.1) (inB_vp (by decide)) q) (fun hJ => Sy_wL hJ.1) rfl rfl rfl (fun σ6 hσ6 => ?_)
    refine P_l (fun hJ _ _ q => E_goto 17 dL_tableIs_10 (by decide) (E_iconst (v := 0) dL_tableIs_17 (by decide) q)) ?_
    exact P_ret (fun _ _ => E_iret rfl dL_tableIs_18)
def f_L_poolIs (σ : rS) (p1 : Int32) : Option (Int32 × rS) := oBc (f_X10_poolIs σ p1) [("java/lang/IllegalArgumentException", 1)] fun v1 σ1 => oLet (wL σ1 114 (0 : Int32).toNatClampNeg (((v1 : Int32)).toInt64)) fun σ6 => some ((0, σ6))
set_option maxRecDepth 20000 in
theorem ok_L_poolIs {σ : rS} {p1 : Int32} : rFnH Sy yL_poolIs mL_poolIs hL_poolIs 8 [.ref 3, .int p1, .ref 114] σ 1 6 (f_L_poolIs σ p1) := by
  refine rFnH_of (ls := [some (.ref 3), some (.int p1), some (.ref 114), none]) yfL_poolIs rfl (Nat.le_of_ble_eq_true rfl) (fun o τ => ?_)
  unfold f_L_poolIs
  refine P_l (fun hJ _ _ q => E_aload_n dL_poolIs_0 rfl (E_iconst (v := 0) dL_poolIs_1 (by decide) (E_aload_n dL_poolIs_2 rfl (E_iload_n dL_poolIs_3 rfl q)))) ?_
  refine P_callc (t2 := fun v => some (.int v)) (st2 := fun v => .int v :: [.int 0, .ref 114]) (kc2 := 0) (ks2 := 0) (fun hJ => (ok_X10_poolIs (σ := σ) (p1 := p1) )) (fun hJ _ _ _ _ v τ1 hM q => E_callV (as := [.int p1]) (b := 3) (st := [.int 0, .ref 114]) hM (by decide) yfX10_poolIs mlL_96 imX10_poolIs seX10_poolIs clX10 (kd3 hJ.1.1) rfl (Nat.le_of_ble_eq_true rfl) rfl dL_poolIs_4 q) (fun hJ e c hl kc ks mc ms τ1 hM => ?_) (by decide) (by decide) (fun v1 σ1 => ?_)
  · obtain ⟨rfl, rfl⟩ := look1 hl
    exact E_callVc (M := mL_poolIs) (pc := 4) (k := 8) (as := [.int p1]) (b := 3) (st := [.int 0, .ref 114]) hM (by decide) yfX10_poolIs mlL_96 imX10_poolIs seX10_poolIs clX10 (kd3 hJ.1.1) rfl (Nat.le_of_ble_eq_true rfl) rfl dL_poolIs_4 [] (⟨0, 9, 12, 13⟩ : ExceptionTableEntry) [] (nm := "java/lang/IllegalArgumentException") rfl (by decide) (fun z hz => absurd hz List.not_mem_nil) (by decide) (by decide) ckL_13 ca_IllegalArgumentException 3 12 rfl (Or.inr ⟨3, rfl, dL_poolIs_12, rfl⟩) (by decide) (jo_ok (fun v q => by have q2 : (some (some (.ref 114)) : Option (Option Value)) = some (some v) := q; cases q2; decide))
      (E_iconst (v := 1) dL_poolIs_13 (by decide) (E_iret rfl dL_poolIs_14))
  · skip
    refine P_l (fun hJ _ _ q => E_i2l dL_poolIs_7 q) ?_
    refine P_w (fun hJ _ _ q => E_last dL_poolIs_8 (kd114 hJ.1.1) (inB_vp (by decide)) q) (fun hJ => Sy_wL hJ.1) rfl rfl rfl (fun σ6 hσ6 => ?_)
    refine P_l (fun hJ _ _ q => E_goto 15 dL_poolIs_9 (by decide) (E_iconst (v := 0) dL_poolIs_15 (by decide) q)) ?_
    exact P_ret (fun _ _ => E_iret rfl dL_poolIs_16)
def f_L_playerIs (σ : rS) (p1 : Int32) (p2 : Int32) : Option (Int32 × rS) := oBc (f_X10_playerIs σ p1 p2) [("java/lang/IndexOutOfBoundsException", 1), ("java/lang/IllegalArgumentException", 2)] fun v1 σ1 => oLet (wL σ1 114 (0 : Int32).toNatClampNeg (((v1 : Int32)).toInt64)) fun σ6 => some ((0, σ6))
set_option maxRecDepth 20000 in
theorem ok_L_playerIs {σ : rS} {p1 : Int32} {p2 : Int32} : rFnH Sy yL_playerIs mL_playerIs hL_playerIs 8 [.ref 3, .int p1, .int p2, .ref 114] σ 2 12 (f_L_playerIs σ p1 p2) := by
  refine rFnH_of (ls := [some (.ref 3), some (.int p1), some (.int p2), some (.ref 114), none]) yfL_playerIs rfl (Nat.le_of_ble_eq_true rfl) (fun o τ => ?_)
  unfold f_L_playerIs
  refine P_l (fun hJ _ _ q => E_aload_n dL_playerIs_0 rfl (E_iconst (v := 0) dL_playerIs_1 (by decide) (E_aload_n dL_playerIs_2 rfl (E_iload_n dL_playerIs_3 rfl (E_iload_n dL_playerIs_4 rfl q))))) ?_
  refine P_callc (t2 := fun v => some (.int v)) (st2 := fun v => .int v :: [.int 0, .ref 114]) (kc2 := 0) (ks2 := 0) (fun hJ => (ok_X10_playerIs (σ := σ) (p1 := p1) (p2 := p2) )) (fun hJ _ _ _ _ v τ1 hM q => E_callV (as := [.int p1, .int p2]) (b := 3) (st := [.int 0, .ref 114]) hM (by decide) yfX10_playerIs mlL_99 imX10_playerIs seX10_playerIs clX10 (kd3 hJ.1.1) rfl (Nat.le_of_ble_eq_true rfl) rfl dL_playerIs_5 q) (fun hJ e c hl kc ks mc ms τ1 hM => ?_) (by decide) (by decide) (fun v1 σ1 => ?_)
  · rcases look2 hl with ⟨rfl, rfl⟩ | ⟨rfl, rfl⟩
    · exact E_callVc (M := mL_playerIs) (pc := 5) (k := 8) (as := [.int p1, .int p2]) (b := 3) (st := [.int 0, .ref 114]) hM (by decide) yfX10_playerIs mlL_99 imX10_playerIs seX10_playerIs clX10 (kd3 hJ.1.1) rfl (Nat.le_of_ble_eq_true rfl) rfl dL_playerIs_5 [] (⟨0, 10, 13, 70⟩ : ExceptionTableEntry) [(⟨0, 10, 17, 13⟩ : ExceptionTableEntry)] (nm := "java/lang/IndexOutOfBoundsException") rfl (by decide) (fun z hz => absurd hz List.not_mem_nil) (by decide) (by decide) ckL_70 ca_IndexOutOfBoundsException 4 13 rfl (Or.inl ⟨dL_playerIs_13, rfl⟩) (by decide) (jo_ok (fun v q => by have q2 : (some (some (.ref 114)) : Option (Option Value)) = some (some v) := q; cases q2; decide))
        (E_iconst (v := 1) dL_playerIs_15 (by decide) (E_iret rfl dL_playerIs_16))
    · exact E_callVc (M := mL_playerIs) (pc := 5) (k := 8) (as := [.int p1, .int p2]) (b := 3) (st := [.int 0, .ref 114]) hM (by decide) yfX10_playerIs mlL_99 imX10_playerIs seX10_playerIs clX10 (kd3 hJ.1.1) rfl (Nat.le_of_ble_eq_true rfl) rfl dL_playerIs_5 [(⟨0, 10, 13, 70⟩ : ExceptionTableEntry)] (⟨0, 10, 17, 13⟩ : ExceptionTableEntry) [] (nm := "java/lang/IllegalArgumentException") rfl (by decide) (fun z hz => by cases List.mem_singleton.mp hz; exact Or.inr ⟨by decide, "java/lang/IndexOutOfBoundsException", ckL_70, by decide⟩) (by decide) (by decide) ckL_13 ca_IllegalArgumentException 4 17 rfl (Or.inl ⟨dL_playerIs_17, rfl⟩) (by decide) (jo_ok (fun v q => by have q2 : (some (some (.ref 114)) : Option (Option Value)) = some (some v) := q; cases q2; decide))
        (E_iconst (v := 2) dL_playerIs_19 (by decide) (E_iret rfl dL_playerIs_20))
  · skip
    refine P_l (fun hJ _ _ q => E_i2l dL_playerIs_8 q) ?_
    refine P_w (fun hJ _ _ q => E_last dL_playerIs_9 (kd114 hJ.1.1) (inB_vp (by decide)) q) (fun hJ => Sy_wL hJ.1) rfl rfl rfl (fun σ6 hσ6 => ?_)
    refine P_l (fun hJ _ _ q => E_goto 21 dL_playerIs_10 (by decide) (E_iconst (v := 0) dL_playerIs_21 (by decide) q)) ?_
    exact P_ret (fun _ _ => E_iret rfl dL_playerIs_22)
def f_L_team (σ : rS) (p1 : Int32) : Option (Int32 × rS) := oBc (f_X10_team σ p1) [("java/lang/IllegalArgumentException", 1)] fun v1 σ1 => oLet (wL σ1 114 (0 : Int32).toNatClampNeg (((v1 : Int32)).toInt64)) fun σ6 => some ((0, σ6))
set_option maxRecDepth 20000 in
theorem ok_L_team {σ : rS} {p1 : Int32} : rFnH Sy yL_team mL_team hL_team 7 [.ref 3, .int p1, .ref 114] σ 1 6 (f_L_team σ p1) := by
  refine rFnH_of (ls := [some (.ref 3), some (.int p1), some (.ref 114), none]) yfL_team rfl (Nat.le_of_ble_eq_true rfl) (fun o τ => ?_)
  unfold f_L_team
  refine P_l (fun hJ _ _ q => E_aload_n dL_team_0 rfl (E_iconst (v := 0) dL_team_1 (by decide) (E_aload_n dL_team_2 rfl (E_iload_n dL_team_3 rfl q)))) ?_
  refine P_callc (t2 := fun v => some (.int v)) (st2 := fun v => .int v :: [.int 0, .ref 114]) (kc2 := 0) (ks2 := 0) (fun hJ => (ok_X10_team (σ := σ) (p1 := p1) )) (fun hJ _ _ _ _ v τ1 hM q => E_callV (as := [.int p1]) (b := 3) (st := [.int 0, .ref 114]) hM (by decide) yfX10_team mlL_102 imX10_team seX10_team clX10 (kd3 hJ.1.1) rfl (Nat.le_of_ble_eq_true rfl) rfl dL_team_4 q) (fun hJ e c hl kc ks mc ms τ1 hM => ?_) (by decide) (by decide) (fun v1 σ1 => ?_)
  · obtain ⟨rfl, rfl⟩ := look1 hl
    exact E_callVc (M := mL_team) (pc := 4) (k := 7) (as := [.int p1]) (b := 3) (st := [.int 0, .ref 114]) hM (by decide) yfX10_team mlL_102 imX10_team seX10_team clX10 (kd3 hJ.1.1) rfl (Nat.le_of_ble_eq_true rfl) rfl dL_team_4 [] (⟨0, 9, 12, 13⟩ : ExceptionTableEntry) [] (nm := "java/lang/IllegalArgumentException") rfl (by decide) (fun z hz => absurd hz List.not_mem_nil) (by decide) (by decide) ckL_13 ca_IllegalArgumentException 3 12 rfl (Or.inr ⟨3, rfl, dL_team_12, rfl⟩) (by decide) (jo_ok (fun v q => by have q2 : (some (some (.ref 114)) : Option (Option Value)) = some (some v) := q; cases q2; decide))
      (E_iconst (v := 1) dL_team_13 (by decide) (E_iret rfl dL_team_14))
  · skip
    refine P_l (fun hJ _ _ q => E_i2l dL_team_7 q) ?_
    refine P_w (fun hJ _ _ q => E_last dL_team_8 (kd114 hJ.1.1) (inB_vp (by decide)) q) (fun hJ => Sy_wL hJ.1) rfl rfl rfl (fun σ6 hσ6 => ?_)
    refine P_l (fun hJ _ _ q => E_goto 15 dL_team_9 (by decide) (E_iconst (v := 0) dL_team_15 (by decide) q)) ?_
    exact P_ret (fun _ _ => E_iret rfl dL_team_16)
def f_L_entry (σ : rS) (p1 : Int32) (p2 : Int32) : Option (Int32 × rS) := oBc (f_X10_entry σ p1 p2) [("java/lang/IndexOutOfBoundsException", 1), ("java/lang/IllegalArgumentException", 2)] fun v1 σ1 => oLet (wL σ1 114 (0 : Int32).toNatClampNeg (((v1 : Int32)).toInt64)) fun σ6 => some ((0, σ6))
set_option maxRecDepth 20000 in
theorem ok_L_entry {σ : rS} {p1 : Int32} {p2 : Int32} : rFnH Sy yL_entry mL_entry hL_entry 7 [.ref 3, .int p1, .int p2, .ref 114] σ 1 6 (f_L_entry σ p1 p2) := by
  refine rFnH_of (ls := [some (.ref 3), some (.int p1), some (.int p2), some (.ref 114), none]) yfL_entry rfl (Nat.le_of_ble_eq_true rfl) (fun o τ => ?_)
  unfold f_L_entry
  refine P_l (fun hJ _ _ q => E_aload_n dL_entry_0 rfl (E_iconst (v := 0) dL_entry_1 (by decide) (E_aload_n dL_entry_2 rfl (E_iload_n dL_entry_3 rfl (E_iload_n dL_entry_4 rfl q))))) ?_
  refine P_callc (t2 := fun v => some (.int v)) (st2 := fun v => .int v :: [.int 0, .ref 114]) (kc2 := 0) (ks2 := 0) (fun hJ => (ok_X10_entry (σ := σ) (p1 := p1) (p2 := p2) )) (fun hJ _ _ _ _ v τ1 hM q => E_callV (as := [.int p1, .int p2]) (b := 3) (st := [.int 0, .ref 114]) hM (by decide) yfX10_entry mlL_105 imX10_entry seX10_entry clX10 (kd3 hJ.1.1) rfl (Nat.le_of_ble_eq_true rfl) rfl dL_entry_5 q) (fun hJ e c hl kc ks mc ms τ1 hM => ?_) (by decide) (by decide) (fun v1 σ1 => ?_)
  · rcases look2 hl with ⟨rfl, rfl⟩ | ⟨rfl, rfl⟩
    · exact E_callVc (M := mL_entry) (pc := 5) (k := 7) (as := [.int p1, .int p2]) (b := 3) (st := [.int 0, .ref 114]) hM (by decide) yfX10_entry mlL_105 imX10_entry seX10_entry clX10 (kd3 hJ.1.1) rfl (Nat.le_of_ble_eq_true rfl) rfl dL_entry_5 [] (⟨0, 10, 13, 70⟩ : ExceptionTableEntry) [(⟨0, 10, 17, 13⟩ : ExceptionTableEntry)] (nm := "java/lang/IndexOutOfBoundsException") rfl (by decide) (fun z hz => absurd hz List.not_mem_nil) (by decide) (by decide) ckL_70 ca_IndexOutOfBoundsException 4 13 rfl (Or.inl ⟨dL_entry_13, rfl⟩) (by decide) (jo_ok (fun v q => by have q2 : (some (some (.ref 114)) : Option (Option Value)) = some (some v) := q; cases q2; decide))
        (E_iconst (v := 1) dL_entry_15 (by decide) (E_iret rfl dL_entry_16))
    · exact E_callVc (M := mL_entry) (pc := 5) (k := 7) (as := [.int p1, .int p2]) (b := 3) (st := [.int 0, .ref 114]) hM (by decide) yfX10_entry mlL_105 imX10_entry seX10_entry clX10 (kd3 hJ.1.1) rfl (Nat.le_of_ble_eq_true rfl) rfl dL_entry_5 [(⟨0, 10, 13, 70⟩ : ExceptionTableEntry)] (⟨0, 10, 17, 13⟩ : ExceptionTableEntry) [] (nm := "java/lang/IllegalArgumentException") rfl (by decide) (fun z hz => by cases List.mem_singleton.mp hz; exact Or.inr ⟨by decide, "java/lang/IndexOutOfBoundsException", ckL_70, by decide⟩) (by decide) (by decide) ckL_13 ca_IllegalArgumentException 4 17 rfl (Or.inl ⟨dL_entry_17, rfl⟩) (by decide) (jo_ok (fun v q => by have q2 : (some (some (.ref 114)) : Option (Option Value)) = some (some v) := q; cases q2; decide))
        (E_iconst (v := 2) dL_entry_19 (by decide) (E_iret rfl dL_entry_20))
  · skip
    refine P_l (fun hJ _ _ q => E_i2l dL_entry_8 q) ?_
    refine P_w (fun hJ _ _ q => E_last dL_entry_9 (kd114 hJ.1.1) (inB_vp (by decide)) q) (fun hJ => Sy_wL hJ.1) rfl rfl rfl (fun σ6 hσ6 => ?_)
    refine P_l (fun hJ _ _ q => E_goto 21 dL_entry_10 (by decide) (E_iconst (v := 0) dL_entry_21 (by decide) q)) ?_
    exact P_ret (fun _ _ => E_iret rfl dL_entry_22)
def f_L_sum (σ : rS) (p1 : Int32) : Option (Int32 × rS) := oBc (f_X10_sum σ p1) [("java/lang/IllegalArgumentException", 1)] fun v1 σ1 => oLet (wL σ1 114 (0 : Int32).toNatClampNeg (((v1 : Int32)).toInt64)) fun σ6 => some ((0, σ6))
set_option maxRecDepth 20000 in
theorem ok_L_sum {σ : rS} {p1 : Int32} : rFnH Sy yL_sum mL_sum hL_sum 7 [.ref 3, .int p1, .ref 114] σ 1 6 (f_L_sum σ p1) := by
  refine rFnH_of (ls := [some (.ref 3), some (.int p1), some (.ref 114), none]) yfL_sum rfl (Nat.le_of_ble_eq_true rfl) (fun o τ => ?_)
  unfold f_L_sum
  refine P_l (fun hJ _ _ q => E_aload_n dL_sum_0 rfl (E_iconst (v := 0) dL_sum_1 (by decide) (E_aload_n dL_sum_2 rfl (E_iload_n dL_sum_3 rfl q)))) ?_
  refine P_callc (t2 := fun v => some (.int v)) (st2 := fun v => .int v :: [.int 0, .ref 114]) (kc2 := 0) (ks2 := 0) (fun hJ => (ok_X10_sum (σ := σ) (p1 := p1) )) (fun hJ _ _ _ _ v τ1 hM q => E_callV (as := [.int p1]) (b := 3) (st := [.int 0, .ref 114]) hM (by decide) yfX10_sum mlL_108 imX10_sum seX10_sum clX10 (kd3 hJ.1.1) rfl (Nat.le_of_ble_eq_true rfl) rfl dL_sum_4 q) (fun hJ e c hl kc ks mc ms τ1 hM => ?_) (by decide) (by decide) (fun v1 σ1 => ?_)
  · obtain ⟨rfl, rfl⟩ := look1 hl
    exact E_callVc (M := mL_sum) (pc := 4) (k := 7) (as := [.int p1]) (b := 3) (st := [.int 0, .ref 114]) hM (by decide) yfX10_sum mlL_108 imX10_sum seX10_sum clX10 (kd3 hJ.1.1) rfl (Nat.le_of_ble_eq_true rfl) rfl dL_sum_4 [] (⟨0, 9, 12, 13⟩ : ExceptionTableEntry) [] (nm := "java/lang/IllegalArgumentException") rfl (by decide) (fun z hz => absurd hz List.not_mem_nil) (by decide) (by decide) ckL_13 ca_IllegalArgumentException 3 12 rfl (Or.inr ⟨3, rfl, dL_sum_12, rfl⟩) (by decide) (jo_ok (fun v q => by have q2 : (some (some (.ref 114)) : Option (Option Value)) = some (some v) := q; cases q2; decide))
      (E_iconst (v := 1) dL_sum_13 (by decide) (E_iret rfl dL_sum_14))
  · skip
    refine P_l (fun hJ _ _ q => E_i2l dL_sum_7 q) ?_
    refine P_w (fun hJ _ _ q => E_last dL_sum_8 (kd114 hJ.1.1) (inB_vp (by decide)) q) (fun hJ => Sy_wL hJ.1) rfl rfl rfl (fun σ6 hσ6 => ?_)
    refine P_l (fun hJ _ _ q => E_goto 15 dL_sum_9 (by decide) (E_iconst (v := 0) dL_sum_15 (by decide) q)) ?_
    exact P_ret (fun _ _ => E_iret rfl dL_sum_16)
