def f_X10_team (σ : rS) (p1 : Int32) : Option ((Int32 ⊕ String) × rS) := if (vIn p1 0 1) = 0 then (some ((.inr "java/lang/IllegalArgumentException", σ))) else ((f_X6_pointsOf σ p1).bind fun v1 => some ((.inl v1, σ)))
set_option maxRecDepth 20000 in
set_option maxHeartbeats 2000000 in
theorem ok_X10_team {σ : rS} {p1 : Int32}   : rFn Sy yX10_team mX10_team 6 [.ref 3, .int p1] σ 1 6 (tX (fun v => .inl (some (.int v)))) (f_X10_team σ p1) := by
  refine rF_of (ls := [some (.ref 3), some (.int p1)]) yfX10_team rfl (Nat.le_of_ble_eq_true rfl) (fun o τ => ?_)
  unfold f_X10_team
  refine P_l (fun hJ _ _ q => E_iload_n dX10_team_0 rfl (E_iconst (v := 0) dX10_team_1 (by decide) (E_iconst (v := 1) dX10_team_2 (by decide) (E_callS (as := [.int p1, .int 0, .int 1]) (st := []) (ok_within (σ := σ) (v := p1) (a := 0) (b := 1)) (by decide) yfX10_within mlX10_74 stX10_within rfl (Nat.le_of_ble_eq_true rfl) rfl dX10_team_3 q)))) ?_
  refine P_if (fun hJ _ _ h1 h2 => E_if_ne 17 dX10_team_6 (by decide) h2 h1) ?_ ?_
  · skip
    exact P_thr (fun kc ks => xt_IllegalArgumentException (M := mX10_team) (pc := 9) rfl rfl (by decide) (Nat.le_of_ble_eq_true rfl) dX10_team_9 dX10_team_12 dX10_team_13 dX10_team_16 kc ks) (by decide) (by decide)
  · skip
    refine P_l (fun hJ _ _ q => E_aload_n dX10_team_17 rfl (E_getR (b := 19) clX10 3 (by decide) flX10_29 (Or.inl ⟨_, rfl⟩) dX10_team_18 (kd3 hJ.1.1) (rf3_3 hJ.1.1) (by decide) (E_iload_n dX10_team_21 rfl q))) ?_
    refine P_callr (t := fun v => some (.int v)) (st2 := fun v => .int v :: []) (fun hJ => (ok_X6_pointsOf (σ := σ) (p1 := p1) )) (fun hJ _ _ v hM q => E_callVN (as := [.int p1]) (b := 19) (st := []) hM (by decide) yfX6_pointsOf mlX10_356 imX6_pointsOf seX6_pointsOf clX6 (kd19 hJ.1.1) rfl (Nat.le_of_ble_eq_true rfl) rfl dX10_team_22 q) (fun v1 => ?_)
    exact P_ret (fun _ _ => E_iret rfl dX10_team_25)

def f_X10_entry (σ : rS) (p1 : Int32) (p2 : Int32) : Option ((Int32 ⊕ String) × rS) := if (vIn p1 0 ((rI σ 35 1) - 1)) = 0 then (some ((.inr "java/lang/IndexOutOfBoundsException", σ))) else (if p2 = 0 then (some ((.inl (v_X2_sort σ (((rI σ 35 1) - 1) - p1)), σ))) else (if p2 = 1 then (some ((.inl (v_X2_who σ (((rI σ 35 1) - 1) - p1)), σ))) else (if p2 = 2 then (some ((.inl (v_X2_kind σ (((rI σ 35 1) - 1) - p1)), σ))) else (if p2 = 3 then (some ((.inl (v_X2_drawn σ (((rI σ 35 1) - 1) - p1)), σ))) else (some ((.inr "java/lang/IllegalArgumentException", σ)))))))
set_option maxRecDepth 20000 in
set_option maxHeartbeats 2000000 in
theorem ok_X10_entry {σ : rS} {p1 : Int32} {p2 : Int32}   : rFn Sy yX10_entry mX10_entry 6 [.ref 3, .int p1, .int p2] σ 1 6 (tX (fun v => .inl (some (.int v)))) (f_X10_entry σ p1 p2) := by
  refine rF_of (ls := [some (.ref 3), some (.int p1), some (.int p2), none]) yfX10_entry rfl (Nat.le_of_ble_eq_true rfl) (fun o τ => ?_)
  unfold f_X10_entry
  refine P_l (fun hJ _ _ q => E_iload_n dX10_entry_0 rfl (E_iconst (v := 0) dX10_entry_1 (by decide) (E_aload_n dX10_entry_2 rfl (E_getR (b := 35) clX10 5 (by decide) flX10_43 (Or.inl ⟨_, rfl⟩) dX10_entry_3 (kd3 hJ.1.1) (rf3_5 hJ.1.1) (by decide) (E_getIN clX2 1 (by decide) flX10_359 (Or.inl rfl) dX10_entry_6 (kd35 hJ.1.1) (E_iconst (v := 1) dX10_entry_9 (by decide) (E_isub dX10_entry_10 (E_callS (as := [.int p1, .int 0, .int ((rI σ 35 1) - 1)]) (st := []) (ok_within (σ := σ) (v := p1) (a := 0) (b := (rI σ 35 1) - 1)) (by decide) yfX10_within mlX10_74 stX10_within rfl (Nat.le_of_ble_eq_true rfl) rfl dX10_entry_11 q)))))))) ?_
  refine P_if (fun hJ _ _ h1 h2 => E_if_ne 25 dX10_entry_14 (by decide) h2 h1) ?_ ?_
  · skip
    exact P_thr (fun kc ks => xt_IndexOutOfBoundsException (M := mX10_entry) (pc := 17) rfl rfl (by decide) (Nat.le_of_ble_eq_true rfl) dX10_entry_17 dX10_entry_20 dX10_entry_21 dX10_entry_24 kc ks) (by decide) (by decide)
  · skip
    refine P_l (fun hJ _ _ q => E_aload_n dX10_entry_25 rfl (E_getR (b := 35) clX10 5 (by decide) flX10_43 (Or.inl ⟨_, rfl⟩) dX10_entry_26 (kd3 hJ.1.1) (rf3_5 hJ.1.1) (by decide) (E_getIN clX2 1 (by decide) flX10_359 (Or.inl rfl) dX10_entry_29 (kd35 hJ.1.1) (E_iconst (v := 1) dX10_entry_32 (by decide) (E_isub dX10_entry_33 (E_iload_n dX10_entry_34 rfl (E_isub dX10_entry_35 (E_istore_n (ls2 := [some (.ref 3), some (.int p1), some (.int p2), some (.int (((rI σ 35 1) - 1) - p1))]) dX10_entry_36 (by decide) rfl (E_iload_n dX10_entry_37 rfl q))))))))) ?_
    refine P_case (fun h1 => ?_) (fun h1 => ?_)
    · skip
      refine P_l (fun hJ _ _ q => E_tableIn (off := 30) 68 dX10_entry_38 (by rw [h1]; decide) (by rw [h1]; decide) (by rw [h1]; rfl) (by decide) q) ?_
      refine P_l (fun hJ _ _ q => E_aload_n dX10_entry_68 rfl (E_getR (b := 35) clX10 5 (by decide) flX10_43 (Or.inl ⟨_, rfl⟩) dX10_entry_69 (kd3 hJ.1.1) (rf3_5 hJ.1.1) (by decide) (E_iload_n dX10_entry_72 rfl (E_callVN (as := [.int (((rI σ 35 1) - 1) - p1)]) (b := 35) (st := []) (ok_X2_sort (σ := σ) (p1 := ((rI σ 35 1) - 1) - p1) hJ ) (by decide) yfX2_sort mlX10_363 imX2_sort seX2_sort clX2 (kd35 hJ.1.1) rfl (Nat.le_of_ble_eq_true rfl) rfl dX10_entry_73 q)))) ?_
      exact P_ret (fun _ _ => E_iret rfl dX10_entry_76)
    · skip
      refine P_case (fun h2 => ?_) (fun h2 => ?_)
      · skip
        refine P_l (fun hJ _ _ q => E_tableIn (off := 39) 77 dX10_entry_38 (by rw [h2]; decide) (by rw [h2]; decide) (by rw [h2]; rfl) (by decide) q) ?_
        refine P_l (fun hJ _ _ q => E_aload_n dX10_entry_77 rfl (E_getR (b := 35) clX10 5 (by decide) flX10_43 (Or.inl ⟨_, rfl⟩) dX10_entry_78 (kd3 hJ.1.1) (rf3_5 hJ.1.1) (by decide) (E_iload_n dX10_entry_81 rfl (E_callVN (as := [.int (((rI σ 35 1) - 1) - p1)]) (b := 35) (st := []) (ok_X2_who (σ := σ) (p1 := ((rI σ 35 1) - 1) - p1) hJ ) (by decide) yfX2_who mlX10_366 imX2_who seX2_who clX2 (kd35 hJ.1.1) rfl (Nat.le_of_ble_eq_true rfl) rfl dX10_entry_82 q)))) ?_
        exact P_ret (fun _ _ => E_iret rfl dX10_entry_85)
      · skip
        refine P_case (fun h3 => ?_) (fun h3 => ?_)
        · skip
          refine P_l (fun hJ _ _ q => E_tableIn (off := 48) 86 dX10_entry_38 (by rw [h3]; decide) (by rw [h3]; decide) (by rw [h3]; rfl) (by decide) q) ?_
          refine P_l (fun hJ _ _ q => E_aload_n dX10_entry_86 rfl (E_getR (b := 35) clX10 5 (by decide) flX10_43 (Or.inl ⟨_, rfl⟩) dX10_entry_87 (kd3 hJ.1.1) (rf3_5 hJ.1.1) (by decide) (E_iload_n dX10_entry_90 rfl (E_callVN (as := [.int (((rI σ 35 1) - 1) - p1)]) (b := 35) (st := []) (ok_X2_kind (σ := σ) (p1 := ((rI σ 35 1) - 1) - p1) hJ ) (by decide) yfX2_kind mlX10_369 imX2_kind seX2_kind clX2 (kd35 hJ.1.1) rfl (Nat.le_of_ble_eq_true rfl) rfl dX10_entry_91 q)))) ?_
          exact P_ret (fun _ _ => E_iret rfl dX10_entry_94)
        · skip
          refine P_case (fun h4 => ?_) (fun h4 => ?_)
          · skip
            refine P_l (fun hJ _ _ q => E_tableIn (off := 57) 95 dX10_entry_38 (by rw [h4]; decide) (by rw [h4]; decide) (by rw [h4]; rfl) (by decide) q) ?_
            refine P_l (fun hJ _ _ q => E_aload_n dX10_entry_95 rfl (E_getR (b := 35) clX10 5 (by decide) flX10_43 (Or.inl ⟨_, rfl⟩) dX10_entry_96 (kd3 hJ.1.1) (rf3_5 hJ.1.1) (by decide) (E_iload_n dX10_entry_99 rfl (E_callVN (as := [.int (((rI σ 35 1) - 1) - p1)]) (b := 35) (st := []) (ok_X2_drawn (σ := σ) (p1 := ((rI σ 35 1) - 1) - p1) hJ ) (by decide) yfX2_drawn mlX10_372 imX2_drawn seX2_drawn clX2 (kd35 hJ.1.1) rfl (Nat.le_of_ble_eq_true rfl) rfl dX10_entry_100 q)))) ?_
            exact P_ret (fun _ _ => E_iret rfl dX10_entry_103)
          · skip
            refine P_l (fun hJ _ _ q => E_tableOut 104 dX10_entry_38 (by have e0 := sw_ne h1; have e1 := sw_ne h2; have e2 := sw_ne h3; have e3 := sw_ne h4; simp only [sw_l0, sw_l1, sw_l2, sw_l3] at *; omega) (by decide) q) ?_
            exact P_thr (fun kc ks => xt_IllegalArgumentException (M := mX10_entry) (pc := 104) rfl rfl (by decide) (Nat.le_of_ble_eq_true rfl) dX10_entry_104 dX10_entry_107 dX10_entry_108 dX10_entry_111 kc ks) (by decide) (by decide)

def f_X10_replay (σ : rS) (p1 : Int32) (p2 : Int32) (p3 : Int32) : Option (Unit × rS) := if p1 = 1 then (oB (f_X1_layTile σ 12 p2 p3) fun _ σ3 => some (((), σ3))) else (if p1 = 2 then (oB (f_X1_layJoker σ 12 p2 p3) fun _ σ6 => some (((), σ6))) else (if p1 = 3 then (oB (f_X1_swapJoker σ 12 p2 p3) fun _ σ9 => some (((), σ9))) else (if p1 = 4 then (oB (f_X1_undo σ 12 p2) fun v11 σ12 => some (((), σ12))) else (if p1 = 5 then (oB (f_X1_settle σ 12) fun _ σ15 => some (((), σ15))) else (oLet ((if (rI σ 12 6) ≤ 0 then 1 else (rI σ 4 4) : Int32) : Int32) fun x16 => oB (f_X1_undoAll σ 12 p2) fun _ σ18 => oB (f_X1_drawUpTo σ18 12 p2 x16) fun v19 σ20 => some (((), σ20)))))))
set_option maxRecDepth 20000 in
set_option maxHeartbeats 2000000 in
theorem ok_X10_replay {σ : rS} {p1 : Int32} {p2 : Int32} {p3 : Int32}   : rFn Sy yX10_replay mX10_replay 5 [.ref 3, .int p1, .int p2, .int p3] σ 0 0 (fun _ => .inl none) (f_X10_replay σ p1 p2 p3) := by
  refine rF_of (ls := [some (.ref 3), some (.int p1), some (.int p2), some (.int p3), none]) yfX10_replay rfl (Nat.le_of_ble_eq_true rfl) (fun o τ => ?_)
  unfold f_X10_replay
  refine P_l (fun hJ _ _ q => E_iload_n dX10_replay_0 rfl q) ?_
  refine P_case (fun h1 => ?_) (fun h1 => ?_)
  · skip
    refine P_l (fun hJ _ _ q => E_tableIn (off := 35) 36 dX10_replay_1 (by rw [h1]; decide) (by rw [h1]; decide) (by rw [h1]; rfl) (by decide) q) ?_
    refine P_l (fun hJ _ _ q => E_aload_n dX10_replay_36 rfl (E_getR (b := 12) clX10 2 (by decide) flX10_23 (Or.inl ⟨_, rfl⟩) dX10_replay_37 (kd3 hJ.1.1) (rf3_2 hJ.1.1) (by decide) (E_iload_n dX10_replay_40 rfl (E_iload_n dX10_replay_41 rfl q)))) ?_
    refine P_call (t := fun _ => none) (st2 := fun _ => []) (kc2 := 0) (ks2 := 0) (fun hJ => (ok_X1_layTile (σ := σ) (b := 12) (p := p2) (k := p3) (Or.inr rfl))) (fun hJ _ _ _ _ v τ1 hM q => E_callVN (as := [.int p2, .int p3]) (b := 12) (st := []) hM (by decide) yfX1_layTile mlX10_410 imX1_layTile seX1_layTile clX1 (kd12 hJ.1.1) rfl (Nat.le_of_ble_eq_true rfl) rfl dX10_replay_42 q) (by decide) (by decide) (fun v2 σ3 => ?_)
    refine P_l (fun hJ _ _ q => E_goto 136 dX10_replay_45 (by decide) q) ?_
    exact P_ret (fun _ _ => E_vret rfl dX10_replay_136)
  · skip
    refine P_case (fun h4 => ?_) (fun h4 => ?_)
    · skip
      refine P_l (fun hJ _ _ q => E_tableIn (off := 47) 48 dX10_replay_1 (by rw [h4]; decide) (by rw [h4]; decide) (by rw [h4]; rfl) (by decide) q) ?_
      refine P_l (fun hJ _ _ q => E_aload_n dX10_replay_48 rfl (E_getR (b := 12) clX10 2 (by decide) flX10_23 (Or.inl ⟨_, rfl⟩) dX10_replay_49 (kd3 hJ.1.1) (rf3_2 hJ.1.1) (by decide) (E_iload_n dX10_replay_52 rfl (E_iload_n dX10_replay_53 rfl q)))) ?_
      refine P_call (t := fun _ => none) (st2 := fun _ => []) (kc2 := 0) (ks2 := 0) (fun hJ => (ok_X1_layJoker (σ := σ) (b := 12) (p := p2) (k := p3) (Or.inr rfl))) (fun hJ _ _ _ _ v τ1 hM q => E_callVN (as := [.int p2, .int p3]) (b := 12) (st := []) hM (by decide) yfX1_layJoker mlX10_416 imX1_layJoker seX1_layJoker clX1 (kd12 hJ.1.1) rfl (Nat.le_of_ble_eq_true rfl) rfl dX10_replay_54 q) (by decide) (by decide) (fun v5 σ6 => ?_)
      refine P_l (fun hJ _ _ q => E_goto 136 dX10_replay_57 (by decide) q) ?_
      exact P_ret (fun _ _ => E_vret rfl dX10_replay_136)
    · skip
      refine P_case (fun h7 => ?_) (fun h7 => ?_)
      · skip
        refine P_l (fun hJ _ _ q => E_tableIn (off := 59) 60 dX10_replay_1 (by rw [h7]; decide) (by rw [h7]; decide) (by rw [h7]; rfl) (by decide) q) ?_
        refine P_l (fun hJ _ _ q => E_aload_n dX10_replay_60 rfl (E_getR (b := 12) clX10 2 (by decide) flX10_23 (Or.inl ⟨_, rfl⟩) dX10_replay_61 (kd3 hJ.1.1) (rf3_2 hJ.1.1) (by decide) (E_iload_n dX10_replay_64 rfl (E_iload_n dX10_replay_65 rfl q)))) ?_
        refine P_call (t := fun _ => none) (st2 := fun _ => []) (kc2 := 0) (ks2 := 0) (fun hJ => (ok_X1_swapJoker (σ := σ) (b := 12) (p := p2) (k := p3) (Or.inr rfl))) (fun hJ _ _ _ _ v τ1 hM q => E_callVN (as := [.int p2, .int p3]) (b := 12) (st := []) hM (by decide) yfX1_swapJoker mlX10_418 imX1_swapJoker seX1_swapJoker clX1 (kd12 hJ.1.1) rfl (Nat.le_of_ble_eq_true rfl) rfl dX10_replay_66 q) (by decide) (by decide) (fun v8 σ9 => ?_)
        refine P_l (fun hJ _ _ q => E_goto 136 dX10_replay_69 (by decide) q) ?_
        exact P_ret (fun _ _ => E_vret rfl dX10_replay_136)
      · skip
        refine P_case (fun h10 => ?_) (fun h10 => ?_)
        · skip
          refine P_l (fun hJ _ _ q => E_tableIn (off := 71) 72 dX10_replay_1 (by rw [h10]; decide) (by rw [h10]; decide) (by rw [h10]; rfl) (by decide) q) ?_
          refine P_l (fun hJ _ _ q => E_aload_n dX10_replay_72 rfl (E_getR (b := 12) clX10 2 (by decide) flX10_23 (Or.inl ⟨_, rfl⟩) dX10_replay_73 (kd3 hJ.1.1) (rf3_2 hJ.1.1) (by decide) (E_iload_n dX10_replay_76 rfl q))) ?_
          refine P_call (t := fun v => some (.int v)) (st2 := fun v => .int v :: []) (kc2 := 0) (ks2 := 0) (fun hJ => (ok_X1_undo (σ := σ) (b := 12) (p := p2) (Or.inr rfl))) (fun hJ _ _ _ _ v τ1 hM q => E_callVN (as := [.int p2]) (b := 12) (st := []) hM (by decide) yfX1_undo mlX10_420 imX1_undo seX1_undo clX1 (kd12 hJ.1.1) rfl (Nat.le_of_ble_eq_true rfl) rfl dX10_replay_77 q) (by decide) (by decide) (fun v11 σ12 => ?_)
          refine P_l (fun hJ _ _ q => E_pop dX10_replay_80 rfl (E_goto 136 dX10_replay_81 (by decide) q)) ?_
          exact P_ret (fun _ _ => E_vret rfl dX10_replay_136)
        · skip
          refine P_case (fun h13 => ?_) (fun h13 => ?_)
          · skip
            refine P_l (fun hJ _ _ q => E_tableIn (off := 83) 84 dX10_replay_1 (by rw [h13]; decide) (by rw [h13]; decide) (by rw [h13]; rfl) (by decide) q) ?_
            refine P_l (fun hJ _ _ q => E_aload_n dX10_replay_84 rfl (E_getR (b := 12) clX10 2 (by decide) flX10_23 (Or.inl ⟨_, rfl⟩) dX10_replay_85 (kd3 hJ.1.1) (rf3_2 hJ.1.1) (by decide) q)) ?_
            refine P_call (t := fun _ => none) (st2 := fun _ => []) (kc2 := 0) (ks2 := 0) (fun hJ => (ok_X1_settle (σ := σ) (b := 12) (Or.inr rfl))) (fun hJ _ _ _ _ v τ1 hM q => E_callVN (as := []) (b := 12) (st := []) hM (by decide) yfX1_settle mlX10_423 imX1_settle seX1_settle clX1 (kd12 hJ.1.1) rfl (Nat.le_of_ble_eq_true rfl) rfl dX10_replay_88 q) (by decide) (by decide) (fun v14 σ15 => ?_)
            refine P_l (fun hJ _ _ q => E_goto 136 dX10_replay_91 (by decide) q) ?_
            exact P_ret (fun _ _ => E_vret rfl dX10_replay_136)
          · skip
            refine P_l (fun hJ _ _ q => E_tableOut 94 dX10_replay_1 (by have e0 := sw_ne h1; have e1 := sw_ne h4; have e2 := sw_ne h7; have e3 := sw_ne h10; have e4 := sw_ne h13; simp only [sw_l1, sw_l2, sw_l3, sw_l4, sw_l5] at *; omega) (by decide) q) ?_
            refine P_l (fun hJ _ _ q => E_aload_n dX10_replay_94 rfl (E_getR (b := 12) clX10 2 (by decide) flX10_23 (Or.inl ⟨_, rfl⟩) dX10_replay_95 (kd3 hJ.1.1) (rf3_2 hJ.1.1) (by decide) (E_getIN clX1 6 (by decide) flX10_174 (Or.inl rfl) dX10_replay_98 (kd12 hJ.1.1) q))) ?_
            refine P_l (pc2 := 115) (ls2 := [some (.ref 3), none, some (.int p2), none, none]) (st2 := [.int ((if (rI σ 12 6) ≤ 0 then 1 else (rI σ 4 4) : Int32))]) (fun hJ _ _ hq => ?_) ?_
            · skip
              refine E_if_le 114 dX10_replay_101 (by decide) (fun c_101_0 => ?_) (fun c_101_0 => ?_)
              · skip
                refine E_iconst (v := 1) dX10_replay_114 (by decide) ?_
                simp only [if_pos c_101_0] at hq
                exact E_less (ls2 := [some (.ref 3), none, some (.int p2), none, none]) hq (rLe_at [some (.ref 3), none, some (.int p2), none, none] [some (.ref 3), some (.int p1), some (.int p2), some (.int p3), none] (And.intro rfl (And.intro rfl trivial)))
              · skip
                refine E_aload_n dX10_replay_104 rfl ?_
                refine E_getR (b := 4) clX10 0 (by decide) flX10_12 (Or.inl ⟨_, rfl⟩) dX10_replay_105 (kd3 hJ.1.1) (rf3_0 hJ.1.1) (by decide) ?_
                refine E_getIN clX5 4 (by decide) flX10_100 (Or.inl rfl) dX10_replay_108 (kd4 hJ.1.1) ?_
                refine E_goto 115 dX10_replay_111 (by decide) ?_
                simp only [if_neg c_101_0] at hq
                exact E_less (ls2 := [some (.ref 3), none, some (.int p2), none, none]) hq (rLe_at [some (.ref 3), none, some (.int p2), none, none] [some (.ref 3), some (.int p1), some (.int p2), some (.int p3), none] (And.intro rfl (And.intro rfl trivial)))
            · skip
              refine P_l (fun hJ _ _ q => E_istore (ls2 := [some (.ref 3), none, some (.int p2), none, some (.int ((if (rI σ 12 6) ≤ 0 then 1 else (rI σ 4 4) : Int32)))]) dX10_replay_115 (by decide) rfl q) ?_
              refine P_v ((if (rI σ 12 6) ≤ 0 then 1 else (rI σ 4 4) : Int32)) (fun x => [some (.ref 3), none, some (.int p2), none, some (.int x)]) (fun x16 => ?_)
              refine P_l (fun hJ _ _ q => E_aload_n dX10_replay_117 rfl (E_getR (b := 12) clX10 2 (by decide) flX10_23 (Or.inl ⟨_, rfl⟩) dX10_replay_118 (kd3 hJ.1.1) (rf3_2 hJ.1.1) (by decide) (E_iload_n dX10_replay_121 rfl q))) ?_
              refine P_call (t := fun _ => none) (st2 := fun _ => []) (kc2 := 0) (ks2 := 0) (fun hJ => (ok_X1_undoAll (σ := σ) (b := 12) (p := p2) (Or.inr rfl))) (fun hJ _ _ _ _ v τ1 hM q => E_callVN (as := [.int p2]) (b := 12) (st := []) hM (by decide) yfX1_undoAll mlX10_432 imX1_undoAll seX1_undoAll clX1 (kd12 hJ.1.1) rfl (Nat.le_of_ble_eq_true rfl) rfl dX10_replay_122 q) (by decide) (by decide) (fun v17 σ18 => ?_)
              refine P_l (fun hJ _ _ q => E_aload_n dX10_replay_125 rfl (E_getR (b := 12) clX10 2 (by decide) flX10_23 (Or.inl ⟨_, rfl⟩) dX10_replay_126 (kd3 hJ.1.1) (rf3_2 hJ.1.1) (by decide) (E_iload_n dX10_replay_129 rfl (E_iload dX10_replay_130 rfl q)))) ?_
              refine P_call (t := fun v => some (.int v)) (st2 := fun v => .int v :: []) (kc2 := 0) (ks2 := 0) (fun hJ => (ok_X1_drawUpTo (σ := σ18) (b := 12) (p := p2) (m := x16) (Or.inr rfl))) (fun hJ _ _ _ _ v τ1 hM q => E_callVN (as := [.int p2, .int x16]) (b := 12) (st := []) hM (by decide) yfX1_drawUpTo mlX10_439 imX1_drawUpTo seX1_drawUpTo clX1 (kd12 hJ.1.1) rfl (Nat.le_of_ble_eq_true rfl) rfl dX10_replay_132 q) (by decide) (by decide) (fun v19 σ20 => ?_)
              refine P_l (fun hJ _ _ q => E_pop dX10_replay_135 rfl q) ?_
              exact P_ret (fun _ _ => E_vret rfl dX10_replay_136)

def b_X10_isReplayed_51 (s7 : Int32 × rS) : Option ((Int32 × rS) ⊕ (Int32 × rS)) := if (rI s7.2 35 1) ≤ s7.1 then ((f_X1_isLike s7.2).bind fun v8 => if v8 = 0 ∨ v8 = 1 then (some (.inl ((v8, s7.2)))) else none) else (oB (f_X10_replay s7.2 (v_X2_sort s7.2 s7.1) (v_X2_who s7.2 s7.1) (v_X2_kind s7.2 s7.1)) fun _ σ11 => some (.inr ((s7.1 + 1, σ11))))
def f_X10_isReplayed (σ : rS) : Option (Int32 × rS) := oB (f_X1_clear σ 12) fun _ σ2 => if (rI σ2 35 2) = 0 then ((f_X1_isLike σ2).bind fun v3 => if v3 = 0 ∨ v3 = 1 then (some ((v3, σ2))) else none) else (oB (f_X1_dealOut σ2 12 (rI σ2 35 3) (rI σ2 35 4) (rI σ2 35 5)) fun _ σ6 => oLoop (b_X10_isReplayed_51) oFuel ((0, σ6)))
set_option maxRecDepth 20000 in
set_option maxHeartbeats 2000000 in
theorem ok_X10_isReplayed {σ : rS}   : rFn Sy yX10_isReplayed mX10_isReplayed 6 [.ref 3] σ 0 0 (fun v => .inl (some (.int v))) (f_X10_isReplayed σ) := by
  refine rF_of (ls := [some (.ref 3), none]) yfX10_isReplayed rfl (Nat.le_of_ble_eq_true rfl) (fun o τ => ?_)
  unfold f_X10_isReplayed
  refine P_l (fun hJ _ _ q => E_aload_n dX10_isReplayed_0 rfl (E_getR (b := 12) clX10 2 (by decide) flX10_23 (Or.inl ⟨_, rfl⟩) dX10_isReplayed_1 (kd3 hJ.1.1) (rf3_2 hJ.1.1) (by decide) q)) ?_
  refine P_call (t := fun _ => none) (st2 := fun _ => []) (kc2 := 0) (ks2 := 0) (fun hJ => (ok_X1_clear (σ := σ) (b := 12) (Or.inr rfl))) (fun hJ _ _ _ _ v τ1 hM q => E_callVN (as := []) (b := 12) (st := []) hM (by decide) yfX1_clear mlX10_103 imX1_clear seX1_clear clX1 (kd12 hJ.1.1) rfl (Nat.le_of_ble_eq_true rfl) rfl dX10_isReplayed_4 q) (by decide) (by decide) (fun v1 σ2 => ?_)
  refine P_l (fun hJ _ _ q => E_aload_n dX10_isReplayed_7 rfl (E_getR (b := 35) clX10 5 (by decide) flX10_43 (Or.inl ⟨_, rfl⟩) dX10_isReplayed_8 (kd3 hJ.1.1) (rf3_5 hJ.1.1) (by decide) (E_getIN clX2 2 (by decide) flX10_375 (Or.inr rfl) dX10_isReplayed_11 (kd35 hJ.1.1) q))) ?_
  refine P_if (fun hJ _ _ h1 h2 => E_if_eq 96 dX10_isReplayed_14 (by decide) h1 h2) ?_ ?_
  · skip
    refine P_l (fun hJ _ _ q => E_aload_n dX10_isReplayed_96 rfl (E_getR (b := 5) clX10 1 (by decide) flX10_19 (Or.inl ⟨_, rfl⟩) dX10_isReplayed_97 (kd3 hJ.1.1) (rf3_1 hJ.1.1) (by decide) (E_aload_n dX10_isReplayed_100 rfl (E_getR (b := 12) clX10 2 (by decide) flX10_23 (Or.inl ⟨_, rfl⟩) dX10_isReplayed_101 (kd3 hJ.1.1) (rf3_2 hJ.1.1) (by decide) q)))) ?_
    refine P_callr (t := fun v => some (.int v)) (st2 := fun v => .int v :: []) (fun hJ => (ok_X1_isLike (σ := σ2)  )) (fun hJ _ _ v hM q => E_callVN (as := [.ref 12]) (b := 5) (st := []) hM (by decide) yfX1_isLike mlX10_390 imX1_isLike seX1_isLike clX1 (kd5 hJ.1.1) rfl (Nat.le_of_ble_eq_true rfl) rfl dX10_isReplayed_104 q) (fun v3 => ?_)
    refine P_g (fun g4 => ?_)
    exact P_ret (fun _ _ => E_zret01 rfl g4 dX10_isReplayed_107)
  · skip
    refine P_l (fun hJ _ _ q => E_aload_n dX10_isReplayed_17 rfl (E_getR (b := 12) clX10 2 (by decide) flX10_23 (Or.inl ⟨_, rfl⟩) dX10_isReplayed_18 (kd3 hJ.1.1) (rf3_2 hJ.1.1) (by decide) (E_aload_n dX10_isReplayed_21 rfl (E_getR (b := 4) clX10 0 (by decide) flX10_12 (Or.inl ⟨_, rfl⟩) dX10_isReplayed_22 (kd3 hJ.1.1) (rf3_0 hJ.1.1) (by decide) (E_aload_n dX10_isReplayed_25 rfl (E_getR (b := 35) clX10 5 (by decide) flX10_43 (Or.inl ⟨_, rfl⟩) dX10_isReplayed_26 (kd3 hJ.1.1) (rf3_5 hJ.1.1) (by decide) (E_getIN clX2 3 (by decide) flX10_378 (Or.inl rfl) dX10_isReplayed_29 (kd35 hJ.1.1) (E_aload_n dX10_isReplayed_32 rfl (E_getR (b := 35) clX10 5 (by decide) flX10_43 (Or.inl ⟨_, rfl⟩) dX10_isReplayed_33 (kd3 hJ.1.1) (rf3_5 hJ.1.1) (by decide) (E_getIN clX2 4 (by decide) flX10_381 (Or.inl rfl) dX10_isReplayed_36 (kd35 hJ.1.1) (E_aload_n dX10_isReplayed_39 rfl (E_getR (b := 35) clX10 5 (by decide) flX10_43 (Or.inl ⟨_, rfl⟩) dX10_isReplayed_40 (kd3 hJ.1.1) (rf3_5 hJ.1.1) (by decide) (E_getIN clX2 5 (by decide) flX10_384 (Or.inl rfl) dX10_isReplayed_43 (kd35 hJ.1.1) q))))))))))))) ?_
    refine P_call (t := fun _ => none) (st2 := fun _ => []) (kc2 := 0) (ks2 := 0) (fun hJ => (ok_X1_dealOut (σ := σ2) (b := 12) (from_ := rI σ2 35 3) (each_ := rI σ2 35 4) (players := rI σ2 35 5) (Or.inr rfl))) (fun hJ _ _ _ _ v τ1 hM q => E_callVN (as := [.ref 4, .int (rI σ2 35 3), .int (rI σ2 35 4), .int (rI σ2 35 5)]) (b := 12) (st := []) hM (by decide) yfX1_dealOut mlX10_126 imX1_dealOut seX1_dealOut clX1 (kd12 hJ.1.1) rfl (Nat.le_of_ble_eq_true rfl) rfl dX10_isReplayed_46 q) (by decide) (by decide) (fun v5 σ6 => ?_)
    refine P_l (fun hJ _ _ q => E_iconst (v := 0) dX10_isReplayed_49 (by decide) (E_istore_n (ls2 := [some (.ref 3), some (.int 0)]) dX10_isReplayed_50 (by decide) rfl q)) ?_
    refine P_loop (fun s7 => [some (.ref 3), some (.int s7.1)]) (fun s7 => s7.2) (fun s7 => ?_) _ ((0, σ6))
    unfold b_X10_isReplayed_51
    refine P_l (fun hJ _ _ q => E_iload_n dX10_isReplayed_51 rfl (E_aload_n dX10_isReplayed_52 rfl (E_getR (b := 35) clX10 5 (by decide) flX10_43 (Or.inl ⟨_, rfl⟩) dX10_isReplayed_53 (kd3 hJ.1.1) (rf3_5 hJ.1.1) (by decide) (E_getIN clX2 1 (by decide) flX10_359 (Or.inl rfl) dX10_isReplayed_56 (kd35 hJ.1.1) q)))) ?_
    refine P_if (fun hJ _ _ h1 h2 => E_icmp_ge 96 dX10_isReplayed_59 (by decide) h1 h2) ?_ ?_
    · skip
      refine P_l (fun hJ _ _ q => E_aload_n dX10_isReplayed_96 rfl (E_getR (b := 5) clX10 1 (by decide) flX10_19 (Or.inl ⟨_, rfl⟩) dX10_isReplayed_97 (kd3 hJ.1.1) (rf3_1 hJ.1.1) (by decide) (E_aload_n dX10_isReplayed_100 rfl (E_getR (b := 12) clX10 2 (by decide) flX10_23 (Or.inl ⟨_, rfl⟩) dX10_isReplayed_101 (kd3 hJ.1.1) (rf3_2 hJ.1.1) (by decide) q)))) ?_
      refine P_callr (t := fun v => some (.int v)) (st2 := fun v => .int v :: []) (fun hJ => (ok_X1_isLike (σ := s7.2)  )) (fun hJ _ _ v hM q => E_callVN (as := [.ref 12]) (b := 5) (st := []) hM (by decide) yfX1_isLike mlX10_390 imX1_isLike seX1_isLike clX1 (kd5 hJ.1.1) rfl (Nat.le_of_ble_eq_true rfl) rfl dX10_isReplayed_104 q) (fun v8 => ?_)
      refine P_g (fun g9 => ?_)
      exact P_inl (P_ret (fun _ _ => E_zret01 rfl g9 dX10_isReplayed_107))
    · skip
      refine P_l (fun hJ _ _ q => E_aload_n dX10_isReplayed_62 rfl (E_aload_n dX10_isReplayed_63 rfl (E_getR (b := 35) clX10 5 (by decide) flX10_43 (Or.inl ⟨_, rfl⟩) dX10_isReplayed_64 (kd3 hJ.1.1) (rf3_5 hJ.1.1) (by decide) (E_iload_n dX10_isReplayed_67 rfl (E_callVN (as := [.int s7.1]) (b := 35) (st := [.ref 3]) (ok_X2_sort (σ := s7.2) (p1 := s7.1) hJ ) (by decide) yfX2_sort mlX10_363 imX2_sort seX2_sort clX2 (kd35 hJ.1.1) rfl (Nat.le_of_ble_eq_true rfl) rfl dX10_isReplayed_68 (E_aload_n dX10_isReplayed_71 rfl (E_getR (b := 35) clX10 5 (by decide) flX10_43 (Or.inl ⟨_, rfl⟩) dX10_isReplayed_72 (kd3 hJ.1.1) (rf3_5 hJ.1.1) (by decide) (E_iload_n dX10_isReplayed_75 rfl (E_callVN (as := [.int s7.1]) (b := 35) (st := [.int (v_X2_sort s7.2 s7.1), .ref 3]) (ok_X2_who (σ := s7.2) (p1 := s7.1) hJ ) (by decide) yfX2_who mlX10_366 imX2_who seX2_who clX2 (kd35 hJ.1.1) rfl (Nat.le_of_ble_eq_true rfl) rfl dX10_isReplayed_76 (E_aload_n dX10_isReplayed_79 rfl (E_getR (b := 35) clX10 5 (by decide) flX10_43 (Or.inl ⟨_, rfl⟩) dX10_isReplayed_80 (kd3 hJ.1.1) (rf3_5 hJ.1.1) (by decide) (E_iload_n dX10_isReplayed_83 rfl (E_callVN (as := [.int s7.1]) (b := 35) (st := [.int (v_X2_who s7.2 s7.1), .int (v_X2_sort s7.2 s7.1), .ref 3]) (ok_X2_kind (σ := s7.2) (p1 := s7.1) hJ ) (by decide) yfX2_kind mlX10_369 imX2_kind seX2_kind clX2 (kd35 hJ.1.1) rfl (Nat.le_of_ble_eq_true rfl) rfl dX10_isReplayed_84 q))))))))))))) ?_
      refine P_call (t := fun _ => none) (st2 := fun _ => []) (kc2 := 0) (ks2 := 0) (fun hJ => (ok_X10_replay (σ := s7.2) (p1 := v_X2_sort s7.2 s7.1) (p2 := v_X2_who s7.2 s7.1) (p3 := v_X2_kind s7.2 s7.1) )) (fun hJ _ _ _ _ v τ1 hM q => E_callV (as := [.int (v_X2_sort s7.2 s7.1), .int (v_X2_who s7.2 s7.1), .int (v_X2_kind s7.2 s7.1)]) (b := 3) (st := []) hM (by decide) yfX10_replay mlX10_387 imX10_replay seX10_replay clX10 (kd3 hJ.1.1) rfl (Nat.le_of_ble_eq_true rfl) rfl dX10_isReplayed_87 q) (by decide) (by decide) (fun v10 σ11 => ?_)
      refine P_l (fun hJ _ _ q => E_iinc (v := 1) (ls2 := [some (.ref 3), some (.int (s7.1 + 1))]) dX10_isReplayed_90 rfl (by decide) (by decide) rfl (E_goto 51 dX10_isReplayed_93 (by decide) q)) ?_
      exact P_back ((s7.1 + 1, σ11))

def f_X10_sum (σ : rS) (p1 : Int32) : Option ((Int32 ⊕ String) × rS) := if p1 = 0 then (some ((.inl (rI σ 3 8), σ))) else (if p1 = 1 then (some ((.inl (rI σ 5 7), σ))) else (if p1 = 2 then (some ((.inl (rI σ 5 8), σ))) else (if p1 = 3 then (some ((.inl (rI σ 5 9), σ))) else (if p1 = 4 then (some ((.inl (rI σ 5 10), σ))) else (if p1 = 5 then (some ((.inl (rI σ 5 6), σ))) else (if p1 = 6 then (some ((.inl (rI σ 3 9), σ))) else (if p1 = 7 then (some ((.inl (rI σ 35 1), σ))) else (if p1 = 8 then (some ((.inl (rI σ 3 10), σ))) else (if p1 = 9 then (some ((.inl (rI σ 3 11), σ))) else (if p1 = 10 then (some ((.inl (rI σ 31 1), σ))) else (if p1 = 11 then (some ((.inl (rI σ 5 11), σ))) else (some ((.inr "java/lang/IllegalArgumentException", σ))))))))))))))
set_option maxRecDepth 20000 in
set_option maxHeartbeats 2000000 in
theorem ok_X10_sum {σ : rS} {p1 : Int32}   : rFn Sy yX10_sum mX10_sum 6 [.ref 3, .int p1] σ 1 6 (tX (fun v => .inl (some (.int v)))) (f_X10_sum σ p1) := by
  refine rF_of (ls := [some (.ref 3), some (.int p1)]) yfX10_sum rfl (Nat.le_of_ble_eq_true rfl) (fun o τ => ?_)
  unfold f_X10_sum
  refine P_l (fun hJ _ _ q => E_iload_n dX10_sum_0 rfl q) ?_
  refine P_case (fun h1 => ?_) (fun h1 => ?_)
  · skip
    refine P_l (fun hJ _ _ q => E_tableIn (off := 63) 64 dX10_sum_1 (by rw [h1]; decide) (by rw [h1]; decide) (by rw [h1]; rfl) (by decide) q) ?_
    refine P_l (fun hJ _ _ q => E_aload_n dX10_sum_64 rfl (E_getI clX10 8 (by decide) flX10_61 (Or.inl rfl) dX10_sum_65 (kd3 hJ.1.1) q)) ?_
    exact P_ret (fun _ _ => E_iret rfl dX10_sum_68)
  · skip
    refine P_case (fun h2 => ?_) (fun h2 => ?_)
    · skip
      refine P_l (fun hJ _ _ q => E_tableIn (off := 68) 69 dX10_sum_1 (by rw [h2]; decide) (by rw [h2]; decide) (by rw [h2]; rfl) (by decide) q) ?_
      refine P_l (fun hJ _ _ q => E_aload_n dX10_sum_69 rfl (E_getR (b := 5) clX10 1 (by decide) flX10_19 (Or.inl ⟨_, rfl⟩) dX10_sum_70 (kd3 hJ.1.1) (rf3_1 hJ.1.1) (by decide) (E_getIN clX1 7 (by decide) flX10_133 (Or.inl rfl) dX10_sum_73 (kd5 hJ.1.1) q))) ?_
      exact P_ret (fun _ _ => E_iret rfl dX10_sum_76)
    · skip
      refine P_case (fun h3 => ?_) (fun h3 => ?_)
      · skip
        refine P_l (fun hJ _ _ q => E_tableIn (off := 76) 77 dX10_sum_1 (by rw [h3]; decide) (by rw [h3]; decide) (by rw [h3]; rfl) (by decide) q) ?_
        refine P_l (fun hJ _ _ q => E_aload_n dX10_sum_77 rfl (E_getR (b := 5) clX10 1 (by decide) flX10_19 (Or.inl ⟨_, rfl⟩) dX10_sum_78 (kd3 hJ.1.1) (rf3_1 hJ.1.1) (by decide) (E_getIN clX1 8 (by decide) flX10_261 (Or.inl rfl) dX10_sum_81 (kd5 hJ.1.1) q))) ?_
        exact P_ret (fun _ _ => E_iret rfl dX10_sum_84)
      · skip
        refine P_case (fun h4 => ?_) (fun h4 => ?_)
        · skip
          refine P_l (fun hJ _ _ q => E_tableIn (off := 84) 85 dX10_sum_1 (by rw [h4]; decide) (by rw [h4]; decide) (by rw [h4]; rfl) (by decide) q) ?_
          refine P_l (fun hJ _ _ q => E_aload_n dX10_sum_85 rfl (E_getR (b := 5) clX10 1 (by decide) flX10_19 (Or.inl ⟨_, rfl⟩) dX10_sum_86 (kd3 hJ.1.1) (rf3_1 hJ.1.1) (by decide) (E_getIN clX1 9 (by decide) flX10_156 (Or.inl rfl) dX10_sum_89 (kd5 hJ.1.1) q))) ?_
          exact P_ret (fun _ _ => E_iret rfl dX10_sum_92)
        · skip
          refine P_case (fun h5 => ?_) (fun h5 => ?_)
          · skip
            refine P_l (fun hJ _ _ q => E_tableIn (off := 92) 93 dX10_sum_1 (by rw [h5]; decide) (by rw [h5]; decide) (by rw [h5]; rfl) (by decide) q) ?_
            refine P_l (fun hJ _ _ q => E_aload_n dX10_sum_93 rfl (E_getR (b := 5) clX10 1 (by decide) flX10_19 (Or.inl ⟨_, rfl⟩) dX10_sum_94 (kd3 hJ.1.1) (rf3_1 hJ.1.1) (by decide) (E_getIN clX1 10 (by decide) flX10_165 (Or.inl rfl) dX10_sum_97 (kd5 hJ.1.1) q))) ?_
            exact P_ret (fun _ _ => E_iret rfl dX10_sum_100)
          · skip
            refine P_case (fun h6 => ?_) (fun h6 => ?_)
            · skip
              refine P_l (fun hJ _ _ q => E_tableIn (off := 100) 101 dX10_sum_1 (by rw [h6]; decide) (by rw [h6]; decide) (by rw [h6]; rfl) (by decide) q) ?_
              refine P_l (fun hJ _ _ q => E_aload_n dX10_sum_101 rfl (E_getR (b := 5) clX10 1 (by decide) flX10_19 (Or.inl ⟨_, rfl⟩) dX10_sum_102 (kd3 hJ.1.1) (rf3_1 hJ.1.1) (by decide) (E_getIN clX1 6 (by decide) flX10_174 (Or.inl rfl) dX10_sum_105 (kd5 hJ.1.1) q))) ?_
              exact P_ret (fun _ _ => E_iret rfl dX10_sum_108)
            · skip
              refine P_case (fun h7 => ?_) (fun h7 => ?_)
              · skip
                refine P_l (fun hJ _ _ q => E_tableIn (off := 108) 109 dX10_sum_1 (by rw [h7]; decide) (by rw [h7]; decide) (by rw [h7]; rfl) (by decide) q) ?_
                refine P_l (fun hJ _ _ q => E_aload_n dX10_sum_109 rfl (E_getI clX10 9 (by decide) flX10_130 (Or.inl rfl) dX10_sum_110 (kd3 hJ.1.1) q)) ?_
                exact P_ret (fun _ _ => E_iret rfl dX10_sum_113)
              · skip
                refine P_case (fun h8 => ?_) (fun h8 => ?_)
                · skip
                  refine P_l (fun hJ _ _ q => E_tableIn (off := 113) 114 dX10_sum_1 (by rw [h8]; decide) (by rw [h8]; decide) (by rw [h8]; rfl) (by decide) q) ?_
                  refine P_l (fun hJ _ _ q => E_aload_n dX10_sum_114 rfl (E_getR (b := 35) clX10 5 (by decide) flX10_43 (Or.inl ⟨_, rfl⟩) dX10_sum_115 (kd3 hJ.1.1) (rf3_5 hJ.1.1) (by decide) (E_getIN clX2 1 (by decide) flX10_359 (Or.inl rfl) dX10_sum_118 (kd35 hJ.1.1) q))) ?_
                  exact P_ret (fun _ _ => E_iret rfl dX10_sum_121)
                · skip
                  refine P_case (fun h9 => ?_) (fun h9 => ?_)
                  · skip
                    refine P_l (fun hJ _ _ q => E_tableIn (off := 121) 122 dX10_sum_1 (by rw [h9]; decide) (by rw [h9]; decide) (by rw [h9]; rfl) (by decide) q) ?_
                    refine P_l (fun hJ _ _ q => E_aload_n dX10_sum_122 rfl (E_getI clX10 10 (by decide) flX10_394 (Or.inl rfl) dX10_sum_123 (kd3 hJ.1.1) q)) ?_
                    exact P_ret (fun _ _ => E_iret rfl dX10_sum_126)
                  · skip
                    refine P_case (fun h10 => ?_) (fun h10 => ?_)
                    · skip
                      refine P_l (fun hJ _ _ q => E_tableIn (off := 126) 127 dX10_sum_1 (by rw [h10]; decide) (by rw [h10]; decide) (by rw [h10]; rfl) (by decide) q) ?_
                      refine P_l (fun hJ _ _ q => E_aload_n dX10_sum_127 rfl (E_getI clX10 11 (by decide) flX10_65 (Or.inl rfl) dX10_sum_128 (kd3 hJ.1.1) q)) ?_
                      exact P_ret (fun _ _ => E_iret rfl dX10_sum_131)
                    · skip
                      refine P_case (fun h11 => ?_) (fun h11 => ?_)
                      · skip
                        refine P_l (fun hJ _ _ q => E_tableIn (off := 131) 132 dX10_sum_1 (by rw [h11]; decide) (by rw [h11]; decide) (by rw [h11]; rfl) (by decide) q) ?_
                        refine P_l (fun hJ _ _ q => E_aload_n dX10_sum_132 rfl (E_getR (b := 31) clX10 4 (by decide) flX10_36 (Or.inl ⟨_, rfl⟩) dX10_sum_133 (kd3 hJ.1.1) (rf3_4 hJ.1.1) (by decide) (E_getIN clX7 1 (by decide) flX10_222 (Or.inl rfl) dX10_sum_136 (kd31 hJ.1.1) q))) ?_
                        exact P_ret (fun _ _ => E_iret rfl dX10_sum_139)
                      · skip
                        refine P_case (fun h12 => ?_) (fun h12 => ?_)
                        · skip
                          refine P_l (fun hJ _ _ q => E_tableIn (off := 139) 140 dX10_sum_1 (by rw [h12]; decide) (by rw [h12]; decide) (by rw [h12]; rfl) (by decide) q) ?_
                          refine P_l (fun hJ _ _ q => E_aload_n dX10_sum_140 rfl (E_getR (b := 5) clX10 1 (by decide) flX10_19 (Or.inl ⟨_, rfl⟩) dX10_sum_141 (kd3 hJ.1.1) (rf3_1 hJ.1.1) (by decide) (E_getIN clX1 11 (by decide) flX10_397 (Or.inl rfl) dX10_sum_144 (kd5 hJ.1.1) q))) ?_
                          exact P_ret (fun _ _ => E_iret rfl dX10_sum_147)
                        · skip
                          refine P_l (fun hJ _ _ q => E_tableOut 148 dX10_sum_1 (by have e0 := sw_ne h1; have e1 := sw_ne h2; have e2 := sw_ne h3; have e3 := sw_ne h4; have e4 := sw_ne h5; have e5 := sw_ne h6; have e6 := sw_ne h7; have e7 := sw_ne h8; have e8 := sw_ne h9; have e9 := sw_ne h10; have e10 := sw_ne h11; have e11 := sw_ne h12; simp only [sw_l0, sw_l1, sw_l2, sw_l3, sw_l4, sw_l5, sw_l6, sw_l7, sw_l8, sw_l9, sw_l10, sw_l11] at *; omega) (by decide) q) ?_
                          exact P_thr (fun kc ks => xt_IllegalArgumentException (M := mX10_sum) (pc := 148) rfl rfl (by decide) (Nat.le_of_ble_eq_true rfl) dX10_sum_148 dX10_sum_151 dX10_sum_152 dX10_sum_155 kc ks) (by decide) (by decide)

