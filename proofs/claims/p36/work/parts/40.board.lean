def v_X5_isKind (σ : rS) (k : Int32) : Int32 := if k < 0 then 0 else (if 52 ≤ k then 0 else (if (rI σ 4 0) ≤ (iRem k 13) then 0 else 1))
set_option maxRecDepth 20000 in
theorem ok_X5_isKind {σ : rS} {k : Int32}  (hJ : J Sy σ)  : rMet yX5_isKind mX5_isKind 0 [.ref 4, .int k] σ 0 0 (some (.int (v_X5_isKind σ k))) σ := by
  refine rMet_of (ls := [some (.ref 4), some (.int k)]) yfX5_isKind rfl (Nat.le_of_ble_eq_true rfl) ?_
  refine E_iload_n dX5_isKind_0 rfl ?_
  refine E_if_lt 25 dX5_isKind_1 (by decide) (fun c_1_0 => ?_) (fun c_1_0 => ?_)
  · skip
    refine E_iconst (v := 0) dX5_isKind_25 (by decide) ?_
    exact E_zretE rfl dX5_isKind_26 (by decide) (by unfold v_X5_isKind; simp only [if_pos c_1_0]) rfl
  · skip
    refine E_iload_n dX5_isKind_4 rfl ?_
    refine E_bipush (v := 52) dX5_isKind_5 (by decide) ?_
    refine E_icmp_ge 25 dX5_isKind_7 (by decide) (fun c_7_1 => ?_) (fun c_7_1 => ?_)
    · skip
      refine E_iconst (v := 0) dX5_isKind_25 (by decide) ?_
      exact E_zretE rfl dX5_isKind_26 (by decide) (by unfold v_X5_isKind; simp only [if_neg c_1_0, if_pos c_7_1]) rfl
    · skip
      refine E_iload_n dX5_isKind_10 rfl ?_
      refine E_bipush (v := 13) dX5_isKind_11 (by decide) ?_
      refine E_irem dX5_isKind_13 (by decide) ?_
      refine E_aload_n dX5_isKind_14 rfl ?_
      refine E_getI clX5 0 (by decide) flX5_9 (Or.inl rfl) dX5_isKind_15 (kd4 hJ.1.1) ?_
      refine E_icmp_ge 25 dX5_isKind_18 (by decide) (fun c_18_2 => ?_) (fun c_18_2 => ?_)
      · skip
        refine E_iconst (v := 0) dX5_isKind_25 (by decide) ?_
        exact E_zretE rfl dX5_isKind_26 (by decide) (by unfold v_X5_isKind; simp only [if_neg c_1_0, if_neg c_7_1, if_pos c_18_2]) rfl
      · skip
        refine E_iconst (v := 1) dX5_isKind_21 (by decide) ?_
        refine E_goto 26 dX5_isKind_22 (by decide) ?_
        exact E_zretE rfl dX5_isKind_26 (by decide) (by unfold v_X5_isKind; simp only [if_neg c_1_0, if_neg c_7_1, if_neg c_18_2]) rfl
theorem z_X5_isKind (σ : rS) (k : Int32) : v_X5_isKind σ k = 0 ∨ v_X5_isKind σ k = 1 := by
  unfold v_X5_isKind
  (repeat' split) <;> first | decide | exact vIn_01 _ _ _ | exact vBit_01 _ _

def v_X5_pieces (σ : rS) : Int32 := (8 * (rI σ 4 0)) + (rI σ 4 2)
set_option maxRecDepth 20000 in
theorem ok_X5_pieces {σ : rS}  (hJ : J Sy σ)  : rMet yX5_pieces mX5_pieces 0 [.ref 4] σ 0 0 (some (.int (v_X5_pieces σ))) σ := by
  refine rMet_of (ls := [some (.ref 4)]) yfX5_pieces rfl (Nat.le_of_ble_eq_true rfl) ?_
  refine E_bipush (v := 8) dX5_pieces_0 (by decide) ?_
  refine E_aload_n dX5_pieces_2 rfl ?_
  refine E_getI clX5 0 (by decide) flX5_9 (Or.inl rfl) dX5_pieces_3 (kd4 hJ.1.1) ?_
  refine E_imul dX5_pieces_6 ?_
  refine E_aload_n dX5_pieces_7 rfl ?_
  refine E_getI clX5 2 (by decide) flX5_18 (Or.inl rfl) dX5_pieces_8 (kd4 hJ.1.1) ?_
  refine E_iadd dX5_pieces_11 ?_
  exact E_iretE rfl dX5_pieces_12 rfl rfl

def f_X1_change (σ : rS) (b : Nat) (r : Nat) (k : Int32) (by_ : Int32) : Option (Unit × rS) := oLet (rowI σ r (vSet (rI σ r) 52 k ((vAt (rI σ r) 52 k) + by_))) fun σ1 => oLet (wI σ1 b 12 ((rI σ1 b 12) + 1)) fun σ2 => some (((), σ2))
set_option maxRecDepth 20000 in
set_option maxHeartbeats 2000000 in
theorem ok_X1_change {σ : rS} {b : Nat} {r : Nat} {k : Int32} {by_ : Int32}  (hb : isB b) (hr : rK σ r = (0, 52)) (h3 : 3 ≤ r) : rFn Sy yX1_change mX1_change 1 [.ref b, .ref r, .int k, .int by_] σ 0 0 (fun _ => .inl none) (f_X1_change σ b r k by_) := by
  refine rF_of (ls := [some (.ref b), some (.ref r), some (.int k), some (.int by_)]) yfX1_change rfl (Nat.le_of_ble_eq_true rfl) (fun o τ => ?_)
  unfold f_X1_change
  refine P_l (fun hJ _ _ q => E_aload_n dX1_change_0 rfl (E_iload_n dX1_change_1 rfl (E_aload_n dX1_change_2 rfl (E_iload_n dX1_change_3 rfl (E_callSN (as := [.ref r, .int k]) (st := [.int k, .ref r]) (ok_at (σ := σ) (a := r) (i := k) (f := rI σ r) hr (by decide) rfl) (by decide) yfX10_at mlX1_89 stX10_at rfl (Nat.le_of_ble_eq_true rfl) rfl dX1_change_4 (E_iload_n dX1_change_7 rfl (E_iadd dX1_change_8 q))))))) ?_
  refine P_w (fun hJ _ _ q => E_callSN (as := [.ref r, .int k, .int ((vAt (rI σ r) 52 k) + by_)]) (st := []) (ok_set (σ := σ) (a := r) (i := k) (x := (vAt (rI σ r) 52 k) + by_) (f := rI σ r) hr (by decide) h3 rfl) (by decide) yfX10_set mlX1_93 stX10_set rfl (Nat.le_of_ble_eq_true rfl) rfl dX1_change_9 q) (fun hJ => Sy_rowI hJ.1) rfl rfl rfl (fun σ1 hσ1 => ?_)
  refine P_l (fun hJ _ _ q => E_aload_n dX1_change_12 rfl (E_dup dX1_change_13 rfl (E_getI clX1 12 (by decide) flX1_52 (Or.inl rfl) dX1_change_14 (kdB hJ.1.1 hb) (E_iconst (v := 1) dX1_change_17 (by decide) (E_iadd dX1_change_18 q))))) ?_
  refine P_w (fun hJ _ _ q => E_putI clX1 12 (by decide) flX1_52 (Or.inl rfl) rfl dX1_change_19 (kdB hJ.1.1 hb) q) (fun hJ => Sy_wI hJ.1) rfl rfl rfl (fun σ2 hσ2 => ?_)
  exact P_ret (fun _ _ => E_vret rfl dX1_change_22)

def v_X1_sizeOf (σ : rS) (b : Nat) (p : Int32) : Int32 := vAt (rI σ (b + 3)) 4 p
set_option maxRecDepth 20000 in
theorem ok_X1_sizeOf {σ : rS} {b : Nat} {p : Int32}  (hJ : J Sy σ) (hb : isB b) : rMet yX1_sizeOf mX1_sizeOf 1 [.ref b, .int p] σ 0 0 (some (.int (v_X1_sizeOf σ b p))) σ := by
  refine rMet_of (ls := [some (.ref b), some (.int p)]) yfX1_sizeOf rfl (Nat.le_of_ble_eq_true rfl) ?_
  refine E_aload_n dX1_sizeOf_0 rfl ?_
  refine E_getR (b := b + 3) clX1 2 (by decide) flX1_18 (Or.inr ⟨_, rfl⟩) dX1_sizeOf_1 (kdB hJ.1.1 hb) (rfB2 hJ.1.1 hb) (isB0 hb) ?_
  refine E_iload_n dX1_sizeOf_4 rfl ?_
  refine E_callSN (as := [.ref (b + 3), .int p]) (st := []) (ok_at (σ := σ) (a := b + 3) (i := p) (f := rI σ (b + 3)) (kdB2 hJ.1.1 hb) (by decide) rfl) (by decide) yfX10_at mlX1_89 stX10_at rfl (Nat.le_of_ble_eq_true rfl) rfl dX1_sizeOf_5 ?_
  exact E_iretE rfl dX1_sizeOf_8 rfl rfl

def v_X1_rackOf (σ : rS) (b : Nat) (p : Int32) (k : Int32) : Int32 := vAt (rI σ (b + 2)) 212 ((p * 53) + k)
set_option maxRecDepth 20000 in
theorem ok_X1_rackOf {σ : rS} {b : Nat} {p : Int32} {k : Int32}  (hJ : J Sy σ) (hb : isB b) : rMet yX1_rackOf mX1_rackOf 1 [.ref b, .int p, .int k] σ 0 0 (some (.int (v_X1_rackOf σ b p k))) σ := by
  refine rMet_of (ls := [some (.ref b), some (.int p), some (.int k)]) yfX1_rackOf rfl (Nat.le_of_ble_eq_true rfl) ?_
  refine E_aload_n dX1_rackOf_0 rfl ?_
  refine E_getR (b := b + 2) clX1 1 (by decide) flX1_15 (Or.inr ⟨_, rfl⟩) dX1_rackOf_1 (kdB hJ.1.1 hb) (rfB1 hJ.1.1 hb) (isB0 hb) ?_
  refine E_iload_n dX1_rackOf_4 rfl ?_
  refine E_bipush (v := 53) dX1_rackOf_5 (by decide) ?_
  refine E_imul dX1_rackOf_7 ?_
  refine E_iload_n dX1_rackOf_8 rfl ?_
  refine E_iadd dX1_rackOf_9 ?_
  refine E_callSN (as := [.ref (b + 2), .int ((p * 53) + k)]) (st := []) (ok_at (σ := σ) (a := b + 2) (i := (p * 53) + k) (f := rI σ (b + 2)) (kdB1 hJ.1.1 hb) (by decide) rfl) (by decide) yfX10_at mlX1_89 stX10_at rfl (Nat.le_of_ble_eq_true rfl) rfl dX1_rackOf_10 ?_
  exact E_iretE rfl dX1_rackOf_13 rfl rfl

def v_X1_lies (σ : rS) (b : Nat) (k : Int32) : Int32 := (vAt (rI σ (b + 4)) 52 k) + (vAt (rI σ (b + 5)) 52 k)
set_option maxRecDepth 20000 in
theorem ok_X1_lies {σ : rS} {b : Nat} {k : Int32}  (hJ : J Sy σ) (hb : isB b) : rMet yX1_lies mX1_lies 1 [.ref b, .int k] σ 0 0 (some (.int (v_X1_lies σ b k))) σ := by
  refine rMet_of (ls := [some (.ref b), some (.int k)]) yfX1_lies rfl (Nat.le_of_ble_eq_true rfl) ?_
  refine E_aload_n dX1_lies_0 rfl ?_
  refine E_getR (b := b + 4) clX1 3 (by decide) flX1_21 (Or.inr ⟨_, rfl⟩) dX1_lies_1 (kdB hJ.1.1 hb) (rfB3 hJ.1.1 hb) (isB0 hb) ?_
  refine E_iload_n dX1_lies_4 rfl ?_
  refine E_callSN (as := [.ref (b + 4), .int k]) (st := []) (ok_at (σ := σ) (a := b + 4) (i := k) (f := rI σ (b + 4)) (kdB3 hJ.1.1 hb) (by decide) rfl) (by decide) yfX10_at mlX1_89 stX10_at rfl (Nat.le_of_ble_eq_true rfl) rfl dX1_lies_5 ?_
  refine E_aload_n dX1_lies_8 rfl ?_
  refine E_getR (b := b + 5) clX1 4 (by decide) flX1_24 (Or.inr ⟨_, rfl⟩) dX1_lies_9 (kdB hJ.1.1 hb) (rfB4 hJ.1.1 hb) (isB0 hb) ?_
  refine E_iload_n dX1_lies_12 rfl ?_
  refine E_callSN (as := [.ref (b + 5), .int k]) (st := [.int (vAt (rI σ (b + 4)) 52 k)]) (ok_at (σ := σ) (a := b + 5) (i := k) (f := rI σ (b + 5)) (kdB4 hJ.1.1 hb) (by decide) rfl) (by decide) yfX10_at mlX1_89 stX10_at rfl (Nat.le_of_ble_eq_true rfl) rfl dX1_lies_13 ?_
  refine E_iadd dX1_lies_16 ?_
  exact E_iretE rfl dX1_lies_17 rfl rfl

def v_X1_doneKind (σ : rS) (b : Nat) (i : Int32) : Int32 := (vAt (rI σ (b + 6)) 64 i) &&& 63
set_option maxRecDepth 20000 in
theorem ok_X1_doneKind {σ : rS} {b : Nat} {i : Int32}  (hJ : J Sy σ) (hb : isB b) : rMet yX1_doneKind mX1_doneKind 1 [.ref b, .int i] σ 0 0 (some (.int (v_X1_doneKind σ b i))) σ := by
  refine rMet_of (ls := [some (.ref b), some (.int i)]) yfX1_doneKind rfl (Nat.le_of_ble_eq_true rfl) ?_
  refine E_aload_n dX1_doneKind_0 rfl ?_
  refine E_getR (b := b + 6) clX1 5 (by decide) flX1_27 (Or.inr ⟨_, rfl⟩) dX1_doneKind_1 (kdB hJ.1.1 hb) (rfB5 hJ.1.1 hb) (isB0 hb) ?_
  refine E_iload_n dX1_doneKind_4 rfl ?_
  refine E_callSN (as := [.ref (b + 6), .int i]) (st := []) (ok_at (σ := σ) (a := b + 6) (i := i) (f := rI σ (b + 6)) (kdB5 hJ.1.1 hb) (by decide) rfl) (by decide) yfX10_at mlX1_89 stX10_at rfl (Nat.le_of_ble_eq_true rfl) rfl dX1_doneKind_5 ?_
  refine E_bipush (v := 63) dX1_doneKind_8 (by decide) ?_
  refine E_iand dX1_doneKind_10 ?_
  exact E_iretE rfl dX1_doneKind_11 rfl rfl

def f_X1_give (σ : rS) (b : Nat) (p : Int32) (k : Int32) (by_ : Int32) : Option (Unit × rS) := oLet (rowI σ (b + 2) (vSet (rI σ (b + 2)) 212 ((p * 53) + k) ((vAt (rI σ (b + 2)) 212 ((p * 53) + k)) + by_))) fun σ1 => oLet (rowI σ1 (b + 3) (vSet (rI σ1 (b + 3)) 4 p ((vAt (rI σ1 (b + 3)) 4 p) + by_))) fun σ2 => oLet (wI σ2 b 12 ((rI σ2 b 12) + 1)) fun σ3 => some (((), σ3))
set_option maxRecDepth 20000 in
set_option maxHeartbeats 2000000 in
theorem ok_X1_give {σ : rS} {b : Nat} {p : Int32} {k : Int32} {by_ : Int32}  (hb : isB b) : rFn Sy yX1_give mX1_give 1 [.ref b, .int p, .int k, .int by_] σ 0 0 (fun _ => .inl none) (f_X1_give σ b p k by_) := by
  refine rF_of (ls := [some (.ref b), some (.int p), some (.int k), some (.int by_), none]) yfX1_give rfl (Nat.le_of_ble_eq_true rfl) (fun o τ => ?_)
  unfold f_X1_give
  refine P_l (fun hJ _ _ q => E_iload_n dX1_give_0 rfl (E_bipush (v := 53) dX1_give_1 (by decide) (E_imul dX1_give_3 (E_iload_n dX1_give_4 rfl (E_iadd dX1_give_5 (E_istore (ls2 := [some (.ref b), some (.int p), some (.int k), some (.int by_), some (.int ((p * 53) + k))]) dX1_give_6 (by decide) rfl (E_aload_n dX1_give_8 rfl (E_getR (b := b + 2) clX1 1 (by decide) flX1_15 (Or.inr ⟨_, rfl⟩) dX1_give_9 (kdB hJ.1.1 hb) (rfB1 hJ.1.1 hb) (isB0 hb) (E_iload dX1_give_12 rfl (E_aload_n dX1_give_14 rfl (E_getR (b := b + 2) clX1 1 (by decide) flX1_15 (Or.inr ⟨_, rfl⟩) dX1_give_15 (kdB hJ.1.1 hb) (rfB1 hJ.1.1 hb) (isB0 hb) (E_iload dX1_give_18 rfl (E_callSN (as := [.ref (b + 2), .int ((p * 53) + k)]) (st := [.int ((p * 53) + k), .ref (b + 2)]) (ok_at (σ := σ) (a := b + 2) (i := (p * 53) + k) (f := rI σ (b + 2)) (kdB1 hJ.1.1 hb) (by decide) rfl) (by decide) yfX10_at mlX1_89 stX10_at rfl (Nat.le_of_ble_eq_true rfl) rfl dX1_give_20 (E_iload_n dX1_give_23 rfl q)))))))))))))) ?_
  refine P_l (fun hJ _ _ q => E_iadd dX1_give_24 q) ?_
  refine P_w (fun hJ _ _ q => E_callSN (as := [.ref (b + 2), .int ((p * 53) + k), .int ((vAt (rI σ (b + 2)) 212 ((p * 53) + k)) + by_)]) (st := []) (ok_set (σ := σ) (a := b + 2) (i := (p * 53) + k) (x := (vAt (rI σ (b + 2)) 212 ((p * 53) + k)) + by_) (f := rI σ (b + 2)) (kdB1 hJ.1.1 hb) (by decide) (isB3 hb) rfl) (by decide) yfX10_set mlX1_93 stX10_set rfl (Nat.le_of_ble_eq_true rfl) rfl dX1_give_25 q) (fun hJ => Sy_rowI hJ.1) rfl rfl rfl (fun σ1 hσ1 => ?_)
  refine P_l (fun hJ _ _ q => E_aload_n dX1_give_28 rfl (E_getR (b := b + 3) clX1 2 (by decide) flX1_18 (Or.inr ⟨_, rfl⟩) dX1_give_29 (kdB hJ.1.1 hb) (rfB2 hJ.1.1 hb) (isB0 hb) (E_iload_n dX1_give_32 rfl (E_aload_n dX1_give_33 rfl (E_getR (b := b + 3) clX1 2 (by decide) flX1_18 (Or.inr ⟨_, rfl⟩) dX1_give_34 (kdB hJ.1.1 hb) (rfB2 hJ.1.1 hb) (isB0 hb) (E_iload_n dX1_give_37 rfl (E_callSN (as := [.ref (b + 3), .int p]) (st := [.int p, .ref (b + 3)]) (ok_at (σ := σ1) (a := b + 3) (i := p) (f := rI σ1 (b + 3)) (kdB2 hJ.1.1 hb) (by decide) rfl) (by decide) yfX10_at mlX1_89 stX10_at rfl (Nat.le_of_ble_eq_true rfl) rfl dX1_give_38 (E_iload_n dX1_give_41 rfl (E_iadd dX1_give_42 q))))))))) ?_
  refine P_w (fun hJ _ _ q => E_callSN (as := [.ref (b + 3), .int p, .int ((vAt (rI σ1 (b + 3)) 4 p) + by_)]) (st := []) (ok_set (σ := σ1) (a := b + 3) (i := p) (x := (vAt (rI σ1 (b + 3)) 4 p) + by_) (f := rI σ1 (b + 3)) (kdB2 hJ.1.1 hb) (by decide) (isB3 hb) rfl) (by decide) yfX10_set mlX1_93 stX10_set rfl (Nat.le_of_ble_eq_true rfl) rfl dX1_give_43 q) (fun hJ => Sy_rowI hJ.1) rfl rfl rfl (fun σ2 hσ2 => ?_)
  refine P_l (fun hJ _ _ q => E_aload_n dX1_give_46 rfl (E_dup dX1_give_47 rfl (E_getI clX1 12 (by decide) flX1_52 (Or.inl rfl) dX1_give_48 (kdB hJ.1.1 hb) (E_iconst (v := 1) dX1_give_51 (by decide) (E_iadd dX1_give_52 q))))) ?_
  refine P_w (fun hJ _ _ q => E_putI clX1 12 (by decide) flX1_52 (Or.inl rfl) rfl dX1_give_53 (kdB hJ.1.1 hb) q) (fun hJ => Sy_wI hJ.1) rfl rfl rfl (fun σ3 hσ3 => ?_)
  exact P_ret (fun _ _ => E_vret rfl dX1_give_56)

def f_X1_note (σ : rS) (b : Nat) (h : Int32) (k : Int32) : Option (Unit × rS) := oLet (rowI σ (b + 6) (vSet (rI σ (b + 6)) 64 (rI σ b 6) ((h * 64) + k))) fun σ1 => oLet (wI σ1 b 6 (if 64 < (rI σ1 b 6) + 1 then 64 else (rI σ1 b 6) + 1)) fun σ2 => some (((), σ2))
set_option maxRecDepth 20000 in
set_option maxHeartbeats 2000000 in
theorem ok_X1_note {σ : rS} {b : Nat} {h : Int32} {k : Int32}  (hb : isB b) : rFn Sy yX1_note mX1_note 1 [.ref b, .int h, .int k] σ 0 0 (fun _ => .inl none) (f_X1_note σ b h k) := by
  refine rF_of (ls := [some (.ref b), some (.int h), some (.int k)]) yfX1_note rfl (Nat.le_of_ble_eq_true rfl) (fun o τ => ?_)
  unfold f_X1_note
  refine P_l (fun hJ _ _ q => E_aload_n dX1_note_0 rfl (E_getR (b := b + 6) clX1 5 (by decide) flX1_27 (Or.inr ⟨_, rfl⟩) dX1_note_1 (kdB hJ.1.1 hb) (rfB5 hJ.1.1 hb) (isB0 hb) (E_aload_n dX1_note_4 rfl (E_getI clX1 6 (by decide) flX1_36 (Or.inl rfl) dX1_note_5 (kdB hJ.1.1 hb) (E_iload_n dX1_note_8 rfl (E_bipush (v := 64) dX1_note_9 (by decide) (E_imul dX1_note_11 (E_iload_n dX1_note_12 rfl (E_iadd dX1_note_13 q))))))))) ?_
  refine P_w (fun hJ _ _ q => E_callSN (as := [.ref (b + 6), .int (rI σ b 6), .int ((h * 64) + k)]) (st := []) (ok_set (σ := σ) (a := b + 6) (i := rI σ b 6) (x := (h * 64) + k) (f := rI σ (b + 6)) (kdB5 hJ.1.1 hb) (by decide) (isB3 hb) rfl) (by decide) yfX10_set mlX1_93 stX10_set rfl (Nat.le_of_ble_eq_true rfl) rfl dX1_note_14 q) (fun hJ => Sy_rowI hJ.1) rfl rfl rfl (fun σ1 hσ1 => ?_)
  refine P_l (fun hJ _ _ q => E_aload_n dX1_note_17 rfl (E_aload_n dX1_note_18 rfl (E_getI clX1 6 (by decide) flX1_36 (Or.inl rfl) dX1_note_19 (kdB hJ.1.1 hb) (E_iconst (v := 1) dX1_note_22 (by decide) (E_iadd dX1_note_23 (E_bipush (v := 64) dX1_note_24 (by decide) (E_mmin mlX1_110 (by decide) (Nat.le_of_ble_eq_true rfl) dX1_note_26 q))))))) ?_
  refine P_w (fun hJ _ _ q => E_putI clX1 6 (by decide) flX1_36 (Or.inl rfl) rfl dX1_note_29 (kdB hJ.1.1 hb) q) (fun hJ => Sy_wI hJ.1) rfl rfl rfl (fun σ2 hσ2 => ?_)
  exact P_ret (fun _ _ => E_vret rfl dX1_note_32)

def f_X1_settle (σ : rS) (b : Nat) : Option (Unit × rS) := oLet (wI σ b 6 0) fun σ1 => oLet (wI σ1 b 12 ((rI σ1 b 12) + 1)) fun σ2 => some (((), σ2))
set_option maxRecDepth 20000 in
set_option maxHeartbeats 2000000 in
theorem ok_X1_settle {σ : rS} {b : Nat}  (hb : isB b) : rFn Sy yX1_settle mX1_settle 0 [.ref b] σ 0 0 (fun _ => .inl none) (f_X1_settle σ b) := by
  refine rF_of (ls := [some (.ref b)]) yfX1_settle rfl (Nat.le_of_ble_eq_true rfl) (fun o τ => ?_)
  unfold f_X1_settle
  refine P_l (fun hJ _ _ q => E_aload_n dX1_settle_0 rfl (E_iconst (v := 0) dX1_settle_1 (by decide) q)) ?_
  refine P_w (fun hJ _ _ q => E_putI clX1 6 (by decide) flX1_36 (Or.inl rfl) rfl dX1_settle_2 (kdB hJ.1.1 hb) q) (fun hJ => Sy_wI hJ.1) rfl rfl rfl (fun σ1 hσ1 => ?_)
  refine P_l (fun hJ _ _ q => E_aload_n dX1_settle_5 rfl (E_dup dX1_settle_6 rfl (E_getI clX1 12 (by decide) flX1_52 (Or.inl rfl) dX1_settle_7 (kdB hJ.1.1 hb) (E_iconst (v := 1) dX1_settle_10 (by decide) (E_iadd dX1_settle_11 q))))) ?_
  refine P_w (fun hJ _ _ q => E_putI clX1 12 (by decide) flX1_52 (Or.inl rfl) rfl dX1_settle_12 (kdB hJ.1.1 hb) q) (fun hJ => Sy_wI hJ.1) rfl rfl rfl (fun σ2 hσ2 => ?_)
  exact P_ret (fun _ _ => E_vret rfl dX1_settle_15)

def f_X1_layTile (σ : rS) (b : Nat) (p : Int32) (k : Int32) : Option (Unit × rS) := oB (f_X1_give σ b p k ((-1))) fun _ σ2 => oB (f_X1_change σ2 b (b + 4) k 1) fun _ σ4 => oLet (wI σ4 b 8 ((rI σ4 b 8) + 1)) fun σ5 => oB (f_X1_note σ5 b 0 k) fun _ σ7 => some (((), σ7))
set_option maxRecDepth 20000 in
set_option maxHeartbeats 2000000 in
theorem ok_X1_layTile {σ : rS} {b : Nat} {p : Int32} {k : Int32}  (hb : isB b) : rFn Sy yX1_layTile mX1_layTile 2 [.ref b, .int p, .int k] σ 0 0 (fun _ => .inl none) (f_X1_layTile σ b p k) := by
  refine rF_of (ls := [some (.ref b), some (.int p), some (.int k)]) yfX1_layTile rfl (Nat.le_of_ble_eq_true rfl) (fun o τ => ?_)
  unfold f_X1_layTile
  refine P_l (fun hJ _ _ q => E_aload_n dX1_layTile_0 rfl (E_iload_n dX1_layTile_1 rfl (E_iload_n dX1_layTile_2 rfl (E_iconst (v := (-1)) dX1_layTile_3 (by decide) q)))) ?_
  refine P_call (t := fun _ => none) (st2 := fun _ => []) (kc2 := 0) (ks2 := 0) (fun hJ => (ok_X1_give (σ := σ) (b := b) (p := p) (k := k) (by_ := (-1)) hb)) (fun hJ _ _ _ _ v τ1 hM q => E_callV (as := [.int p, .int k, .int ((-1))]) (b := b) (st := []) hM (by decide) yfX1_give mlX1_85 imX1_give seX1_give clX1 (kdB hJ.1.1 hb) rfl (Nat.le_of_ble_eq_true rfl) rfl dX1_layTile_4 q) (by decide) (by decide) (fun v1 σ2 => ?_)
  refine P_l (fun hJ _ _ q => E_aload_n dX1_layTile_7 rfl (E_aload_n dX1_layTile_8 rfl (E_getR (b := b + 4) clX1 3 (by decide) flX1_21 (Or.inr ⟨_, rfl⟩) dX1_layTile_9 (kdB hJ.1.1 hb) (rfB3 hJ.1.1 hb) (isB0 hb) (E_iload_n dX1_layTile_12 rfl (E_iconst (v := 1) dX1_layTile_13 (by decide) q))))) ?_
  refine P_call (t := fun _ => none) (st2 := fun _ => []) (kc2 := 0) (ks2 := 0) (fun hJ => (ok_X1_change (σ := σ2) (b := b) (r := b + 4) (k := k) (by_ := 1) hb (kdB3 hJ.1.1 hb) (isB3 hb))) (fun hJ _ _ _ _ v τ1 hM q => E_callV (as := [.ref (b + 4), .int k, .int 1]) (b := b) (st := []) hM (by decide) yfX1_change mlX1_103 imX1_change seX1_change clX1 (kdB hJ.1.1 hb) rfl (Nat.le_of_ble_eq_true rfl) rfl dX1_layTile_14 q) (by decide) (by decide) (fun v3 σ4 => ?_)
  refine P_l (fun hJ _ _ q => E_aload_n dX1_layTile_17 rfl (E_dup dX1_layTile_18 rfl (E_getI clX1 8 (by decide) flX1_43 (Or.inl rfl) dX1_layTile_19 (kdB hJ.1.1 hb) (E_iconst (v := 1) dX1_layTile_22 (by decide) (E_iadd dX1_layTile_23 q))))) ?_
  refine P_w (fun hJ _ _ q => E_putI clX1 8 (by decide) flX1_43 (Or.inl rfl) rfl dX1_layTile_24 (kdB hJ.1.1 hb) q) (fun hJ => Sy_wI hJ.1) rfl rfl rfl (fun σ5 hσ5 => ?_)
  refine P_l (fun hJ _ _ q => E_aload_n dX1_layTile_27 rfl (E_iconst (v := 0) dX1_layTile_28 (by decide) (E_iload_n dX1_layTile_29 rfl q))) ?_
  refine P_call (t := fun _ => none) (st2 := fun _ => []) (kc2 := 0) (ks2 := 0) (fun hJ => (ok_X1_note (σ := σ5) (b := b) (h := 0) (k := k) hb)) (fun hJ _ _ _ _ v τ1 hM q => E_callV (as := [.int 0, .int k]) (b := b) (st := []) hM (by decide) yfX1_note mlX1_106 imX1_note seX1_note clX1 (kdB hJ.1.1 hb) rfl (Nat.le_of_ble_eq_true rfl) rfl dX1_layTile_30 q) (by decide) (by decide) (fun v6 σ7 => ?_)
  exact P_ret (fun _ _ => E_vret rfl dX1_layTile_33)

def f_X1_liftJoker (σ : rS) (b : Nat) (k : Int32) : Option (Unit × rS) := oB (f_X1_change σ b (b + 5) k ((-1))) fun _ σ2 => oLet (wI σ2 b 8 ((rI σ2 b 8) - 1)) fun σ3 => oLet (wI σ3 b 9 ((rI σ3 b 9) - 1)) fun σ4 => some (((), σ4))
set_option maxRecDepth 20000 in
set_option maxHeartbeats 2000000 in
theorem ok_X1_liftJoker {σ : rS} {b : Nat} {k : Int32}  (hb : isB b) : rFn Sy yX1_liftJoker mX1_liftJoker 2 [.ref b, .int k] σ 0 0 (fun _ => .inl none) (f_X1_liftJoker σ b k) := by
  refine rF_of (ls := [some (.ref b), some (.int k)]) yfX1_liftJoker rfl (Nat.le_of_ble_eq_true rfl) (fun o τ => ?_)
  unfold f_X1_liftJoker
  refine P_l (fun hJ _ _ q => E_aload_n dX1_liftJoker_0 rfl (E_aload_n dX1_liftJoker_1 rfl (E_getR (b := b + 5) clX1 4 (by decide) flX1_24 (Or.inr ⟨_, rfl⟩) dX1_liftJoker_2 (kdB hJ.1.1 hb) (rfB4 hJ.1.1 hb) (isB0 hb) (E_iload_n dX1_liftJoker_5 rfl (E_iconst (v := (-1)) dX1_liftJoker_6 (by decide) q))))) ?_
  refine P_call (t := fun _ => none) (st2 := fun _ => []) (kc2 := 0) (ks2 := 0) (fun hJ => (ok_X1_change (σ := σ) (b := b) (r := b + 5) (k := k) (by_ := (-1)) hb (kdB4 hJ.1.1 hb) (isB3 hb))) (fun hJ _ _ _ _ v τ1 hM q => E_callV (as := [.ref (b + 5), .int k, .int ((-1))]) (b := b) (st := []) hM (by decide) yfX1_change mlX1_103 imX1_change seX1_change clX1 (kdB hJ.1.1 hb) rfl (Nat.le_of_ble_eq_true rfl) rfl dX1_liftJoker_7 q) (by decide) (by decide) (fun v1 σ2 => ?_)
  refine P_l (fun hJ _ _ q => E_aload_n dX1_liftJoker_10 rfl (E_dup dX1_liftJoker_11 rfl (E_getI clX1 8 (by decide) flX1_43 (Or.inl rfl) dX1_liftJoker_12 (kdB hJ.1.1 hb) (E_iconst (v := 1) dX1_liftJoker_15 (by decide) (E_isub dX1_liftJoker_16 q))))) ?_
  refine P_w (fun hJ _ _ q => E_putI clX1 8 (by decide) flX1_43 (Or.inl rfl) rfl dX1_liftJoker_17 (kdB hJ.1.1 hb) q) (fun hJ => Sy_wI hJ.1) rfl rfl rfl (fun σ3 hσ3 => ?_)
  refine P_l (fun hJ _ _ q => E_aload_n dX1_liftJoker_20 rfl (E_dup dX1_liftJoker_21 rfl (E_getI clX1 9 (by decide) flX1_46 (Or.inl rfl) dX1_liftJoker_22 (kdB hJ.1.1 hb) (E_iconst (v := 1) dX1_liftJoker_25 (by decide) (E_isub dX1_liftJoker_26 q))))) ?_
  refine P_w (fun hJ _ _ q => E_putI clX1 9 (by decide) flX1_46 (Or.inl rfl) rfl dX1_liftJoker_27 (kdB hJ.1.1 hb) q) (fun hJ => Sy_wI hJ.1) rfl rfl rfl (fun σ4 hσ4 => ?_)
  exact P_ret (fun _ _ => E_vret rfl dX1_liftJoker_30)

def f_X1_layJoker (σ : rS) (b : Nat) (p : Int32) (k : Int32) : Option (Unit × rS) := oLet ((if (rI σ b 10) ≤ 0 then 0 else 1 : Int32) : Int32) fun x1 => oJoin (if x1 = 0 then (oB (f_X1_give σ b p 52 ((-1))) fun _ σ4 => some (.inr σ4)) else (oLet (wI σ b 10 ((rI σ b 10) - 1)) fun σ5 => some (.inr σ5))) fun j2 => oB (f_X1_change j2 b (b + 5) k 1) fun _ σ7 => oLet (wI σ7 b 8 ((rI σ7 b 8) + 1)) fun σ8 => oLet (wI σ8 b 9 ((rI σ8 b 9) + 1)) fun σ9 => oB (f_X1_note σ9 b ((if x1 = 0 then 1 else 2 : Int32)) k) fun _ σ11 => some (((), σ11))
set_option maxRecDepth 20000 in
set_option maxHeartbeats 2000000 in
theorem ok_X1_layJoker {σ : rS} {b : Nat} {p : Int32} {k : Int32}  (hb : isB b) : rFn Sy yX1_layJoker mX1_layJoker 2 [.ref b, .int p, .int k] σ 0 0 (fun _ => .inl none) (f_X1_layJoker σ b p k) := by
  refine rF_of (ls := [some (.ref b), some (.int p), some (.int k), none]) yfX1_layJoker rfl (Nat.le_of_ble_eq_true rfl) (fun o τ => ?_)
  unfold f_X1_layJoker
  refine P_l (fun hJ _ _ q => E_aload_n dX1_layJoker_0 rfl (E_getI clX1 10 (by decide) flX1_49 (Or.inl rfl) dX1_layJoker_1 (kdB hJ.1.1 hb) q)) ?_
  refine P_l (pc2 := 12) (ls2 := [some (.ref b), some (.int p), some (.int k), none]) (st2 := [.int ((if (rI σ b 10) ≤ 0 then 0 else 1 : Int32))]) (fun hJ _ _ hq => ?_) ?_
  · skip
    refine E_if_le 11 dX1_layJoker_4 (by decide) (fun c_4_0 => ?_) (fun c_4_0 => ?_)
    · skip
      refine E_iconst (v := 0) dX1_layJoker_11 (by decide) ?_
      simp only [if_pos c_4_0] at hq
      exact hq
    · skip
      refine E_iconst (v := 1) dX1_layJoker_7 (by decide) ?_
      refine E_goto 12 dX1_layJoker_8 (by decide) ?_
      simp only [if_neg c_4_0] at hq
      exact hq
  · skip
    refine P_l (fun hJ _ _ q => E_istore_n (ls2 := [some (.ref b), some (.int p), some (.int k), some (.int ((if (rI σ b 10) ≤ 0 then 0 else 1 : Int32)))]) dX1_layJoker_12 (by decide) rfl q) ?_
    refine P_v ((if (rI σ b 10) ≤ 0 then 0 else 1 : Int32)) (fun x => [some (.ref b), some (.int p), some (.int k), some (.int x)]) (fun x1 => ?_)
    refine P_l (fun hJ _ _ q => E_iload_n dX1_layJoker_13 rfl q) ?_
    refine P_join (pc2 := 38) (fun j2 => [some (.ref b), none, some (.int k), some (.int x1)]) (fun j2 => []) (fun j2 => j2) ?_ (fun j2 => ?_)
    · skip
      refine P_if (fun hJ _ _ h1 h2 => E_if_eq 30 dX1_layJoker_14 (by decide) h1 h2) ?_ ?_
      · skip
        refine P_l (fun hJ _ _ q => E_aload_n dX1_layJoker_30 rfl (E_iload_n dX1_layJoker_31 rfl (E_bipush (v := 52) dX1_layJoker_32 (by decide) (E_iconst (v := (-1)) dX1_layJoker_34 (by decide) q)))) ?_
        refine P_call (t := fun _ => none) (st2 := fun _ => []) (kc2 := 0) (ks2 := 0) (fun hJ => (ok_X1_give (σ := σ) (b := b) (p := p) (k := 52) (by_ := (-1)) hb)) (fun hJ _ _ _ _ v τ1 hM q => E_callV (as := [.int p, .int 52, .int ((-1))]) (b := b) (st := []) hM (by decide) yfX1_give mlX1_85 imX1_give seX1_give clX1 (kdB hJ.1.1 hb) rfl (Nat.le_of_ble_eq_true rfl) rfl dX1_layJoker_35 q) (by decide) (by decide) (fun v3 σ4 => ?_)
        refine P_less [some (.ref b), none, some (.int k), some (.int x1)] (And.intro rfl (And.intro rfl (And.intro rfl trivial))) ?_
        exact P_back σ4
      · skip
        refine P_l (fun hJ _ _ q => E_aload_n dX1_layJoker_17 rfl (E_dup dX1_layJoker_18 rfl (E_getI clX1 10 (by decide) flX1_49 (Or.inl rfl) dX1_layJoker_19 (kdB hJ.1.1 hb) (E_iconst (v := 1) dX1_layJoker_22 (by decide) (E_isub dX1_layJoker_23 q))))) ?_
        refine P_w (fun hJ _ _ q => E_putI clX1 10 (by decide) flX1_49 (Or.inl rfl) rfl dX1_layJoker_24 (kdB hJ.1.1 hb) q) (fun hJ => Sy_wI hJ.1) rfl rfl rfl (fun σ5 hσ5 => ?_)
        refine P_l (fun hJ _ _ q => E_goto 38 dX1_layJoker_27 (by decide) q) ?_
        refine P_less [some (.ref b), none, some (.int k), some (.int x1)] (And.intro rfl (And.intro rfl (And.intro rfl trivial))) ?_
        exact P_back σ5
    · skip
      refine P_l (fun hJ _ _ q => E_aload_n dX1_layJoker_38 rfl (E_aload_n dX1_layJoker_39 rfl (E_getR (b := b + 5) clX1 4 (by decide) flX1_24 (Or.inr ⟨_, rfl⟩) dX1_layJoker_40 (kdB hJ.1.1 hb) (rfB4 hJ.1.1 hb) (isB0 hb) (E_iload_n dX1_layJoker_43 rfl (E_iconst (v := 1) dX1_layJoker_44 (by decide) q))))) ?_
      refine P_call (t := fun _ => none) (st2 := fun _ => []) (kc2 := 0) (ks2 := 0) (fun hJ => (ok_X1_change (σ := j2) (b := b) (r := b + 5) (k := k) (by_ := 1) hb (kdB4 hJ.1.1 hb) (isB3 hb))) (fun hJ _ _ _ _ v τ1 hM q => E_callV (as := [.ref (b + 5), .int k, .int 1]) (b := b) (st := []) hM (by decide) yfX1_change mlX1_103 imX1_change seX1_change clX1 (kdB hJ.1.1 hb) rfl (Nat.le_of_ble_eq_true rfl) rfl dX1_layJoker_45 q) (by decide) (by decide) (fun v6 σ7 => ?_)
      refine P_l (fun hJ _ _ q => E_aload_n dX1_layJoker_48 rfl (E_dup dX1_layJoker_49 rfl (E_getI clX1 8 (by decide) flX1_43 (Or.inl rfl) dX1_layJoker_50 (kdB hJ.1.1 hb) (E_iconst (v := 1) dX1_layJoker_53 (by decide) (E_iadd dX1_layJoker_54 q))))) ?_
      refine P_w (fun hJ _ _ q => E_putI clX1 8 (by decide) flX1_43 (Or.inl rfl) rfl dX1_layJoker_55 (kdB hJ.1.1 hb) q) (fun hJ => Sy_wI hJ.1) rfl rfl rfl (fun σ8 hσ8 => ?_)
      refine P_l (fun hJ _ _ q => E_aload_n dX1_layJoker_58 rfl (E_dup dX1_layJoker_59 rfl (E_getI clX1 9 (by decide) flX1_46 (Or.inl rfl) dX1_layJoker_60 (kdB hJ.1.1 hb) (E_iconst (v := 1) dX1_layJoker_63 (by decide) (E_iadd dX1_layJoker_64 q))))) ?_
      refine P_w (fun hJ _ _ q => E_putI clX1 9 (by decide) flX1_46 (Or.inl rfl) rfl dX1_layJoker_65 (kdB hJ.1.1 hb) q) (fun hJ => Sy_wI hJ.1) rfl rfl rfl (fun σ9 hσ9 => ?_)
      refine P_l (fun hJ _ _ q => E_aload_n dX1_layJoker_68 rfl (E_iload_n dX1_layJoker_69 rfl q)) ?_
      refine P_l (pc2 := 78) (ls2 := [none, none, some (.int k), none]) (st2 := [.int ((if x1 = 0 then 1 else 2 : Int32)), .ref b]) (fun hJ _ _ hq => ?_) ?_
      · skip
        refine E_if_eq 77 dX1_layJoker_70 (by decide) (fun c_70_0 => ?_) (fun c_70_0 => ?_)
        · skip
          refine E_iconst (v := 1) dX1_layJoker_77 (by decide) ?_
          simp only [if_pos c_70_0] at hq
          exact E_less (ls2 := [none, none, some (.int k), none]) hq (rLe_at [none, none, some (.int k), none] [some (.ref b), none, some (.int k), some (.int x1)] (And.intro rfl trivial))
        · skip
          refine E_iconst (v := 2) dX1_layJoker_73 (by decide) ?_
          refine E_goto 78 dX1_layJoker_74 (by decide) ?_
          simp only [if_neg c_70_0] at hq
          exact E_less (ls2 := [none, none, some (.int k), none]) hq (rLe_at [none, none, some (.int k), none] [some (.ref b), none, some (.int k), some (.int x1)] (And.intro rfl trivial))
      · skip
        refine P_l (fun hJ _ _ q => E_iload_n dX1_layJoker_78 rfl q) ?_
        refine P_call (t := fun _ => none) (st2 := fun _ => []) (kc2 := 0) (ks2 := 0) (fun hJ => (ok_X1_note (σ := σ9) (b := b) (h := (if x1 = 0 then 1 else 2 : Int32)) (k := k) hb)) (fun hJ _ _ _ _ v τ1 hM q => E_callV (as := [.int ((if x1 = 0 then 1 else 2 : Int32)), .int k]) (b := b) (st := []) hM (by decide) yfX1_note mlX1_106 imX1_note seX1_note clX1 (kdB hJ.1.1 hb) rfl (Nat.le_of_ble_eq_true rfl) rfl dX1_layJoker_79 q) (by decide) (by decide) (fun v10 σ11 => ?_)
        exact P_ret (fun _ _ => E_vret rfl dX1_layJoker_82)

def f_X1_swapJoker (σ : rS) (b : Nat) (p : Int32) (k : Int32) : Option (Unit × rS) := oB (f_X1_give σ b p k ((-1))) fun _ σ2 => oB (f_X1_change σ2 b (b + 4) k 1) fun _ σ4 => oB (f_X1_change σ4 b (b + 5) k ((-1))) fun _ σ6 => oLet (wI σ6 b 9 ((rI σ6 b 9) - 1)) fun σ7 => oLet (wI σ7 b 10 ((rI σ7 b 10) + 1)) fun σ8 => oB (f_X1_note σ8 b 3 k) fun _ σ10 => some (((), σ10))
set_option maxRecDepth 20000 in
set_option maxHeartbeats 2000000 in
theorem ok_X1_swapJoker {σ : rS} {b : Nat} {p : Int32} {k : Int32}  (hb : isB b) : rFn Sy yX1_swapJoker mX1_swapJoker 2 [.ref b, .int p, .int k] σ 0 0 (fun _ => .inl none) (f_X1_swapJoker σ b p k) := by
  refine rF_of (ls := [some (.ref b), some (.int p), some (.int k)]) yfX1_swapJoker rfl (Nat.le_of_ble_eq_true rfl) (fun o τ => ?_)
  unfold f_X1_swapJoker
  refine P_l (fun hJ _ _ q => E_aload_n dX1_swapJoker_0 rfl (E_iload_n dX1_swapJoker_1 rfl (E_iload_n dX1_swapJoker_2 rfl (E_iconst (v := (-1)) dX1_swapJoker_3 (by decide) q)))) ?_
  refine P_call (t := fun _ => none) (st2 := fun _ => []) (kc2 := 0) (ks2 := 0) (fun hJ => (ok_X1_give (σ := σ) (b := b) (p := p) (k := k) (by_ := (-1)) hb)) (fun hJ _ _ _ _ v τ1 hM q => E_callV (as := [.int p, .int k, .int ((-1))]) (b := b) (st := []) hM (by decide) yfX1_give mlX1_85 imX1_give seX1_give clX1 (kdB hJ.1.1 hb) rfl (Nat.le_of_ble_eq_true rfl) rfl dX1_swapJoker_4 q) (by decide) (by decide) (fun v1 σ2 => ?_)
  refine P_l (fun hJ _ _ q => E_aload_n dX1_swapJoker_7 rfl (E_aload_n dX1_swapJoker_8 rfl (E_getR (b := b + 4) clX1 3 (by decide) flX1_21 (Or.inr ⟨_, rfl⟩) dX1_swapJoker_9 (kdB hJ.1.1 hb) (rfB3 hJ.1.1 hb) (isB0 hb) (E_iload_n dX1_swapJoker_12 rfl (E_iconst (v := 1) dX1_swapJoker_13 (by decide) q))))) ?_
  refine P_call (t := fun _ => none) (st2 := fun _ => []) (kc2 := 0) (ks2 := 0) (fun hJ => (ok_X1_change (σ := σ2) (b := b) (r := b + 4) (k := k) (by_ := 1) hb (kdB3 hJ.1.1 hb) (isB3 hb))) (fun hJ _ _ _ _ v τ1 hM q => E_callV (as := [.ref (b + 4), .int k, .int 1]) (b := b) (st := []) hM (by decide) yfX1_change mlX1_103 imX1_change seX1_change clX1 (kdB hJ.1.1 hb) rfl (Nat.le_of_ble_eq_true rfl) rfl dX1_swapJoker_14 q) (by decide) (by decide) (fun v3 σ4 => ?_)
  refine P_l (fun hJ _ _ q => E_aload_n dX1_swapJoker_17 rfl (E_aload_n dX1_swapJoker_18 rfl (E_getR (b := b + 5) clX1 4 (by decide) flX1_24 (Or.inr ⟨_, rfl⟩) dX1_swapJoker_19 (kdB hJ.1.1 hb) (rfB4 hJ.1.1 hb) (isB0 hb) (E_iload_n dX1_swapJoker_22 rfl (E_iconst (v := (-1)) dX1_swapJoker_23 (by decide) q))))) ?_
  refine P_call (t := fun _ => none) (st2 := fun _ => []) (kc2 := 0) (ks2 := 0) (fun hJ => (ok_X1_change (σ := σ4) (b := b) (r := b + 5) (k := k) (by_ := (-1)) hb (kdB4 hJ.1.1 hb) (isB3 hb))) (fun hJ _ _ _ _ v τ1 hM q => E_callV (as := [.ref (b + 5), .int k, .int ((-1))]) (b := b) (st := []) hM (by decide) yfX1_change mlX1_103 imX1_change seX1_change clX1 (kdB hJ.1.1 hb) rfl (Nat.le_of_ble_eq_true rfl) rfl dX1_swapJoker_24 q) (by decide) (by decide) (fun v5 σ6 => ?_)
  refine P_l (fun hJ _ _ q => E_aload_n dX1_swapJoker_27 rfl (E_dup dX1_swapJoker_28 rfl (E_getI clX1 9 (by decide) flX1_46 (Or.inl rfl) dX1_swapJoker_29 (kdB hJ.1.1 hb) (E_iconst (v := 1) dX1_swapJoker_32 (by decide) (E_isub dX1_swapJoker_33 q))))) ?_
  refine P_w (fun hJ _ _ q => E_putI clX1 9 (by decide) flX1_46 (Or.inl rfl) rfl dX1_swapJoker_34 (kdB hJ.1.1 hb) q) (fun hJ => Sy_wI hJ.1) rfl rfl rfl (fun σ7 hσ7 => ?_)
  refine P_l (fun hJ _ _ q => E_aload_n dX1_swapJoker_37 rfl (E_dup dX1_swapJoker_38 rfl (E_getI clX1 10 (by decide) flX1_49 (Or.inl rfl) dX1_swapJoker_39 (kdB hJ.1.1 hb) (E_iconst (v := 1) dX1_swapJoker_42 (by decide) (E_iadd dX1_swapJoker_43 q))))) ?_
  refine P_w (fun hJ _ _ q => E_putI clX1 10 (by decide) flX1_49 (Or.inl rfl) rfl dX1_swapJoker_44 (kdB hJ.1.1 hb) q) (fun hJ => Sy_wI hJ.1) rfl rfl rfl (fun σ8 hσ8 => ?_)
  refine P_l (fun hJ _ _ q => E_aload_n dX1_swapJoker_47 rfl (E_iconst (v := 3) dX1_swapJoker_48 (by decide) (E_iload_n dX1_swapJoker_49 rfl q))) ?_
  refine P_call (t := fun _ => none) (st2 := fun _ => []) (kc2 := 0) (ks2 := 0) (fun hJ => (ok_X1_note (σ := σ8) (b := b) (h := 3) (k := k) hb)) (fun hJ _ _ _ _ v τ1 hM q => E_callV (as := [.int 3, .int k]) (b := b) (st := []) hM (by decide) yfX1_note mlX1_106 imX1_note seX1_note clX1 (kdB hJ.1.1 hb) rfl (Nat.le_of_ble_eq_true rfl) rfl dX1_swapJoker_50 q) (by decide) (by decide) (fun v9 σ10 => ?_)
  exact P_ret (fun _ _ => E_vret rfl dX1_swapJoker_53)

def b_X1_worthOf_13 (σ : rS) (b : Nat) (p : Int32) (s1 : Int32 × Int32) : Option (Int32 ⊕ (Int32 × Int32)) := if 52 ≤ s1.2 then (some (.inl s1.1)) else (oLet (s1.1 + (((iRem s1.2 13) + 1) * (v_X1_rackOf σ b p s1.2)) : Int32) fun x2 => some (.inr ((x2, s1.2 + 1))))
def f_X1_worthOf (σ : rS) (b : Nat) (p : Int32) : Option Int32 := oLoop (b_X1_worthOf_13 σ b p) oFuel ((30 * (v_X1_rackOf σ b p 52), 0))
set_option maxRecDepth 20000 in
set_option maxHeartbeats 2000000 in
theorem ok_X1_worthOf {σ : rS} {b : Nat} {p : Int32}  (hb : isB b) : rFr Sy yX1_worthOf mX1_worthOf 2 [.ref b, .int p] σ (fun v => some (.int v)) (f_X1_worthOf σ b p) := by
  refine rFr_of (ls := [some (.ref b), some (.int p), none, none]) yfX1_worthOf rfl (Nat.le_of_ble_eq_true rfl) (fun o τ => ?_)
  unfold f_X1_worthOf
  refine P_l (fun hJ _ _ q => E_bipush (v := 30) dX1_worthOf_0 (by decide) (E_aload_n dX1_worthOf_2 rfl (E_iload_n dX1_worthOf_3 rfl (E_bipush (v := 52) dX1_worthOf_4 (by decide) (E_callV (as := [.int p, .int 52]) (b := b) (st := [.int 30]) (ok_X1_rackOf (σ := σ) (b := b) (p := p) (k := 52) hJ hb) (by decide) yfX1_rackOf mlX1_97 imX1_rackOf seX1_rackOf clX1 (kdB hJ.1.1 hb) rfl (Nat.le_of_ble_eq_true rfl) rfl dX1_worthOf_6 (E_imul dX1_worthOf_9 (E_istore_n (ls2 := [some (.ref b), some (.int p), some (.int (30 * (v_X1_rackOf σ b p 52))), none]) dX1_worthOf_10 (by decide) rfl (E_iconst (v := 0) dX1_worthOf_11 (by decide) (E_istore_n (ls2 := [some (.ref b), some (.int p), some (.int (30 * (v_X1_rackOf σ b p 52))), some (.int 0)]) dX1_worthOf_12 (by decide) rfl q))))))))) ?_
  refine P_loop (fun s1 => [some (.ref b), some (.int p), some (.int s1.1), some (.int s1.2)]) (fun _ => σ) (fun s1 => ?_) _ ((30 * (v_X1_rackOf σ b p 52), 0))
  unfold b_X1_worthOf_13
  refine P_l (fun hJ _ _ q => E_iload_n dX1_worthOf_13 rfl (E_bipush (v := 52) dX1_worthOf_14 (by decide) q)) ?_
  refine P_if (fun hJ _ _ h1 h2 => E_icmp_ge 41 dX1_worthOf_16 (by decide) h1 h2) ?_ ?_
  · skip
    refine P_l (fun hJ _ _ q => E_iload_n dX1_worthOf_41 rfl q) ?_
    exact P_inl (P_retr (fun _ _ => E_iret rfl dX1_worthOf_42))
  · skip
    refine P_l (fun hJ _ _ q => E_iload_n dX1_worthOf_19 rfl (E_iload_n dX1_worthOf_20 rfl (E_bipush (v := 13) dX1_worthOf_21 (by decide) (E_irem dX1_worthOf_23 (by decide) (E_iconst (v := 1) dX1_worthOf_24 (by decide) (E_iadd dX1_worthOf_25 (E_aload_n dX1_worthOf_26 rfl (E_iload_n dX1_worthOf_27 rfl (E_iload_n dX1_worthOf_28 rfl (E_callV (as := [.int p, .int s1.2]) (b := b) (st := [.int ((iRem s1.2 13) + 1), .int s1.1]) (ok_X1_rackOf (σ := σ) (b := b) (p := p) (k := s1.2) hJ hb) (by decide) yfX1_rackOf mlX1_97 imX1_rackOf seX1_rackOf clX1 (kdB hJ.1.1 hb) rfl (Nat.le_of_ble_eq_true rfl) rfl dX1_worthOf_29 (E_imul dX1_worthOf_32 (E_iadd dX1_worthOf_33 (E_istore_n (ls2 := [some (.ref b), some (.int p), some (.int (s1.1 + (((iRem s1.2 13) + 1) * (v_X1_rackOf σ b p s1.2)))), some (.int s1.2)]) dX1_worthOf_34 (by decide) rfl q))))))))))))) ?_
    refine P_v (s1.1 + (((iRem s1.2 13) + 1) * (v_X1_rackOf σ b p s1.2))) (fun x => [some (.ref b), some (.int p), some (.int x), some (.int s1.2)]) (fun x2 => ?_)
    refine P_l (fun hJ _ _ q => E_iinc (v := 1) (ls2 := [some (.ref b), some (.int p), some (.int x2), some (.int (s1.2 + 1))]) dX1_worthOf_35 rfl (by decide) (by decide) rfl (E_goto 13 dX1_worthOf_38 (by decide) q)) ?_
    exact P_back ((x2, s1.2 + 1))

def b_X1_lightest_4 (σ : rS) (b : Nat) (n : Int32) (s1 : Int32 × Int32) : Option (Int32 ⊕ (Int32 × Int32)) := if n ≤ s1.2 then (some (.inl s1.1)) else ((f_X1_worthOf σ b s1.2).bind fun v2 => (f_X1_worthOf σ b s1.1).bind fun v3 => some (.inr (((if v3 ≤ v2 then s1.1 else s1.2 : Int32), s1.2 + 1))))
def f_X1_lightest (σ : rS) (b : Nat) (n : Int32) : Option Int32 := oLoop (b_X1_lightest_4 σ b n) oFuel ((0, 1))
set_option maxRecDepth 20000 in
set_option maxHeartbeats 2000000 in
theorem ok_X1_lightest {σ : rS} {b : Nat} {n : Int32}  (hb : isB b) : rFr Sy yX1_lightest mX1_lightest 3 [.ref b, .int n] σ (fun v => some (.int v)) (f_X1_lightest σ b n) := by
  refine rFr_of (ls := [some (.ref b), some (.int n), none, none]) yfX1_lightest rfl (Nat.le_of_ble_eq_true rfl) (fun o τ => ?_)
  unfold f_X1_lightest
  refine P_l (fun hJ _ _ q => E_iconst (v := 0) dX1_lightest_0 (by decide) (E_istore_n (ls2 := [some (.ref b), some (.int n), some (.int 0), none]) dX1_lightest_1 (by decide) rfl (E_iconst (v := 1) dX1_lightest_2 (by decide) (E_istore_n (ls2 := [some (.ref b), some (.int n), some (.int 0), some (.int 1)]) dX1_lightest_3 (by decide) rfl q)))) ?_
  refine P_loop (fun s1 => [some (.ref b), some (.int n), some (.int s1.1), some (.int s1.2)]) (fun _ => σ) (fun s1 => ?_) _ ((0, 1))
  unfold b_X1_lightest_4
  refine P_l (fun hJ _ _ q => E_iload_n dX1_lightest_4 rfl (E_iload_n dX1_lightest_5 rfl q)) ?_
  refine P_if (fun hJ _ _ h1 h2 => E_icmp_ge 30 dX1_lightest_6 (by decide) h1 h2) ?_ ?_
  · skip
    refine P_l (fun hJ _ _ q => E_iload_n dX1_lightest_30 rfl q) ?_
    exact P_inl (P_retr (fun _ _ => E_iret rfl dX1_lightest_31))
  · skip
    refine P_l (fun hJ _ _ q => E_aload_n dX1_lightest_9 rfl (E_iload_n dX1_lightest_10 rfl q)) ?_
    refine P_callr (t := fun v => some (.int v)) (st2 := fun v => .int v :: []) (fun hJ => (ok_X1_worthOf (σ := σ) (b := b) (p := s1.2) hb)) (fun hJ _ _ v hM q => E_callV (as := [.int s1.2]) (b := b) (st := []) hM (by decide) yfX1_worthOf mlX1_100 imX1_worthOf seX1_worthOf clX1 (kdB hJ.1.1 hb) rfl (Nat.le_of_ble_eq_true rfl) rfl dX1_lightest_11 q) (fun v2 => ?_)
    refine P_l (fun hJ _ _ q => E_aload_n dX1_lightest_14 rfl (E_iload_n dX1_lightest_15 rfl q)) ?_
    refine P_callr (t := fun v => some (.int v)) (st2 := fun v => .int v :: [.int v2]) (fun hJ => (ok_X1_worthOf (σ := σ) (b := b) (p := s1.1) hb)) (fun hJ _ _ v hM q => E_callV (as := [.int s1.1]) (b := b) (st := [.int v2]) hM (by decide) yfX1_worthOf mlX1_100 imX1_worthOf seX1_worthOf clX1 (kdB hJ.1.1 hb) rfl (Nat.le_of_ble_eq_true rfl) rfl dX1_lightest_16 q) (fun v3 => ?_)
    refine P_l (pc2 := 24) (ls2 := [some (.ref b), some (.int n), some (.int ((if v3 ≤ v2 then s1.1 else s1.2 : Int32))), some (.int s1.2)]) (st2 := []) (fun hJ _ _ hq => ?_) ?_
    · skip
      refine E_icmp_ge 24 dX1_lightest_19 (by decide) (fun c_19_0 => ?_) (fun c_19_0 => ?_)
      · skip
        simp only [if_pos c_19_0] at hq
        exact hq
      · skip
        refine E_iload_n dX1_lightest_22 rfl ?_
        refine E_istore_n (ls2 := [some (.ref b), some (.int n), some (.int s1.2), some (.int s1.2)]) dX1_lightest_23 (by decide) rfl ?_
        simp only [if_neg c_19_0] at hq
        exact hq
    · skip
      refine P_l (fun hJ _ _ q => E_iinc (v := 1) (ls2 := [some (.ref b), some (.int n), some (.int ((if v3 ≤ v2 then s1.1 else s1.2 : Int32))), some (.int (s1.2 + 1))]) dX1_lightest_24 rfl (by decide) (by decide) rfl (E_goto 4 dX1_lightest_27 (by decide) q)) ?_
      exact P_back (((if v3 ≤ v2 then s1.1 else s1.2 : Int32), s1.2 + 1))

def b_X1_hidden_12 (σ : rS) (b : Nat) (p : Int32) (k : Int32) (s1 : Int32 × Int32) : Option (Int32 ⊕ (Int32 × Int32)) := if 4 ≤ s1.2 then (some (.inl s1.1)) else (oLet (s1.1 + ((if s1.2 = p then 0 else (v_X1_rackOf σ b s1.2 k) : Int32)) : Int32) fun x2 => some (.inr ((x2, s1.2 + 1))))
def f_X1_hidden (σ : rS) (b : Nat) (p : Int32) (k : Int32) : Option Int32 := oLoop (b_X1_hidden_12 σ b p k) oFuel ((vAt (rI σ (b + 1)) 53 k, 0))
set_option maxRecDepth 20000 in
set_option maxHeartbeats 2000000 in
theorem ok_X1_hidden {σ : rS} {b : Nat} {p : Int32} {k : Int32}  (hb : isB b) : rFr Sy yX1_hidden mX1_hidden 2 [.ref b, .int p, .int k] σ (fun v => some (.int v)) (f_X1_hidden σ b p k) := by
  refine rFr_of (ls := [some (.ref b), some (.int p), some (.int k), none, none]) yfX1_hidden rfl (Nat.le_of_ble_eq_true rfl) (fun o τ => ?_)
  unfold f_X1_hidden
  refine P_l (fun hJ _ _ q => E_aload_n dX1_hidden_0 rfl (E_getR (b := b + 1) clX1 0 (by decide) flX1_9 (Or.inr ⟨_, rfl⟩) dX1_hidden_1 (kdB hJ.1.1 hb) (rfB0 hJ.1.1 hb) (isB0 hb) (E_iload_n dX1_hidden_4 rfl (E_callSN (as := [.ref (b + 1), .int k]) (st := []) (ok_at (σ := σ) (a := b + 1) (i := k) (f := rI σ (b + 1)) (kdB0 hJ.1.1 hb) (by decide) rfl) (by decide) yfX10_at mlX1_89 stX10_at rfl (Nat.le_of_ble_eq_true rfl) rfl dX1_hidden_5 (E_istore_n (ls2 := [some (.ref b), some (.int p), some (.int k), some (.int (vAt (rI σ (b + 1)) 53 k)), none]) dX1_hidden_8 (by decide) rfl (E_iconst (v := 0) dX1_hidden_9 (by decide) (E_istore (ls2 := [some (.ref b), some (.int p), some (.int k), some (.int (vAt (rI σ (b + 1)) 53 k)), some (.int 0)]) dX1_hidden_10 (by decide) rfl q))))))) ?_
  refine P_loop (fun s1 => [some (.ref b), some (.int p), some (.int k), some (.int s1.1), some (.int s1.2)]) (fun _ => σ) (fun s1 => ?_) _ ((vAt (rI σ (b + 1)) 53 k, 0))
  unfold b_X1_hidden_12
  refine P_l (fun hJ _ _ q => E_iload dX1_hidden_12 rfl (E_iconst (v := 4) dX1_hidden_14 (by decide) q)) ?_
  refine P_if (fun hJ _ _ h1 h2 => E_icmp_ge 44 dX1_hidden_15 (by decide) h1 h2) ?_ ?_
  · skip
    refine P_l (fun hJ _ _ q => E_iload_n dX1_hidden_44 rfl q) ?_
    exact P_inl (P_retr (fun _ _ => E_iret rfl dX1_hidden_45))
  · skip
    refine P_l (fun hJ _ _ q => E_iload_n dX1_hidden_18 rfl (E_iload dX1_hidden_19 rfl (E_iload_n dX1_hidden_21 rfl q))) ?_
    refine P_l (pc2 := 36) (ls2 := [some (.ref b), some (.int p), some (.int k), none, some (.int s1.2)]) (st2 := [.int ((if s1.2 = p then 0 else (v_X1_rackOf σ b s1.2 k) : Int32)), .int s1.1]) (fun hJ _ _ hq => ?_) ?_
    · skip
      refine E_icmp_ne 29 dX1_hidden_22 (by decide) (fun c_22_0 => ?_) (fun c_22_0 => ?_)
      · skip
        refine E_aload_n dX1_hidden_29 rfl ?_
        refine E_iload dX1_hidden_30 rfl ?_
        refine E_iload_n dX1_hidden_32 rfl ?_
        refine E_callV (as := [.int s1.2, .int k]) (b := b) (st := [.int s1.1]) (ok_X1_rackOf (σ := σ) (b := b) (p := s1.2) (k := k) hJ hb) (by decide) yfX1_rackOf mlX1_97 imX1_rackOf seX1_rackOf clX1 (kdB hJ.1.1 hb) rfl (Nat.le_of_ble_eq_true rfl) rfl dX1_hidden_33 ?_
        simp only [if_neg c_22_0] at hq
        exact E_less (ls2 := [some (.ref b), some (.int p), some (.int k), none, some (.int s1.2)]) hq (rLe_at [some (.ref b), some (.int p), some (.int k), none, some (.int s1.2)] [some (.ref b), some (.int p), some (.int k), some (.int s1.1), some (.int s1.2)] (And.intro rfl (And.intro rfl (And.intro rfl (And.intro rfl trivial)))))
      · skip
        refine E_iconst (v := 0) dX1_hidden_25 (by decide) ?_
        refine E_goto 36 dX1_hidden_26 (by decide) ?_
        simp only [if_pos c_22_0] at hq
        exact E_less (ls2 := [some (.ref b), some (.int p), some (.int k), none, some (.int s1.2)]) hq (rLe_at [some (.ref b), some (.int p), some (.int k), none, some (.int s1.2)] [some (.ref b), some (.int p), some (.int k), some (.int s1.1), some (.int s1.2)] (And.intro rfl (And.intro rfl (And.intro rfl (And.intro rfl trivial)))))
    · skip
      refine P_l (fun hJ _ _ q => E_iadd dX1_hidden_36 (E_istore_n (ls2 := [some (.ref b), some (.int p), some (.int k), some (.int (s1.1 + ((if s1.2 = p then 0 else (v_X1_rackOf σ b s1.2 k) : Int32)))), some (.int s1.2)]) dX1_hidden_37 (by decide) rfl q)) ?_
      refine P_v (s1.1 + ((if s1.2 = p then 0 else (v_X1_rackOf σ b s1.2 k) : Int32))) (fun x => [some (.ref b), some (.int p), some (.int k), some (.int x), some (.int s1.2)]) (fun x2 => ?_)
      refine P_l (fun hJ _ _ q => E_iinc (v := 1) (ls2 := [some (.ref b), some (.int p), some (.int k), some (.int x2), some (.int (s1.2 + 1))]) dX1_hidden_38 rfl (by decide) (by decide) rfl (E_goto 12 dX1_hidden_41 (by decide) q)) ?_
      exact P_back ((x2, s1.2 + 1))

def b_X1_allHidden_7 (σ : rS) (b : Nat) (p : Int32) (s1 : Int32 × Int32) : Option (Int32 ⊕ (Int32 × Int32)) := if 4 ≤ s1.2 then (some (.inl s1.1)) else (oLet (s1.1 + ((if s1.2 = p then 0 else (v_X1_sizeOf σ b s1.2) : Int32)) : Int32) fun x2 => some (.inr ((x2, s1.2 + 1))))
def f_X1_allHidden (σ : rS) (b : Nat) (p : Int32) : Option Int32 := oLoop (b_X1_allHidden_7 σ b p) oFuel ((rI σ b 7, 0))
set_option maxRecDepth 20000 in
set_option maxHeartbeats 2000000 in
theorem ok_X1_allHidden {σ : rS} {b : Nat} {p : Int32}  (hb : isB b) : rFr Sy yX1_allHidden mX1_allHidden 2 [.ref b, .int p] σ (fun v => some (.int v)) (f_X1_allHidden σ b p) := by
  refine rFr_of (ls := [some (.ref b), some (.int p), none, none]) yfX1_allHidden rfl (Nat.le_of_ble_eq_true rfl) (fun o τ => ?_)
  unfold f_X1_allHidden
  refine P_l (fun hJ _ _ q => E_aload_n dX1_allHidden_0 rfl (E_getI clX1 7 (by decide) flX1_40 (Or.inl rfl) dX1_allHidden_1 (kdB hJ.1.1 hb) (E_istore_n (ls2 := [some (.ref b), some (.int p), some (.int (rI σ b 7)), none]) dX1_allHidden_4 (by decide) rfl (E_iconst (v := 0) dX1_allHidden_5 (by decide) (E_istore_n (ls2 := [some (.ref b), some (.int p), some (.int (rI σ b 7)), some (.int 0)]) dX1_allHidden_6 (by decide) rfl q))))) ?_
  refine P_loop (fun s1 => [some (.ref b), some (.int p), some (.int s1.1), some (.int s1.2)]) (fun _ => σ) (fun s1 => ?_) _ ((rI σ b 7, 0))
  unfold b_X1_allHidden_7
  refine P_l (fun hJ _ _ q => E_iload_n dX1_allHidden_7 rfl (E_iconst (v := 4) dX1_allHidden_8 (by decide) q)) ?_
  refine P_if (fun hJ _ _ h1 h2 => E_icmp_ge 35 dX1_allHidden_9 (by decide) h1 h2) ?_ ?_
  · skip
    refine P_l (fun hJ _ _ q => E_iload_n dX1_allHidden_35 rfl q) ?_
    exact P_inl (P_retr (fun _ _ => E_iret rfl dX1_allHidden_36))
  · skip
    refine P_l (fun hJ _ _ q => E_iload_n dX1_allHidden_12 rfl (E_iload_n dX1_allHidden_13 rfl (E_iload_n dX1_allHidden_14 rfl q))) ?_
    refine P_l (pc2 := 27) (ls2 := [some (.ref b), some (.int p), none, some (.int s1.2)]) (st2 := [.int ((if s1.2 = p then 0 else (v_X1_sizeOf σ b s1.2) : Int32)), .int s1.1]) (fun hJ _ _ hq => ?_) ?_
    · skip
      refine E_icmp_ne 22 dX1_allHidden_15 (by decide) (fun c_15_0 => ?_) (fun c_15_0 => ?_)
      · skip
        refine E_aload_n dX1_allHidden_22 rfl ?_
        refine E_iload_n dX1_allHidden_23 rfl ?_
        refine E_callV (as := [.int s1.2]) (b := b) (st := [.int s1.1]) (ok_X1_sizeOf (σ := σ) (b := b) (p := s1.2) hJ hb) (by decide) yfX1_sizeOf mlX1_80 imX1_sizeOf seX1_sizeOf clX1 (kdB hJ.1.1 hb) rfl (Nat.le_of_ble_eq_true rfl) rfl dX1_allHidden_24 ?_
        simp only [if_neg c_15_0] at hq
        exact E_less (ls2 := [some (.ref b), some (.int p), none, some (.int s1.2)]) hq (rLe_at [some (.ref b), some (.int p), none, some (.int s1.2)] [some (.ref b), some (.int p), some (.int s1.1), some (.int s1.2)] (And.intro rfl (And.intro rfl (And.intro rfl trivial))))
      · skip
        refine E_iconst (v := 0) dX1_allHidden_18 (by decide) ?_
        refine E_goto 27 dX1_allHidden_19 (by decide) ?_
        simp only [if_pos c_15_0] at hq
        exact E_less (ls2 := [some (.ref b), some (.int p), none, some (.int s1.2)]) hq (rLe_at [some (.ref b), some (.int p), none, some (.int s1.2)] [some (.ref b), some (.int p), some (.int s1.1), some (.int s1.2)] (And.intro rfl (And.intro rfl (And.intro rfl trivial))))
    · skip
      refine P_l (fun hJ _ _ q => E_iadd dX1_allHidden_27 (E_istore_n (ls2 := [some (.ref b), some (.int p), some (.int (s1.1 + ((if s1.2 = p then 0 else (v_X1_sizeOf σ b s1.2) : Int32)))), some (.int s1.2)]) dX1_allHidden_28 (by decide) rfl q)) ?_
      refine P_v (s1.1 + ((if s1.2 = p then 0 else (v_X1_sizeOf σ b s1.2) : Int32))) (fun x => [some (.ref b), some (.int p), some (.int x), some (.int s1.2)]) (fun x2 => ?_)
      refine P_l (fun hJ _ _ q => E_iinc (v := 1) (ls2 := [some (.ref b), some (.int p), some (.int x2), some (.int (s1.2 + 1))]) dX1_allHidden_29 rfl (by decide) (by decide) rfl (E_goto 7 dX1_allHidden_32 (by decide) q)) ?_
      exact P_back ((x2, s1.2 + 1))

def b_X1_laidWorth_4 (σ : rS) (b : Nat) (s1 : Int32 × Int32) : Option (Int32 ⊕ (Int32 × Int32)) := if (rI σ b 6) ≤ s1.2 then (some (.inl s1.1)) else (oLet (s1.1 + ((if ((vAt (rI σ (b + 6)) 64 s1.2) >>> ((6 : Int32) &&& 31)) = 0 then ((iRem (v_X1_doneKind σ b s1.2) 13) + 1) else 0 : Int32)) : Int32) fun x2 => some (.inr ((x2, s1.2 + 1))))
def f_X1_laidWorth (σ : rS) (b : Nat) : Option Int32 := oLoop (b_X1_laidWorth_4 σ b) oFuel ((0, 0))
set_option maxRecDepth 20000 in
set_option maxHeartbeats 2000000 in
theorem ok_X1_laidWorth {σ : rS} {b : Nat}  (hb : isB b) : rFr Sy yX1_laidWorth mX1_laidWorth 2 [.ref b] σ (fun v => some (.int v)) (f_X1_laidWorth σ b) := by
  refine rFr_of (ls := [some (.ref b), none, none]) yfX1_laidWorth rfl (Nat.le_of_ble_eq_true rfl) (fun o τ => ?_)
  unfold f_X1_laidWorth
  refine P_l (fun hJ _ _ q => E_iconst (v := 0) dX1_laidWorth_0 (by decide) (E_istore_n (ls2 := [some (.ref b), some (.int 0), none]) dX1_laidWorth_1 (by decide) rfl (E_iconst (v := 0) dX1_laidWorth_2 (by decide) (E_istore_n (ls2 := [some (.ref b), some (.int 0), some (.int 0)]) dX1_laidWorth_3 (by decide) rfl q)))) ?_
  refine P_loop (fun s1 => [some (.ref b), some (.int s1.1), some (.int s1.2)]) (fun _ => σ) (fun s1 => ?_) _ ((0, 0))
  unfold b_X1_laidWorth_4
  refine P_l (fun hJ _ _ q => E_iload_n dX1_laidWorth_4 rfl (E_aload_n dX1_laidWorth_5 rfl (E_getI clX1 6 (by decide) flX1_36 (Or.inl rfl) dX1_laidWorth_6 (kdB hJ.1.1 hb) q))) ?_
  refine P_if (fun hJ _ _ h1 h2 => E_icmp_ge 49 dX1_laidWorth_9 (by decide) h1 h2) ?_ ?_
  · skip
    refine P_l (fun hJ _ _ q => E_iload_n dX1_laidWorth_49 rfl q) ?_
    exact P_inl (P_retr (fun _ _ => E_iret rfl dX1_laidWorth_50))
  · skip
    refine P_l (fun hJ _ _ q => E_iload_n dX1_laidWorth_12 rfl (E_aload_n dX1_laidWorth_13 rfl (E_getR (b := b + 6) clX1 5 (by decide) flX1_27 (Or.inr ⟨_, rfl⟩) dX1_laidWorth_14 (kdB hJ.1.1 hb) (rfB5 hJ.1.1 hb) (isB0 hb) (E_iload_n dX1_laidWorth_17 rfl (E_callSN (as := [.ref (b + 6), .int s1.2]) (st := [.int s1.1]) (ok_at (σ := σ) (a := b + 6) (i := s1.2) (f := rI σ (b + 6)) (kdB5 hJ.1.1 hb) (by decide) rfl) (by decide) yfX10_at mlX1_89 stX10_at rfl (Nat.le_of_ble_eq_true rfl) rfl dX1_laidWorth_18 (E_bipush (v := 6) dX1_laidWorth_21 (by decide) (E_ishr dX1_laidWorth_23 q))))))) ?_
    refine P_l (pc2 := 41) (ls2 := [some (.ref b), none, some (.int s1.2)]) (st2 := [.int ((if ((vAt (rI σ (b + 6)) 64 s1.2) >>> ((6 : Int32) &&& 31)) = 0 then ((iRem (v_X1_doneKind σ b s1.2) 13) + 1) else 0 : Int32)), .int s1.1]) (fun hJ _ _ hq => ?_) ?_
    · skip
      refine E_if_ne 40 dX1_laidWorth_24 (by decide) (fun c_24_0 => ?_) (fun c_24_0 => ?_)
      · skip
        refine E_iconst (v := 0) dX1_laidWorth_40 (by decide) ?_
        simp only [if_neg c_24_0] at hq
        exact E_less (ls2 := [some (.ref b), none, some (.int s1.2)]) hq (rLe_at [some (.ref b), none, some (.int s1.2)] [some (.ref b), some (.int s1.1), some (.int s1.2)] (And.intro rfl (And.intro rfl trivial)))
      · skip
        refine E_aload_n dX1_laidWorth_27 rfl ?_
        refine E_iload_n dX1_laidWorth_28 rfl ?_
        refine E_callV (as := [.int s1.2]) (b := b) (st := [.int s1.1]) (ok_X1_doneKind (σ := σ) (b := b) (i := s1.2) hJ hb) (by decide) yfX1_doneKind mlX1_115 imX1_doneKind seX1_doneKind clX1 (kdB hJ.1.1 hb) rfl (Nat.le_of_ble_eq_true rfl) rfl dX1_laidWorth_29 ?_
        refine E_bipush (v := 13) dX1_laidWorth_32 (by decide) ?_
        refine E_irem dX1_laidWorth_34 (by decide) ?_
        refine E_iconst (v := 1) dX1_laidWorth_35 (by decide) ?_
        refine E_iadd dX1_laidWorth_36 ?_
        refine E_goto 41 dX1_laidWorth_37 (by decide) ?_
        simp only [if_pos c_24_0] at hq
        exact E_less (ls2 := [some (.ref b), none, some (.int s1.2)]) hq (rLe_at [some (.ref b), none, some (.int s1.2)] [some (.ref b), some (.int s1.1), some (.int s1.2)] (And.intro rfl (And.intro rfl trivial)))
    · skip
      refine P_l (fun hJ _ _ q => E_iadd dX1_laidWorth_41 (E_istore_n (ls2 := [some (.ref b), some (.int (s1.1 + ((if ((vAt (rI σ (b + 6)) 64 s1.2) >>> ((6 : Int32) &&& 31)) = 0 then ((iRem (v_X1_doneKind σ b s1.2) 13) + 1) else 0 : Int32)))), some (.int s1.2)]) dX1_laidWorth_42 (by decide) rfl q)) ?_
      refine P_v (s1.1 + ((if ((vAt (rI σ (b + 6)) 64 s1.2) >>> ((6 : Int32) &&& 31)) = 0 then ((iRem (v_X1_doneKind σ b s1.2) 13) + 1) else 0 : Int32))) (fun x => [some (.ref b), some (.int x), some (.int s1.2)]) (fun x2 => ?_)
      refine P_l (fun hJ _ _ q => E_iinc (v := 1) (ls2 := [some (.ref b), some (.int x2), some (.int (s1.2 + 1))]) dX1_laidWorth_43 rfl (by decide) (by decide) rfl (E_goto 4 dX1_laidWorth_46 (by decide) q)) ?_
      exact P_back ((x2, s1.2 + 1))

def f_X1_undo (σ : rS) (b : Nat) (p : Int32) : Option (Int32 × rS) := if 0 < (rI σ b 6) then (oLet (wI σ b 6 ((rI σ b 6) - 1)) fun σ1 => oLet (v_X1_doneKind σ1 b (rI σ1 b 6) : Int32) fun x2 => if ((vAt (rI σ1 (b + 6)) 64 (rI σ1 b 6)) >>> ((6 : Int32) &&& 31)) = 0 then (oB (f_X1_change σ1 b (b + 4) x2 ((-1))) fun _ σ5 => oLet (wI σ5 b 8 ((rI σ5 b 8) - 1)) fun σ6 => oB (f_X1_give σ6 b p x2 1) fun _ σ8 => some ((x2, σ8))) else (if ((vAt (rI σ1 (b + 6)) 64 (rI σ1 b 6)) >>> ((6 : Int32) &&& 31)) = 1 then (oB (f_X1_liftJoker σ1 b x2) fun _ σ11 => oB (f_X1_give σ11 b p 52 1) fun _ σ13 => some ((x2, σ13))) else (if ((vAt (rI σ1 (b + 6)) 64 (rI σ1 b 6)) >>> ((6 : Int32) &&& 31)) = 2 then (oB (f_X1_liftJoker σ1 b x2) fun _ σ16 => oLet (wI σ16 b 10 ((rI σ16 b 10) + 1)) fun σ17 => some ((x2, σ17))) else (if ((vAt (rI σ1 (b + 6)) 64 (rI σ1 b 6)) >>> ((6 : Int32) &&& 31)) = 3 then (oB (f_X1_change σ1 b (b + 4) x2 ((-1))) fun _ σ20 => oB (f_X1_change σ20 b (b + 5) x2 1) fun _ σ22 => oLet (wI σ22 b 9 ((rI σ22 b 9) + 1)) fun σ23 => oLet (wI σ23 b 10 ((rI σ23 b 10) - 1)) fun σ24 => oB (f_X1_give σ24 b p x2 1) fun _ σ26 => some ((x2, σ26))) else (oB (f_X1_liftJoker σ1 b x2) fun _ σ28 => oLet (wI σ28 b 10 ((rI σ28 b 10) + 1)) fun σ29 => some ((x2, σ29))))))) else (some (((-1), σ)))
set_option maxRecDepth 20000 in
set_option maxHeartbeats 2000000 in
theorem ok_X1_undo {σ : rS} {b : Nat} {p : Int32}  (hb : isB b) : rFn Sy yX1_undo mX1_undo 3 [.ref b, .int p] σ 0 0 (fun v => .inl (some (.int v))) (f_X1_undo σ b p) := by
  refine rF_of (ls := [some (.ref b), some (.int p), none]) yfX1_undo rfl (Nat.le_of_ble_eq_true rfl) (fun o τ => ?_)
  unfold f_X1_undo
  refine P_l (fun hJ _ _ q => E_aload_n dX1_undo_0 rfl (E_getI clX1 6 (by decide) flX1_36 (Or.inl rfl) dX1_undo_1 (kdB hJ.1.1 hb) q)) ?_
  refine P_if (fun hJ _ _ h1 h2 => E_if_gt 9 dX1_undo_4 (by decide) h1 h2) ?_ ?_
  · skip
    refine P_l (fun hJ _ _ q => E_aload_n dX1_undo_9 rfl (E_dup dX1_undo_10 rfl (E_getI clX1 6 (by decide) flX1_36 (Or.inl rfl) dX1_undo_11 (kdB hJ.1.1 hb) (E_iconst (v := 1) dX1_undo_14 (by decide) (E_isub dX1_undo_15 q))))) ?_
    refine P_w (fun hJ _ _ q => E_putI clX1 6 (by decide) flX1_36 (Or.inl rfl) rfl dX1_undo_16 (kdB hJ.1.1 hb) q) (fun hJ => Sy_wI hJ.1) rfl rfl rfl (fun σ1 hσ1 => ?_)
    refine P_l (fun hJ _ _ q => E_aload_n dX1_undo_19 rfl (E_aload_n dX1_undo_20 rfl (E_getI clX1 6 (by decide) flX1_36 (Or.inl rfl) dX1_undo_21 (kdB hJ.1.1 hb) (E_callV (as := [.int (rI σ1 b 6)]) (b := b) (st := []) (ok_X1_doneKind (σ := σ1) (b := b) (i := rI σ1 b 6) hJ hb) (by decide) yfX1_doneKind mlX1_115 imX1_doneKind seX1_doneKind clX1 (kdB hJ.1.1 hb) rfl (Nat.le_of_ble_eq_true rfl) rfl dX1_undo_24 (E_istore_n (ls2 := [some (.ref b), some (.int p), some (.int (v_X1_doneKind σ1 b (rI σ1 b 6)))]) dX1_undo_27 (by decide) rfl q))))) ?_
    refine P_v (v_X1_doneKind σ1 b (rI σ1 b 6)) (fun x => [some (.ref b), some (.int p), some (.int x)]) (fun x2 => ?_)
    refine P_l (fun hJ _ _ q => E_aload_n dX1_undo_28 rfl (E_getR (b := b + 6) clX1 5 (by decide) flX1_27 (Or.inr ⟨_, rfl⟩) dX1_undo_29 (kdB hJ.1.1 hb) (rfB5 hJ.1.1 hb) (isB0 hb) (E_aload_n dX1_undo_32 rfl (E_getI clX1 6 (by decide) flX1_36 (Or.inl rfl) dX1_undo_33 (kdB hJ.1.1 hb) (E_callSN (as := [.ref (b + 6), .int (rI σ1 b 6)]) (st := []) (ok_at (σ := σ1) (a := b + 6) (i := rI σ1 b 6) (f := rI σ1 (b + 6)) (kdB5 hJ.1.1 hb) (by decide) rfl) (by decide) yfX10_at mlX1_89 stX10_at rfl (Nat.le_of_ble_eq_true rfl) rfl dX1_undo_36 (E_bipush (v := 6) dX1_undo_39 (by decide) (E_ishr dX1_undo_41 q))))))) ?_
    refine P_case (fun h3 => ?_) (fun h3 => ?_)
    · skip
      refine P_l (fun hJ _ _ q => E_tableIn (off := 30) 72 dX1_undo_42 (by rw [h3]; decide) (by rw [h3]; decide) (by rw [h3]; rfl) (by decide) q) ?_
      refine P_l (fun hJ _ _ q => E_aload_n dX1_undo_72 rfl (E_aload_n dX1_undo_73 rfl (E_getR (b := b + 4) clX1 3 (by decide) flX1_21 (Or.inr ⟨_, rfl⟩) dX1_undo_74 (kdB hJ.1.1 hb) (rfB3 hJ.1.1 hb) (isB0 hb) (E_iload_n dX1_undo_77 rfl (E_iconst (v := (-1)) dX1_undo_78 (by decide) q))))) ?_
      refine P_call (t := fun _ => none) (st2 := fun _ => []) (kc2 := 0) (ks2 := 0) (fun hJ => (ok_X1_change (σ := σ1) (b := b) (r := b + 4) (k := x2) (by_ := (-1)) hb (kdB3 hJ.1.1 hb) (isB3 hb))) (fun hJ _ _ _ _ v τ1 hM q => E_callV (as := [.ref (b + 4), .int x2, .int ((-1))]) (b := b) (st := []) hM (by decide) yfX1_change mlX1_103 imX1_change seX1_change clX1 (kdB hJ.1.1 hb) rfl (Nat.le_of_ble_eq_true rfl) rfl dX1_undo_79 q) (by decide) (by decide) (fun v4 σ5 => ?_)
      refine P_l (fun hJ _ _ q => E_aload_n dX1_undo_82 rfl (E_dup dX1_undo_83 rfl (E_getI clX1 8 (by decide) flX1_43 (Or.inl rfl) dX1_undo_84 (kdB hJ.1.1 hb) (E_iconst (v := 1) dX1_undo_87 (by decide) (E_isub dX1_undo_88 q))))) ?_
      refine P_w (fun hJ _ _ q => E_putI clX1 8 (by decide) flX1_43 (Or.inl rfl) rfl dX1_undo_89 (kdB hJ.1.1 hb) q) (fun hJ => Sy_wI hJ.1) rfl rfl rfl (fun σ6 hσ6 => ?_)
      refine P_l (fun hJ _ _ q => E_aload_n dX1_undo_92 rfl (E_iload_n dX1_undo_93 rfl (E_iload_n dX1_undo_94 rfl (E_iconst (v := 1) dX1_undo_95 (by decide) q)))) ?_
      refine P_call (t := fun _ => none) (st2 := fun _ => []) (kc2 := 0) (ks2 := 0) (fun hJ => (ok_X1_give (σ := σ6) (b := b) (p := p) (k := x2) (by_ := 1) hb)) (fun hJ _ _ _ _ v τ1 hM q => E_callV (as := [.int p, .int x2, .int 1]) (b := b) (st := []) hM (by decide) yfX1_give mlX1_85 imX1_give seX1_give clX1 (kdB hJ.1.1 hb) rfl (Nat.le_of_ble_eq_true rfl) rfl dX1_undo_96 q) (by decide) (by decide) (fun v7 σ8 => ?_)
      refine P_l (fun hJ _ _ q => E_goto 183 dX1_undo_99 (by decide) (E_iload_n dX1_undo_183 rfl q)) ?_
      exact P_ret (fun _ _ => E_iret rfl dX1_undo_184)
    · skip
      refine P_case (fun h9 => ?_) (fun h9 => ?_)
      · skip
        refine P_l (fun hJ _ _ q => E_tableIn (off := 110) 152 dX1_undo_42 (by rw [h9]; decide) (by rw [h9]; decide) (by rw [h9]; rfl) (by decide) q) ?_
        refine P_l (fun hJ _ _ q => E_aload_n dX1_undo_152 rfl (E_iload_n dX1_undo_153 rfl q)) ?_
        refine P_call (t := fun _ => none) (st2 := fun _ => []) (kc2 := 0) (ks2 := 0) (fun hJ => (ok_X1_liftJoker (σ := σ1) (b := b) (k := x2) hb)) (fun hJ _ _ _ _ v τ1 hM q => E_callV (as := [.int x2]) (b := b) (st := []) hM (by decide) yfX1_liftJoker mlX1_118 imX1_liftJoker seX1_liftJoker clX1 (kdB hJ.1.1 hb) rfl (Nat.le_of_ble_eq_true rfl) rfl dX1_undo_154 q) (by decide) (by decide) (fun v10 σ11 => ?_)
        refine P_l (fun hJ _ _ q => E_aload_n dX1_undo_157 rfl (E_iload_n dX1_undo_158 rfl (E_bipush (v := 52) dX1_undo_159 (by decide) (E_iconst (v := 1) dX1_undo_161 (by decide) q)))) ?_
        refine P_call (t := fun _ => none) (st2 := fun _ => []) (kc2 := 0) (ks2 := 0) (fun hJ => (ok_X1_give (σ := σ11) (b := b) (p := p) (k := 52) (by_ := 1) hb)) (fun hJ _ _ _ _ v τ1 hM q => E_callV (as := [.int p, .int 52, .int 1]) (b := b) (st := []) hM (by decide) yfX1_give mlX1_85 imX1_give seX1_give clX1 (kdB hJ.1.1 hb) rfl (Nat.le_of_ble_eq_true rfl) rfl dX1_undo_162 q) (by decide) (by decide) (fun v12 σ13 => ?_)
        refine P_l (fun hJ _ _ q => E_goto 183 dX1_undo_165 (by decide) (E_iload_n dX1_undo_183 rfl q)) ?_
        exact P_ret (fun _ _ => E_iret rfl dX1_undo_184)
      · skip
        refine P_case (fun h14 => ?_) (fun h14 => ?_)
        · skip
          refine P_l (fun hJ _ _ q => E_tableIn (off := 126) 168 dX1_undo_42 (by rw [h14]; decide) (by rw [h14]; decide) (by rw [h14]; rfl) (by decide) q) ?_
          refine P_l (fun hJ _ _ q => E_aload_n dX1_undo_168 rfl (E_iload_n dX1_undo_169 rfl q)) ?_
          refine P_call (t := fun _ => none) (st2 := fun _ => []) (kc2 := 0) (ks2 := 0) (fun hJ => (ok_X1_liftJoker (σ := σ1) (b := b) (k := x2) hb)) (fun hJ _ _ _ _ v τ1 hM q => E_callV (as := [.int x2]) (b := b) (st := []) hM (by decide) yfX1_liftJoker mlX1_118 imX1_liftJoker seX1_liftJoker clX1 (kdB hJ.1.1 hb) rfl (Nat.le_of_ble_eq_true rfl) rfl dX1_undo_170 q) (by decide) (by decide) (fun v15 σ16 => ?_)
          refine P_l (fun hJ _ _ q => E_aload_n dX1_undo_173 rfl (E_dup dX1_undo_174 rfl (E_getI clX1 10 (by decide) flX1_49 (Or.inl rfl) dX1_undo_175 (kdB hJ.1.1 hb) (E_iconst (v := 1) dX1_undo_178 (by decide) (E_iadd dX1_undo_179 q))))) ?_
          refine P_w (fun hJ _ _ q => E_putI clX1 10 (by decide) flX1_49 (Or.inl rfl) rfl dX1_undo_180 (kdB hJ.1.1 hb) q) (fun hJ => Sy_wI hJ.1) rfl rfl rfl (fun σ17 hσ17 => ?_)
          refine P_l (fun hJ _ _ q => E_iload_n dX1_undo_183 rfl q) ?_
          exact P_ret (fun _ _ => E_iret rfl dX1_undo_184)
        · skip
          refine P_case (fun h18 => ?_) (fun h18 => ?_)
          · skip
            refine P_l (fun hJ _ _ q => E_tableIn (off := 60) 102 dX1_undo_42 (by rw [h18]; decide) (by rw [h18]; decide) (by rw [h18]; rfl) (by decide) q) ?_
            refine P_l (fun hJ _ _ q => E_aload_n dX1_undo_102 rfl (E_aload_n dX1_undo_103 rfl (E_getR (b := b + 4) clX1 3 (by decide) flX1_21 (Or.inr ⟨_, rfl⟩) dX1_undo_104 (kdB hJ.1.1 hb) (rfB3 hJ.1.1 hb) (isB0 hb) (E_iload_n dX1_undo_107 rfl (E_iconst (v := (-1)) dX1_undo_108 (by decide) q))))) ?_
            refine P_call (t := fun _ => none) (st2 := fun _ => []) (kc2 := 0) (ks2 := 0) (fun hJ => (ok_X1_change (σ := σ1) (b := b) (r := b + 4) (k := x2) (by_ := (-1)) hb (kdB3 hJ.1.1 hb) (isB3 hb))) (fun hJ _ _ _ _ v τ1 hM q => E_callV (as := [.ref (b + 4), .int x2, .int ((-1))]) (b := b) (st := []) hM (by decide) yfX1_change mlX1_103 imX1_change seX1_change clX1 (kdB hJ.1.1 hb) rfl (Nat.le_of_ble_eq_true rfl) rfl dX1_undo_109 q) (by decide) (by decide) (fun v19 σ20 => ?_)
            refine P_l (fun hJ _ _ q => E_aload_n dX1_undo_112 rfl (E_aload_n dX1_undo_113 rfl (E_getR (b := b + 5) clX1 4 (by decide) flX1_24 (Or.inr ⟨_, rfl⟩) dX1_undo_114 (kdB hJ.1.1 hb) (rfB4 hJ.1.1 hb) (isB0 hb) (E_iload_n dX1_undo_117 rfl (E_iconst (v := 1) dX1_undo_118 (by decide) q))))) ?_
            refine P_call (t := fun _ => none) (st2 := fun _ => []) (kc2 := 0) (ks2 := 0) (fun hJ => (ok_X1_change (σ := σ20) (b := b) (r := b + 5) (k := x2) (by_ := 1) hb (kdB4 hJ.1.1 hb) (isB3 hb))) (fun hJ _ _ _ _ v τ1 hM q => E_callV (as := [.ref (b + 5), .int x2, .int 1]) (b := b) (st := []) hM (by decide) yfX1_change mlX1_103 imX1_change seX1_change clX1 (kdB hJ.1.1 hb) rfl (Nat.le_of_ble_eq_true rfl) rfl dX1_undo_119 q) (by decide) (by decide) (fun v21 σ22 => ?_)
            refine P_l (fun hJ _ _ q => E_aload_n dX1_undo_122 rfl (E_dup dX1_undo_123 rfl (E_getI clX1 9 (by decide) flX1_46 (Or.inl rfl) dX1_undo_124 (kdB hJ.1.1 hb) (E_iconst (v := 1) dX1_undo_127 (by decide) (E_iadd dX1_undo_128 q))))) ?_
            refine P_w (fun hJ _ _ q => E_putI clX1 9 (by decide) flX1_46 (Or.inl rfl) rfl dX1_undo_129 (kdB hJ.1.1 hb) q) (fun hJ => Sy_wI hJ.1) rfl rfl rfl (fun σ23 hσ23 => ?_)
            refine P_l (fun hJ _ _ q => E_aload_n dX1_undo_132 rfl (E_dup dX1_undo_133 rfl (E_getI clX1 10 (by decide) flX1_49 (Or.inl rfl) dX1_undo_134 (kdB hJ.1.1 hb) (E_iconst (v := 1) dX1_undo_137 (by decide) (E_isub dX1_undo_138 q))))) ?_
            refine P_w (fun hJ _ _ q => E_putI clX1 10 (by decide) flX1_49 (Or.inl rfl) rfl dX1_undo_139 (kdB hJ.1.1 hb) q) (fun hJ => Sy_wI hJ.1) rfl rfl rfl (fun σ24 hσ24 => ?_)
            refine P_l (fun hJ _ _ q => E_aload_n dX1_undo_142 rfl (E_iload_n dX1_undo_143 rfl (E_iload_n dX1_undo_144 rfl (E_iconst (v := 1) dX1_undo_145 (by decide) q)))) ?_
            refine P_call (t := fun _ => none) (st2 := fun _ => []) (kc2 := 0) (ks2 := 0) (fun hJ => (ok_X1_give (σ := σ24) (b := b) (p := p) (k := x2) (by_ := 1) hb)) (fun hJ _ _ _ _ v τ1 hM q => E_callV (as := [.int p, .int x2, .int 1]) (b := b) (st := []) hM (by decide) yfX1_give mlX1_85 imX1_give seX1_give clX1 (kdB hJ.1.1 hb) rfl (Nat.le_of_ble_eq_true rfl) rfl dX1_undo_146 q) (by decide) (by decide) (fun v25 σ26 => ?_)
            refine P_l (fun hJ _ _ q => E_goto 183 dX1_undo_149 (by decide) (E_iload_n dX1_undo_183 rfl q)) ?_
            exact P_ret (fun _ _ => E_iret rfl dX1_undo_184)
          · skip
            refine P_l (fun hJ _ _ q => E_tableOut 168 dX1_undo_42 (by have e0 := sw_ne h3; have e1 := sw_ne h9; have e2 := sw_ne h14; have e3 := sw_ne h18; simp only [sw_l0, sw_l1, sw_l2, sw_l3] at *; omega) (by decide) q) ?_
            refine P_l (fun hJ _ _ q => E_aload_n dX1_undo_168 rfl (E_iload_n dX1_undo_169 rfl q)) ?_
            refine P_call (t := fun _ => none) (st2 := fun _ => []) (kc2 := 0) (ks2 := 0) (fun hJ => (ok_X1_liftJoker (σ := σ1) (b := b) (k := x2) hb)) (fun hJ _ _ _ _ v τ1 hM q => E_callV (as := [.int x2]) (b := b) (st := []) hM (by decide) yfX1_liftJoker mlX1_118 imX1_liftJoker seX1_liftJoker clX1 (kdB hJ.1.1 hb) rfl (Nat.le_of_ble_eq_true rfl) rfl dX1_undo_170 q) (by decide) (by decide) (fun v27 σ28 => ?_)
            refine P_l (fun hJ _ _ q => E_aload_n dX1_undo_173 rfl (E_dup dX1_undo_174 rfl (E_getI clX1 10 (by decide) flX1_49 (Or.inl rfl) dX1_undo_175 (kdB hJ.1.1 hb) (E_iconst (v := 1) dX1_undo_178 (by decide) (E_iadd dX1_undo_179 q))))) ?_
            refine P_w (fun hJ _ _ q => E_putI clX1 10 (by decide) flX1_49 (Or.inl rfl) rfl dX1_undo_180 (kdB hJ.1.1 hb) q) (fun hJ => Sy_wI hJ.1) rfl rfl rfl (fun σ29 hσ29 => ?_)
            refine P_l (fun hJ _ _ q => E_iload_n dX1_undo_183 rfl q) ?_
            exact P_ret (fun _ _ => E_iret rfl dX1_undo_184)
  · skip
    refine P_l (fun hJ _ _ q => E_iconst (v := (-1)) dX1_undo_7 (by decide) q) ?_
    exact P_ret (fun _ _ => E_iret rfl dX1_undo_8)

def b_X1_undoAll_5 (b : Nat) (p : Int32) (s1 : Int32 × rS) : Option ((Unit × rS) ⊕ (Int32 × rS)) := if s1.1 ≤ 0 then (some (.inl (((), s1.2)))) else (oB (f_X1_undo s1.2 b p) fun v2 σ3 => some (.inr ((s1.1 + (-1), σ3))))
def f_X1_undoAll (σ : rS) (b : Nat) (p : Int32) : Option (Unit × rS) := oLoop (b_X1_undoAll_5 b p) oFuel ((rI σ b 6, σ))
set_option maxRecDepth 20000 in
set_option maxHeartbeats 2000000 in
theorem ok_X1_undoAll {σ : rS} {b : Nat} {p : Int32}  (hb : isB b) : rFn Sy yX1_undoAll mX1_undoAll 4 [.ref b, .int p] σ 0 0 (fun _ => .inl none) (f_X1_undoAll σ b p) := by
  refine rF_of (ls := [some (.ref b), some (.int p), none]) yfX1_undoAll rfl (Nat.le_of_ble_eq_true rfl) (fun o τ => ?_)
  unfold f_X1_undoAll
  refine P_l (fun hJ _ _ q => E_aload_n dX1_undoAll_0 rfl (E_getI clX1 6 (by decide) flX1_36 (Or.inl rfl) dX1_undoAll_1 (kdB hJ.1.1 hb) (E_istore_n (ls2 := [some (.ref b), some (.int p), some (.int (rI σ b 6))]) dX1_undoAll_4 (by decide) rfl q))) ?_
  refine P_loop (fun s1 => [some (.ref b), some (.int p), some (.int s1.1)]) (fun s1 => s1.2) (fun s1 => ?_) _ ((rI σ b 6, σ))
  unfold b_X1_undoAll_5
  refine P_l (fun hJ _ _ q => E_iload_n dX1_undoAll_5 rfl q) ?_
  refine P_if (fun hJ _ _ h1 h2 => E_if_le 21 dX1_undoAll_6 (by decide) h1 h2) ?_ ?_
  · skip
    exact P_inl (P_ret (fun _ _ => E_vret rfl dX1_undoAll_21))
  · skip
    refine P_l (fun hJ _ _ q => E_aload_n dX1_undoAll_9 rfl (E_iload_n dX1_undoAll_10 rfl q)) ?_
    refine P_call (t := fun v => some (.int v)) (st2 := fun v => .int v :: []) (kc2 := 0) (ks2 := 0) (fun hJ => (ok_X1_undo (σ := s1.2) (b := b) (p := p) hb)) (fun hJ _ _ _ _ v τ1 hM q => E_callV (as := [.int p]) (b := b) (st := []) hM (by decide) yfX1_undo mlX1_122 imX1_undo seX1_undo clX1 (kdB hJ.1.1 hb) rfl (Nat.le_of_ble_eq_true rfl) rfl dX1_undoAll_11 q) (by decide) (by decide) (fun v2 σ3 => ?_)
    refine P_l (fun hJ _ _ q => E_pop dX1_undoAll_14 rfl (E_iinc (v := (-1)) (ls2 := [some (.ref b), some (.int p), some (.int (s1.1 + (-1)))]) dX1_undoAll_15 rfl (by decide) (by decide) rfl (E_goto 5 dX1_undoAll_18 (by decide) q))) ?_
    exact P_back ((s1.1 + (-1), σ3))

def f_X1_clear (σ : rS) (b : Nat) : Option (Unit × rS) := oLet (rowI σ (b + 1) (vFill (rI σ (b + 1)) 53 0)) fun σ1 => oLet (rowI σ1 (b + 2) (vFill (rI σ1 (b + 2)) 212 0)) fun σ2 => oLet (rowI σ2 (b + 3) (vFill (rI σ2 (b + 3)) 4 0)) fun σ3 => oLet (rowI σ3 (b + 4) (vFill (rI σ3 (b + 4)) 52 0)) fun σ4 => oLet (rowI σ4 (b + 5) (vFill (rI σ4 (b + 5)) 52 0)) fun σ5 => oLet (wI σ5 b 6 0) fun σ6 => oLet (wI σ6 b 7 0) fun σ7 => oLet (wI σ7 b 8 0) fun σ8 => oLet (wI σ8 b 9 0) fun σ9 => oLet (wI σ9 b 10 0) fun σ10 => oLet (wI σ10 b 12 ((rI σ10 b 12) + 1)) fun σ11 => some (((), σ11))
set_option maxRecDepth 20000 in
set_option maxHeartbeats 2000000 in
theorem ok_X1_clear {σ : rS} {b : Nat}  (hb : isB b) : rFn Sy yX1_clear mX1_clear 1 [.ref b] σ 0 0 (fun _ => .inl none) (f_X1_clear σ b) := by
  refine rF_of (ls := [some (.ref b)]) yfX1_clear rfl (Nat.le_of_ble_eq_true rfl) (fun o τ => ?_)
  unfold f_X1_clear
  refine P_l (fun hJ _ _ q => E_aload_n dX1_clear_0 rfl (E_getR (b := b + 1) clX1 0 (by decide) flX1_9 (Or.inr ⟨_, rfl⟩) dX1_clear_1 (kdB hJ.1.1 hb) (rfB0 hJ.1.1 hb) (isB0 hb) (E_iconst (v := 0) dX1_clear_4 (by decide) q))) ?_
  refine P_w (fun hJ _ _ q => E_callS (as := [.ref (b + 1), .int 0]) (st := []) (ok_fillI (σ := σ) (a := b + 1) (v := 0) (f := rI σ (b + 1)) (kdB0 hJ.1.1 hb) (by decide) (isB3 hb) rfl) (by decide) yfJ7_fill_53178 mlX1_30 stJ7_fill_53178 rfl (Nat.le_of_ble_eq_true rfl) rfl dX1_clear_5 q) (fun hJ => Sy_rowI hJ.1) rfl rfl rfl (fun σ1 hσ1 => ?_)
  refine P_l (fun hJ _ _ q => E_aload_n dX1_clear_8 rfl (E_getR (b := b + 2) clX1 1 (by decide) flX1_15 (Or.inr ⟨_, rfl⟩) dX1_clear_9 (kdB hJ.1.1 hb) (rfB1 hJ.1.1 hb) (isB0 hb) (E_iconst (v := 0) dX1_clear_12 (by decide) q))) ?_
  refine P_w (fun hJ _ _ q => E_callS (as := [.ref (b + 2), .int 0]) (st := []) (ok_fillI (σ := σ1) (a := b + 2) (v := 0) (f := rI σ1 (b + 2)) (kdB1 hJ.1.1 hb) (by decide) (isB3 hb) rfl) (by decide) yfJ7_fill_53178 mlX1_30 stJ7_fill_53178 rfl (Nat.le_of_ble_eq_true rfl) rfl dX1_clear_13 q) (fun hJ => Sy_rowI hJ.1) rfl rfl rfl (fun σ2 hσ2 => ?_)
  refine P_l (fun hJ _ _ q => E_aload_n dX1_clear_16 rfl (E_getR (b := b + 3) clX1 2 (by decide) flX1_18 (Or.inr ⟨_, rfl⟩) dX1_clear_17 (kdB hJ.1.1 hb) (rfB2 hJ.1.1 hb) (isB0 hb) (E_iconst (v := 0) dX1_clear_20 (by decide) q))) ?_
  refine P_w (fun hJ _ _ q => E_callS (as := [.ref (b + 3), .int 0]) (st := []) (ok_fillI (σ := σ2) (a := b + 3) (v := 0) (f := rI σ2 (b + 3)) (kdB2 hJ.1.1 hb) (by decide) (isB3 hb) rfl) (by decide) yfJ7_fill_53178 mlX1_30 stJ7_fill_53178 rfl (Nat.le_of_ble_eq_true rfl) rfl dX1_clear_21 q) (fun hJ => Sy_rowI hJ.1) rfl rfl rfl (fun σ3 hσ3 => ?_)
  refine P_l (fun hJ _ _ q => E_aload_n dX1_clear_24 rfl (E_getR (b := b + 4) clX1 3 (by decide) flX1_21 (Or.inr ⟨_, rfl⟩) dX1_clear_25 (kdB hJ.1.1 hb) (rfB3 hJ.1.1 hb) (isB0 hb) (E_iconst (v := 0) dX1_clear_28 (by decide) q))) ?_
  refine P_w (fun hJ _ _ q => E_callS (as := [.ref (b + 4), .int 0]) (st := []) (ok_fillI (σ := σ3) (a := b + 4) (v := 0) (f := rI σ3 (b + 4)) (kdB3 hJ.1.1 hb) (by decide) (isB3 hb) rfl) (by decide) yfJ7_fill_53178 mlX1_30 stJ7_fill_53178 rfl (Nat.le_of_ble_eq_true rfl) rfl dX1_clear_29 q) (fun hJ => Sy_rowI hJ.1) rfl rfl rfl (fun σ4 hσ4 => ?_)
  refine P_l (fun hJ _ _ q => E_aload_n dX1_clear_32 rfl (E_getR (b := b + 5) clX1 4 (by decide) flX1_24 (Or.inr ⟨_, rfl⟩) dX1_clear_33 (kdB hJ.1.1 hb) (rfB4 hJ.1.1 hb) (isB0 hb) (E_iconst (v := 0) dX1_clear_36 (by decide) q))) ?_
  refine P_w (fun hJ _ _ q => E_callS (as := [.ref (b + 5), .int 0]) (st := []) (ok_fillI (σ := σ4) (a := b + 5) (v := 0) (f := rI σ4 (b + 5)) (kdB4 hJ.1.1 hb) (by decide) (isB3 hb) rfl) (by decide) yfJ7_fill_53178 mlX1_30 stJ7_fill_53178 rfl (Nat.le_of_ble_eq_true rfl) rfl dX1_clear_37 q) (fun hJ => Sy_rowI hJ.1) rfl rfl rfl (fun σ5 hσ5 => ?_)
  refine P_l (fun hJ _ _ q => E_aload_n dX1_clear_40 rfl (E_iconst (v := 0) dX1_clear_41 (by decide) q)) ?_
  refine P_w (fun hJ _ _ q => E_putI clX1 6 (by decide) flX1_36 (Or.inl rfl) rfl dX1_clear_42 (kdB hJ.1.1 hb) q) (fun hJ => Sy_wI hJ.1) rfl rfl rfl (fun σ6 hσ6 => ?_)
  refine P_l (fun hJ _ _ q => E_aload_n dX1_clear_45 rfl (E_iconst (v := 0) dX1_clear_46 (by decide) q)) ?_
  refine P_w (fun hJ _ _ q => E_putI clX1 7 (by decide) flX1_40 (Or.inl rfl) rfl dX1_clear_47 (kdB hJ.1.1 hb) q) (fun hJ => Sy_wI hJ.1) rfl rfl rfl (fun σ7 hσ7 => ?_)
  refine P_l (fun hJ _ _ q => E_aload_n dX1_clear_50 rfl (E_iconst (v := 0) dX1_clear_51 (by decide) q)) ?_
  refine P_w (fun hJ _ _ q => E_putI clX1 8 (by decide) flX1_43 (Or.inl rfl) rfl dX1_clear_52 (kdB hJ.1.1 hb) q) (fun hJ => Sy_wI hJ.1) rfl rfl rfl (fun σ8 hσ8 => ?_)
  refine P_l (fun hJ _ _ q => E_aload_n dX1_clear_55 rfl (E_iconst (v := 0) dX1_clear_56 (by decide) q)) ?_
  refine P_w (fun hJ _ _ q => E_putI clX1 9 (by decide) flX1_46 (Or.inl rfl) rfl dX1_clear_57 (kdB hJ.1.1 hb) q) (fun hJ => Sy_wI hJ.1) rfl rfl rfl (fun σ9 hσ9 => ?_)
  refine P_l (fun hJ _ _ q => E_aload_n dX1_clear_60 rfl (E_iconst (v := 0) dX1_clear_61 (by decide) q)) ?_
  refine P_w (fun hJ _ _ q => E_putI clX1 10 (by decide) flX1_49 (Or.inl rfl) rfl dX1_clear_62 (kdB hJ.1.1 hb) q) (fun hJ => Sy_wI hJ.1) rfl rfl rfl (fun σ10 hσ10 => ?_)
  refine P_l (fun hJ _ _ q => E_aload_n dX1_clear_65 rfl (E_dup dX1_clear_66 rfl (E_getI clX1 12 (by decide) flX1_52 (Or.inl rfl) dX1_clear_67 (kdB hJ.1.1 hb) (E_iconst (v := 1) dX1_clear_70 (by decide) (E_iadd dX1_clear_71 q))))) ?_
  refine P_w (fun hJ _ _ q => E_putI clX1 12 (by decide) flX1_52 (Or.inl rfl) rfl dX1_clear_72 (kdB hJ.1.1 hb) q) (fun hJ => Sy_wI hJ.1) rfl rfl rfl (fun σ11 hσ11 => ?_)
  exact P_ret (fun _ _ => E_vret rfl dX1_clear_75)

def b_X1_drawOne_50 (b : Nat) (p : Int32) (σ1 : rS) (s4 : Int32 × Int32) : Option ((Int32 × rS) ⊕ (Int32 × Int32)) := if 53 ≤ s4.2 then (some (.inl ((0, σ1)))) else (if inB s4.2 53 then (if (rI σ1 (b + 1) (s4.2 : Int32).toNatClampNeg) ≤ s4.1 then (oLet (s4.1 - (rI σ1 (b + 1) (s4.2 : Int32).toNatClampNeg) : Int32) fun x6 => some (.inr ((x6, s4.2 + 1)))) else (oLet (wI σ1 (b + 1) (s4.2 : Int32).toNatClampNeg ((rI σ1 (b + 1) (s4.2 : Int32).toNatClampNeg) - 1)) fun σ7 => oLet (wI σ7 b 7 ((rI σ7 b 7) - 1)) fun σ8 => oB (f_X1_give σ8 b p s4.2 1) fun _ σ10 => some (.inl ((1, σ10))))) else none)
def f_X1_drawOne (σ : rS) (b : Nat) (p : Int32) : Option (Int32 × rS) := if (if (rI σ b 7) ≤ 0 then true else (if (v_X1_sizeOf σ b p) < 24 then false else true)) = true then (some ((0, σ))) else (oLet (wI σ b 11 (((25173 * (rI σ b 11)) + 13849) &&& 65535)) fun σ1 => if ¬ (rI σ1 b 7) = 0 then (oLet (iRem (rI σ1 b 11) (rI σ1 b 7) : Int32) fun x3 => oLoop (b_X1_drawOne_50 b p σ1) oFuel ((x3, 0))) else none)
set_option maxRecDepth 20000 in
set_option maxHeartbeats 2000000 in
theorem ok_X1_drawOne {σ : rS} {b : Nat} {p : Int32}  (hb : isB b) : rFn Sy yX1_drawOne mX1_drawOne 2 [.ref b, .int p] σ 0 0 (fun v => .inl (some (.int v))) (f_X1_drawOne σ b p) := by
  refine rF_of (ls := [some (.ref b), some (.int p), none, none]) yfX1_drawOne rfl (Nat.le_of_ble_eq_true rfl) (fun o τ => ?_)
  unfold f_X1_drawOne
  refine P_l (fun hJ _ _ q => E_aload_n dX1_drawOne_0 rfl (E_getI clX1 7 (by decide) flX1_40 (Or.inl rfl) dX1_drawOne_1 (kdB hJ.1.1 hb) q)) ?_
  refine P_if (c := (if (rI σ b 7) ≤ 0 then true else (if (v_X1_sizeOf σ b p) < 24 then false else true)) = true) (pc1 := 17) (ls1 := [some (.ref b), some (.int p), none, none]) (st1 := []) (pc2 := 19) (ls2 := [some (.ref b), some (.int p), none, none]) (st2 := []) (fun hJ _ _ hX hY => ?_) ?_ ?_
  · skip
    refine E_if_le 17 dX1_drawOne_4 (by decide) (fun c_4_0 => ?_) (fun c_4_0 => ?_)
    · skip
      exact hX (by simp only [if_pos c_4_0])
    · skip
      refine E_aload_n dX1_drawOne_7 rfl ?_
      refine E_iload_n dX1_drawOne_8 rfl ?_
      refine E_callV (as := [.int p]) (b := b) (st := []) (ok_X1_sizeOf (σ := σ) (b := b) (p := p) hJ hb) (by decide) yfX1_sizeOf mlX1_80 imX1_sizeOf seX1_sizeOf clX1 (kdB hJ.1.1 hb) rfl (Nat.le_of_ble_eq_true rfl) rfl dX1_drawOne_9 ?_
      refine E_bipush (v := 24) dX1_drawOne_12 (by decide) ?_
      refine E_icmp_lt 19 dX1_drawOne_14 (by decide) (fun c_14_1 => ?_) (fun c_14_1 => ?_)
      · skip
        exact hY (by simp only [if_neg c_4_0, if_pos c_14_1]; exact Bool.false_ne_true)
      · skip
        exact hX (by simp only [if_neg c_4_0, if_neg c_14_1])
  · skip
    refine P_l (fun hJ _ _ q => E_iconst (v := 0) dX1_drawOne_17 (by decide) q) ?_
    exact P_ret (fun _ _ => E_zret01 rfl (by decide) dX1_drawOne_18)
  · skip
    refine P_l (fun hJ _ _ q => E_aload_n dX1_drawOne_19 rfl (E_sipush (v := 25173) dX1_drawOne_20 (by decide) (E_aload_n dX1_drawOne_23 rfl (E_getI clX1 11 (by decide) flX1_70 (Or.inl rfl) dX1_drawOne_24 (kdB hJ.1.1 hb) (E_imul dX1_drawOne_27 (E_sipush (v := 13849) dX1_drawOne_28 (by decide) (E_iadd dX1_drawOne_31 (E_ldc dX1_drawOne_32 kcX1_84 (E_iand dX1_drawOne_34 q))))))))) ?_
    refine P_w (fun hJ _ _ q => E_putI clX1 11 (by decide) flX1_70 (Or.inl rfl) rfl dX1_drawOne_35 (kdB hJ.1.1 hb) q) (fun hJ => Sy_wI hJ.1) rfl rfl rfl (fun σ1 hσ1 => ?_)
    refine P_l (fun hJ _ _ q => E_aload_n dX1_drawOne_38 rfl (E_getI clX1 11 (by decide) flX1_70 (Or.inl rfl) dX1_drawOne_39 (kdB hJ.1.1 hb) (E_aload_n dX1_drawOne_42 rfl (E_getI clX1 7 (by decide) flX1_40 (Or.inl rfl) dX1_drawOne_43 (kdB hJ.1.1 hb) q)))) ?_
    refine P_g (fun g2 => ?_)
    refine P_l (fun hJ _ _ q => E_irem dX1_drawOne_46 g2 (E_istore_n (ls2 := [some (.ref b), some (.int p), some (.int (iRem (rI σ1 b 11) (rI σ1 b 7))), none]) dX1_drawOne_47 (by decide) rfl q)) ?_
    refine P_v (iRem (rI σ1 b 11) (rI σ1 b 7)) (fun x => [some (.ref b), some (.int p), some (.int x), none]) (fun x3 => ?_)
    refine P_l (fun hJ _ _ q => E_iconst (v := 0) dX1_drawOne_48 (by decide) (E_istore_n (ls2 := [some (.ref b), some (.int p), some (.int x3), some (.int 0)]) dX1_drawOne_49 (by decide) rfl q)) ?_
    refine P_loop (fun s4 => [some (.ref b), some (.int p), some (.int s4.1), some (.int s4.2)]) (fun _ => σ1) (fun s4 => ?_) _ ((x3, 0))
    unfold b_X1_drawOne_50
    refine P_l (fun hJ _ _ q => E_iload_n dX1_drawOne_50 rfl (E_bipush (v := 53) dX1_drawOne_51 (by decide) q)) ?_
    refine P_if (fun hJ _ _ h1 h2 => E_icmp_ge 110 dX1_drawOne_53 (by decide) h1 h2) ?_ ?_
    · skip
      refine P_l (fun hJ _ _ q => E_iconst (v := 0) dX1_drawOne_110 (by decide) q) ?_
      exact P_inl (P_ret (fun _ _ => E_zret01 rfl (by decide) dX1_drawOne_111))
    · skip
      refine P_l (fun hJ _ _ q => E_iload_n dX1_drawOne_56 rfl (E_aload_n dX1_drawOne_57 rfl (E_getR (b := b + 1) clX1 0 (by decide) flX1_9 (Or.inr ⟨_, rfl⟩) dX1_drawOne_58 (kdB hJ.1.1 hb) (rfB0 hJ.1.1 hb) (isB0 hb) (E_iload_n dX1_drawOne_61 rfl q)))) ?_
      refine P_g (fun g5 => ?_)
      refine P_l (fun hJ _ _ q => E_iald dX1_drawOne_62 (kdB0 hJ.1.1 hb) (inB_vp g5) q) ?_
      refine P_if (fun hJ _ _ h1 h2 => E_icmp_ge 95 dX1_drawOne_63 (by decide) h1 h2) ?_ ?_
      · skip
        refine P_l (fun hJ _ _ q => E_iload_n dX1_drawOne_95 rfl (E_aload_n dX1_drawOne_96 rfl (E_getR (b := b + 1) clX1 0 (by decide) flX1_9 (Or.inr ⟨_, rfl⟩) dX1_drawOne_97 (kdB hJ.1.1 hb) (rfB0 hJ.1.1 hb) (isB0 hb) (E_iload_n dX1_drawOne_100 rfl (E_iald dX1_drawOne_101 (kdB0 hJ.1.1 hb) (inB_vp g5) (E_isub dX1_drawOne_102 (E_istore_n (ls2 := [some (.ref b), some (.int p), some (.int (s4.1 - (rI σ1 (b + 1) (s4.2 : Int32).toNatClampNeg))), some (.int s4.2)]) dX1_drawOne_103 (by decide) rfl q))))))) ?_
        refine P_v (s4.1 - (rI σ1 (b + 1) (s4.2 : Int32).toNatClampNeg)) (fun x => [some (.ref b), some (.int p), some (.int x), some (.int s4.2)]) (fun x6 => ?_)
        refine P_l (fun hJ _ _ q => E_iinc (v := 1) (ls2 := [some (.ref b), some (.int p), some (.int x6), some (.int (s4.2 + 1))]) dX1_drawOne_104 rfl (by decide) (by decide) rfl (E_goto 50 dX1_drawOne_107 (by decide) q)) ?_
        exact P_back ((x6, s4.2 + 1))
      · skip
        refine P_l (fun hJ _ _ q => E_aload_n dX1_drawOne_66 rfl (E_getR (b := b + 1) clX1 0 (by decide) flX1_9 (Or.inr ⟨_, rfl⟩) dX1_drawOne_67 (kdB hJ.1.1 hb) (rfB0 hJ.1.1 hb) (isB0 hb) (E_iload_n dX1_drawOne_70 rfl (E_dup2 dX1_drawOne_71 rfl rfl (E_iald dX1_drawOne_72 (kdB0 hJ.1.1 hb) (inB_vp g5) (E_iconst (v := 1) dX1_drawOne_73 (by decide) (E_isub dX1_drawOne_74 q))))))) ?_
        refine P_w (fun hJ _ _ q => E_iast dX1_drawOne_75 (kdB0 hJ.1.1 hb) (isB3 hb) (inB_vp g5) q) (fun hJ => Sy_wI hJ.1) rfl rfl rfl (fun σ7 hσ7 => ?_)
        refine P_l (fun hJ _ _ q => E_aload_n dX1_drawOne_76 rfl (E_dup dX1_drawOne_77 rfl (E_getI clX1 7 (by decide) flX1_40 (Or.inl rfl) dX1_drawOne_78 (kdB hJ.1.1 hb) (E_iconst (v := 1) dX1_drawOne_81 (by decide) (E_isub dX1_drawOne_82 q))))) ?_
        refine P_w (fun hJ _ _ q => E_putI clX1 7 (by decide) flX1_40 (Or.inl rfl) rfl dX1_drawOne_83 (kdB hJ.1.1 hb) q) (fun hJ => Sy_wI hJ.1) rfl rfl rfl (fun σ8 hσ8 => ?_)
        refine P_l (fun hJ _ _ q => E_aload_n dX1_drawOne_86 rfl (E_iload_n dX1_drawOne_87 rfl (E_iload_n dX1_drawOne_88 rfl (E_iconst (v := 1) dX1_drawOne_89 (by decide) q)))) ?_
        refine P_call (t := fun _ => none) (st2 := fun _ => []) (kc2 := 0) (ks2 := 0) (fun hJ => (ok_X1_give (σ := σ8) (b := b) (p := p) (k := s4.2) (by_ := 1) hb)) (fun hJ _ _ _ _ v τ1 hM q => E_callV (as := [.int p, .int s4.2, .int 1]) (b := b) (st := []) hM (by decide) yfX1_give mlX1_85 imX1_give seX1_give clX1 (kdB hJ.1.1 hb) rfl (Nat.le_of_ble_eq_true rfl) rfl dX1_drawOne_90 q) (by decide) (by decide) (fun v9 σ10 => ?_)
        refine P_l (fun hJ _ _ q => E_iconst (v := 1) dX1_drawOne_93 (by decide) q) ?_
        exact P_inl (P_ret (fun _ _ => E_zret01 rfl (by decide) dX1_drawOne_94))

def b_X1_drawUpTo_2 (b : Nat) (p : Int32) (m : Int32) (s1 : Int32 × rS) : Option ((Int32 × rS) ⊕ (Int32 × rS)) := if m ≤ s1.1 then (some (.inl ((s1.1, s1.2)))) else (oB (f_X1_drawOne s1.2 b p) fun v2 σ3 => if v2 = 0 then (some (.inl ((s1.1, σ3)))) else (some (.inr ((s1.1 + 1, σ3)))))
def f_X1_drawUpTo (σ : rS) (b : Nat) (p : Int32) (m : Int32) : Option (Int32 × rS) := oLoop (b_X1_drawUpTo_2 b p m) oFuel ((0, σ))
set_option maxRecDepth 20000 in
set_option maxHeartbeats 2000000 in
theorem ok_X1_drawUpTo {σ : rS} {b : Nat} {p : Int32} {m : Int32}  (hb : isB b) : rFn Sy yX1_drawUpTo mX1_drawUpTo 3 [.ref b, .int p, .int m] σ 0 0 (fun v => .inl (some (.int v))) (f_X1_drawUpTo σ b p m) := by
  refine rF_of (ls := [some (.ref b), some (.int p), some (.int m), none]) yfX1_drawUpTo rfl (Nat.le_of_ble_eq_true rfl) (fun o τ => ?_)
  unfold f_X1_drawUpTo
  refine P_l (fun hJ _ _ q => E_iconst (v := 0) dX1_drawUpTo_0 (by decide) (E_istore_n (ls2 := [some (.ref b), some (.int p), some (.int m), some (.int 0)]) dX1_drawUpTo_1 (by decide) rfl q)) ?_
  refine P_loop (fun s1 => [some (.ref b), some (.int p), some (.int m), some (.int s1.1)]) (fun s1 => s1.2) (fun s1 => ?_) _ ((0, σ))
  unfold b_X1_drawUpTo_2
  refine P_l (fun hJ _ _ q => E_iload_n dX1_drawUpTo_2 rfl (E_iload_n dX1_drawUpTo_3 rfl q)) ?_
  refine P_if (fun hJ _ _ h1 h2 => E_icmp_ge 21 dX1_drawUpTo_4 (by decide) h1 h2) ?_ ?_
  · skip
    refine P_l (fun hJ _ _ q => E_iload_n dX1_drawUpTo_21 rfl q) ?_
    exact P_inl (P_ret (fun _ _ => E_iret rfl dX1_drawUpTo_22))
  · skip
    refine P_l (fun hJ _ _ q => E_aload_n dX1_drawUpTo_7 rfl (E_iload_n dX1_drawUpTo_8 rfl q)) ?_
    refine P_call (t := fun v => some (.int v)) (st2 := fun v => .int v :: []) (kc2 := 0) (ks2 := 0) (fun hJ => (ok_X1_drawOne (σ := s1.2) (b := b) (p := p) hb)) (fun hJ _ _ _ _ v τ1 hM q => E_callV (as := [.int p]) (b := b) (st := []) hM (by decide) yfX1_drawOne mlX1_77 imX1_drawOne seX1_drawOne clX1 (kdB hJ.1.1 hb) rfl (Nat.le_of_ble_eq_true rfl) rfl dX1_drawUpTo_9 q) (by decide) (by decide) (fun v2 σ3 => ?_)
    refine P_if (fun hJ _ _ h1 h2 => E_if_eq 21 dX1_drawUpTo_12 (by decide) h1 h2) ?_ ?_
    · skip
      refine P_l (fun hJ _ _ q => E_iload_n dX1_drawUpTo_21 rfl q) ?_
      exact P_inl (P_ret (fun _ _ => E_iret rfl dX1_drawUpTo_22))
    · skip
      refine P_l (fun hJ _ _ q => E_iinc (v := 1) (ls2 := [some (.ref b), some (.int p), some (.int m), some (.int (s1.1 + 1))]) dX1_drawUpTo_15 rfl (by decide) (by decide) rfl (E_goto 2 dX1_drawUpTo_18 (by decide) q)) ?_
      exact P_back ((s1.1 + 1, σ3))

def b_X1_dealOut_7 (b : Nat) (s5 : Int32 × rS) : Option (((Unit × rS) ⊕ (rS)) ⊕ (Int32 × rS)) := if 52 ≤ s5.1 then (some (.inl (.inr s5.2))) else (if inB s5.1 53 then (oLet (wI s5.2 (b + 1) (s5.1 : Int32).toNatClampNeg ((if (v_X5_isKind s5.2 s5.1) = 0 then 0 else 2 : Int32))) fun σ7 => some (.inr ((s5.1 + 1, σ7)))) else none)
def b_X1_dealOut_68 (b : Nat) (each_ : Int32) (players : Int32) (s11 : Int32 × rS) : Option ((Unit × rS) ⊕ (Int32 × rS)) := if players ≤ s11.1 then (some (.inl (((), s11.2)))) else (oB (f_X1_drawUpTo s11.2 b s11.1 each_) fun v12 σ13 => some (.inr ((s11.1 + 1, σ13))))
def f_X1_dealOut (σ : rS) (b : Nat) (from_ : Int32) (each_ : Int32) (players : Int32) : Option (Unit × rS) := oB (f_X1_clear σ b) fun _ σ2 => oJoin (oLoop (b_X1_dealOut_7 b) oFuel ((0, σ2))) fun j4 => oLet (wI j4 (b + 1) (52 : Int32).toNatClampNeg (rI j4 4 2)) fun σ8 => oLet (wI σ8 b 7 (v_X5_pieces σ8)) fun σ9 => oLet (wI σ9 b 11 from_) fun σ10 => oLoop (b_X1_dealOut_68 b each_ players) oFuel ((0, σ10))
set_option maxRecDepth 20000 in
set_option maxHeartbeats 2000000 in
theorem ok_X1_dealOut {σ : rS} {b : Nat} {from_ : Int32} {each_ : Int32} {players : Int32}  (hb : isB b) : rFn Sy yX1_dealOut mX1_dealOut 4 [.ref b, .ref 4, .int from_, .int each_, .int players] σ 0 0 (fun _ => .inl none) (f_X1_dealOut σ b from_ each_ players) := by
  refine rF_of (ls := [some (.ref b), some (.ref 4), some (.int from_), some (.int each_), some (.int players), none]) yfX1_dealOut rfl (Nat.le_of_ble_eq_true rfl) (fun o τ => ?_)
  unfold f_X1_dealOut
  refine P_l (fun hJ _ _ q => E_aload_n dX1_dealOut_0 rfl q) ?_
  refine P_call (t := fun _ => none) (st2 := fun _ => []) (kc2 := 0) (ks2 := 0) (fun hJ => (ok_X1_clear (σ := σ) (b := b) hb)) (fun hJ _ _ _ _ v τ1 hM q => E_callV (as := []) (b := b) (st := []) hM (by decide) yfX1_clear mlX1_55 imX1_clear seX1_clear clX1 (kdB hJ.1.1 hb) rfl (Nat.le_of_ble_eq_true rfl) rfl dX1_dealOut_1 q) (by decide) (by decide) (fun v1 σ2 => ?_)
  refine P_l (fun hJ _ _ q => E_iconst (v := 0) dX1_dealOut_4 (by decide) (E_istore (ls2 := [some (.ref b), some (.ref 4), some (.int from_), some (.int each_), some (.int players), some (.int 0)]) dX1_dealOut_5 (by decide) rfl q)) ?_
  refine P_join (pc2 := 41) (fun j4 => [some (.ref b), some (.ref 4), some (.int from_), some (.int each_), some (.int players), none]) (fun j4 => []) (fun j4 => j4) ?_ (fun j4 => ?_)
  · skip
    refine P_loop (fun s5 => [some (.ref b), some (.ref 4), some (.int from_), some (.int each_), some (.int players), some (.int s5.1)]) (fun s5 => s5.2) (fun s5 => ?_) _ ((0, σ2))
    unfold b_X1_dealOut_7
    refine P_l (fun hJ _ _ q => E_iload dX1_dealOut_7 rfl (E_bipush (v := 52) dX1_dealOut_9 (by decide) q)) ?_
    refine P_if (fun hJ _ _ h1 h2 => E_icmp_ge 41 dX1_dealOut_11 (by decide) h1 h2) ?_ ?_
    · skip
      refine P_less [some (.ref b), some (.ref 4), some (.int from_), some (.int each_), some (.int players), none] (And.intro rfl (And.intro rfl (And.intro rfl (And.intro rfl (And.intro rfl trivial))))) ?_
      exact P_inl (P_back s5.2)
    · skip
      refine P_l (fun hJ _ _ q => E_aload_n dX1_dealOut_14 rfl (E_getR (b := b + 1) clX1 0 (by decide) flX1_9 (Or.inr ⟨_, rfl⟩) dX1_dealOut_15 (kdB hJ.1.1 hb) (rfB0 hJ.1.1 hb) (isB0 hb) (E_iload dX1_dealOut_18 rfl (E_aload_n dX1_dealOut_20 rfl (E_iload dX1_dealOut_21 rfl (E_callVN (as := [.int s5.1]) (b := 4) (st := [.int s5.1, .ref (b + 1)]) (ok_X5_isKind (σ := s5.2) (k := s5.1) hJ ) (by decide) yfX5_isKind mlX1_58 imX5_isKind seX5_isKind clX5 (kd4 hJ.1.1) rfl (Nat.le_of_ble_eq_true rfl) rfl dX1_dealOut_23 q)))))) ?_
      refine P_l (pc2 := 34) (ls2 := [some (.ref b), some (.ref 4), some (.int from_), some (.int each_), some (.int players), some (.int s5.1)]) (st2 := [.int ((if (v_X5_isKind s5.2 s5.1) = 0 then 0 else 2 : Int32)), .int s5.1, .ref (b + 1)]) (fun hJ _ _ hq => ?_) ?_
      · skip
        refine E_if_eq 33 dX1_dealOut_26 (by decide) (fun c_26_0 => ?_) (fun c_26_0 => ?_)
        · skip
          refine E_iconst (v := 0) dX1_dealOut_33 (by decide) ?_
          simp only [if_pos c_26_0] at hq
          exact hq
        · skip
          refine E_iconst (v := 2) dX1_dealOut_29 (by decide) ?_
          refine E_goto 34 dX1_dealOut_30 (by decide) ?_
          simp only [if_neg c_26_0] at hq
          exact hq
      · skip
        refine P_g (fun g6 => ?_)
        refine P_w (fun hJ _ _ q => E_iast dX1_dealOut_34 (kdB0 hJ.1.1 hb) (isB3 hb) (inB_vp g6) q) (fun hJ => Sy_wI hJ.1) rfl rfl rfl (fun σ7 hσ7 => ?_)
        refine P_l (fun hJ _ _ q => E_iinc (v := 1) (ls2 := [some (.ref b), some (.ref 4), some (.int from_), some (.int each_), some (.int players), some (.int (s5.1 + 1))]) dX1_dealOut_35 rfl (by decide) (by decide) rfl (E_goto 7 dX1_dealOut_38 (by decide) q)) ?_
        exact P_back ((s5.1 + 1, σ7))
  · skip
    refine P_l (fun hJ _ _ q => E_aload_n dX1_dealOut_41 rfl (E_getR (b := b + 1) clX1 0 (by decide) flX1_9 (Or.inr ⟨_, rfl⟩) dX1_dealOut_42 (kdB hJ.1.1 hb) (rfB0 hJ.1.1 hb) (isB0 hb) (E_bipush (v := 52) dX1_dealOut_45 (by decide) (E_aload_n dX1_dealOut_47 rfl (E_getIN clX5 2 (by decide) flX1_64 (Or.inl rfl) dX1_dealOut_48 (kd4 hJ.1.1) q))))) ?_
    refine P_w (fun hJ _ _ q => E_iast dX1_dealOut_51 (kdB0 hJ.1.1 hb) (isB3 hb) (inB_vp (by decide)) q) (fun hJ => Sy_wI hJ.1) rfl rfl rfl (fun σ8 hσ8 => ?_)
    refine P_l (fun hJ _ _ q => E_aload_n dX1_dealOut_52 rfl (E_aload_n dX1_dealOut_53 rfl (E_callVN (as := []) (b := 4) (st := [.ref b]) (ok_X5_pieces (σ := σ8)  hJ ) (by decide) yfX5_pieces mlX1_66 imX5_pieces seX5_pieces clX5 (kd4 hJ.1.1) rfl (Nat.le_of_ble_eq_true rfl) rfl dX1_dealOut_54 q))) ?_
    refine P_w (fun hJ _ _ q => E_putI clX1 7 (by decide) flX1_40 (Or.inl rfl) rfl dX1_dealOut_57 (kdB hJ.1.1 hb) q) (fun hJ => Sy_wI hJ.1) rfl rfl rfl (fun σ9 hσ9 => ?_)
    refine P_l (fun hJ _ _ q => E_aload_n dX1_dealOut_60 rfl (E_iload_n dX1_dealOut_61 rfl q)) ?_
    refine P_w (fun hJ _ _ q => E_putI clX1 11 (by decide) flX1_70 (Or.inl rfl) rfl dX1_dealOut_62 (kdB hJ.1.1 hb) q) (fun hJ => Sy_wI hJ.1) rfl rfl rfl (fun σ10 hσ10 => ?_)
    refine P_l (fun hJ _ _ q => E_iconst (v := 0) dX1_dealOut_65 (by decide) (E_istore (ls2 := [some (.ref b), some (.ref 4), some (.int from_), some (.int each_), some (.int players), some (.int 0)]) dX1_dealOut_66 (by decide) rfl q)) ?_
    refine P_less [some (.ref b), none, none, some (.int each_), some (.int players), some (.int 0)] (And.intro rfl (And.intro rfl (And.intro rfl (And.intro rfl trivial)))) ?_
    refine P_loop (fun s11 => [some (.ref b), none, none, some (.int each_), some (.int players), some (.int s11.1)]) (fun s11 => s11.2) (fun s11 => ?_) _ ((0, σ10))
    unfold b_X1_dealOut_68
    refine P_l (fun hJ _ _ q => E_iload dX1_dealOut_68 rfl (E_iload dX1_dealOut_70 rfl q)) ?_
    refine P_if (fun hJ _ _ h1 h2 => E_icmp_ge 89 dX1_dealOut_72 (by decide) h1 h2) ?_ ?_
    · skip
      exact P_inl (P_ret (fun _ _ => E_vret rfl dX1_dealOut_89))
    · skip
      refine P_l (fun hJ _ _ q => E_aload_n dX1_dealOut_75 rfl (E_iload dX1_dealOut_76 rfl (E_iload_n dX1_dealOut_78 rfl q))) ?_
      refine P_call (t := fun v => some (.int v)) (st2 := fun v => .int v :: []) (kc2 := 0) (ks2 := 0) (fun hJ => (ok_X1_drawUpTo (σ := s11.2) (b := b) (p := s11.1) (m := each_) hb)) (fun hJ _ _ _ _ v τ1 hM q => E_callV (as := [.int s11.1, .int each_]) (b := b) (st := []) hM (by decide) yfX1_drawUpTo mlX1_73 imX1_drawUpTo seX1_drawUpTo clX1 (kdB hJ.1.1 hb) rfl (Nat.le_of_ble_eq_true rfl) rfl dX1_dealOut_79 q) (by decide) (by decide) (fun v12 σ13 => ?_)
      refine P_l (fun hJ _ _ q => E_pop dX1_dealOut_82 rfl (E_iinc (v := 1) (ls2 := [some (.ref b), none, none, some (.int each_), some (.int players), some (.int (s11.1 + 1))]) dX1_dealOut_83 rfl (by decide) (by decide) rfl (E_goto 68 dX1_dealOut_86 (by decide) q))) ?_
      exact P_back ((s11.1 + 1, σ13))

def b_X1_isSame_2 (σ : rS) (r : Nat) (r2 : Nat) (n : Nat) (s1 : Int32) : Option (Int32 ⊕ (Int32)) := if (nI n) ≤ s1 then (if (nI n) = (nI n) then (some (.inl 1)) else (some (.inl 0))) else (if inB s1 n then (if (rI σ r (s1 : Int32).toNatClampNeg) = (vAt (rI σ r2) n s1) then (some (.inr (s1 + 1))) else (some (.inl 0))) else none)
def f_X1_isSame (σ : rS) (r : Nat) (r2 : Nat) (n : Nat) : Option Int32 := oLoop (b_X1_isSame_2 σ r r2 n) oFuel 0
set_option maxRecDepth 20000 in
set_option maxHeartbeats 2000000 in
theorem ok_X1_isSame {σ : rS} {r : Nat} {r2 : Nat} {n : Nat}  (hr : rK σ r = (0, n)) (hn : n < 2147483648) (hr2 : rK σ r2 = (0, n)) : rFr Sy yX1_isSame mX1_isSame 1 [.ref r, .ref r2] σ (fun v => some (.int v)) (f_X1_isSame σ r r2 n) := by
  refine rFr_of (ls := [some (.ref r), some (.ref r2), none]) yfX1_isSame rfl (Nat.le_of_ble_eq_true rfl) (fun o τ => ?_)
  unfold f_X1_isSame
  refine P_l (fun hJ _ _ q => E_iconst (v := 0) dX1_isSame_0 (by decide) (E_istore_n (ls2 := [some (.ref r), some (.ref r2), some (.int 0)]) dX1_isSame_1 (by decide) rfl q)) ?_
  refine P_loop (fun s1 => [some (.ref r), some (.ref r2), some (.int s1)]) (fun _ => σ) (fun s1 => ?_) _ 0
  unfold b_X1_isSame_2
  refine P_l (fun hJ _ _ q => E_iload_n dX1_isSame_2 rfl (E_aload_n dX1_isSame_3 rfl (E_alen (v := nI n) dX1_isSame_4 hr (by decide) rfl q))) ?_
  refine P_if (fun hJ _ _ h1 h2 => E_icmp_ge 27 dX1_isSame_5 (by decide) h1 h2) ?_ ?_
  · skip
    refine P_l (fun hJ _ _ q => E_aload_n dX1_isSame_27 rfl (E_alen (v := nI n) dX1_isSame_28 hr (by decide) rfl (E_aload_n dX1_isSame_29 rfl (E_alen (v := nI n) dX1_isSame_30 hr2 (by decide) rfl q)))) ?_
    refine P_if (fun hJ _ _ h1 h2 => E_icmp_ne 38 dX1_isSame_31 (by decide) h2 h1) ?_ ?_
    · skip
      refine P_l (fun hJ _ _ q => E_iconst (v := 1) dX1_isSame_34 (by decide) (E_goto 39 dX1_isSame_35 (by decide) q)) ?_
      exact P_inl (P_retr (fun _ _ => E_zret01 rfl (by decide) dX1_isSame_39))
    · skip
      refine P_l (fun hJ _ _ q => E_iconst (v := 0) dX1_isSame_38 (by decide) q) ?_
      exact P_inl (P_retr (fun _ _ => E_zret01 rfl (by decide) dX1_isSame_39))
  · skip
    refine P_l (fun hJ _ _ q => E_aload_n dX1_isSame_8 rfl (E_iload_n dX1_isSame_9 rfl q)) ?_
    refine P_g (fun g2 => ?_)
    refine P_l (fun hJ _ _ q => E_iald dX1_isSame_10 hr (inB_vp g2) (E_aload_n dX1_isSame_11 rfl (E_iload_n dX1_isSame_12 rfl (E_callSN (as := [.ref r2, .int s1]) (st := [.int (rI σ r (s1 : Int32).toNatClampNeg)]) (ok_at (σ := σ) (a := r2) (i := s1) (f := rI σ r2) hr2 hn rfl) (by decide) yfX10_at mlX1_89 stX10_at rfl (Nat.le_of_ble_eq_true rfl) rfl dX1_isSame_13 q)))) ?_
    refine P_if (fun hJ _ _ h1 h2 => E_icmp_eq 21 dX1_isSame_16 (by decide) h1 h2) ?_ ?_
    · skip
      refine P_l (fun hJ _ _ q => E_iinc (v := 1) (ls2 := [some (.ref r), some (.ref r2), some (.int (s1 + 1))]) dX1_isSame_21 rfl (by decide) (by decide) rfl (E_goto 2 dX1_isSame_24 (by decide) q)) ?_
      exact P_back (s1 + 1)
    · skip
      refine P_l (fun hJ _ _ q => E_iconst (v := 0) dX1_isSame_19 (by decide) q) ?_
      exact P_inl (P_retr (fun _ _ => E_zret01 rfl (by decide) dX1_isSame_20))

def f_X1_isLike (σ : rS) : Option Int32 := (f_X1_isSame σ 6 13 53).bind fun v1 => if v1 = 0 then (some 0) else ((f_X1_isSame σ 7 14 212).bind fun v2 => if v2 = 0 then (some 0) else ((f_X1_isSame σ 9 16 52).bind fun v3 => if v3 = 0 then (some 0) else ((f_X1_isSame σ 10 17 52).bind fun v4 => some ((if v4 = 0 then 0 else 1 : Int32)))))
set_option maxRecDepth 20000 in
set_option maxHeartbeats 2000000 in
theorem ok_X1_isLike {σ : rS}   : rFr Sy yX1_isLike mX1_isLike 2 [.ref 5, .ref 12] σ (fun v => some (.int v)) (f_X1_isLike σ) := by
  refine rFr_of (ls := [some (.ref 5), some (.ref 12)]) yfX1_isLike rfl (Nat.le_of_ble_eq_true rfl) (fun o τ => ?_)
  unfold f_X1_isLike
  refine P_l (fun hJ _ _ q => E_aload_n dX1_isLike_0 rfl (E_getR (b := 6) clX1 0 (by decide) flX1_9 (Or.inr ⟨_, rfl⟩) dX1_isLike_1 (kd5 hJ.1.1) (rf5_0 hJ.1.1) (by decide) (E_aload_n dX1_isLike_4 rfl (E_getR (b := 13) clX1 0 (by decide) flX1_9 (Or.inr ⟨_, rfl⟩) dX1_isLike_5 (kd12 hJ.1.1) (rf12_0 hJ.1.1) (by decide) q)))) ?_
  refine P_callr (t := fun v => some (.int v)) (st2 := fun v => .int v :: []) (fun hJ => (ok_X1_isSame (σ := σ) (r := 6) (r2 := 13) (n := 53) (kd6 hJ.1.1) (by decide) (kd13 hJ.1.1))) (fun hJ _ _ v hM q => E_callS (as := [.ref 6, .ref 13]) (st := []) hM (by decide) yfX1_isSame mlX1_125 stX1_isSame rfl (Nat.le_of_ble_eq_true rfl) rfl dX1_isLike_8 q) (fun v1 => ?_)
  refine P_if (fun hJ _ _ h1 h2 => E_if_eq 60 dX1_isLike_11 (by decide) h1 h2) ?_ ?_
  · skip
    refine P_l (fun hJ _ _ q => E_iconst (v := 0) dX1_isLike_60 (by decide) q) ?_
    exact P_retr (fun _ _ => E_zret01 rfl (by decide) dX1_isLike_61)
  · skip
    refine P_l (fun hJ _ _ q => E_aload_n dX1_isLike_14 rfl (E_getR (b := 7) clX1 1 (by decide) flX1_15 (Or.inr ⟨_, rfl⟩) dX1_isLike_15 (kd5 hJ.1.1) (rf5_1 hJ.1.1) (by decide) (E_aload_n dX1_isLike_18 rfl (E_getR (b := 14) clX1 1 (by decide) flX1_15 (Or.inr ⟨_, rfl⟩) dX1_isLike_19 (kd12 hJ.1.1) (rf12_1 hJ.1.1) (by decide) q)))) ?_
    refine P_callr (t := fun v => some (.int v)) (st2 := fun v => .int v :: []) (fun hJ => (ok_X1_isSame (σ := σ) (r := 7) (r2 := 14) (n := 212) (kd7 hJ.1.1) (by decide) (kd14 hJ.1.1))) (fun hJ _ _ v hM q => E_callS (as := [.ref 7, .ref 14]) (st := []) hM (by decide) yfX1_isSame mlX1_125 stX1_isSame rfl (Nat.le_of_ble_eq_true rfl) rfl dX1_isLike_22 q) (fun v2 => ?_)
    refine P_if (fun hJ _ _ h1 h2 => E_if_eq 60 dX1_isLike_25 (by decide) h1 h2) ?_ ?_
    · skip
      refine P_l (fun hJ _ _ q => E_iconst (v := 0) dX1_isLike_60 (by decide) q) ?_
      exact P_retr (fun _ _ => E_zret01 rfl (by decide) dX1_isLike_61)
    · skip
      refine P_l (fun hJ _ _ q => E_aload_n dX1_isLike_28 rfl (E_getR (b := 9) clX1 3 (by decide) flX1_21 (Or.inr ⟨_, rfl⟩) dX1_isLike_29 (kd5 hJ.1.1) (rf5_3 hJ.1.1) (by decide) (E_aload_n dX1_isLike_32 rfl (E_getR (b := 16) clX1 3 (by decide) flX1_21 (Or.inr ⟨_, rfl⟩) dX1_isLike_33 (kd12 hJ.1.1) (rf12_3 hJ.1.1) (by decide) q)))) ?_
      refine P_callr (t := fun v => some (.int v)) (st2 := fun v => .int v :: []) (fun hJ => (ok_X1_isSame (σ := σ) (r := 9) (r2 := 16) (n := 52) (kd9 hJ.1.1) (by decide) (kd16 hJ.1.1))) (fun hJ _ _ v hM q => E_callS (as := [.ref 9, .ref 16]) (st := []) hM (by decide) yfX1_isSame mlX1_125 stX1_isSame rfl (Nat.le_of_ble_eq_true rfl) rfl dX1_isLike_36 q) (fun v3 => ?_)
      refine P_if (fun hJ _ _ h1 h2 => E_if_eq 60 dX1_isLike_39 (by decide) h1 h2) ?_ ?_
      · skip
        refine P_l (fun hJ _ _ q => E_iconst (v := 0) dX1_isLike_60 (by decide) q) ?_
        exact P_retr (fun _ _ => E_zret01 rfl (by decide) dX1_isLike_61)
      · skip
        refine P_l (fun hJ _ _ q => E_aload_n dX1_isLike_42 rfl (E_getR (b := 10) clX1 4 (by decide) flX1_24 (Or.inr ⟨_, rfl⟩) dX1_isLike_43 (kd5 hJ.1.1) (rf5_4 hJ.1.1) (by decide) (E_aload_n dX1_isLike_46 rfl (E_getR (b := 17) clX1 4 (by decide) flX1_24 (Or.inr ⟨_, rfl⟩) dX1_isLike_47 (kd12 hJ.1.1) (rf12_4 hJ.1.1) (by decide) q)))) ?_
        refine P_callr (t := fun v => some (.int v)) (st2 := fun v => .int v :: []) (fun hJ => (ok_X1_isSame (σ := σ) (r := 10) (r2 := 17) (n := 52) (kd10 hJ.1.1) (by decide) (kd17 hJ.1.1))) (fun hJ _ _ v hM q => E_callS (as := [.ref 10, .ref 17]) (st := []) hM (by decide) yfX1_isSame mlX1_125 stX1_isSame rfl (Nat.le_of_ble_eq_true rfl) rfl dX1_isLike_50 q) (fun v4 => ?_)
        refine P_l (pc2 := 61) (ls2 := [none, none]) (st2 := [.int ((if v4 = 0 then 0 else 1 : Int32))]) (fun hJ _ _ hq => ?_) ?_
        · skip
          refine E_if_eq 60 dX1_isLike_53 (by decide) (fun c_53_0 => ?_) (fun c_53_0 => ?_)
          · skip
            refine E_iconst (v := 0) dX1_isLike_60 (by decide) ?_
            simp only [if_pos c_53_0] at hq
            exact E_less (ls2 := [none, none]) hq (rLe_at [none, none] [some (.ref 5), some (.ref 12)] trivial)
          · skip
            refine E_iconst (v := 1) dX1_isLike_56 (by decide) ?_
            refine E_goto 61 dX1_isLike_57 (by decide) ?_
            simp only [if_neg c_53_0] at hq
            exact E_less (ls2 := [none, none]) hq (rLe_at [none, none] [some (.ref 5), some (.ref 12)] trivial)
        · skip
          exact P_retr (fun _ _ => E_zret01 rfl (by split <;> decide) dX1_isLike_61)

