def s_X1_change (σ : rS) (b : Nat) (r : Nat) (k : Int32) (by_ : Int32) : rS := wI (rowI σ r (vSet (rI σ r) 52 k ((vAt (rI σ r) 52 k) + by_))) b 12 ((rI (rowI σ r (vSet (rI σ r) 52 k ((vAt (rI σ r) 52 k) + by_))) b 12) + 1)
set_option maxRecDepth 20000 in
theorem ok_X1_change {σ : rS} {b : Nat} {r : Nat} {k : Int32} {by_ : Int32}  (hS : Sh σ) (hb : isB b) (hr : rK σ r = (0, 52)) (h3 : 3 ≤ r) : rMet yX1_change mX1_change 1 [.ref b, .ref r, .int k, .int by_] σ 0 0 none (s_X1_change σ b r k by_) := by
  refine rMet_of (ls := [some (.ref b), some (.ref r), some (.int k), some (.int by_)]) yfX1_change rfl (Nat.le_of_ble_eq_true rfl) ?_
  refine E_aload_n dX1_change_0 rfl ?_
  refine E_iload_n dX1_change_1 rfl ?_
  refine E_aload_n dX1_change_2 rfl ?_
  refine E_iload_n dX1_change_3 rfl ?_
  refine E_callSN (as := [.ref r, .int k]) (st := [.int k, .ref r]) (ok_at (σ := σ) (a := r) (i := k) (f := rI σ r) hr (by decide) rfl) (by decide) yfX10_at mlX1_89 stX10_at rfl (Nat.le_of_ble_eq_true rfl) rfl dX1_change_4 ?_
  refine E_iload_n dX1_change_7 rfl ?_
  refine E_iadd dX1_change_8 ?_
  refine E_callSN (as := [.ref r, .int k, .int ((vAt (rI σ r) 52 k) + by_)]) (st := []) (ok_set (σ := σ) (a := r) (i := k) (x := (vAt (rI σ r) 52 k) + by_) (f := rI σ r) hr (by decide) h3 rfl) (by decide) yfX10_set mlX1_93 stX10_set rfl (Nat.le_of_ble_eq_true rfl) rfl dX1_change_9 ?_
  refine E_aload_n dX1_change_12 rfl ?_
  refine E_dup dX1_change_13 rfl ?_
  refine E_getI clX1 12 (by decide) flX1_52 (Or.inl rfl) dX1_change_14 (kdB (Sh_rowI hS) hb) ?_
  refine E_iconst (v := 1) dX1_change_17 (by decide) ?_
  refine E_iadd dX1_change_18 ?_
  refine E_putI clX1 12 (by decide) flX1_52 (Or.inl rfl) rfl dX1_change_19 (kdB (Sh_rowI hS) hb) ?_
  exact E_vretE rfl dX1_change_22 rfl
theorem sh_X1_change {σ : rS} {b : Nat} {r : Nat} {k : Int32} {by_ : Int32} (hS : Sh σ) : Sh (s_X1_change σ b r k by_) := by
  unfold s_X1_change
  (try dsimp only)
  repeat' (first | with_reducible exact hS | with_reducible apply Sh_ite | with_reducible apply Sh_wI | with_reducible apply Sh_rowI | with_reducible apply Sh_wL | with_reducible apply Sh_rowL)

def v_X1_sizeOf (σ : rS) (b : Nat) (p : Int32) : Int32 := vAt (rI σ (b + 3)) 4 p
set_option maxRecDepth 20000 in
theorem ok_X1_sizeOf {σ : rS} {b : Nat} {p : Int32}  (hS : Sh σ) (hb : isB b) : rMet yX1_sizeOf mX1_sizeOf 1 [.ref b, .int p] σ 0 0 (some (.int (v_X1_sizeOf σ b p))) σ := by
  refine rMet_of (ls := [some (.ref b), some (.int p)]) yfX1_sizeOf rfl (Nat.le_of_ble_eq_true rfl) ?_
  refine E_aload_n dX1_sizeOf_0 rfl ?_
  refine E_getR (b := b + 3) clX1 2 (by decide) flX1_18 (Or.inr ⟨_, rfl⟩) dX1_sizeOf_1 (kdB hS hb) (rfB2 hS hb) (isB0 hb) ?_
  refine E_iload_n dX1_sizeOf_4 rfl ?_
  refine E_callSN (as := [.ref (b + 3), .int p]) (st := []) (ok_at (σ := σ) (a := b + 3) (i := p) (f := rI σ (b + 3)) (kdB2 hS hb) (by decide) rfl) (by decide) yfX10_at mlX1_89 stX10_at rfl (Nat.le_of_ble_eq_true rfl) rfl dX1_sizeOf_5 ?_
  exact E_iretE rfl dX1_sizeOf_8 rfl rfl

def v_X1_rackOf (σ : rS) (b : Nat) (p : Int32) (k : Int32) : Int32 := vAt (rI σ (b + 2)) 212 ((p * 53) + k)
set_option maxRecDepth 20000 in
theorem ok_X1_rackOf {σ : rS} {b : Nat} {p : Int32} {k : Int32}  (hS : Sh σ) (hb : isB b) : rMet yX1_rackOf mX1_rackOf 1 [.ref b, .int p, .int k] σ 0 0 (some (.int (v_X1_rackOf σ b p k))) σ := by
  refine rMet_of (ls := [some (.ref b), some (.int p), some (.int k)]) yfX1_rackOf rfl (Nat.le_of_ble_eq_true rfl) ?_
  refine E_aload_n dX1_rackOf_0 rfl ?_
  refine E_getR (b := b + 2) clX1 1 (by decide) flX1_15 (Or.inr ⟨_, rfl⟩) dX1_rackOf_1 (kdB hS hb) (rfB1 hS hb) (isB0 hb) ?_
  refine E_iload_n dX1_rackOf_4 rfl ?_
  refine E_bipush (v := 53) dX1_rackOf_5 (by decide) ?_
  refine E_imul dX1_rackOf_7 ?_
  refine E_iload_n dX1_rackOf_8 rfl ?_
  refine E_iadd dX1_rackOf_9 ?_
  refine E_callSN (as := [.ref (b + 2), .int ((p * 53) + k)]) (st := []) (ok_at (σ := σ) (a := b + 2) (i := (p * 53) + k) (f := rI σ (b + 2)) (kdB1 hS hb) (by decide) rfl) (by decide) yfX10_at mlX1_89 stX10_at rfl (Nat.le_of_ble_eq_true rfl) rfl dX1_rackOf_10 ?_
  exact E_iretE rfl dX1_rackOf_13 rfl rfl

def v_X1_lies (σ : rS) (b : Nat) (k : Int32) : Int32 := (vAt (rI σ (b + 4)) 52 k) + (vAt (rI σ (b + 5)) 52 k)
set_option maxRecDepth 20000 in
theorem ok_X1_lies {σ : rS} {b : Nat} {k : Int32}  (hS : Sh σ) (hb : isB b) : rMet yX1_lies mX1_lies 1 [.ref b, .int k] σ 0 0 (some (.int (v_X1_lies σ b k))) σ := by
  refine rMet_of (ls := [some (.ref b), some (.int k)]) yfX1_lies rfl (Nat.le_of_ble_eq_true rfl) ?_
  refine E_aload_n dX1_lies_0 rfl ?_
  refine E_getR (b := b + 4) clX1 3 (by decide) flX1_21 (Or.inr ⟨_, rfl⟩) dX1_lies_1 (kdB hS hb) (rfB3 hS hb) (isB0 hb) ?_
  refine E_iload_n dX1_lies_4 rfl ?_
  refine E_callSN (as := [.ref (b + 4), .int k]) (st := []) (ok_at (σ := σ) (a := b + 4) (i := k) (f := rI σ (b + 4)) (kdB3 hS hb) (by decide) rfl) (by decide) yfX10_at mlX1_89 stX10_at rfl (Nat.le_of_ble_eq_true rfl) rfl dX1_lies_5 ?_
  refine E_aload_n dX1_lies_8 rfl ?_
  refine E_getR (b := b + 5) clX1 4 (by decide) flX1_24 (Or.inr ⟨_, rfl⟩) dX1_lies_9 (kdB hS hb) (rfB4 hS hb) (isB0 hb) ?_
  refine E_iload_n dX1_lies_12 rfl ?_
  refine E_callSN (as := [.ref (b + 5), .int k]) (st := [.int (vAt (rI σ (b + 4)) 52 k)]) (ok_at (σ := σ) (a := b + 5) (i := k) (f := rI σ (b + 5)) (kdB4 hS hb) (by decide) rfl) (by decide) yfX10_at mlX1_89 stX10_at rfl (Nat.le_of_ble_eq_true rfl) rfl dX1_lies_13 ?_
  refine E_iadd dX1_lies_16 ?_
  exact E_iretE rfl dX1_lies_17 rfl rfl

def v_X1_doneKind (σ : rS) (b : Nat) (i : Int32) : Int32 := (vAt (rI σ (b + 6)) 64 i) &&& 63
set_option maxRecDepth 20000 in
theorem ok_X1_doneKind {σ : rS} {b : Nat} {i : Int32}  (hS : Sh σ) (hb : isB b) : rMet yX1_doneKind mX1_doneKind 1 [.ref b, .int i] σ 0 0 (some (.int (v_X1_doneKind σ b i))) σ := by
  refine rMet_of (ls := [some (.ref b), some (.int i)]) yfX1_doneKind rfl (Nat.le_of_ble_eq_true rfl) ?_
  refine E_aload_n dX1_doneKind_0 rfl ?_
  refine E_getR (b := b + 6) clX1 5 (by decide) flX1_27 (Or.inr ⟨_, rfl⟩) dX1_doneKind_1 (kdB hS hb) (rfB5 hS hb) (isB0 hb) ?_
  refine E_iload_n dX1_doneKind_4 rfl ?_
  refine E_callSN (as := [.ref (b + 6), .int i]) (st := []) (ok_at (σ := σ) (a := b + 6) (i := i) (f := rI σ (b + 6)) (kdB5 hS hb) (by decide) rfl) (by decide) yfX10_at mlX1_89 stX10_at rfl (Nat.le_of_ble_eq_true rfl) rfl dX1_doneKind_5 ?_
  refine E_bipush (v := 63) dX1_doneKind_8 (by decide) ?_
  refine E_iand dX1_doneKind_10 ?_
  exact E_iretE rfl dX1_doneKind_11 rfl rfl

def s_X1_give (σ : rS) (b : Nat) (p : Int32) (k : Int32) (by_ : Int32) : rS := wI (rowI (rowI σ (b + 2) (vSet (rI σ (b + 2)) 212 ((p * 53) + k) ((vAt (rI σ (b + 2)) 212 ((p * 53) + k)) + by_))) (b + 3) (vSet (rI σ (b + 3)) 4 p ((vAt (rI σ (b + 3)) 4 p) + by_))) b 12 ((rI σ b 12) + 1)
set_option maxRecDepth 20000 in
theorem ok_X1_give {σ : rS} {b : Nat} {p : Int32} {k : Int32} {by_ : Int32}  (hS : Sh σ) (hb : isB b) : rMet yX1_give mX1_give 1 [.ref b, .int p, .int k, .int by_] σ 0 0 none (s_X1_give σ b p k by_) := by
  refine rMet_of (ls := [some (.ref b), some (.int p), some (.int k), some (.int by_), none]) yfX1_give rfl (Nat.le_of_ble_eq_true rfl) ?_
  refine E_iload_n dX1_give_0 rfl ?_
  refine E_bipush (v := 53) dX1_give_1 (by decide) ?_
  refine E_imul dX1_give_3 ?_
  refine E_iload_n dX1_give_4 rfl ?_
  refine E_iadd dX1_give_5 ?_
  refine E_istore (ls2 := [some (.ref b), some (.int p), some (.int k), some (.int by_), some (.int ((p * 53) + k))]) dX1_give_6 (by decide) rfl ?_
  refine E_aload_n dX1_give_8 rfl ?_
  refine E_getR (b := b + 2) clX1 1 (by decide) flX1_15 (Or.inr ⟨_, rfl⟩) dX1_give_9 (kdB hS hb) (rfB1 hS hb) (isB0 hb) ?_
  refine E_iload dX1_give_12 rfl ?_
  refine E_aload_n dX1_give_14 rfl ?_
  refine E_getR (b := b + 2) clX1 1 (by decide) flX1_15 (Or.inr ⟨_, rfl⟩) dX1_give_15 (kdB hS hb) (rfB1 hS hb) (isB0 hb) ?_
  refine E_iload dX1_give_18 rfl ?_
  refine E_callSN (as := [.ref (b + 2), .int ((p * 53) + k)]) (st := [.int ((p * 53) + k), .ref (b + 2)]) (ok_at (σ := σ) (a := b + 2) (i := (p * 53) + k) (f := rI σ (b + 2)) (kdB1 hS hb) (by decide) rfl) (by decide) yfX10_at mlX1_89 stX10_at rfl (Nat.le_of_ble_eq_true rfl) rfl dX1_give_20 ?_
  refine E_iload_n dX1_give_23 rfl ?_
  refine E_iadd dX1_give_24 ?_
  refine E_callSN (as := [.ref (b + 2), .int ((p * 53) + k), .int ((vAt (rI σ (b + 2)) 212 ((p * 53) + k)) + by_)]) (st := []) (ok_set (σ := σ) (a := b + 2) (i := (p * 53) + k) (x := (vAt (rI σ (b + 2)) 212 ((p * 53) + k)) + by_) (f := rI σ (b + 2)) (kdB1 hS hb) (by decide) (isB3 hb) rfl) (by decide) yfX10_set mlX1_93 stX10_set rfl (Nat.le_of_ble_eq_true rfl) rfl dX1_give_25 ?_
  refine E_aload_n dX1_give_28 rfl ?_
  refine E_getR (b := b + 3) clX1 2 (by decide) flX1_18 (Or.inr ⟨_, rfl⟩) dX1_give_29 (kdB (Sh_rowI hS) hb) (rfB2 (Sh_rowI hS) hb) (isB0 hb) ?_
  refine E_iload_n dX1_give_32 rfl ?_
  refine E_aload_n dX1_give_33 rfl ?_
  refine E_getR (b := b + 3) clX1 2 (by decide) flX1_18 (Or.inr ⟨_, rfl⟩) dX1_give_34 (kdB (Sh_rowI hS) hb) (rfB2 (Sh_rowI hS) hb) (isB0 hb) ?_
  refine E_iload_n dX1_give_37 rfl ?_
  refine E_callSN (as := [.ref (b + 3), .int p]) (st := [.int p, .ref (b + 3)]) (ok_at (σ := rowI σ (b + 2) (vSet (rI σ (b + 2)) 212 ((p * 53) + k) ((vAt (rI σ (b + 2)) 212 ((p * 53) + k)) + by_))) (a := b + 3) (i := p) (f := rI σ (b + 3)) (kdB2 (Sh_rowI hS) hb) (by decide) (rI_rowInf (by omega))) (by decide) yfX10_at mlX1_89 stX10_at rfl (Nat.le_of_ble_eq_true rfl) rfl dX1_give_38 ?_
  refine E_iload_n dX1_give_41 rfl ?_
  refine E_iadd dX1_give_42 ?_
  refine E_callSN (as := [.ref (b + 3), .int p, .int ((vAt (rI σ (b + 3)) 4 p) + by_)]) (st := []) (ok_set (σ := rowI σ (b + 2) (vSet (rI σ (b + 2)) 212 ((p * 53) + k) ((vAt (rI σ (b + 2)) 212 ((p * 53) + k)) + by_))) (a := b + 3) (i := p) (x := (vAt (rI σ (b + 3)) 4 p) + by_) (f := rI σ (b + 3)) (kdB2 (Sh_rowI hS) hb) (by decide) (isB3 hb) (rI_rowInf (by omega))) (by decide) yfX10_set mlX1_93 stX10_set rfl (Nat.le_of_ble_eq_true rfl) rfl dX1_give_43 ?_
  refine E_aload_n dX1_give_46 rfl ?_
  refine E_dup dX1_give_47 rfl ?_
  refine E_getI clX1 12 (by decide) flX1_52 (Or.inl rfl) dX1_give_48 (kdB (Sh_rowI (Sh_rowI hS)) hb) ?_
  refine E_topI (v := rI σ b 12) ((rI_rowIn (by omega)).trans (rI_rowIn (by omega))) ?_
  refine E_iconst (v := 1) dX1_give_51 (by decide) ?_
  refine E_iadd dX1_give_52 ?_
  refine E_putI clX1 12 (by decide) flX1_52 (Or.inl rfl) rfl dX1_give_53 (kdB (Sh_rowI (Sh_rowI hS)) hb) ?_
  exact E_vretE rfl dX1_give_56 rfl
theorem sh_X1_give {σ : rS} {b : Nat} {p : Int32} {k : Int32} {by_ : Int32} (hS : Sh σ) : Sh (s_X1_give σ b p k by_) := by
  unfold s_X1_give
  (try dsimp only)
  repeat' (first | with_reducible exact hS | with_reducible apply Sh_ite | with_reducible apply Sh_wI | with_reducible apply Sh_rowI | with_reducible apply Sh_wL | with_reducible apply Sh_rowL)

def s_X1_note (σ : rS) (b : Nat) (h : Int32) (k : Int32) : rS := wI (rowI σ (b + 6) (vSet (rI σ (b + 6)) 64 (rI σ b 6) ((h * 64) + k))) b 6 (if 64 < (rI σ b 6) + 1 then 64 else (rI σ b 6) + 1)
set_option maxRecDepth 20000 in
theorem ok_X1_note {σ : rS} {b : Nat} {h : Int32} {k : Int32}  (hS : Sh σ) (hb : isB b) : rMet yX1_note mX1_note 2 [.ref b, .int h, .int k] σ 0 0 none (s_X1_note σ b h k) := by
  refine rMet_of (ls := [some (.ref b), some (.int h), some (.int k)]) yfX1_note rfl (Nat.le_of_ble_eq_true rfl) ?_
  refine E_aload_n dX1_note_0 rfl ?_
  refine E_getR (b := b + 6) clX1 5 (by decide) flX1_27 (Or.inr ⟨_, rfl⟩) dX1_note_1 (kdB hS hb) (rfB5 hS hb) (isB0 hb) ?_
  refine E_aload_n dX1_note_4 rfl ?_
  refine E_getI clX1 6 (by decide) flX1_36 (Or.inl rfl) dX1_note_5 (kdB hS hb) ?_
  refine E_iload_n dX1_note_8 rfl ?_
  refine E_bipush (v := 64) dX1_note_9 (by decide) ?_
  refine E_imul dX1_note_11 ?_
  refine E_iload_n dX1_note_12 rfl ?_
  refine E_iadd dX1_note_13 ?_
  refine E_callSN (as := [.ref (b + 6), .int (rI σ b 6), .int ((h * 64) + k)]) (st := []) (ok_set (σ := σ) (a := b + 6) (i := rI σ b 6) (x := (h * 64) + k) (f := rI σ (b + 6)) (kdB5 hS hb) (by decide) (isB3 hb) rfl) (by decide) yfX10_set mlX1_93 stX10_set rfl (Nat.le_of_ble_eq_true rfl) rfl dX1_note_14 ?_
  refine E_aload_n dX1_note_17 rfl ?_
  refine E_aload_n dX1_note_18 rfl ?_
  refine E_getI clX1 6 (by decide) flX1_36 (Or.inl rfl) dX1_note_19 (kdB (Sh_rowI hS) hb) ?_
  refine E_topI (v := rI σ b 6) (rI_rowIn (by omega)) ?_
  refine E_iconst (v := 1) dX1_note_22 (by decide) ?_
  refine E_iadd dX1_note_23 ?_
  refine E_bipush (v := 64) dX1_note_24 (by decide) ?_
  refine E_mmin mlX1_110 (by decide) (Nat.le_of_ble_eq_true rfl) dX1_note_26 ?_
  refine E_putI clX1 6 (by decide) flX1_36 (Or.inl rfl) rfl dX1_note_29 (kdB (Sh_rowI hS) hb) ?_
  exact E_vretE rfl dX1_note_32 rfl
theorem sh_X1_note {σ : rS} {b : Nat} {h : Int32} {k : Int32} (hS : Sh σ) : Sh (s_X1_note σ b h k) := by
  unfold s_X1_note
  (try dsimp only)
  repeat' (first | with_reducible exact hS | with_reducible apply Sh_ite | with_reducible apply Sh_wI | with_reducible apply Sh_rowI | with_reducible apply Sh_wL | with_reducible apply Sh_rowL)

def s_X1_layTile (σ : rS) (b : Nat) (p : Int32) (k : Int32) : rS := let σ1 : rS := s_X1_give σ b p k ((-1)); let σ2 : rS := s_X1_change σ1 b (b + 4) k 1; let σ3 : rS := s_X1_note (wI σ2 b 8 ((rI σ2 b 8) + 1)) b 0 k; σ3
set_option maxRecDepth 20000 in
theorem ok_X1_layTile {σ : rS} {b : Nat} {p : Int32} {k : Int32}  (hS : Sh σ) (hb : isB b) : rMet yX1_layTile mX1_layTile 3 [.ref b, .int p, .int k] σ 0 0 none (s_X1_layTile σ b p k) := by
  refine rMet_of (ls := [some (.ref b), some (.int p), some (.int k)]) yfX1_layTile rfl (Nat.le_of_ble_eq_true rfl) ?_
  refine E_aload_n dX1_layTile_0 rfl ?_
  refine E_iload_n dX1_layTile_1 rfl ?_
  refine E_iload_n dX1_layTile_2 rfl ?_
  refine E_iconst (v := (-1)) dX1_layTile_3 (by decide) ?_
  refine E_callV (as := [.int p, .int k, .int ((-1))]) (b := b) (st := []) (ok_X1_give (σ := σ) (b := b) (p := p) (k := k) (by_ := (-1)) hS hb) (by decide) yfX1_give mlX1_85 imX1_give seX1_give clX1 (kdB hS hb) rfl (Nat.le_of_ble_eq_true rfl) rfl dX1_layTile_4 ?_
  obtain ⟨σ1, hσ1, hS1⟩ : ∃ z, z = s_X1_give σ b p k ((-1)) ∧ Sh z := ⟨_, rfl, (sh_X1_give hS)⟩
  rw [← hσ1]
  refine E_aload_n dX1_layTile_7 rfl ?_
  refine E_aload_n dX1_layTile_8 rfl ?_
  refine E_getR (b := b + 4) clX1 3 (by decide) flX1_21 (Or.inr ⟨_, rfl⟩) dX1_layTile_9 (kdB hS1 hb) (rfB3 hS1 hb) (isB0 hb) ?_
  refine E_iload_n dX1_layTile_12 rfl ?_
  refine E_iconst (v := 1) dX1_layTile_13 (by decide) ?_
  refine E_callV (as := [.ref (b + 4), .int k, .int 1]) (b := b) (st := []) (ok_X1_change (σ := σ1) (b := b) (r := b + 4) (k := k) (by_ := 1) hS1 hb (kdB3 hS1 hb) (isB3 hb)) (by decide) yfX1_change mlX1_103 imX1_change seX1_change clX1 (kdB hS1 hb) rfl (Nat.le_of_ble_eq_true rfl) rfl dX1_layTile_14 ?_
  obtain ⟨σ2, hσ2, hS2⟩ : ∃ z, z = s_X1_change σ1 b (b + 4) k 1 ∧ Sh z := ⟨_, rfl, (sh_X1_change hS1)⟩
  rw [← hσ2]
  refine E_aload_n dX1_layTile_17 rfl ?_
  refine E_dup dX1_layTile_18 rfl ?_
  refine E_getI clX1 8 (by decide) flX1_43 (Or.inl rfl) dX1_layTile_19 (kdB hS2 hb) ?_
  refine E_iconst (v := 1) dX1_layTile_22 (by decide) ?_
  refine E_iadd dX1_layTile_23 ?_
  refine E_putI clX1 8 (by decide) flX1_43 (Or.inl rfl) rfl dX1_layTile_24 (kdB hS2 hb) ?_
  refine E_aload_n dX1_layTile_27 rfl ?_
  refine E_iconst (v := 0) dX1_layTile_28 (by decide) ?_
  refine E_iload_n dX1_layTile_29 rfl ?_
  refine E_callV (as := [.int 0, .int k]) (b := b) (st := []) (ok_X1_note (σ := wI σ2 b 8 ((rI σ2 b 8) + 1)) (b := b) (h := 0) (k := k) (Sh_wI hS2) hb) (by decide) yfX1_note mlX1_106 imX1_note seX1_note clX1 (kdB (Sh_wI hS2) hb) rfl (Nat.le_of_ble_eq_true rfl) rfl dX1_layTile_30 ?_
  obtain ⟨σ3, hσ3, hS3⟩ : ∃ z, z = s_X1_note (wI σ2 b 8 ((rI σ2 b 8) + 1)) b 0 k ∧ Sh z := ⟨_, rfl, (sh_X1_note (Sh_wI hS2))⟩
  rw [← hσ3]
  exact E_vretE rfl dX1_layTile_33 (by subst hσ3; subst hσ2; subst hσ1; rfl)
theorem sh_X1_layTile {σ : rS} {b : Nat} {p : Int32} {k : Int32} (hS : Sh σ) : Sh (s_X1_layTile σ b p k) := by
  unfold s_X1_layTile
  (try dsimp only)
  repeat' (first | with_reducible exact hS | with_reducible apply Sh_ite | with_reducible apply Sh_wI | with_reducible apply Sh_rowI | with_reducible apply Sh_wL | with_reducible apply Sh_rowL | with_reducible apply sh_X1_change | with_reducible apply sh_X1_give | with_reducible apply sh_X1_note)

def s_X1_settle (σ : rS) (b : Nat) : rS := wI (wI σ b 6 0) b 12 ((rI σ b 12) + 1)
set_option maxRecDepth 20000 in
theorem ok_X1_settle {σ : rS} {b : Nat}  (hS : Sh σ) (hb : isB b) : rMet yX1_settle mX1_settle 0 [.ref b] σ 0 0 none (s_X1_settle σ b) := by
  refine rMet_of (ls := [some (.ref b)]) yfX1_settle rfl (Nat.le_of_ble_eq_true rfl) ?_
  refine E_aload_n dX1_settle_0 rfl ?_
  refine E_iconst (v := 0) dX1_settle_1 (by decide) ?_
  refine E_putI clX1 6 (by decide) flX1_36 (Or.inl rfl) rfl dX1_settle_2 (kdB hS hb) ?_
  refine E_aload_n dX1_settle_5 rfl ?_
  refine E_dup dX1_settle_6 rfl ?_
  refine E_getI clX1 12 (by decide) flX1_52 (Or.inl rfl) dX1_settle_7 (kdB (Sh_wI hS) hb) ?_
  refine E_topI (v := rI σ b 12) (rI_o _ _ _ (by decide)) ?_
  refine E_iconst (v := 1) dX1_settle_10 (by decide) ?_
  refine E_iadd dX1_settle_11 ?_
  refine E_putI clX1 12 (by decide) flX1_52 (Or.inl rfl) rfl dX1_settle_12 (kdB (Sh_wI hS) hb) ?_
  exact E_vretE rfl dX1_settle_15 rfl
theorem sh_X1_settle {σ : rS} {b : Nat} (hS : Sh σ) : Sh (s_X1_settle σ b) := by
  unfold s_X1_settle
  (try dsimp only)
  repeat' (first | with_reducible exact hS | with_reducible apply Sh_ite | with_reducible apply Sh_wI | with_reducible apply Sh_rowI | with_reducible apply Sh_wL | with_reducible apply Sh_rowL)

def v_X5_isKind (σ : rS) (k : Int32) : Int32 := if k < 0 then 0 else (if 52 ≤ k then 0 else (if (rI σ 4 0) ≤ (k - k / 13 * 13) then 0 else 1))
set_option maxRecDepth 20000 in
theorem ok_X5_isKind {σ : rS} {k : Int32}  (hS : Sh σ)  : rMet yX5_isKind mX5_isKind 0 [.ref 4, .int k] σ 0 0 (some (.int (v_X5_isKind σ k))) σ := by
  refine rMet_of (ls := [some (.ref 4), some (.int k)]) yfX5_isKind rfl (Nat.le_of_ble_eq_true rfl) ?_
  refine E_iload_n dX5_isKind_0 rfl ?_
  refine E_if_lt 25 dX5_isKind_1 (by decide) (fun c_1 => ?_) (fun c_1 => ?_)
  · skip
    refine E_iconst (v := 0) dX5_isKind_25 (by decide) ?_
    exact E_zretE rfl dX5_isKind_26 (by decide) (by unfold v_X5_isKind; rw [if_pos c_1]) rfl
  · skip
    refine E_iload_n dX5_isKind_4 rfl ?_
    refine E_bipush (v := 52) dX5_isKind_5 (by decide) ?_
    refine E_icmp_ge 25 dX5_isKind_7 (by decide) (fun c_7 => ?_) (fun c_7 => ?_)
    · skip
      refine E_iconst (v := 0) dX5_isKind_25 (by decide) ?_
      exact E_zretE rfl dX5_isKind_26 (by decide) (by unfold v_X5_isKind; rw [if_neg c_1, if_pos c_7]) rfl
    · skip
      refine E_iload_n dX5_isKind_10 rfl ?_
      refine E_bipush (v := 13) dX5_isKind_11 (by decide) ?_
      refine E_irem dX5_isKind_13 (by decide) ?_
      refine E_aload_n dX5_isKind_14 rfl ?_
      refine E_getI clX5 0 (by decide) flX5_9 (Or.inl rfl) dX5_isKind_15 (kd4 hS) ?_
      refine E_icmp_ge 25 dX5_isKind_18 (by decide) (fun c_18 => ?_) (fun c_18 => ?_)
      · skip
        refine E_iconst (v := 0) dX5_isKind_25 (by decide) ?_
        exact E_zretE rfl dX5_isKind_26 (by decide) (by unfold v_X5_isKind; rw [if_neg c_1, if_neg c_7, if_pos c_18]) rfl
      · skip
        refine E_iconst (v := 1) dX5_isKind_21 (by decide) ?_
        refine E_goto 26 dX5_isKind_22 (by decide) ?_
        exact E_zretE rfl dX5_isKind_26 (by decide) (by unfold v_X5_isKind; rw [if_neg c_1, if_neg c_7, if_neg c_18]) rfl

def v_X5_pieces (σ : rS) : Int32 := (8 * (rI σ 4 0)) + (rI σ 4 2)
set_option maxRecDepth 20000 in
theorem ok_X5_pieces {σ : rS}  (hS : Sh σ)  : rMet yX5_pieces mX5_pieces 0 [.ref 4] σ 0 0 (some (.int (v_X5_pieces σ))) σ := by
  refine rMet_of (ls := [some (.ref 4)]) yfX5_pieces rfl (Nat.le_of_ble_eq_true rfl) ?_
  refine E_bipush (v := 8) dX5_pieces_0 (by decide) ?_
  refine E_aload_n dX5_pieces_2 rfl ?_
  refine E_getI clX5 0 (by decide) flX5_9 (Or.inl rfl) dX5_pieces_3 (kd4 hS) ?_
  refine E_imul dX5_pieces_6 ?_
  refine E_aload_n dX5_pieces_7 rfl ?_
  refine E_getI clX5 2 (by decide) flX5_18 (Or.inl rfl) dX5_pieces_8 (kd4 hS) ?_
  refine E_iadd dX5_pieces_11 ?_
  exact E_iretE rfl dX5_pieces_12 rfl rfl

