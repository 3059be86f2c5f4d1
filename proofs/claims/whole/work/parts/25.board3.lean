def natFind {α ρ : Type} (f : Nat → α → ρ ⊕ α) : Nat → Nat → α → ρ ⊕ α
  | 0, _, a => .inr a
  | n + 1, i, a => match f i a with
    | .inl r => .inl r
    | .inr a' => natFind f n (i + 1) a'
theorem natFind_l {α ρ : Type} {f : Nat → α → ρ ⊕ α} {n i : Nat} {a : α} {r : ρ} (h : f i a = .inl r) : natFind f (n + 1) i a = .inl r := by simp only [natFind, h]
theorem natFind_r {α ρ : Type} {f : Nat → α → ρ ⊕ α} {n i : Nat} {a a' : α} (h : f i a = .inr a') : natFind f (n + 1) i a = natFind f n (i + 1) a' := by simp only [natFind, h]
theorem natFind_0 {α ρ : Type} {f : Nat → α → ρ ⊕ α} {i : Nat} {a : α} : natFind f 0 i a = .inr a := rfl
/-- what holds at each turn holds at the end -/
theorem natFind_inv {α ρ : Type} {f : Nat → α → ρ ⊕ α} {P : Nat → α → Prop} {Q : ρ → Prop} (n i : Nat) (a : α) (h0 : P i a) (hl : ∀ j a r, i ≤ j → j < i + n → P j a → f j a = .inl r → Q r) (hr : ∀ j a a', i ≤ j → j < i + n → P j a → f j a = .inr a' → P (j + 1) a') : (∃ r, natFind f n i a = .inl r ∧ Q r) ∨ ∃ a', natFind f n i a = .inr a' ∧ P (i + n) a' := by
  induction n generalizing i a with
  | zero => exact Or.inr ⟨a, rfl, h0⟩
  | succ n ih =>
    cases hf : f i a with
    | inl r => exact Or.inl ⟨r, natFind_l hf, hl i a r (Nat.le_refl _) (by omega) h0 hf⟩
    | inr a' =>
      rw [natFind_r hf]
      have := ih (i + 1) a' (hr i a a' (Nat.le_refl _) (by omega) h0 hf) (fun j a r h1 h2 => hl j a r (by omega) (by omega)) (fun j a a' h1 h2 => hr j a a' (by omega) (by omega))
      rw [show i + (n + 1) = i + 1 + n by omega]
      exact this
theorem E_eqo {M : rM} {k pc : Nat} {ls : List (Option Value)} {st : List Value} {σ τ τ2 : rS} {kc ks : Nat} {o o2 : Option Value ⊕ String} (h : rE M k pc ls st σ kc ks o2 τ2) (h1 : o = o2) (h2 : τ = τ2) : rE M k pc ls st σ kc ks o τ := by
  subst h1; subst h2; exact h
def s_X1_clear (σ : rS) (b : Nat) : rS := wI (wI (wI (wI (wI (wI (rowI (rowI (rowI (rowI (rowI σ (b + 1) (vFill (rI σ (b + 1)) 53 0)) (b + 2) (vFill (rI σ (b + 2)) 212 0)) (b + 3) (vFill (rI σ (b + 3)) 4 0)) (b + 4) (vFill (rI σ (b + 4)) 52 0)) (b + 5) (vFill (rI σ (b + 5)) 52 0)) b 6 0) b 7 0) b 8 0) b 9 0) b 10 0) b 12 ((rI σ b 12) + 1)
set_option maxRecDepth 20000 in
theorem ok_X1_clear {σ : rS} {b : Nat}  (hS : Sh σ) (hb : isB b) : rMet yX1_clear mX1_clear 1 [.ref b] σ 0 0 none (s_X1_clear σ b) := by
  refine rMet_of (ls := [some (.ref b)]) yfX1_clear rfl (Nat.le_of_ble_eq_true rfl) ?_
  refine E_aload_n dX1_clear_0 rfl ?_
  refine E_getR (b := b + 1) clX1 0 (by decide) flX1_9 (Or.inr ⟨_, rfl⟩) dX1_clear_1 (kdB hS hb) (rfB0 hS hb) (isB0 hb) ?_
  refine E_iconst (v := 0) dX1_clear_4 (by decide) ?_
  refine E_callS (as := [.ref (b + 1), .int 0]) (st := []) (ok_fillI (σ := σ) (a := b + 1) (v := 0) (f := rI σ (b + 1)) (kdB0 hS hb) (by decide) (isB3 hb) rfl) (by decide) yfJ7_fill_53178 mlX1_30 stJ7_fill_53178 rfl (Nat.le_of_ble_eq_true rfl) rfl dX1_clear_5 ?_
  refine E_aload_n dX1_clear_8 rfl ?_
  refine E_getR (b := b + 2) clX1 1 (by decide) flX1_15 (Or.inr ⟨_, rfl⟩) dX1_clear_9 (kdB (Sh_rowI hS) hb) (rfB1 (Sh_rowI hS) hb) (isB0 hb) ?_
  refine E_iconst (v := 0) dX1_clear_12 (by decide) ?_
  refine E_callS (as := [.ref (b + 2), .int 0]) (st := []) (ok_fillI (σ := rowI σ (b + 1) (vFill (rI σ (b + 1)) 53 0)) (a := b + 2) (v := 0) (f := rI σ (b + 2)) (kdB1 (Sh_rowI hS) hb) (by decide) (isB3 hb) (rI_rowInf (by omega))) (by decide) yfJ7_fill_53178 mlX1_30 stJ7_fill_53178 rfl (Nat.le_of_ble_eq_true rfl) rfl dX1_clear_13 ?_
  refine E_aload_n dX1_clear_16 rfl ?_
  refine E_getR (b := b + 3) clX1 2 (by decide) flX1_18 (Or.inr ⟨_, rfl⟩) dX1_clear_17 (kdB (Sh_rowI (Sh_rowI hS)) hb) (rfB2 (Sh_rowI (Sh_rowI hS)) hb) (isB0 hb) ?_
  refine E_iconst (v := 0) dX1_clear_20 (by decide) ?_
  refine E_callS (as := [.ref (b + 3), .int 0]) (st := []) (ok_fillI (σ := rowI (rowI σ (b + 1) (vFill (rI σ (b + 1)) 53 0)) (b + 2) (vFill (rI σ (b + 2)) 212 0)) (a := b + 3) (v := 0) (f := rI σ (b + 3)) (kdB2 (Sh_rowI (Sh_rowI hS)) hb) (by decide) (isB3 hb) ((rI_rowInf (by omega)).trans (rI_rowInf (by omega)))) (by decide) yfJ7_fill_53178 mlX1_30 stJ7_fill_53178 rfl (Nat.le_of_ble_eq_true rfl) rfl dX1_clear_21 ?_
  refine E_aload_n dX1_clear_24 rfl ?_
  refine E_getR (b := b + 4) clX1 3 (by decide) flX1_21 (Or.inr ⟨_, rfl⟩) dX1_clear_25 (kdB (Sh_rowI (Sh_rowI (Sh_rowI hS))) hb) (rfB3 (Sh_rowI (Sh_rowI (Sh_rowI hS))) hb) (isB0 hb) ?_
  refine E_iconst (v := 0) dX1_clear_28 (by decide) ?_
  refine E_callS (as := [.ref (b + 4), .int 0]) (st := []) (ok_fillI (σ := rowI (rowI (rowI σ (b + 1) (vFill (rI σ (b + 1)) 53 0)) (b + 2) (vFill (rI σ (b + 2)) 212 0)) (b + 3) (vFill (rI σ (b + 3)) 4 0)) (a := b + 4) (v := 0) (f := rI σ (b + 4)) (kdB3 (Sh_rowI (Sh_rowI (Sh_rowI hS))) hb) (by decide) (isB3 hb) ((rI_rowInf (by omega)).trans ((rI_rowInf (by omega)).trans (rI_rowInf (by omega))))) (by decide) yfJ7_fill_53178 mlX1_30 stJ7_fill_53178 rfl (Nat.le_of_ble_eq_true rfl) rfl dX1_clear_29 ?_
  refine E_aload_n dX1_clear_32 rfl ?_
  refine E_getR (b := b + 5) clX1 4 (by decide) flX1_24 (Or.inr ⟨_, rfl⟩) dX1_clear_33 (kdB (Sh_rowI (Sh_rowI (Sh_rowI (Sh_rowI hS)))) hb) (rfB4 (Sh_rowI (Sh_rowI (Sh_rowI (Sh_rowI hS)))) hb) (isB0 hb) ?_
  refine E_iconst (v := 0) dX1_clear_36 (by decide) ?_
  refine E_callS (as := [.ref (b + 5), .int 0]) (st := []) (ok_fillI (σ := rowI (rowI (rowI (rowI σ (b + 1) (vFill (rI σ (b + 1)) 53 0)) (b + 2) (vFill (rI σ (b + 2)) 212 0)) (b + 3) (vFill (rI σ (b + 3)) 4 0)) (b + 4) (vFill (rI σ (b + 4)) 52 0)) (a := b + 5) (v := 0) (f := rI σ (b + 5)) (kdB4 (Sh_rowI (Sh_rowI (Sh_rowI (Sh_rowI hS)))) hb) (by decide) (isB3 hb) ((rI_rowInf (by omega)).trans ((rI_rowInf (by omega)).trans ((rI_rowInf (by omega)).trans (rI_rowInf (by omega)))))) (by decide) yfJ7_fill_53178 mlX1_30 stJ7_fill_53178 rfl (Nat.le_of_ble_eq_true rfl) rfl dX1_clear_37 ?_
  refine E_aload_n dX1_clear_40 rfl ?_
  refine E_iconst (v := 0) dX1_clear_41 (by decide) ?_
  refine E_putI clX1 6 (by decide) flX1_36 (Or.inl rfl) rfl dX1_clear_42 (kdB (Sh_rowI (Sh_rowI (Sh_rowI (Sh_rowI (Sh_rowI hS))))) hb) ?_
  refine E_aload_n dX1_clear_45 rfl ?_
  refine E_iconst (v := 0) dX1_clear_46 (by decide) ?_
  refine E_putI clX1 7 (by decide) flX1_40 (Or.inl rfl) rfl dX1_clear_47 (kdB (Sh_wI (Sh_rowI (Sh_rowI (Sh_rowI (Sh_rowI (Sh_rowI hS)))))) hb) ?_
  refine E_aload_n dX1_clear_50 rfl ?_
  refine E_iconst (v := 0) dX1_clear_51 (by decide) ?_
  refine E_putI clX1 8 (by decide) flX1_43 (Or.inl rfl) rfl dX1_clear_52 (kdB (Sh_wI (Sh_wI (Sh_rowI (Sh_rowI (Sh_rowI (Sh_rowI (Sh_rowI hS))))))) hb) ?_
  refine E_aload_n dX1_clear_55 rfl ?_
  refine E_iconst (v := 0) dX1_clear_56 (by decide) ?_
  refine E_putI clX1 9 (by decide) flX1_46 (Or.inl rfl) rfl dX1_clear_57 (kdB (Sh_wI (Sh_wI (Sh_wI (Sh_rowI (Sh_rowI (Sh_rowI (Sh_rowI (Sh_rowI hS)))))))) hb) ?_
  refine E_aload_n dX1_clear_60 rfl ?_
  refine E_iconst (v := 0) dX1_clear_61 (by decide) ?_
  refine E_putI clX1 10 (by decide) flX1_49 (Or.inl rfl) rfl dX1_clear_62 (kdB (Sh_wI (Sh_wI (Sh_wI (Sh_wI (Sh_rowI (Sh_rowI (Sh_rowI (Sh_rowI (Sh_rowI hS))))))))) hb) ?_
  refine E_aload_n dX1_clear_65 rfl ?_
  refine E_dup dX1_clear_66 rfl ?_
  refine E_getI clX1 12 (by decide) flX1_52 (Or.inl rfl) dX1_clear_67 (kdB (Sh_wI (Sh_wI (Sh_wI (Sh_wI (Sh_wI (Sh_rowI (Sh_rowI (Sh_rowI (Sh_rowI (Sh_rowI hS)))))))))) hb) ?_
  refine E_topI (v := rI σ b 12) ((rI_o _ _ _ (by decide)).trans ((rI_o _ _ _ (by decide)).trans ((rI_o _ _ _ (by decide)).trans ((rI_o _ _ _ (by decide)).trans ((rI_o _ _ _ (by decide)).trans ((rI_rowIn (by omega)).trans ((rI_rowIn (by omega)).trans ((rI_rowIn (by omega)).trans ((rI_rowIn (by omega)).trans (rI_rowIn (by omega))))))))))) ?_
  refine E_iconst (v := 1) dX1_clear_70 (by decide) ?_
  refine E_iadd dX1_clear_71 ?_
  refine E_putI clX1 12 (by decide) flX1_52 (Or.inl rfl) rfl dX1_clear_72 (kdB (Sh_wI (Sh_wI (Sh_wI (Sh_wI (Sh_wI (Sh_rowI (Sh_rowI (Sh_rowI (Sh_rowI (Sh_rowI hS)))))))))) hb) ?_
  exact E_vretE rfl dX1_clear_75 rfl
theorem sh_X1_clear {σ : rS} {b : Nat} (hS : Sh σ) : Sh (s_X1_clear σ b) := by
  unfold s_X1_clear
  (try dsimp only)
  repeat' (first | with_reducible exact hS | with_reducible apply Sh_ite | with_reducible apply Sh_wI | with_reducible apply Sh_rowI | with_reducible apply Sh_wL | with_reducible apply Sh_rowL)

def s_X1_liftJoker (σ : rS) (b : Nat) (k : Int32) : rS := let σ1 : rS := s_X1_change σ b (b + 5) k ((-1)); wI (wI σ1 b 8 ((rI σ1 b 8) - 1)) b 9 ((rI σ1 b 9) - 1)
set_option maxRecDepth 20000 in
theorem ok_X1_liftJoker {σ : rS} {b : Nat} {k : Int32}  (hS : Sh σ) (hb : isB b) : rMet yX1_liftJoker mX1_liftJoker 2 [.ref b, .int k] σ 0 0 none (s_X1_liftJoker σ b k) := by
  refine rMet_of (ls := [some (.ref b), some (.int k)]) yfX1_liftJoker rfl (Nat.le_of_ble_eq_true rfl) ?_
  refine E_aload_n dX1_liftJoker_0 rfl ?_
  refine E_aload_n dX1_liftJoker_1 rfl ?_
  refine E_getR (b := b + 5) clX1 4 (by decide) flX1_24 (Or.inr ⟨_, rfl⟩) dX1_liftJoker_2 (kdB hS hb) (rfB4 hS hb) (isB0 hb) ?_
  refine E_iload_n dX1_liftJoker_5 rfl ?_
  refine E_iconst (v := (-1)) dX1_liftJoker_6 (by decide) ?_
  refine E_callV (as := [.ref (b + 5), .int k, .int ((-1))]) (b := b) (st := []) (ok_X1_change (σ := σ) (b := b) (r := b + 5) (k := k) (by_ := (-1)) hS hb (kdB4 hS hb) (isB3 hb)) (by decide) yfX1_change mlX1_103 imX1_change seX1_change clX1 (kdB hS hb) rfl (Nat.le_of_ble_eq_true rfl) rfl dX1_liftJoker_7 ?_
  obtain ⟨σ1, hσ1, hS1⟩ : ∃ z, z = s_X1_change σ b (b + 5) k ((-1)) ∧ Sh z := ⟨_, rfl, (sh_X1_change hS)⟩
  rw [← hσ1]
  refine E_aload_n dX1_liftJoker_10 rfl ?_
  refine E_dup dX1_liftJoker_11 rfl ?_
  refine E_getI clX1 8 (by decide) flX1_43 (Or.inl rfl) dX1_liftJoker_12 (kdB hS1 hb) ?_
  refine E_iconst (v := 1) dX1_liftJoker_15 (by decide) ?_
  refine E_isub dX1_liftJoker_16 ?_
  refine E_putI clX1 8 (by decide) flX1_43 (Or.inl rfl) rfl dX1_liftJoker_17 (kdB hS1 hb) ?_
  refine E_aload_n dX1_liftJoker_20 rfl ?_
  refine E_dup dX1_liftJoker_21 rfl ?_
  refine E_getI clX1 9 (by decide) flX1_46 (Or.inl rfl) dX1_liftJoker_22 (kdB (Sh_wI hS1) hb) ?_
  refine E_topI (v := rI σ1 b 9) (rI_o _ _ _ (by decide)) ?_
  refine E_iconst (v := 1) dX1_liftJoker_25 (by decide) ?_
  refine E_isub dX1_liftJoker_26 ?_
  refine E_putI clX1 9 (by decide) flX1_46 (Or.inl rfl) rfl dX1_liftJoker_27 (kdB (Sh_wI hS1) hb) ?_
  exact E_vretE rfl dX1_liftJoker_30 (by subst hσ1; rfl)
theorem sh_X1_liftJoker {σ : rS} {b : Nat} {k : Int32} (hS : Sh σ) : Sh (s_X1_liftJoker σ b k) := by
  unfold s_X1_liftJoker
  (try dsimp only)
  repeat' (first | with_reducible exact hS | with_reducible apply Sh_ite | with_reducible apply Sh_wI | with_reducible apply Sh_rowI | with_reducible apply Sh_wL | with_reducible apply Sh_rowL | with_reducible apply sh_X1_change)

def s_X1_layJoker (σ : rS) (b : Nat) (p : Int32) (k : Int32) : rS := if (rI σ b 10) ≤ 0 then (let σ1 : rS := s_X1_give σ b p 52 ((-1)); let σ2 : rS := s_X1_change σ1 b (b + 5) k 1; let σ3 : rS := s_X1_note (wI (wI σ2 b 8 ((rI σ2 b 8) + 1)) b 9 ((rI σ2 b 9) + 1)) b 1 k; σ3) else (let σ1 : rS := s_X1_change (wI σ b 10 ((rI σ b 10) - 1)) b (b + 5) k 1; let σ2 : rS := s_X1_note (wI (wI σ1 b 8 ((rI σ1 b 8) + 1)) b 9 ((rI σ1 b 9) + 1)) b 2 k; σ2)
set_option maxRecDepth 20000 in
theorem ok_X1_layJoker {σ : rS} {b : Nat} {p : Int32} {k : Int32}  (hS : Sh σ) (hb : isB b) : rMet yX1_layJoker mX1_layJoker 3 [.ref b, .int p, .int k] σ 0 0 none (s_X1_layJoker σ b p k) := by
  refine rMet_of (ls := [some (.ref b), some (.int p), some (.int k), none]) yfX1_layJoker rfl (Nat.le_of_ble_eq_true rfl) ?_
  refine E_aload_n dX1_layJoker_0 rfl ?_
  refine E_getI clX1 10 (by decide) flX1_49 (Or.inl rfl) dX1_layJoker_1 (kdB hS hb) ?_
  refine E_if_le 11 dX1_layJoker_4 (by decide) (fun c_4 => ?_) (fun c_4 => ?_)
  · skip
    refine E_iconst (v := 0) dX1_layJoker_11 (by decide) ?_
    refine E_istore_n (ls2 := [some (.ref b), some (.int p), some (.int k), some (.int 0)]) dX1_layJoker_12 (by decide) rfl ?_
    refine E_iload_n dX1_layJoker_13 rfl ?_
    refine E_if_eq 30 dX1_layJoker_14 (by decide) (fun c_14 => ?_) (fun c_14 => ?_)
    · skip
      refine E_aload_n dX1_layJoker_30 rfl ?_
      refine E_iload_n dX1_layJoker_31 rfl ?_
      refine E_bipush (v := 52) dX1_layJoker_32 (by decide) ?_
      refine E_iconst (v := (-1)) dX1_layJoker_34 (by decide) ?_
      refine E_callV (as := [.int p, .int 52, .int ((-1))]) (b := b) (st := []) (ok_X1_give (σ := σ) (b := b) (p := p) (k := 52) (by_ := (-1)) hS hb) (by decide) yfX1_give mlX1_85 imX1_give seX1_give clX1 (kdB hS hb) rfl (Nat.le_of_ble_eq_true rfl) rfl dX1_layJoker_35 ?_
      obtain ⟨σ1, hσ1, hS1⟩ : ∃ z, z = s_X1_give σ b p 52 ((-1)) ∧ Sh z := ⟨_, rfl, (sh_X1_give hS)⟩
      rw [← hσ1]
      refine E_aload_n dX1_layJoker_38 rfl ?_
      refine E_aload_n dX1_layJoker_39 rfl ?_
      refine E_getR (b := b + 5) clX1 4 (by decide) flX1_24 (Or.inr ⟨_, rfl⟩) dX1_layJoker_40 (kdB hS1 hb) (rfB4 hS1 hb) (isB0 hb) ?_
      refine E_iload_n dX1_layJoker_43 rfl ?_
      refine E_iconst (v := 1) dX1_layJoker_44 (by decide) ?_
      refine E_callV (as := [.ref (b + 5), .int k, .int 1]) (b := b) (st := []) (ok_X1_change (σ := σ1) (b := b) (r := b + 5) (k := k) (by_ := 1) hS1 hb (kdB4 hS1 hb) (isB3 hb)) (by decide) yfX1_change mlX1_103 imX1_change seX1_change clX1 (kdB hS1 hb) rfl (Nat.le_of_ble_eq_true rfl) rfl dX1_layJoker_45 ?_
      obtain ⟨σ2, hσ2, hS2⟩ : ∃ z, z = s_X1_change σ1 b (b + 5) k 1 ∧ Sh z := ⟨_, rfl, (sh_X1_change hS1)⟩
      rw [← hσ2]
      refine E_aload_n dX1_layJoker_48 rfl ?_
      refine E_dup dX1_layJoker_49 rfl ?_
      refine E_getI clX1 8 (by decide) flX1_43 (Or.inl rfl) dX1_layJoker_50 (kdB hS2 hb) ?_
      refine E_iconst (v := 1) dX1_layJoker_53 (by decide) ?_
      refine E_iadd dX1_layJoker_54 ?_
      refine E_putI clX1 8 (by decide) flX1_43 (Or.inl rfl) rfl dX1_layJoker_55 (kdB hS2 hb) ?_
      refine E_aload_n dX1_layJoker_58 rfl ?_
      refine E_dup dX1_layJoker_59 rfl ?_
      refine E_getI clX1 9 (by decide) flX1_46 (Or.inl rfl) dX1_layJoker_60 (kdB (Sh_wI hS2) hb) ?_
      refine E_topI (v := rI σ2 b 9) (rI_o _ _ _ (by decide)) ?_
      refine E_iconst (v := 1) dX1_layJoker_63 (by decide) ?_
      refine E_iadd dX1_layJoker_64 ?_
      refine E_putI clX1 9 (by decide) flX1_46 (Or.inl rfl) rfl dX1_layJoker_65 (kdB (Sh_wI hS2) hb) ?_
      refine E_aload_n dX1_layJoker_68 rfl ?_
      refine E_iload_n dX1_layJoker_69 rfl ?_
      refine E_if_eq 77 dX1_layJoker_70 (by decide) (fun c_70 => ?_) (fun c_70 => ?_)
      · skip
        refine E_iconst (v := 1) dX1_layJoker_77 (by decide) ?_
        refine E_iload_n dX1_layJoker_78 rfl ?_
        refine E_callV (as := [.int 1, .int k]) (b := b) (st := []) (ok_X1_note (σ := wI (wI σ2 b 8 ((rI σ2 b 8) + 1)) b 9 ((rI σ2 b 9) + 1)) (b := b) (h := 1) (k := k) (Sh_wI (Sh_wI hS2)) hb) (by decide) yfX1_note mlX1_106 imX1_note seX1_note clX1 (kdB (Sh_wI (Sh_wI hS2)) hb) rfl (Nat.le_of_ble_eq_true rfl) rfl dX1_layJoker_79 ?_
        obtain ⟨σ3, hσ3, hS3⟩ : ∃ z, z = s_X1_note (wI (wI σ2 b 8 ((rI σ2 b 8) + 1)) b 9 ((rI σ2 b 9) + 1)) b 1 k ∧ Sh z := ⟨_, rfl, (sh_X1_note (Sh_wI (Sh_wI hS2)))⟩
        rw [← hσ3]
        exact E_vretE rfl dX1_layJoker_82 (by subst hσ3; subst hσ2; subst hσ1; unfold s_X1_layJoker; simp only [if_pos c_4])
      · skip
        exact absurd c_70 (by decide)
    · skip
      exact absurd c_14 (by decide)
  · skip
    refine E_iconst (v := 1) dX1_layJoker_7 (by decide) ?_
    refine E_goto 12 dX1_layJoker_8 (by decide) ?_
    refine E_istore_n (ls2 := [some (.ref b), some (.int p), some (.int k), some (.int 1)]) dX1_layJoker_12 (by decide) rfl ?_
    refine E_iload_n dX1_layJoker_13 rfl ?_
    refine E_if_eq 30 dX1_layJoker_14 (by decide) (fun c_14 => ?_) (fun c_14 => ?_)
    · skip
      exact absurd c_14 (by decide)
    · skip
      refine E_aload_n dX1_layJoker_17 rfl ?_
      refine E_dup dX1_layJoker_18 rfl ?_
      refine E_getI clX1 10 (by decide) flX1_49 (Or.inl rfl) dX1_layJoker_19 (kdB hS hb) ?_
      refine E_iconst (v := 1) dX1_layJoker_22 (by decide) ?_
      refine E_isub dX1_layJoker_23 ?_
      refine E_putI clX1 10 (by decide) flX1_49 (Or.inl rfl) rfl dX1_layJoker_24 (kdB hS hb) ?_
      refine E_goto 38 dX1_layJoker_27 (by decide) ?_
      refine E_aload_n dX1_layJoker_38 rfl ?_
      refine E_aload_n dX1_layJoker_39 rfl ?_
      refine E_getR (b := b + 5) clX1 4 (by decide) flX1_24 (Or.inr ⟨_, rfl⟩) dX1_layJoker_40 (kdB (Sh_wI hS) hb) (rfB4 (Sh_wI hS) hb) (isB0 hb) ?_
      refine E_iload_n dX1_layJoker_43 rfl ?_
      refine E_iconst (v := 1) dX1_layJoker_44 (by decide) ?_
      refine E_callV (as := [.ref (b + 5), .int k, .int 1]) (b := b) (st := []) (ok_X1_change (σ := wI σ b 10 ((rI σ b 10) - 1)) (b := b) (r := b + 5) (k := k) (by_ := 1) (Sh_wI hS) hb (kdB4 (Sh_wI hS) hb) (isB3 hb)) (by decide) yfX1_change mlX1_103 imX1_change seX1_change clX1 (kdB (Sh_wI hS) hb) rfl (Nat.le_of_ble_eq_true rfl) rfl dX1_layJoker_45 ?_
      obtain ⟨σ1, hσ1, hS1⟩ : ∃ z, z = s_X1_change (wI σ b 10 ((rI σ b 10) - 1)) b (b + 5) k 1 ∧ Sh z := ⟨_, rfl, (sh_X1_change (Sh_wI hS))⟩
      rw [← hσ1]
      refine E_aload_n dX1_layJoker_48 rfl ?_
      refine E_dup dX1_layJoker_49 rfl ?_
      refine E_getI clX1 8 (by decide) flX1_43 (Or.inl rfl) dX1_layJoker_50 (kdB hS1 hb) ?_
      refine E_iconst (v := 1) dX1_layJoker_53 (by decide) ?_
      refine E_iadd dX1_layJoker_54 ?_
      refine E_putI clX1 8 (by decide) flX1_43 (Or.inl rfl) rfl dX1_layJoker_55 (kdB hS1 hb) ?_
      refine E_aload_n dX1_layJoker_58 rfl ?_
      refine E_dup dX1_layJoker_59 rfl ?_
      refine E_getI clX1 9 (by decide) flX1_46 (Or.inl rfl) dX1_layJoker_60 (kdB (Sh_wI hS1) hb) ?_
      refine E_topI (v := rI σ1 b 9) (rI_o _ _ _ (by decide)) ?_
      refine E_iconst (v := 1) dX1_layJoker_63 (by decide) ?_
      refine E_iadd dX1_layJoker_64 ?_
      refine E_putI clX1 9 (by decide) flX1_46 (Or.inl rfl) rfl dX1_layJoker_65 (kdB (Sh_wI hS1) hb) ?_
      refine E_aload_n dX1_layJoker_68 rfl ?_
      refine E_iload_n dX1_layJoker_69 rfl ?_
      refine E_if_eq 77 dX1_layJoker_70 (by decide) (fun c_70 => ?_) (fun c_70 => ?_)
      · skip
        exact absurd c_70 (by decide)
      · skip
        refine E_iconst (v := 2) dX1_layJoker_73 (by decide) ?_
        refine E_goto 78 dX1_layJoker_74 (by decide) ?_
        refine E_iload_n dX1_layJoker_78 rfl ?_
        refine E_callV (as := [.int 2, .int k]) (b := b) (st := []) (ok_X1_note (σ := wI (wI σ1 b 8 ((rI σ1 b 8) + 1)) b 9 ((rI σ1 b 9) + 1)) (b := b) (h := 2) (k := k) (Sh_wI (Sh_wI hS1)) hb) (by decide) yfX1_note mlX1_106 imX1_note seX1_note clX1 (kdB (Sh_wI (Sh_wI hS1)) hb) rfl (Nat.le_of_ble_eq_true rfl) rfl dX1_layJoker_79 ?_
        obtain ⟨σ2, hσ2, hS2⟩ : ∃ z, z = s_X1_note (wI (wI σ1 b 8 ((rI σ1 b 8) + 1)) b 9 ((rI σ1 b 9) + 1)) b 2 k ∧ Sh z := ⟨_, rfl, (sh_X1_note (Sh_wI (Sh_wI hS1)))⟩
        rw [← hσ2]
        exact E_vretE rfl dX1_layJoker_82 (by subst hσ2; subst hσ1; unfold s_X1_layJoker; simp only [if_neg c_4])
theorem sh_X1_layJoker {σ : rS} {b : Nat} {p : Int32} {k : Int32} (hS : Sh σ) : Sh (s_X1_layJoker σ b p k) := by
  unfold s_X1_layJoker
  (try dsimp only)
  repeat' (first | with_reducible exact hS | with_reducible apply Sh_ite | with_reducible apply Sh_wI | with_reducible apply Sh_rowI | with_reducible apply Sh_wL | with_reducible apply Sh_rowL | with_reducible apply sh_X1_change | with_reducible apply sh_X1_give | with_reducible apply sh_X1_note)

def s_X1_swapJoker (σ : rS) (b : Nat) (p : Int32) (k : Int32) : rS := let σ1 : rS := s_X1_give σ b p k ((-1)); let σ2 : rS := s_X1_change σ1 b (b + 4) k 1; let σ3 : rS := s_X1_change σ2 b (b + 5) k ((-1)); let σ4 : rS := s_X1_note (wI (wI σ3 b 9 ((rI σ3 b 9) - 1)) b 10 ((rI σ3 b 10) + 1)) b 3 k; σ4
set_option maxRecDepth 20000 in
theorem ok_X1_swapJoker {σ : rS} {b : Nat} {p : Int32} {k : Int32}  (hS : Sh σ) (hb : isB b) : rMet yX1_swapJoker mX1_swapJoker 3 [.ref b, .int p, .int k] σ 0 0 none (s_X1_swapJoker σ b p k) := by
  refine rMet_of (ls := [some (.ref b), some (.int p), some (.int k)]) yfX1_swapJoker rfl (Nat.le_of_ble_eq_true rfl) ?_
  refine E_aload_n dX1_swapJoker_0 rfl ?_
  refine E_iload_n dX1_swapJoker_1 rfl ?_
  refine E_iload_n dX1_swapJoker_2 rfl ?_
  refine E_iconst (v := (-1)) dX1_swapJoker_3 (by decide) ?_
  refine E_callV (as := [.int p, .int k, .int ((-1))]) (b := b) (st := []) (ok_X1_give (σ := σ) (b := b) (p := p) (k := k) (by_ := (-1)) hS hb) (by decide) yfX1_give mlX1_85 imX1_give seX1_give clX1 (kdB hS hb) rfl (Nat.le_of_ble_eq_true rfl) rfl dX1_swapJoker_4 ?_
  obtain ⟨σ1, hσ1, hS1⟩ : ∃ z, z = s_X1_give σ b p k ((-1)) ∧ Sh z := ⟨_, rfl, (sh_X1_give hS)⟩
  rw [← hσ1]
  refine E_aload_n dX1_swapJoker_7 rfl ?_
  refine E_aload_n dX1_swapJoker_8 rfl ?_
  refine E_getR (b := b + 4) clX1 3 (by decide) flX1_21 (Or.inr ⟨_, rfl⟩) dX1_swapJoker_9 (kdB hS1 hb) (rfB3 hS1 hb) (isB0 hb) ?_
  refine E_iload_n dX1_swapJoker_12 rfl ?_
  refine E_iconst (v := 1) dX1_swapJoker_13 (by decide) ?_
  refine E_callV (as := [.ref (b + 4), .int k, .int 1]) (b := b) (st := []) (ok_X1_change (σ := σ1) (b := b) (r := b + 4) (k := k) (by_ := 1) hS1 hb (kdB3 hS1 hb) (isB3 hb)) (by decide) yfX1_change mlX1_103 imX1_change seX1_change clX1 (kdB hS1 hb) rfl (Nat.le_of_ble_eq_true rfl) rfl dX1_swapJoker_14 ?_
  obtain ⟨σ2, hσ2, hS2⟩ : ∃ z, z = s_X1_change σ1 b (b + 4) k 1 ∧ Sh z := ⟨_, rfl, (sh_X1_change hS1)⟩
  rw [← hσ2]
  refine E_aload_n dX1_swapJoker_17 rfl ?_
  refine E_aload_n dX1_swapJoker_18 rfl ?_
  refine E_getR (b := b + 5) clX1 4 (by decide) flX1_24 (Or.inr ⟨_, rfl⟩) dX1_swapJoker_19 (kdB hS2 hb) (rfB4 hS2 hb) (isB0 hb) ?_
  refine E_iload_n dX1_swapJoker_22 rfl ?_
  refine E_iconst (v := (-1)) dX1_swapJoker_23 (by decide) ?_
  refine E_callV (as := [.ref (b + 5), .int k, .int ((-1))]) (b := b) (st := []) (ok_X1_change (σ := σ2) (b := b) (r := b + 5) (k := k) (by_ := (-1)) hS2 hb (kdB4 hS2 hb) (isB3 hb)) (by decide) yfX1_change mlX1_103 imX1_change seX1_change clX1 (kdB hS2 hb) rfl (Nat.le_of_ble_eq_true rfl) rfl dX1_swapJoker_24 ?_
  obtain ⟨σ3, hσ3, hS3⟩ : ∃ z, z = s_X1_change σ2 b (b + 5) k ((-1)) ∧ Sh z := ⟨_, rfl, (sh_X1_change hS2)⟩
  rw [← hσ3]
  refine E_aload_n dX1_swapJoker_27 rfl ?_
  refine E_dup dX1_swapJoker_28 rfl ?_
  refine E_getI clX1 9 (by decide) flX1_46 (Or.inl rfl) dX1_swapJoker_29 (kdB hS3 hb) ?_
  refine E_iconst (v := 1) dX1_swapJoker_32 (by decide) ?_
  refine E_isub dX1_swapJoker_33 ?_
  refine E_putI clX1 9 (by decide) flX1_46 (Or.inl rfl) rfl dX1_swapJoker_34 (kdB hS3 hb) ?_
  refine E_aload_n dX1_swapJoker_37 rfl ?_
  refine E_dup dX1_swapJoker_38 rfl ?_
  refine E_getI clX1 10 (by decide) flX1_49 (Or.inl rfl) dX1_swapJoker_39 (kdB (Sh_wI hS3) hb) ?_
  refine E_topI (v := rI σ3 b 10) (rI_o _ _ _ (by decide)) ?_
  refine E_iconst (v := 1) dX1_swapJoker_42 (by decide) ?_
  refine E_iadd dX1_swapJoker_43 ?_
  refine E_putI clX1 10 (by decide) flX1_49 (Or.inl rfl) rfl dX1_swapJoker_44 (kdB (Sh_wI hS3) hb) ?_
  refine E_aload_n dX1_swapJoker_47 rfl ?_
  refine E_iconst (v := 3) dX1_swapJoker_48 (by decide) ?_
  refine E_iload_n dX1_swapJoker_49 rfl ?_
  refine E_callV (as := [.int 3, .int k]) (b := b) (st := []) (ok_X1_note (σ := wI (wI σ3 b 9 ((rI σ3 b 9) - 1)) b 10 ((rI σ3 b 10) + 1)) (b := b) (h := 3) (k := k) (Sh_wI (Sh_wI hS3)) hb) (by decide) yfX1_note mlX1_106 imX1_note seX1_note clX1 (kdB (Sh_wI (Sh_wI hS3)) hb) rfl (Nat.le_of_ble_eq_true rfl) rfl dX1_swapJoker_50 ?_
  obtain ⟨σ4, hσ4, hS4⟩ : ∃ z, z = s_X1_note (wI (wI σ3 b 9 ((rI σ3 b 9) - 1)) b 10 ((rI σ3 b 10) + 1)) b 3 k ∧ Sh z := ⟨_, rfl, (sh_X1_note (Sh_wI (Sh_wI hS3)))⟩
  rw [← hσ4]
  exact E_vretE rfl dX1_swapJoker_53 (by subst hσ4; subst hσ3; subst hσ2; subst hσ1; rfl)
theorem sh_X1_swapJoker {σ : rS} {b : Nat} {p : Int32} {k : Int32} (hS : Sh σ) : Sh (s_X1_swapJoker σ b p k) := by
  unfold s_X1_swapJoker
  (try dsimp only)
  repeat' (first | with_reducible exact hS | with_reducible apply Sh_ite | with_reducible apply Sh_wI | with_reducible apply Sh_rowI | with_reducible apply Sh_wL | with_reducible apply Sh_rowL | with_reducible apply sh_X1_change | with_reducible apply sh_X1_give | with_reducible apply sh_X1_note)

def b_X1_drawOne_50 (σ : rS) (b : Nat) (p : Int32) (i : Nat) (a : Int32) : (Int32 × rS) ⊕ (Int32) := if (rI σ (b + 1) ((nI i : Int32).toNatClampNeg)) ≤ a then (.inr (a - (rI σ (b + 1) ((nI i : Int32).toNatClampNeg)))) else (let σ1 : rS := s_X1_give (wI (wI σ (b + 1) ((nI i : Int32).toNatClampNeg) ((rI σ (b + 1) ((nI i : Int32).toNatClampNeg)) - 1)) b 7 ((rI σ b 7) - 1)) b p (nI i) 1; .inl (1, σ1))
def x_X1_drawOne_50 (σ : rS) (b : Nat) (p : Int32) (a : Int32) : Int32 × rS := (0, σ)
def f_X1_drawOne_50 (σ : rS) (b : Nat) (p : Int32) (r : (Int32 × rS) ⊕ (Int32)) : Int32 × rS := match r with
  | .inl q => q
  | .inr a => x_X1_drawOne_50 σ b p a
theorem sh_f_X1_drawOne_50 {σ : rS} {b : Nat} {p : Int32} (hS : Sh σ) {n i : Nat} {a : Int32} : Sh (f_X1_drawOne_50 σ b p (natFind (b_X1_drawOne_50 σ b p) n i a)).2 := by
  refine (natFind_inv (f := b_X1_drawOne_50 σ b p) (P := fun _ _ => True) (Q := fun r => Sh r.2) n i a trivial ?hl ?hr).elim ?c1 ?c2
  case hl =>
    intro j a r _ _ hP h
    unfold b_X1_drawOne_50 at h
    (try dsimp only at h)
    repeat' split at h
    all_goals cases h
    all_goals (repeat' (first | with_reducible exact hS | with_reducible exact hP | with_reducible apply Sh_ite | with_reducible apply Sh_wI | with_reducible apply Sh_rowI | with_reducible apply Sh_wL | with_reducible apply Sh_rowL | with_reducible apply sh_X1_give))
  case hr =>
    intro j a a' _ _ hP h
    trivial
  · rw [h]; exact hq
  · rw [h]
    show Sh (x_X1_drawOne_50 σ b p a').2
    unfold x_X1_drawOne_50
    (try dsimp only)
    repeat' (first | with_reducible exact hS | with_reducible exact hP | with_reducible apply Sh_ite | with_reducible apply Sh_wI | with_reducible apply Sh_rowI | with_reducible apply Sh_wL | with_reducible apply Sh_rowL | with_reducible apply sh_X1_give | split)
def v_X1_drawOne (σ : rS) (b : Nat) (p : Int32) : Int32 := if (rI σ b 7) ≤ 0 then 0 else (if (v_X1_sizeOf σ b p) < 24 then ((f_X1_drawOne_50 (wI σ b 11 (((25173 * (rI σ b 11)) + 13849) &&& 65535)) b p (natFind (b_X1_drawOne_50 (wI σ b 11 (((25173 * (rI σ b 11)) + 13849) &&& 65535)) b p) 53 0 ((((25173 * (rI σ b 11)) + 13849) &&& 65535) - (((25173 * (rI σ b 11)) + 13849) &&& 65535) / (rI σ b 7) * (rI σ b 7)))).1) else 0)
def s_X1_drawOne (σ : rS) (b : Nat) (p : Int32) : rS := if (rI σ b 7) ≤ 0 then σ else (if (v_X1_sizeOf σ b p) < 24 then ((f_X1_drawOne_50 (wI σ b 11 (((25173 * (rI σ b 11)) + 13849) &&& 65535)) b p (natFind (b_X1_drawOne_50 (wI σ b 11 (((25173 * (rI σ b 11)) + 13849) &&& 65535)) b p) 53 0 ((((25173 * (rI σ b 11)) + 13849) &&& 65535) - (((25173 * (rI σ b 11)) + 13849) &&& 65535) / (rI σ b 7) * (rI σ b 7)))).2) else σ)
set_option maxRecDepth 20000 in
theorem ok_X1_drawOne {σ : rS} {b : Nat} {p : Int32}  (hS : Sh σ) (hb : isB b) : rMet yX1_drawOne mX1_drawOne 3 [.ref b, .int p] σ 0 0 (some (.int (v_X1_drawOne σ b p))) (s_X1_drawOne σ b p) := by
  refine rMet_of (ls := [some (.ref b), some (.int p), none, none]) yfX1_drawOne rfl (Nat.le_of_ble_eq_true rfl) ?_
  refine E_aload_n dX1_drawOne_0 rfl ?_
  refine E_getI clX1 7 (by decide) flX1_40 (Or.inl rfl) dX1_drawOne_1 (kdB hS hb) ?_
  refine E_if_le 17 dX1_drawOne_4 (by decide) (fun c_4 => ?_) (fun c_4 => ?_)
  · skip
    refine E_iconst (v := 0) dX1_drawOne_17 (by decide) ?_
    exact E_zretE rfl dX1_drawOne_18 (by decide) (by unfold v_X1_drawOne; rw [if_pos c_4]) (by unfold s_X1_drawOne; rw [if_pos c_4])
  · skip
    refine E_aload_n dX1_drawOne_7 rfl ?_
    refine E_iload_n dX1_drawOne_8 rfl ?_
    refine E_callV (as := [.int p]) (b := b) (st := []) (ok_X1_sizeOf (σ := σ) (b := b) (p := p) hS hb) (by decide) yfX1_sizeOf mlX1_80 imX1_sizeOf seX1_sizeOf clX1 (kdB hS hb) rfl (Nat.le_of_ble_eq_true rfl) rfl dX1_drawOne_9 ?_
    refine E_bipush (v := 24) dX1_drawOne_12 (by decide) ?_
    refine E_icmp_lt 19 dX1_drawOne_14 (by decide) (fun c_14 => ?_) (fun c_14 => ?_)
    · skip
      refine E_aload_n dX1_drawOne_19 rfl ?_
      refine E_sipush (v := 25173) dX1_drawOne_20 (by decide) ?_
      refine E_aload_n dX1_drawOne_23 rfl ?_
      refine E_getI clX1 11 (by decide) flX1_70 (Or.inl rfl) dX1_drawOne_24 (kdB hS hb) ?_
      refine E_imul dX1_drawOne_27 ?_
      refine E_sipush (v := 13849) dX1_drawOne_28 (by decide) ?_
      refine E_iadd dX1_drawOne_31 ?_
      refine E_ldc dX1_drawOne_32 kcX1_84 ?_
      refine E_iand dX1_drawOne_34 ?_
      refine E_putI clX1 11 (by decide) flX1_70 (Or.inl rfl) rfl dX1_drawOne_35 (kdB hS hb) ?_
      refine E_aload_n dX1_drawOne_38 rfl ?_
      refine E_getI clX1 11 (by decide) flX1_70 (Or.inl rfl) dX1_drawOne_39 (kdB (Sh_wI hS) hb) ?_
      refine E_topI (v := ((25173 * (rI σ b 11)) + 13849) &&& 65535) (rI_s _ _ _ _) ?_
      refine E_aload_n dX1_drawOne_42 rfl ?_
      refine E_getI clX1 7 (by decide) flX1_40 (Or.inl rfl) dX1_drawOne_43 (kdB (Sh_wI hS) hb) ?_
      refine E_topI (v := rI σ b 7) (rI_o _ _ _ (by decide)) ?_
      refine E_irem dX1_drawOne_46 (fun h => c_4 (by rw [h]; decide)) ?_
      refine E_istore_n (ls2 := [some (.ref b), some (.int p), some (.int ((((25173 * (rI σ b 11)) + 13849) &&& 65535) - (((25173 * (rI σ b 11)) + 13849) &&& 65535) / (rI σ b 7) * (rI σ b 7))), none]) dX1_drawOne_47 (by decide) rfl ?_
      refine E_iconst (v := 0) dX1_drawOne_48 (by decide) ?_
      refine E_istore_n (ls2 := [some (.ref b), some (.int p), some (.int ((((25173 * (rI σ b 11)) + 13849) &&& 65535) - (((25173 * (rI σ b 11)) + 13849) &&& 65535) / (rI σ b 7) * (rI σ b 7))), some (.int 0)]) dX1_drawOne_49 (by decide) rfl ?_
      have hl : ∀ (n i : Nat) (a : Int32), i + n = 53 → rE mX1_drawOne 3 50 [some (.ref b), some (.int p), some (.int a), some (.int (nI i))] [] (wI σ b 11 (((25173 * (rI σ b 11)) + 13849) &&& 65535)) 0 0 (.inl (some (.int (f_X1_drawOne_50 (wI σ b 11 (((25173 * (rI σ b 11)) + 13849) &&& 65535)) b p (natFind (b_X1_drawOne_50 (wI σ b 11 (((25173 * (rI σ b 11)) + 13849) &&& 65535)) b p) n i a)).1))) (f_X1_drawOne_50 (wI σ b 11 (((25173 * (rI σ b 11)) + 13849) &&& 65535)) b p (natFind (b_X1_drawOne_50 (wI σ b 11 (((25173 * (rI σ b 11)) + 13849) &&& 65535)) b p) n i a)).2 := by
        intro n
        induction n with
        | zero =>
          intro i a hn
          obtain rfl : i = 53 := by omega
          rw [natFind_0]
          refine E_iload_n dX1_drawOne_50 rfl ?_
          refine E_bipush (v := 53) dX1_drawOne_51 (by decide) ?_
          refine E_icmp_ge 110 dX1_drawOne_53 (by decide) (fun c_53 => ?_) (fun c_53 => ?_)
          · skip
            refine E_iconst (v := 0) dX1_drawOne_110 (by decide) ?_
            exact E_zretE rfl dX1_drawOne_111 (by decide) rfl rfl
          · skip
            exact absurd c_53 (by decide)
        | succ n ih =>
          intro i a hn
          have hi : i < 53 := by omega
          refine E_iload_n dX1_drawOne_50 rfl ?_
          refine E_bipush (v := 53) dX1_drawOne_51 (by decide) ?_
          refine E_icmp_ge 110 dX1_drawOne_53 (by decide) (fun c_53 => ?_) (fun c_53 => ?_)
          · skip
            exact absurd c_53 (nI_ge hi (by decide))
          · skip
            refine E_iload_n dX1_drawOne_56 rfl ?_
            refine E_aload_n dX1_drawOne_57 rfl ?_
            refine E_getR (b := b + 1) clX1 0 (by decide) flX1_9 (Or.inr ⟨_, rfl⟩) dX1_drawOne_58 (kdB (Sh_wI hS) hb) (rfB0 (Sh_wI hS) hb) (isB0 hb) ?_
            refine E_iload_n dX1_drawOne_61 rfl ?_
            refine E_iald dX1_drawOne_62 (kdB0 (Sh_wI hS) hb) (vp_in_nI hi (by decide)) ?_
            refine E_icmp_ge 95 dX1_drawOne_63 (by decide) (fun c_63 => ?_) (fun c_63 => ?_)
            · skip
              refine E_iload_n dX1_drawOne_95 rfl ?_
              refine E_aload_n dX1_drawOne_96 rfl ?_
              refine E_getR (b := b + 1) clX1 0 (by decide) flX1_9 (Or.inr ⟨_, rfl⟩) dX1_drawOne_97 (kdB (Sh_wI hS) hb) (rfB0 (Sh_wI hS) hb) (isB0 hb) ?_
              refine E_iload_n dX1_drawOne_100 rfl ?_
              refine E_iald dX1_drawOne_101 (kdB0 (Sh_wI hS) hb) (vp_in_nI hi (by decide)) ?_
              refine E_isub dX1_drawOne_102 ?_
              refine E_istore_n (ls2 := [some (.ref b), some (.int p), some (.int (a - (rI (wI σ b 11 (((25173 * (rI σ b 11)) + 13849) &&& 65535)) (b + 1) ((nI i : Int32).toNatClampNeg)))), some (.int (nI i))]) dX1_drawOne_103 (by decide) rfl ?_
              refine E_iinc (v := 1) (ls2 := [some (.ref b), some (.int p), some (.int (a - (rI (wI σ b 11 (((25173 * (rI σ b 11)) + 13849) &&& 65535)) (b + 1) ((nI i : Int32).toNatClampNeg)))), some (.int ((nI i) + 1))]) dX1_drawOne_104 rfl (by decide) (by decide) rfl ?_
              refine E_goto 50 dX1_drawOne_107 (by decide) ?_
              have hb0 : b_X1_drawOne_50 (wI σ b 11 (((25173 * (rI σ b 11)) + 13849) &&& 65535)) b p i a = .inr (a - (rI (wI σ b 11 (((25173 * (rI σ b 11)) + 13849) &&& 65535)) (b + 1) ((nI i : Int32).toNatClampNeg))) := by unfold b_X1_drawOne_50; rw [if_pos c_63]
              rw [natFind_r hb0]
              exact E_eq (ih (i + 1) (a - (rI (wI σ b 11 (((25173 * (rI σ b 11)) + 13849) &&& 65535)) (b + 1) ((nI i : Int32).toNatClampNeg))) (by omega)) (by simp only [nI_succ]) rfl rfl
            · skip
              refine E_aload_n dX1_drawOne_66 rfl ?_
              refine E_getR (b := b + 1) clX1 0 (by decide) flX1_9 (Or.inr ⟨_, rfl⟩) dX1_drawOne_67 (kdB (Sh_wI hS) hb) (rfB0 (Sh_wI hS) hb) (isB0 hb) ?_
              refine E_iload_n dX1_drawOne_70 rfl ?_
              refine E_dup2 dX1_drawOne_71 rfl rfl ?_
              refine E_iald dX1_drawOne_72 (kdB0 (Sh_wI hS) hb) (vp_in_nI hi (by decide)) ?_
              refine E_iconst (v := 1) dX1_drawOne_73 (by decide) ?_
              refine E_isub dX1_drawOne_74 ?_
              refine E_iast dX1_drawOne_75 (kdB0 (Sh_wI hS) hb) (isB3 hb) (vp_in_nI hi (by decide)) ?_
              refine E_aload_n dX1_drawOne_76 rfl ?_
              refine E_dup dX1_drawOne_77 rfl ?_
              refine E_getI clX1 7 (by decide) flX1_40 (Or.inl rfl) dX1_drawOne_78 (kdB (Sh_wI (Sh_wI hS)) hb) ?_
              refine E_topI (v := rI (wI σ b 11 (((25173 * (rI σ b 11)) + 13849) &&& 65535)) b 7) (rI_wIn (by omega)) ?_
              refine E_iconst (v := 1) dX1_drawOne_81 (by decide) ?_
              refine E_isub dX1_drawOne_82 ?_
              refine E_putI clX1 7 (by decide) flX1_40 (Or.inl rfl) rfl dX1_drawOne_83 (kdB (Sh_wI (Sh_wI hS)) hb) ?_
              refine E_aload_n dX1_drawOne_86 rfl ?_
              refine E_iload_n dX1_drawOne_87 rfl ?_
              refine E_iload_n dX1_drawOne_88 rfl ?_
              refine E_iconst (v := 1) dX1_drawOne_89 (by decide) ?_
              refine E_callV (as := [.int p, .int (nI i), .int 1]) (b := b) (st := []) (ok_X1_give (σ := wI (wI (wI σ b 11 (((25173 * (rI σ b 11)) + 13849) &&& 65535)) (b + 1) ((nI i : Int32).toNatClampNeg) ((rI (wI σ b 11 (((25173 * (rI σ b 11)) + 13849) &&& 65535)) (b + 1) ((nI i : Int32).toNatClampNeg)) - 1)) b 7 ((rI (wI σ b 11 (((25173 * (rI σ b 11)) + 13849) &&& 65535)) b 7) - 1)) (b := b) (p := p) (k := nI i) (by_ := 1) (Sh_wI (Sh_wI (Sh_wI hS))) hb) (by decide) yfX1_give mlX1_85 imX1_give seX1_give clX1 (kdB (Sh_wI (Sh_wI (Sh_wI hS))) hb) rfl (Nat.le_of_ble_eq_true rfl) rfl dX1_drawOne_90 ?_
              obtain ⟨σ1, hσ1, hS1⟩ : ∃ z, z = s_X1_give (wI (wI (wI σ b 11 (((25173 * (rI σ b 11)) + 13849) &&& 65535)) (b + 1) ((nI i : Int32).toNatClampNeg) ((rI (wI σ b 11 (((25173 * (rI σ b 11)) + 13849) &&& 65535)) (b + 1) ((nI i : Int32).toNatClampNeg)) - 1)) b 7 ((rI (wI σ b 11 (((25173 * (rI σ b 11)) + 13849) &&& 65535)) b 7) - 1)) b p (nI i) 1 ∧ Sh z := ⟨_, rfl, (sh_X1_give (Sh_wI (Sh_wI (Sh_wI hS))))⟩
              rw [← hσ1]
              refine E_iconst (v := 1) dX1_drawOne_93 (by decide) ?_
              have hb0 : b_X1_drawOne_50 (wI σ b 11 (((25173 * (rI σ b 11)) + 13849) &&& 65535)) b p i a = .inl (1, σ1) := by subst hσ1; unfold b_X1_drawOne_50; simp only [if_neg c_63]
              rw [natFind_l hb0]
              exact E_zretE rfl dX1_drawOne_94 (by decide) rfl rfl
      exact E_eqo (E_eq (hl 53 0 ((((25173 * (rI σ b 11)) + 13849) &&& 65535) - (((25173 * (rI σ b 11)) + 13849) &&& 65535) / (rI σ b 7) * (rI σ b 7)) (Nat.zero_add _)) rfl rfl rfl) (by unfold v_X1_drawOne; simp only [if_neg c_4, if_pos c_14]) (by unfold s_X1_drawOne; simp only [if_neg c_4, if_pos c_14])
    · skip
      refine E_iconst (v := 0) dX1_drawOne_17 (by decide) ?_
      exact E_zretE rfl dX1_drawOne_18 (by decide) (by unfold v_X1_drawOne; rw [if_neg c_4, if_neg c_14]) (by unfold s_X1_drawOne; rw [if_neg c_4, if_neg c_14])
theorem sh_X1_drawOne {σ : rS} {b : Nat} {p : Int32} (hS : Sh σ) : Sh (s_X1_drawOne σ b p) := by
  unfold s_X1_drawOne
  (try dsimp only)
  repeat' (first | with_reducible exact hS | with_reducible apply Sh_ite | with_reducible apply Sh_wI | with_reducible apply Sh_rowI | with_reducible apply Sh_wL | with_reducible apply Sh_rowL | with_reducible apply sh_X1_give | with_reducible apply sh_f_X1_drawOne_50)

