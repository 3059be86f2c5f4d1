def vFill {α : Type} (f : Nat → α) (n : Nat) (v : α) : Nat → α := fun j => if j < n then v else f j
theorem vFill_s {α : Type} (f : Nat → α) (n : Nat) (v : α) : va_up (vFill f n v) n v = vFill f (n + 1) v := by
  funext j
  unfold va_up vFill
  by_cases h : j = n
  · subst h; simp
  · rw [if_neg h]; by_cases h2 : j < n
    · rw [if_pos h2, if_pos (by omega)]
    · rw [if_neg h2, if_neg (by omega)]
theorem vFill_0 {α : Type} (f : Nat → α) (v : α) : vFill f 0 v = f := by funext j; simp [vFill]
set_option maxRecDepth 20000 in
theorem ok_fillI {σ : rS} {a : Nat} {v : Int32} {n : Nat} {f : Nat → Int32} (hk : rK σ a = (0, n)) (hn : n < 2 ^ 31) (h3 : 3 ≤ a) (hf : rI σ a = f) : rMet yJ7_fill_53178 mJ7_fill_53178 0 [.ref a, .int v] σ 0 0 none (rowI σ a (vFill f n v)) := by
  subst hf
  refine rMet_of (ls := [some (.ref a), some (.int v), none, none]) yfJ7_fill_53178 rfl (Nat.le_of_ble_eq_true rfl) ?_
  refine E_iconst (v := 0) dJ7_fill_53178_0 (by decide) ?_
  refine E_istore_n (ls2 := [some (.ref a), some (.int v), some (.int 0), none]) dJ7_fill_53178_1 (by decide) rfl ?_
  refine E_aload_n dJ7_fill_53178_2 rfl ?_
  refine E_alen (v := nI n) dJ7_fill_53178_3 hk (by decide) rfl ?_
  refine E_istore_n (ls2 := [some (.ref a), some (.int v), some (.int 0), some (.int (nI n))]) dJ7_fill_53178_4 (by decide) rfl ?_
  refine E_eq (loop_up (fun i => rE _ _ 5 [some (.ref a), some (.int v), some (.int (nI i)), some (.int (nI n))] [] (rowI σ a (vFill (rI σ a) i v)) _ _ _ _) n ?_ ?_ 0 (Nat.zero_le _)) rfl rfl (by rw [vFill_0, rowI_id])
  · skip
    refine E_iload_n dJ7_fill_53178_5 rfl ?_
    refine E_iload_n dJ7_fill_53178_6 rfl ?_
    refine E_icmp_ge 20 dJ7_fill_53178_7 (by decide) (fun c_7 => ?_) (fun c_7 => ?_)
    · skip
      exact E_vretE rfl dJ7_fill_53178_20 rfl
    · skip
      exact absurd (Int32.le_refl _) c_7
  · skip
    intro i hi hp
    refine E_iload_n dJ7_fill_53178_5 rfl ?_
    refine E_iload_n dJ7_fill_53178_6 rfl ?_
    refine E_icmp_ge 20 dJ7_fill_53178_7 (by decide) (fun c_7 => ?_) (fun c_7 => ?_)
    · skip
      exact absurd c_7 (nI_ge hi hn)
    · skip
      refine E_aload_n dJ7_fill_53178_10 rfl ?_
      refine E_iload_n dJ7_fill_53178_11 rfl ?_
      refine E_iload_n dJ7_fill_53178_12 rfl ?_
      refine E_iast dJ7_fill_53178_13 hk h3 (vp_in_nI hi hn) ?_
      refine E_iinc (v := 1) (ls2 := [some (.ref a), some (.int v), some (.int ((nI i) + 1)), some (.int (nI n))]) dJ7_fill_53178_14 rfl (by decide) (by decide) rfl ?_
      refine E_goto 5 dJ7_fill_53178_17 (by decide) ?_
      exact E_eq hp (by simp only [nI_succ]) rfl (by rw [nI_clamp (Nat.lt_trans hi hn), wI_row, rowI_twice, rI_row, vFill_s])

set_option maxRecDepth 20000 in
theorem ok_fillL {σ : rS} {a : Nat} {v : Int64} {n : Nat} {f : Nat → Int64} (hk : rK σ a = (1, n)) (hn : n < 2 ^ 31) (h3 : 3 ≤ a) (hf : rL σ a = f) : rMet yJ7_fill_d0a16 mJ7_fill_d0a16 0 [.ref a, .long v] σ 0 0 none (rowL σ a (vFill f n v)) := by
  subst hf
  refine rMet_of (ls := [some (.ref a), some (.long v), none, none, none]) yfJ7_fill_d0a16 rfl (Nat.le_of_ble_eq_true rfl) ?_
  refine E_iconst (v := 0) dJ7_fill_d0a16_0 (by decide) ?_
  refine E_istore_n (ls2 := [some (.ref a), some (.long v), none, some (.int 0), none]) dJ7_fill_d0a16_1 (by decide) rfl ?_
  refine E_aload_n dJ7_fill_d0a16_2 rfl ?_
  refine E_alen (v := nI n) dJ7_fill_d0a16_3 hk (by decide) rfl ?_
  refine E_istore (ls2 := [some (.ref a), some (.long v), none, some (.int 0), some (.int (nI n))]) dJ7_fill_d0a16_4 (by decide) rfl ?_
  refine E_eq (loop_up (fun i => rE _ _ 6 [some (.ref a), some (.long v), none, some (.int (nI i)), some (.int (nI n))] [] (rowL σ a (vFill (rL σ a) i v)) _ _ _ _) n ?_ ?_ 0 (Nat.zero_le _)) rfl rfl (by rw [vFill_0, rowL_id])
  · skip
    refine E_iload_n dJ7_fill_d0a16_6 rfl ?_
    refine E_iload dJ7_fill_d0a16_7 rfl ?_
    refine E_icmp_ge 22 dJ7_fill_d0a16_9 (by decide) (fun c_9 => ?_) (fun c_9 => ?_)
    · skip
      exact E_vretE rfl dJ7_fill_d0a16_22 rfl
    · skip
      exact absurd (Int32.le_refl _) c_9
  · skip
    intro i hi hp
    refine E_iload_n dJ7_fill_d0a16_6 rfl ?_
    refine E_iload dJ7_fill_d0a16_7 rfl ?_
    refine E_icmp_ge 22 dJ7_fill_d0a16_9 (by decide) (fun c_9 => ?_) (fun c_9 => ?_)
    · skip
      exact absurd c_9 (nI_ge hi hn)
    · skip
      refine E_aload_n dJ7_fill_d0a16_12 rfl ?_
      refine E_iload_n dJ7_fill_d0a16_13 rfl ?_
      refine E_lload_n dJ7_fill_d0a16_14 rfl ?_
      refine E_last dJ7_fill_d0a16_15 hk (vp_in_nI hi hn) ?_
      refine E_iinc (v := 1) (ls2 := [some (.ref a), some (.long v), none, some (.int ((nI i) + 1)), some (.int (nI n))]) dJ7_fill_d0a16_16 rfl (by decide) (by decide) rfl ?_
      refine E_goto 6 dJ7_fill_d0a16_19 (by decide) ?_
      exact E_eq hp (by simp only [nI_succ]) rfl (by rw [nI_clamp (Nat.lt_trans hi hn), wL_row, rowL_twice, rL_row, vFill_s])

