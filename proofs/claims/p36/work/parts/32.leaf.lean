/-! numbers -/
theorem i32_nlt {x y : Int32} : ¬ x < y ↔ y ≤ x := by rw [Int32.lt_iff_toInt_lt, Int32.le_iff_toInt_le]; omega
theorem i32_nle {x y : Int32} : ¬ x ≤ y ↔ y < x := by rw [Int32.lt_iff_toInt_lt, Int32.le_iff_toInt_le]; omega
theorem vin_of {i : Int32} {n : Nat} (hn : n < 2147483648) (h0 : ¬ i < 0) (h1 : ¬ nI n ≤ i) : vp_in i n := by
  rw [vp_in_iff]
  rw [Int32.lt_iff_toInt_lt] at h0
  rw [Int32.le_iff_toInt_le, nI_toInt (by omega)] at h1
  have : (0 : Int32).toInt = 0 := rfl
  omega
def vIn (v a b : Int32) : Int32 := if a ≤ v ∧ v ≤ b then 1 else 0
def vAt (f : Nat → Int32) (n : Nat) (i : Int32) : Int32 := if 0 ≤ i ∧ i < nI n then f i.toNatClampNeg else 0
def vSet (f : Nat → Int32) (n : Nat) (i x : Int32) : Nat → Int32 := if 0 ≤ i ∧ i < nI n then va_up f i.toNatClampNeg x else f
def vBit (s : Int64) (k : Int32) : Int32 := if 0 ≤ k ∧ k < 52 ∧ lg_cmp ((s.toUInt64 >>> (((k : Int32)).toInt64.toUInt64 &&& Int64.toUInt64 63)).toInt64 &&& 1) 1 = 0 then 1 else 0
theorem vIn_01 (v a b : Int32) : vIn v a b = 0 ∨ vIn v a b = 1 := by unfold vIn; split <;> simp
theorem vBit_01 (s : Int64) (k : Int32) : vBit s k = 0 ∨ vBit s k = 1 := by unfold vBit; split <;> simp

set_option maxRecDepth 20000 in
theorem ok_within {σ : rS} {v : Int32} {a : Int32} {b : Int32}   : rMet yX10_within mX10_within 0 [.int v, .int a, .int b] σ 0 0 (some (.int (vIn v a b))) σ := by
  refine rMet_of (ls := [some (.int v), some (.int a), some (.int b)]) yfX10_within rfl (Nat.le_of_ble_eq_true rfl) ?_
  refine E_iload_n dX10_within_0 rfl ?_
  refine E_iload_n dX10_within_1 rfl ?_
  refine E_icmp_lt 14 dX10_within_2 (by decide) (fun c_2 => ?_) (fun c_2 => ?_)
  · skip
    refine E_iconst (v := 0) dX10_within_14 (by decide) ?_
    exact E_zretE rfl dX10_within_15 (by first | decide | (split <;> decide)) (by (try simp only [i32_nlt, i32_nle, Int32.not_lt, Int32.not_le] at *) <;> first | (simp [vIn, *]; done) | (simp only [vIn]; grind)) rfl
  · skip
    refine E_iload_n dX10_within_5 rfl ?_
    refine E_iload_n dX10_within_6 rfl ?_
    refine E_icmp_gt 14 dX10_within_7 (by decide) (fun c_7 => ?_) (fun c_7 => ?_)
    · skip
      refine E_iconst (v := 0) dX10_within_14 (by decide) ?_
      exact E_zretE rfl dX10_within_15 (by first | decide | (split <;> decide)) (by (try simp only [i32_nlt, i32_nle, Int32.not_lt, Int32.not_le] at *) <;> first | (simp [vIn, *]; done) | (simp only [vIn]; grind)) rfl
    · skip
      refine E_iconst (v := 1) dX10_within_10 (by decide) ?_
      refine E_goto 15 dX10_within_11 (by decide) ?_
      exact E_zretE rfl dX10_within_15 (by first | decide | (split <;> decide)) (by (try simp only [i32_nlt, i32_nle, Int32.not_lt, Int32.not_le] at *) <;> first | (simp [vIn, *]; done) | (simp only [vIn]; grind)) rfl

set_option maxRecDepth 20000 in
theorem ok_at {σ : rS} {a : Nat} {i : Int32} {n : Nat} {f : Nat → Int32} (hk : rK σ a = (0, n)) (hn : n < 2147483648) (hf : rI σ a = f) : rMet yX10_at mX10_at 0 [.ref a, .int i] σ 0 0 (some (.int (vAt f n i))) σ := by
  subst hf
  refine rMet_of (ls := [some (.ref a), some (.int i)]) yfX10_at rfl (Nat.le_of_ble_eq_true rfl) ?_
  refine E_iload_n dX10_at_0 rfl ?_
  refine E_if_lt 16 dX10_at_1 (by decide) (fun c_1 => ?_) (fun c_1 => ?_)
  · skip
    refine E_iconst (v := 0) dX10_at_16 (by decide) ?_
    exact E_iretE rfl dX10_at_17 (by (try simp only [i32_nlt, i32_nle, Int32.not_lt, Int32.not_le] at *) <;> first | (simp [vAt, *]; done) | (simp only [vAt]; grind)) rfl
  · skip
    refine E_iload_n dX10_at_4 rfl ?_
    refine E_aload_n dX10_at_5 rfl ?_
    refine E_alen (v := nI n) dX10_at_6 hk (by decide) rfl ?_
    refine E_icmp_ge 16 dX10_at_7 (by decide) (fun c_7 => ?_) (fun c_7 => ?_)
    · skip
      refine E_iconst (v := 0) dX10_at_16 (by decide) ?_
      exact E_iretE rfl dX10_at_17 (by (try simp only [i32_nlt, i32_nle, Int32.not_lt, Int32.not_le] at *) <;> first | (simp [vAt, *]; done) | (simp only [vAt]; grind)) rfl
    · skip
      refine E_aload_n dX10_at_10 rfl ?_
      refine E_iload_n dX10_at_11 rfl ?_
      refine E_iald dX10_at_12 hk (vin_of hn c_1 c_7) ?_
      refine E_goto 17 dX10_at_13 (by decide) ?_
      exact E_iretE rfl dX10_at_17 (by (try simp only [i32_nlt, i32_nle, Int32.not_lt, Int32.not_le] at *) <;> first | (simp [vAt, *]; done) | (simp only [vAt]; grind)) rfl

set_option maxRecDepth 20000 in
theorem ok_set {σ : rS} {a : Nat} {i : Int32} {x : Int32} {n : Nat} {f : Nat → Int32} (hk : rK σ a = (0, n)) (hn : n < 2147483648) (h3 : 3 ≤ a) (hf : rI σ a = f) : rMet yX10_set mX10_set 0 [.ref a, .int i, .int x] σ 0 0 none (rowI σ a (vSet f n i x)) := by
  subst hf
  refine rMet_of (ls := [some (.ref a), some (.int i), some (.int x)]) yfX10_set rfl (Nat.le_of_ble_eq_true rfl) ?_
  refine E_iload_n dX10_set_0 rfl ?_
  refine E_if_lt 14 dX10_set_1 (by decide) (fun c_1 => ?_) (fun c_1 => ?_)
  · skip
    exact E_vretE rfl dX10_set_14 (by (try simp only [i32_nlt, i32_nle, Int32.not_lt, Int32.not_le] at *) <;> first | (simp [vSet, wI_row, rowI_id, *]; done) | (simp only [vSet]; grind [wI_row, rowI_id]))
  · skip
    refine E_iload_n dX10_set_4 rfl ?_
    refine E_aload_n dX10_set_5 rfl ?_
    refine E_alen (v := nI n) dX10_set_6 hk (by decide) rfl ?_
    refine E_icmp_ge 14 dX10_set_7 (by decide) (fun c_7 => ?_) (fun c_7 => ?_)
    · skip
      exact E_vretE rfl dX10_set_14 (by (try simp only [i32_nlt, i32_nle, Int32.not_lt, Int32.not_le] at *) <;> first | (simp [vSet, wI_row, rowI_id, *]; done) | (simp only [vSet]; grind [wI_row, rowI_id]))
    · skip
      refine E_aload_n dX10_set_10 rfl ?_
      refine E_iload_n dX10_set_11 rfl ?_
      refine E_iload_n dX10_set_12 rfl ?_
      refine E_iast dX10_set_13 hk h3 (vin_of hn c_1 c_7) ?_
      exact E_vretE rfl dX10_set_14 (by (try simp only [i32_nlt, i32_nle, Int32.not_lt, Int32.not_le] at *) <;> first | (simp [vSet, wI_row, rowI_id, *]; done) | (simp only [vSet]; grind [wI_row, rowI_id]))

set_option maxRecDepth 20000 in
theorem ok_isIn {σ : rS} {s : Int64} {k : Int32}   : rMet yX10_isIn mX10_isIn 0 [.long s, .int k] σ 0 0 (some (.int (vBit s k))) σ := by
  refine rMet_of (ls := [some (.long s), none, some (.int k)]) yfX10_isIn rfl (Nat.le_of_ble_eq_true rfl) ?_
  refine E_iload_n dX10_isIn_0 rfl ?_
  refine E_if_lt 24 dX10_isIn_1 (by decide) (fun c_1 => ?_) (fun c_1 => ?_)
  · skip
    refine E_iconst (v := 0) dX10_isIn_24 (by decide) ?_
    exact E_zretE rfl dX10_isIn_25 (by first | decide | (split <;> decide)) (by (try simp only [i32_nlt, i32_nle, Int32.not_lt, Int32.not_le] at *) <;> first | (simp [vBit, *]; done) | (simp only [vBit]; grind)) rfl
  · skip
    refine E_iload_n dX10_isIn_4 rfl ?_
    refine E_bipush (v := 52) dX10_isIn_5 (by decide) ?_
    refine E_icmp_ge 24 dX10_isIn_7 (by decide) (fun c_7 => ?_) (fun c_7 => ?_)
    · skip
      refine E_iconst (v := 0) dX10_isIn_24 (by decide) ?_
      exact E_zretE rfl dX10_isIn_25 (by first | decide | (split <;> decide)) (by (try simp only [i32_nlt, i32_nle, Int32.not_lt, Int32.not_le] at *) <;> first | (simp [vBit, *]; done) | (simp only [vBit]; grind)) rfl
    · skip
      refine E_lload_n dX10_isIn_10 rfl ?_
      refine E_iload_n dX10_isIn_11 rfl ?_
      refine E_lushr dX10_isIn_12 ?_
      refine E_lconst (v := 1) dX10_isIn_13 (by decide) ?_
      refine E_land dX10_isIn_14 ?_
      refine E_lconst (v := 1) dX10_isIn_15 (by decide) ?_
      refine E_lcmp dX10_isIn_16 ?_
      refine E_if_ne 24 dX10_isIn_17 (by decide) (fun c_17 => ?_) (fun c_17 => ?_)
      · skip
        refine E_iconst (v := 0) dX10_isIn_24 (by decide) ?_
        exact E_zretE rfl dX10_isIn_25 (by first | decide | (split <;> decide)) (by (try simp only [i32_nlt, i32_nle, Int32.not_lt, Int32.not_le] at *) <;> first | (simp [vBit, *]; done) | (simp only [vBit]; grind)) rfl
      · skip
        refine E_iconst (v := 1) dX10_isIn_20 (by decide) ?_
        refine E_goto 25 dX10_isIn_21 (by decide) ?_
        exact E_zretE rfl dX10_isIn_25 (by first | decide | (split <;> decide)) (by (try simp only [i32_nlt, i32_nle, Int32.not_lt, Int32.not_le] at *) <;> first | (simp [vBit, *]; done) | (simp only [vBit]; grind)) rfl

