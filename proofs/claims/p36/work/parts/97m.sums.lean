/-! what the balances come to -/
theorem kh_sum {hh z : Nat} (h5 : 5 ≤ hh) (h13 : hh ≤ 13) (hz : z ≤ 1) : natSum (fun k => if k % 13 < hh then 2 * z else 0) 52 = 8 * hh * z := by
  rcases (by omega : hh = 5 ∨ hh = 6 ∨ hh = 7 ∨ hh = 8 ∨ hh = 9 ∨ hh = 10 ∨ hh = 11 ∨ hh = 12 ∨ hh = 13) with rfl | rfl | rfl | rfl | rfl | rfl | rfl | rfl | rfl <;> rcases (by omega : z = 0 ∨ z = 1) with rfl | rfl <;> decide
theorem nS_4 (f : Nat → Nat) : natSum f 4 = f 0 + f 1 + f 2 + f 3 := by
  simp only [natSum]
  omega
/-- all tiles are somewhere -/
theorem tot_all {B : Bd} {hh jk : Nat} (b : Bo2 B hh jk 3) (h5 : 5 ≤ hh) (h13 : hh ≤ 13) : natSum (bP B) 53 + (natSum (bT B) 52 + natSum (bJ B) 52) + bF B + rsz (bR B) 0 + rsz (bR B) 1 + rsz (bR B) 2 = 8 * hh + jk ∨ natSum (bP B) 53 + (natSum (bT B) 52 + natSum (bJ B) 52) + bF B + rsz (bR B) 0 + rsz (bR B) 1 + rsz (bR B) 2 = 0 := by
  obtain ⟨rk, ⟨z, hz, a, c⟩, -⟩ := b
  have r3 : rsz (bR B) 3 = 0 := natSum_zero fun k hk => rk 3 (by omega) (by omega) k hk
  have e : natSum (fun k => bP B k + (bR B (53 * 0 + k) + bR B (53 * 1 + k) + bR B (53 * 2 + k) + bR B (53 * 3 + k)) + bT B k) 52 = 8 * hh * z := by
    rw [← kh_sum h5 h13 hz]
    refine natSum_congr fun k hk => ?_
    rw [← a k hk, nS_4]
  rw [natSum_plus, natSum_plus, natSum_plus, natSum_plus, natSum_plus] at e
  rw [nS_4] at c
  unfold rsz at r3 ⊢
  rw [show natSum (fun k => bR B (53 * 3 + k)) 53 = natSum (fun k => bR B (53 * 3 + k)) 52 + bR B (53 * 3 + 52) from natSum_s _ _] at r3
  rw [show natSum (bP B) 53 = natSum (bP B) 52 + bP B 52 from natSum_s _ _, show natSum (fun k => bR B (53 * 0 + k)) 53 = natSum (fun k => bR B (53 * 0 + k)) 52 + bR B (53 * 0 + 52) from natSum_s _ _, show natSum (fun k => bR B (53 * 1 + k)) 53 = natSum (fun k => bR B (53 * 1 + k)) 52 + bR B (53 * 1 + 52) from natSum_s _ _, show natSum (fun k => bR B (53 * 2 + k)) 53 = natSum (fun k => bR B (53 * 2 + k)) 52 + bR B (53 * 2 + 52) from natSum_s _ _]
  rcases (by omega : z = 0 ∨ z = 1) with rfl | rfl
  · right
    rw [show 8 * hh * 0 = 0 from Nat.mul_zero _] at e
    rw [show jk * 0 = 0 from Nat.mul_zero _] at c
    omega
  · left
    rw [show 8 * hh * 1 = 8 * hh from Nat.mul_one _] at e
    rw [show jk * 1 = jk from Nat.mul_one _] at c
    omega
theorem iI_64 {z : Int} (h : inR z) : (iI z).toInt64 = Int64.ofInt z := by
  apply Int64.toInt_inj.mp
  rw [Int32.toInt_toInt64, iI_toInt h, Int64.toInt_ofInt_of_le (by have := h.1; omega) (by have := h.2; omega)]
theorem ofI_add (a b : Int) : Int64.ofInt a + Int64.ofInt b = Int64.ofInt (a + b) := (Int64.ofInt_add a b).symm
theorem lN_ofI (n : Nat) : lN n = Int64.ofInt (n : Int) := Int64.ofInt_eq_ofNat.symm
/-- points together are none -/
theorem pts_0 {t : Nat} {m : Mem} (X : Xt t m) (ht : t ≤ 100000) : (0 : Int64) + (m 70 0).toInt64 + (m 70 1).toInt64 + (m 70 2).toInt64 = 0 := by
  obtain ⟨⟨z, z1, z2⟩, -⟩ := X.2
  obtain ⟨e0, a0, b0⟩ := z1 0 (by omega)
  obtain ⟨e1, a1, b1⟩ := z1 1 (by omega)
  obtain ⟨e2, a2, b2⟩ := z1 2 (by omega)
  rw [e0, e1, e2, iI_64 ⟨by omega, by omega⟩, iI_64 ⟨by omega, by omega⟩, iI_64 ⟨by omega, by omega⟩, show (0 : Int64) = Int64.ofInt 0 from rfl, ofI_add, ofI_add, ofI_add, show (0 : Int) + z 0 + z 1 + z 2 = 0 by omega]
theorem win_r {t : Nat} {m : Mem} (X : Xt t m) (ht : t ≤ 100000) : (0 : Int64) + (m 73 0).toInt64 + (m 73 1).toInt64 + (m 73 2).toInt64 = (m 67 26).toInt64 := by
  obtain ⟨-, ⟨w, r, w1, w2, w3, w4⟩, -⟩ := X.2
  rw [w1 0 (by omega), w1 1 (by omega), w1 2 (by omega), w2, nI_64 (by omega), nI_64 (by omega), nI_64 (by omega), nI_64 (by omega), show (0 : Int64) = lN 0 from rfl, lN_add, lN_add, lN_add, show 0 + w 0 + w 1 + w 2 = r by omega]
theorem tm_v {m : Mem} {z : Nat → Int} {a : Int32} (hz : ∀ p, p < 3 → m 70 p = iI (z p)) : tmP m a 3 = iI ((if m 68 0 = a then z 0 else 0) + (if m 68 1 = a then z 1 else 0) + (if m 68 2 = a then z 2 else 0)) := by
  have one : ∀ p, p < 3 → (if m 68 p = a then m 70 p else 0) = iI (if m 68 p = a then z p else 0) := fun p hp => by
    split
    · exact hz p hp
    · rfl
  show ((0 + (if m 68 0 = a then m 70 0 else 0)) + (if m 68 1 = a then m 70 1 else 0)) + (if m 68 2 = a then m 70 2 else 0) = _
  rw [one 0 (by omega), one 1 (by omega), one 2 (by omega), show (0 : Int32) = iI 0 from rfl, iI_add, iI_add, iI_add, Int.zero_add]
theorem team_0 {t : Nat} {m : Mem} (X : Xt t m) (ht : t ≤ 100000) : (tmP m (nI 0) 3).toInt64 + (tmP m (nI 1) 3).toInt64 = 0 := by
  obtain ⟨⟨z, z1, z2⟩, -, -, d⟩ := X.2
  obtain ⟨e0, a0, b0⟩ := z1 0 (by omega)
  obtain ⟨e1, a1, b1⟩ := z1 1 (by omega)
  obtain ⟨e2, a2, b2⟩ := z1 2 (by omega)
  have hz : ∀ p, p < 3 → m 70 p = iI (z p) := fun p hp => (z1 p hp).1
  rw [tm_v hz, tm_v hz]
  have n01 : ¬ ((0 : Int32) = 1) := by decide
  have n10 : ¬ ((1 : Int32) = 0) := by decide
  rw [show nI 0 = (0 : Int32) from rfl, show nI 1 = (1 : Int32) from rfl]
  rcases d 0 (by omega) with f0 | f0 <;> rcases d 1 (by omega) with f1 | f1 <;> rcases d 2 (by omega) with f2 | f2 <;> rw [f0, f1, f2] <;> simp only [n01, n10, if_false, if_true] <;> rw [iI_64 ⟨by omega, by omega⟩, iI_64 ⟨by omega, by omega⟩, ofI_add, show (0 : Int64) = Int64.ofInt 0 from rfl] <;> congr 1 <;> omega
theorem adJ_ne {m : Mem} (la : LaI m 3) {p q : Nat} (hp : p < 3) (hq : q < 3) (h : p ≠ q) : adJ m p ≠ adJ m q := fun e => by
  have a := (adJ_eq la hp).2.1
  have b := (adJ_eq la hq).2.1
  rw [e, b] at a
  exact h ((nI_eq (by omega) (by omega)).mp a.symm)
theorem pla_f : ∀ a ∈ [0, 1, 2], ∀ b ∈ [0, 1, 2], ∀ c ∈ [0, 1, 2], a ≠ b → b ≠ c → a ≠ c → ((((0 : Int64) ||| ((1 : Int64) <<< (((((nI a).toInt64 : Int64)).toInt32 : Int32).toInt64 &&& 63))) ||| ((1 : Int64) <<< (((((nI b).toInt64 : Int64)).toInt32 : Int32).toInt64 &&& 63))) ||| ((1 : Int64) <<< (((((nI c).toInt64 : Int64)).toInt32 : Int32).toInt64 &&& 63))) = 7 := by decide +kernel
theorem pla_7 {m : Mem} (la : LaI m 3) : ((((0 : Int64) ||| ((1 : Int64) <<< (((((nI (adJ m 0)).toInt64 : Int64)).toInt32 : Int32).toInt64 &&& 63))) ||| ((1 : Int64) <<< (((((nI (adJ m 1)).toInt64 : Int64)).toInt32 : Int32).toInt64 &&& 63))) ||| ((1 : Int64) <<< (((((nI (adJ m 2)).toInt64 : Int64)).toInt32 : Int32).toInt64 &&& 63))) = 7 := pla_f _ (n012 (by have := (adJ_eq la (q := 0) (by omega)).1; omega)) _ (n012 (by have := (adJ_eq la (q := 1) (by omega)).1; omega)) _ (n012 (by have := (adJ_eq la (q := 2) (by omega)).1; omega)) (adJ_ne la (by omega) (by omega) (by omega)) (adJ_ne la (by omega) (by omega) (by omega)) (adJ_ne la (by omega) (by omega) (by omega))
