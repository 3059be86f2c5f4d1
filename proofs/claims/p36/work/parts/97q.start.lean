/-! the start: the world behind the constructor, evaluated -/
def zb_5 (τ : rS) (b : Nat) : Bool := ((List.range 53).all fun j => rI τ (b + 1) j == 0) && ((List.range 212).all fun j => rI τ (b + 2) j == 0) && ((List.range 4).all fun j => rI τ (b + 3) j == 0) && ((List.range 52).all fun j => rI τ (b + 4) j == 0) && ((List.range 52).all fun j => rI τ (b + 5) j == 0) && (rI τ b 6 == 0) && (rI τ b 7 == 0) && (rI τ b 8 == 0) && (rI τ b 9 == 0) && (rI τ b 10 == 0) && (rI τ b 11 == 0) && (rI τ b 12 == 0)
def zb_v (τ : rS) : Bool := (rI τ 4 0 == 13) && (rI τ 19 0 == 0) && (rI τ 3 8 == -1) && (rI τ 3 10 == 0) && (rI τ 31 1 == 0) && (rI τ 35 1 == 0) && (rI τ 35 2 == 0) && (rI τ 3 12 == -1) && (rI τ 3 16 == -1) && (rI τ 65 2 == -1)
def zb_w (τ : rS) : Bool := ((List.range 4).all fun j => rI τ 22 j == 0) && ((List.range 4).all fun j => rI τ 23 j == 0) && ((List.range 4).all fun j => rI τ 24 j == 0) && ((List.range 4).all fun j => rI τ 25 j == 0) && ((List.range 4).all fun j => rI τ 26 j == 0) && ((List.range 4).all fun j => rI τ 27 j == 0) && ((List.range 208).all fun j => rI τ 30 j == 0)
def zb_z (τ : rS) (i : Nat) : Bool := (rI τ 50 i == 0) && (rI τ 62 i == 0)
def zb_u (τ : rS) : Bool := (rI τ 37 11 == 0) && ((List.range 21).all fun j => rI τ 1 j == gr j) && (rI τ 37 18 == 0)
def zb_y (τ : rS) : Bool := ((rK τ 52).2 == 1024) && ((rK τ 53).2 == 1024) && ((rK τ 54).2 == 1024) && ((rK τ 56).2 == 1024) && ((rK τ 57).2 == 1024) && ((rK τ 58).2 == 1024)
def zb_k (τ : rS) : Bool := decide (uC τ ≤ 900) && decide (uS τ ≤ 2000000)
def zc_A (τ : rS) (i : Nat) : Bool := zb_5 τ 5 && zb_5 τ 12 && zb_v τ && zb_w τ
theorem ze_A : ((zt (σ00 (Classical.epsilon (fun p : Nat × (Nat → Int32) × Nat => ¬ ((zt (σ00 p.1 p.2.1)).map (fun τ => zc_A τ p.2.2)) = some true)).1 (Classical.epsilon (fun p : Nat × (Nat → Int32) × Nat => ¬ ((zt (σ00 p.1 p.2.1)).map (fun τ => zc_A τ p.2.2)) = some true)).2.1)).map (fun τ => zc_A τ (Classical.epsilon (fun p : Nat × (Nat → Int32) × Nat => ¬ ((zt (σ00 p.1 p.2.1)).map (fun τ => zc_A τ p.2.2)) = some true)).2.2)) = some true := by decide +kernel
theorem za_A (L : Nat) (xs : Nat → Int32) (i : Nat) : ∃ τ, zt (σ00 L xs) = some τ ∧ zc_A τ i = true := zt_all zc_A (fun p hp => by subst hp; exact ze_A) L xs i
def zc_B (τ : rS) (i : Nat) : Bool := zb_z τ i && zb_u τ && zb_y τ
theorem ze_B : ((zt (σ00 (Classical.epsilon (fun p : Nat × (Nat → Int32) × Nat => ¬ ((zt (σ00 p.1 p.2.1)).map (fun τ => zc_B τ p.2.2)) = some true)).1 (Classical.epsilon (fun p : Nat × (Nat → Int32) × Nat => ¬ ((zt (σ00 p.1 p.2.1)).map (fun τ => zc_B τ p.2.2)) = some true)).2.1)).map (fun τ => zc_B τ (Classical.epsilon (fun p : Nat × (Nat → Int32) × Nat => ¬ ((zt (σ00 p.1 p.2.1)).map (fun τ => zc_B τ p.2.2)) = some true)).2.2)) = some true := by decide +kernel
theorem za_B (L : Nat) (xs : Nat → Int32) (i : Nat) : ∃ τ, zt (σ00 L xs) = some τ ∧ zc_B τ i = true := zt_all zc_B (fun p hp => by subst hp; exact ze_B) L xs i
def zc_C (τ : rS) (i : Nat) : Bool := zb_k τ
theorem ze_C : ((zt (σ00 (Classical.epsilon (fun p : Nat × (Nat → Int32) × Nat => ¬ ((zt (σ00 p.1 p.2.1)).map (fun τ => zc_C τ p.2.2)) = some true)).1 (Classical.epsilon (fun p : Nat × (Nat → Int32) × Nat => ¬ ((zt (σ00 p.1 p.2.1)).map (fun τ => zc_C τ p.2.2)) = some true)).2.1)).map (fun τ => zc_C τ (Classical.epsilon (fun p : Nat × (Nat → Int32) × Nat => ¬ ((zt (σ00 p.1 p.2.1)).map (fun τ => zc_C τ p.2.2)) = some true)).2.2)) = some true := by decide +kernel
theorem za_C (L : Nat) (xs : Nat → Int32) (i : Nat) : ∃ τ, zt (σ00 L xs) = some τ ∧ zc_C τ i = true := zt_all zc_C (fun p hp => by subst hp; exact ze_C) L xs i
theorem zb5_of {τ : rS} {b : Nat} (h : zb_5 τ b = true) : BR τ b (zB 0) 0 := by
  simp only [zb_5, Bool.and_eq_true, beq_iff_eq, List.all_eq_true, List.mem_range] at h
  obtain ⟨⟨⟨⟨⟨⟨⟨⟨⟨⟨⟨h1, h2⟩, h3⟩, h4⟩, h5⟩, h6⟩, h7⟩, h8⟩, h9⟩, h10⟩, h11⟩, h12⟩ := h
  exact BR_zB ⟨h1, h2, h3, h4, h5, ⟨h6, fun i d hi => by simp at hi⟩, h7, h8, h9, h10, h11, h12⟩
theorem sy_of {τ : rS} (h1 : zc_sh τ 0 = true) (h2 : zc_dy τ 0 = true) : Sy τ ∧ rN τ = 67 ∧ (rR τ 37 6 = 55 ∧ rR τ 37 5 = 51) ∧ (rR τ 55 0 = 56 ∧ rR τ 55 1 = 57 ∧ rR τ 55 2 = 58) ∧ rR τ 51 0 = 52 ∧ rR τ 51 1 = 53 ∧ rR τ 51 2 = 54 := by
  simp only [zc_sh, Bool.and_eq_true, beq_iff_eq, List.all_eq_true, List.mem_range] at h1
  simp only [zc_dy, Bool.and_eq_true, beq_iff_eq] at h2
  obtain ⟨⟨s1, s2⟩, s3⟩ := h1
  obtain ⟨⟨⟨⟨⟨⟨⟨⟨⟨⟨⟨y1, y2⟩, y3⟩, y4⟩, y5⟩, y6⟩, y7⟩, y8⟩, y9⟩, y10⟩, y11⟩, y12⟩ := h2
  refine ⟨⟨⟨s2, s1, by omega⟩, ⟨y1, y2⟩, ?_, ⟨38, 2, Or.inl rfl, Or.inr (Or.inl rfl), y4⟩, Or.inl ⟨y5, y6⟩, ?_, ?_, by omega, by omega, by omega, by omega, by omega⟩, s3, ⟨y6, y5⟩, ⟨y10, y11, y12⟩, y7, y8, y9⟩
  · rw [y3]; exact Or.inl rfl
  · exact ⟨1024, 52, 53, 54, by decide, y7, y8, y9, (s2 49 (by decide)).trans rfl, (s2 50 (by decide)).trans rfl, (s2 51 (by decide)).trans rfl, by decide, by decide, Or.inl rfl, Or.inl rfl, Or.inl rfl, by decide, by omega, by omega, by omega⟩
  · exact ⟨1024, 56, 57, 58, by decide, y10, y11, y12, (s2 53 (by decide)).trans rfl, (s2 54 (by decide)).trans rfl, (s2 55 (by decide)).trans rfl, by decide, by decide, Or.inl rfl, Or.inl rfl, Or.inl rfl, by decide, by omega, by omega, by omega⟩
theorem ly_start {τ : rS} (hs : zc_sh τ 0 = true) (hd : zc_dy τ 0 = true) (hy : zb_y τ = true) : LyF τ 55 56 57 58 1024 51 52 53 54 1024 := by
  obtain ⟨S, hN, ⟨a1, a2⟩, ⟨b1, b2, b3⟩, c1, c2, c3⟩ := sy_of hs hd
  simp only [zb_y, Bool.and_eq_true, beq_iff_eq] at hy
  obtain ⟨⟨⟨⟨⟨y1, y2⟩, y3⟩, y4⟩, y5⟩, y6⟩ := hy
  exact ⟨⟨a1, a2, Or.inr ⟨rfl, rfl⟩⟩, ⟨b1, b2, b3⟩, ⟨c1, c2, c3⟩, ⟨y4, y5, y6⟩, ⟨y1, y2, y3⟩, ⟨by omega, by omega, by omega, by omega⟩, ⟨Or.inl rfl, Or.inl rfl, Or.inl rfl, Or.inl rfl, Or.inl rfl, Or.inl rfl⟩, ⟨by omega, by omega, by omega, by omega, by omega, by omega, by omega⟩, by omega, by omega, by omega, by omega, by omega, by omega, by omega⟩
theorem rm_start {τ : rS} (hy : zb_k τ = true) : RmS τ 1024 1024 := by
  unfold zb_k at hy
  rw [Bool.and_eq_true] at hy
  have y7 := of_decide_eq_true hy.1
  have y8 := of_decide_eq_true hy.2
  exact ⟨0, 0, Nat.zero_le _, Nat.zero_le _, (Nat.mul_one 1024).symm, (Nat.mul_one 1024).symm, Nat.le_trans (Nat.add_le_add_right (Nat.add_le_add_right y7 _) _) (by decide), Nat.le_trans (Nat.add_le_add_right (Nat.add_le_add_right y8 _) _) (by decide)⟩
theorem tb_start {τ : rS} (h3 : zc_t3 τ 0 = true) (h4 : zc_t4 τ 0 = true) : TabS τ := by
  unfold zc_t3 at h3
  unfold zc_t4 at h4
  rw [Bool.and_eq_true, Bool.and_eq_true, Bool.and_eq_true] at h3 h4
  have al : ∀ {a n : Nat} {l : List Int32}, ((List.range n).all fun j => rI τ a j == l.getD j 0) = true → ∀ x, x < n → rI τ a x = l.getD x 0 := fun h x hx => eq_of_beq (List.all_eq_true.mp h x (List.mem_range.mpr hx))
  have p1 := al h3.1.1.1
  have p2 := al h3.1.1.2
  have p3 := al h3.1.2
  have p4 := al h3.2
  have q1 := al h4.1.1.1
  have q2 := al h4.1.1.2
  have q3 := al h4.1.2
  have q4 := al h4.2
  intro L hL
  rcases hL with rfl | rfl
  · unfold tbAp tbAl tbJo tbHo
    rw [if_neg (show ¬ (3 : Nat) = 4 by omega), if_neg (show ¬ (3 : Nat) = 4 by omega), if_neg (show ¬ (3 : Nat) = 4 by omega), if_neg (show ¬ (3 : Nat) = 4 by omega), if_neg (show ¬ (3 : Nat) = 4 by omega)]
    exact ⟨p1, p2, p3, p4⟩
  · unfold tbAp tbAl tbJo tbHo
    rw [if_pos rfl, if_pos rfl, if_pos rfl, if_pos rfl, if_pos rfl]
    exact ⟨q1, q2, q3, q4⟩
theorem cl_start {τ : rS} (hs : zc_sh τ 0 = true) (hd : zc_dy τ 0 = true) (h3 : zc_t3 τ 0 = true) (h4 : zc_t4 τ 0 = true) (hz : ∀ i, zb_z τ i = true) (hu : zb_u τ = true) (hy : zb_y τ = true) (hk : zb_k τ = true) : ClI τ := by
  simp only [zb_z, Bool.and_eq_true, beq_iff_eq] at hz
  unfold zb_u at hu
  rw [Bool.and_eq_true, Bool.and_eq_true] at hu
  obtain ⟨⟨u1, u2⟩, u3⟩ := hu
  refine ⟨⟨⟨55, 56, 57, 58, 1024, 51, 52, 53, 54, 1024, ly_start hs hd hy, rm_start hk⟩, fun x _ => (hz x).1, [], ⟨eq_of_beq u1, ?_, fun p hp => absurd hp List.not_mem_nil, fun i p hi => by simp at hi, fun t _ _ => (hz t).2⟩, fun p hp => absurd hp List.not_mem_nil⟩, tb_start h3 h4, fun g hg => eq_of_beq (List.all_eq_true.mp u2 g (List.mem_range.mpr hg)), false, eq_of_beq u3⟩
  show List.Nodup _
  exact List.nodup_nil
def mz (τ : rS) : Mem := fun x j => if x = 67 then (if j = 200 then rI τ 31 4 else if j = 34 then rI τ 31 1 else if j = 6 then rI τ 19 0 else if j ≤ 5 then rI τ 4 (j - 1) else rI τ 3 (j - 16)) else if x ≤ 72 then rI τ (x - 48) j else if x = 77 then rI τ 25 j else if x = 76 then rI τ 26 j else if x = 73 then rI τ 27 j else if x = 74 then rI τ 28 j else if x = 78 then rI τ 30 j else if x = 86 then rI τ 32 j else rI τ (x - 100) j
theorem mz_of (τ : rS) : ∀ x j, dC x j → rI τ x j = mz τ (cx x) (cj x j) := fun x j d => by
  rcases d with ⟨rfl, h⟩ | ⟨rfl, rfl⟩ | ⟨rfl, h1, h2⟩ | ⟨rfl, rfl | rfl⟩ | ⟨rfl | rfl, h⟩ | ⟨h1, h2, h⟩ | ⟨rfl, h⟩ | ⟨rfl, h⟩
  · show rI τ 4 j = mz τ 67 (j + 1)
    unfold mz
    rw [if_pos rfl, if_neg (by omega), if_neg (by omega), if_neg (by omega), if_pos (by omega), Nat.add_sub_cancel]
  · rfl
  · show rI τ 3 j = mz τ 67 (j + 16)
    unfold mz
    rw [if_pos rfl, if_neg (by omega), if_neg (by omega), if_neg (by omega), if_neg (by omega), Nat.add_sub_cancel]
  · rfl
  · rfl
  · rfl
  · rfl
  · rcases (show x = 20 ∨ x = 21 ∨ x = 22 ∨ x = 23 ∨ x = 24 ∨ x = 25 ∨ x = 26 ∨ x = 27 ∨ x = 28 by omega) with rfl | rfl | rfl | rfl | rfl | rfl | rfl | rfl | rfl <;> rfl
  · rfl
  · rfl
/-- the class as it is made -/
def S0 (σ : rS) (m : Mem) (l : Nat → Int64) : Prop := CI σ (zB 0) [] none m l 0 ∧ KcI σ (zB 0) m 13 3 0 ∧ m 67 24 = -1 ∧ m 67 26 = 0 ∧ m 67 34 = 0 ∧ m 67 6 = nI 0 ∧ (∀ p, p < 4 → m 70 p = 0 ∧ m 71 p = 0 ∧ m 72 p = 0 ∧ m 77 p = 0 ∧ m 76 p = 0 ∧ m 73 p = 0) ∧ ∀ i, i < 208 → m 78 i = 0
set_option maxHeartbeats 8000000 in
theorem start_ok {L : Nat} {xs : Nat → Int32} {τ : rS} (h : zt (σ00 L xs) = some τ) : S0 τ (mz τ) (rL τ 29) ∧ Sy τ := by
  have gt : ∀ {c : rS → Nat → Bool} {i : Nat}, (∃ υ, zt (σ00 L xs) = some υ ∧ c υ i = true) → c τ i = true := fun ⟨υ, h1, h2⟩ => by
    rw [h] at h1
    cases h1
    exact h2
  have hs := gt (za_sh L xs 0)
  have hd := gt (za_dy L xs 0)
  have h3 := gt (za_t3 L xs 0)
  have h4 := gt (za_t4 L xs 0)
  have A := gt (za_A L xs 0)
  have Bz : ∀ i, zc_B τ i = true := fun i => gt (za_B L xs i)
  simp only [zc_A, Bool.and_eq_true] at A
  simp only [zc_B, Bool.and_eq_true] at Bz
  obtain ⟨⟨⟨A1, A2⟩, A3⟩, A4⟩ := A
  have hz : ∀ i, zb_z τ i = true := fun i => (Bz i).1.1
  have hu := (Bz 0).1.2
  have hy := (Bz 0).2
  have hk : zb_k τ = true := gt (za_C L xs 0)
  have Cl := cl_start hs hd h3 h4 hz hu hy hk
  refine ⟨?_, (sy_of hs hd).1⟩
  simp only [zb_v, Bool.and_eq_true, beq_iff_eq] at A3
  obtain ⟨⟨⟨⟨⟨⟨⟨⟨⟨v1, v2⟩, v3⟩, v4⟩, v5⟩, v6⟩, v7⟩, v8⟩, v9⟩, v10⟩ := A3
  simp only [zb_w, Bool.and_eq_true, beq_iff_eq, List.all_eq_true, List.mem_range] at A4
  obtain ⟨⟨⟨⟨⟨⟨w1, w2⟩, w3⟩, w4⟩, w5⟩, w6⟩, w7⟩ := A4
  have C : CI τ (zB 0) [] none (mz τ) (rL τ 29) 0 := ⟨zb5_of A1, ⟨v6, fun i e hi => by simp at hi⟩, v7, mz_of τ, fun j hj k _ => rfl, Cl, zB 0, 0, zb5_of A2⟩
  have n1 : ∀ x : Int32, x = -1 → StI x 0 := fun x e => ⟨-1, by omega, by omega, by rw [e]; rfl⟩
  have n2 : ∀ x : Int32, x = -1 → ¬ x = nI 0 := fun x e z => by rw [e] at z; exact absurd z (by decide)
  exact ⟨C, ⟨⟨n1 _ v8, fun z => absurd z (n2 _ v8)⟩, ⟨n1 _ v9, fun z => absurd z (n2 _ v9)⟩, ⟨n1 _ v10, fun z => absurd z (n2 _ v10)⟩⟩, v3, v4, v5, v2, fun p hp => ⟨w1 p hp, w2 p hp, w3 p hp, w4 p hp, w5 p hp, w6 p hp⟩, w7⟩
