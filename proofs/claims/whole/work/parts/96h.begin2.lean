/-! the start -/
theorem ly_start {τ : rS} (hs : zc_sh τ 0 = true) (hd : zc_dy τ 0 = true) (hy : zb_y τ = true) : LyF τ 55 56 57 58 1024 51 52 53 54 1024 := by
  obtain ⟨S, hN, ⟨a1, a2⟩, ⟨b1, b2, b3⟩, c1, c2, c3⟩ := sy_of hs hd
  simp only [zb_y, Bool.and_eq_true, beq_iff_eq] at hy
  obtain ⟨⟨⟨⟨⟨⟨⟨y1, y2⟩, y3⟩, y4⟩, y5⟩, y6⟩, y7⟩, y8⟩ := hy
  exact ⟨⟨a1, a2, Or.inr ⟨rfl, rfl⟩⟩, ⟨b1, b2, b3⟩, ⟨c1, c2, c3⟩, ⟨y4, y5, y6⟩, ⟨y1, y2, y3⟩, ⟨by omega, by omega, by omega, by omega⟩, ⟨Or.inl rfl, Or.inl rfl, Or.inl rfl, Or.inl rfl, Or.inl rfl, Or.inl rfl⟩, ⟨by omega, by omega, by omega, by omega, by omega, by omega, by omega⟩, by omega, by omega, by omega, by omega, by omega, by omega, by omega⟩
def zb_k (τ : rS) : Bool := decide (uC τ ≤ 900) && decide (uS τ ≤ 2000000)
def zc_C (τ : rS) (i : Nat) : Bool := zb_k τ
theorem ze_C : ((zt (σ00 (Classical.epsilon (fun p : Nat × (Nat → Int32) × Nat => ¬ ((zt (σ00 p.1 p.2.1)).map (fun τ => zc_C τ p.2.2)) = some true)).1 (Classical.epsilon (fun p : Nat × (Nat → Int32) × Nat => ¬ ((zt (σ00 p.1 p.2.1)).map (fun τ => zc_C τ p.2.2)) = some true)).2.1)).map (fun τ => zc_C τ (Classical.epsilon (fun p : Nat × (Nat → Int32) × Nat => ¬ ((zt (σ00 p.1 p.2.1)).map (fun τ => zc_C τ p.2.2)) = some true)).2.2)) = some true := by decide +kernel
theorem za_C (L : Nat) (xs : Nat → Int32) (i : Nat) : ∃ τ, zt (σ00 L xs) = some τ ∧ zc_C τ i = true := zt_all zc_C (fun p hp => by subst hp; exact ze_C) L xs i
theorem rm_start {τ : rS} (hy : zb_k τ = true) : RmS τ 1024 1024 := by
  unfold zb_k at hy
  rw [Bool.and_eq_true] at hy
  have y7 := of_decide_eq_true hy.1
  have y8 := of_decide_eq_true hy.2
  exact ⟨0, 0, Nat.zero_le _, Nat.zero_le _, (Nat.mul_one 1024).symm, (Nat.mul_one 1024).symm, Nat.le_trans (Nat.add_le_add_right (Nat.add_le_add_right y7 _) _) (by decide), Nat.le_trans (Nat.add_le_add_right (Nat.add_le_add_right y8 _) _) (by decide)⟩
theorem tb_start {τ : rS} (h3 : zc_t3 τ 0 = true) (h4 : zc_t4 τ 0 = true) : TabS τ := by
  unfold zc_t3 at h3
  unfold zc_t4 at h4
  rw [Bool.and_eq_true, Bool.and_eq_true, Bool.and_eq_true] at h3 h4
  have al : ∀ {a n : Nat} {l : List Int32}, ((List.range n).all fun j => rI τ a j == l.getD j 0) = true → ∀ x, x < n → rI τ a x = l.getD x 0 := fun h x hx => eq_of_beq (List.all_eq_true.mp h x (List.mem_range.mpr hx))
  have p1 := al h3.1.1.1
  have p2 := al h3.1.1.2
  have p3 := al h3.1.2
  have p4 := al h3.2
  have q1 := al h4.1.1.1
  have q2 := al h4.1.1.2
  have q3 := al h4.1.2
  have q4 := al h4.2
  intro L hL
  rcases hL with rfl | rfl
  · unfold tbAp tbAl tbJo tbHo
    rw [if_neg (show ¬ (3 : Nat) = 4 by omega), if_neg (show ¬ (3 : Nat) = 4 by omega), if_neg (show ¬ (3 : Nat) = 4 by omega), if_neg (show ¬ (3 : Nat) = 4 by omega), if_neg (show ¬ (3 : Nat) = 4 by omega)]
    exact ⟨p1, p2, p3, p4⟩
  · unfold tbAp tbAl tbJo tbHo
    rw [if_pos rfl, if_pos rfl, if_pos rfl, if_pos rfl, if_pos rfl]
    exact ⟨q1, q2, q3, q4⟩
theorem cl_start {τ : rS} (hs : zc_sh τ 0 = true) (hd : zc_dy τ 0 = true) (h3 : zc_t3 τ 0 = true) (h4 : zc_t4 τ 0 = true) (hz : ∀ i, zb_z τ i = true) (hu : zb_u τ = true) (hy : zb_y τ = true) (hk : zb_k τ = true) : ClI τ := by
  simp only [zb_z, Bool.and_eq_true, beq_iff_eq] at hz
  unfold zb_u at hu
  rw [Bool.and_eq_true, Bool.and_eq_true, Bool.and_eq_true, Bool.and_eq_true, Bool.and_eq_true, Bool.and_eq_true] at hu
  obtain ⟨⟨⟨⟨⟨⟨u1, u2⟩, u3⟩, u4⟩, u5⟩, u6⟩, u7⟩ := hu
  refine ⟨⟨⟨55, 56, 57, 58, 1024, 51, 52, 53, 54, 1024, ly_start hs hd hy, rm_start hk⟩, fun x _ => (hz x).1.1.1, [], ⟨eq_of_beq u1, ?_, fun p hp => absurd hp List.not_mem_nil, fun i p hi => by simp at hi, fun t _ _ => (hz t).2⟩, fun p hp => absurd hp List.not_mem_nil⟩, tb_start h3 h4, fun g hg => eq_of_beq (List.all_eq_true.mp u2 g (List.mem_range.mpr hg)), false, eq_of_beq u3⟩
  show List.Nodup _
  exact List.nodup_nil
set_option maxHeartbeats 8000000 in
theorem start_ok {L : Nat} {xs : Nat → Int32} {τ : rS} (h : zt (σ00 L xs) = some τ) : GI 0 τ ∧ Sy τ := by
  have gt : ∀ {c : rS → Nat → Bool} {i : Nat}, (∃ υ, zt (σ00 L xs) = some υ ∧ c υ i = true) → c τ i = true := fun ⟨υ, h1, h2⟩ => by
    rw [h] at h1
    cases h1
    exact h2
  have hs := gt (za_sh L xs 0)
  have hd := gt (za_dy L xs 0)
  have h3 := gt (za_t3 L xs 0)
  have h4 := gt (za_t4 L xs 0)
  have A := gt (za_A L xs 0)
  have Bz : ∀ i, zc_B τ i = true := fun i => gt (za_B L xs i)
  simp only [zc_A, Bool.and_eq_true] at A
  simp only [zc_B, Bool.and_eq_true] at Bz
  obtain ⟨⟨⟨A1, A2⟩, A3⟩, A4⟩ := A
  have hz : ∀ i, zb_z τ i = true := fun i => (Bz i).1.1.2
  have hv := (Bz 0).1.1.1
  have hu := (Bz 0).1.2
  have hy := (Bz 0).2
  have hk : zb_k τ = true := gt (za_C L xs 0)
  have Cl := cl_start hs hd h3 h4 hz hu hy hk
  refine ⟨?_, (sy_of hs hd).1⟩
  simp only [zb_r, Bool.and_eq_true, beq_iff_eq, List.all_eq_true, List.mem_range] at A3
  obtain ⟨⟨⟨⟨⟨⟨⟨⟨⟨r1, r2⟩, r3⟩, r4⟩, r5⟩, r6⟩, r7⟩, r8⟩, r9⟩, r10⟩ := A3
  simp only [zb_v, Bool.and_eq_true, beq_iff_eq, List.all_eq_true, List.mem_range] at hv
  obtain ⟨⟨⟨⟨⟨⟨⟨⟨⟨⟨⟨⟨⟨v1, v2⟩, v3⟩, v4⟩, v5⟩, v6⟩, v7⟩, v8⟩, v9⟩, v10⟩, v11⟩, v12⟩, v13⟩, v14⟩ := hv
  simp only [zb_z, Bool.and_eq_true, beq_iff_eq] at hz
  simp only [zb_u, Bool.and_eq_true, beq_iff_eq, List.all_eq_true, List.mem_range] at hu
  obtain ⟨⟨⟨⟨⟨⟨u1, u2⟩, u3⟩, u4⟩, u5⟩, u6⟩, u7⟩ := hu
  obtain ⟨d1, d2⟩ := zbd_of A4
  have mm : ∀ j, j < 100 → mz τ 67 j = rI τ 67 j := fun j hj => mz_at τ (by omega) (by omega) (by omega)
  have C : CI τ (zB 0) [] none (mz τ) (rL τ 75) 0 := ⟨zb5_of A1, ⟨r9, fun i e hi => by simp at hi⟩, r10, d1, fun j hj k _ => by rw [d2 j hj], Cl, zB 0, 0, zb5_of A2⟩
  have M : MI τ (zB 0) [] (mz τ) (rL τ 75) := ⟨⟨r1, r2, r3, r4, ⟨r5, fun i d hi => by have hi2 : ([] : List (Nat × Nat))[i]? = some d := hi; simp at hi2⟩, r6, r7⟩, ⟨r8, fun i e hi => by simp at hi⟩, fun x j d => (mz_at τ (by omega) (by omega) (by omega)).symm, fun _ _ => rfl, ⟨u4, u5, u6⟩, u7, fun k _ => (hz k).1.1.2, fun k _ => (hz k).1.2⟩
  have n1 : ∀ x : Int32, x = -1 → StI x 0 := fun x e => ⟨-1, by omega, by omega, by rw [e]; rfl⟩
  have n2 : ∀ x : Int32, x = -1 → ¬ x = nI 0 := fun x e z => by rw [e] at z; exact absurd z (by decide)
  have K : KcI τ (zB 0) (mz τ) 13 3 0 := ⟨⟨n1 _ v12, fun z => absurd z (n2 _ v12)⟩, ⟨n1 _ v13, fun z => absurd z (n2 _ v13)⟩, ⟨n1 _ v14, fun z => absurd z (n2 _ v14)⟩⟩
  have m24 : mz τ 67 24 = -1 := (mm 24 (by omega)).trans v7
  have z7 : ∀ x j, x = 71 ∨ x = 72 ∨ x = 76 → j < 4 → mz τ x j = 0 := fun x j hx hj => by
    rw [mz_at τ (by omega) (by omega) (by omega)]
    rcases hx with rfl | rfl | rfl
    · exact v9 j hj
    · exact v10 j hj
    · exact v11 j hj
  refine ⟨zB 0, [], none, mz τ, rL τ 75, 0, zB 0, [], 13, 3, 2, 30, 3, 0, 0, C, M, K, by omega, ⟨⟨(mm 1 (by omega)).trans v1, (mm 2 (by omega)).trans v2, (mm 3 (by omega)).trans v3, (mm 4 (by omega)).trans v4, (mm 5 (by omega)).trans v5, (mm 6 (by omega)).trans v6⟩, by decide, by decide, Or.inl rfl, by decide, by decide, by decide, by decide, by decide⟩, ⟨BoI_z (by decide) (Or.inl rfl), Or.inl ⟨m24, rfl, rfl⟩⟩, ⟨fun q hq => absurd hq (by omega), fun p hp => Or.inl (z7 72 p (by omega) hp), fun p hp => Or.inl (z7 76 p (by omega) hp), fun p hp => ⟨0, by decide, z7 71 p (by omega) hp⟩⟩, ⟨(mm 34 (by omega)).trans v8, by decide, ⟨by decide, by show 0 + 0 ≤ _; exact Nat.zero_le _⟩, fun e he => absurd he List.not_mem_nil⟩, m24, rfl, rfl, 0, rfl⟩
