/-! the start -/
theorem ly_start {τ : rS} (hs : zc_sh τ 0 = true) (hd : zc_dy τ 0 = true) (hy : zb_y τ = true) : LyF τ 55 56 57 58 1024 51 52 53 54 1024 := by
  obtain ⟨S, hN, ⟨a1, a2⟩, ⟨b1, b2, b3⟩, c1, c2, c3⟩ := sy_of hs hd
  simp only [zb_y, Bool.and_eq_true, beq_iff_eq] at hy
  obtain ⟨⟨⟨⟨⟨⟨⟨y1, y2⟩, y3⟩, y4⟩, y5⟩, y6⟩, y7⟩, y8⟩ := hy
  exact ⟨⟨a1, a2, Or.inr ⟨rfl, rfl⟩⟩, ⟨b1, b2, b3⟩, ⟨c1, c2, c3⟩, ⟨y4, y5, y6⟩, ⟨y1, y2, y3⟩, ⟨by omega, by omega, by omega, by omega⟩, ⟨Or.inl rfl, Or.inl rfl, Or.inl rfl, Or.inl rfl, Or.inl rfl, Or.inl rfl⟩, ⟨by omega, by omega, by omega, by omega, by omega, by omega, by omega⟩, by omega, by omega, by omega, by omega, by omega, by omega, by omega⟩
def zb_k (τ : rS) : Bool := decide (uC τ ≤ 900) && decide (uS τ ≤ 2000000)
def zc_C (τ : rS) (i : Nat) : Bool := zb_k τ
theorem ze_C : ((zt (σ00 (Classical.epsilon (fun p : Nat × (Nat → Int32) × Nat => ¬ ((zt (σ00 p.1 p.2.1)).map (fun τ => zc_C τ p.2.2)) = some true)).1 (Classical.epsilon (fun p : Nat × (Nat → Int32) × Nat => ¬ ((zt (σ00 p.1 p.2.1)).map (fun τ => zc_C τ p.2.2)) = some true)).2.1)).map (fun τ => zc_C τ (Classical.epsilon (fun p : Nat × (Nat → Int32) × Nat => ¬ ((zt (σ00 p.1 p.2.1)).map (fun τ => zc_C τ p.2.2)) = some true)).2.2)) = some true := by decide +kernel
theorem za_C (L : Nat) (xs : Nat → Int32) (i : Nat) : ∃ τ, zt (σ00 L xs) = some τ ∧ zc_C τ i = true := zt_all zc_C (fun p hp => by subst hp; exact ze_C) L xs i
theorem rm_start {τ : rS} (hy : zb_k τ = true) : RmS τ 1024 1024 := by
  unfold zb_k at hy
  rw [Bool.and_eq_true] at hy
  have y7 := of_decide_eq_true hy.1
  have y8 := of_decide_eq_true hy.2
  exact ⟨0, 0, Nat.zero_le _, Nat.zero_le _, (Nat.mul_one 1024).symm, (Nat.mul_one 1024).symm, Nat.le_trans (Nat.add_le_add_right (Nat.add_le_add_right y7 _) _) (by decide), Nat.le_trans (Nat.add_le_add_right (Nat.add_le_add_right y8 _) _) (by decide)⟩
theorem tb_start {τ : rS} (h3 : zc_t3 τ 0 = true) (h4 : zc_t4 τ 0 = true) : TabS τ := by
  unfold zc_t3 at h3
  unfold zc_t4 at h4
  rw [Bool.and_eq_true, Bool.and_eq_true, Bool.and_eq_true] at h3 h4
  have al : ∀ {a n : Nat} {l : List Int32}, ((List.range n).all fun j => rI τ a j == l.getD j 0) = true → ∀ x, x < n → rI τ a x = l.getD x 0 := fun h x hx => eq_of_beq (List.all_eq_true.mp h x (List.mem_range.mpr hx))
  have p1 := al h3.1.1.1
  have p2 := al h3.1.1.2
  have p3 := al h3.1.2
  have p4 := al h3.2
  have q1 := al h4.1.1.1
  have q2 := al h4.1.1.2
  have q3 := al h4.1.2
  have q4 := al h4.2
  intro L hL
  rcases hL with rfl | rfl
  · unfold tbAp tbAl tbJo tbHo
    rw [if_neg (show ¬ (3 : Nat) = 4 by omega), if_neg (show ¬ (3 : Nat) = 4 by omega), if_neg (show ¬ (3 : Nat) = 4 by omega), if_neg (show ¬ (3 : Nat) = 4 by omega), if_neg (show ¬ (3 : Nat) = 4 by omega)]
    exact ⟨p1, p2, p3, p4⟩
  · unfold tbAp tbAl tbJo tbHo
    rw [if_pos rfl, if_pos rfl, if_pos rfl, if_pos rfl, if_pos rfl]
    exact ⟨q1, q2, q3, q4⟩
theorem cl_start {τ : rS} (hs : zc_sh τ 0 = true) (hd : zc_dy τ 0 = true) (h3 : zc_t3 τ 0 = true) (h4 : zc_t4 τ 0 = true) (hz : ∀ i, zb_z τ i = true) (hu : zb_u τ = true) (hy : zb_y τ = true) (hk : zb_k τ = true) : ClI τ := by
  simp only [zb_z, Bool.and_eq_true, beq_iff_eq] at hz
  unfold zb_u at hu
  rw [Bool.and_eq_true, Bool.and_eq_true, Bool.and_eq_true, Bool.and_eq_true, Bool.and_eq_true, Bool.and_eq_true] at hu
  obtain ⟨⟨⟨⟨⟨⟨u1, u2⟩, u3⟩, u4⟩, u5⟩, u6⟩, u7⟩ := hu
  refine ⟨⟨⟨55, 56, 57, 58, 1024, 51, 52, 53, 54, 1024, ly_start hs hd hy, rm_start hk⟩, fun x _ => (hz x).1.1.1, [], ⟨eq_of_beq u1, ?_, fun p hp => absurd hp List.not_mem_nil, fun i p hi => by simp at hi, fun t _ _ => (hz t).2⟩, fun p hp => absurd hp List.not_mem_nil⟩, tb_start h3 h4, fun g hg => eq_of_beq (List.all_eq_true.mp u2 g (List.mem_range.mpr hg)), false, eq_of_beq u3⟩
  show List.Nodup _
  exact List.nodup_nil
theorem zt_get {L : Nat} {xs : Nat → Int32} {τ : rS} (h : zt (σ00 L xs) = some τ) (c : rS → Nat → Bool) (i : Nat) (q : ∃ υ, zt (σ00 L xs) = some υ ∧ c υ i = true) : c τ i = true := by
  obtain ⟨υ, h1, h2⟩ := q
  have e : τ = υ := Option.some.inj (h.symm.trans h1)
  rw [e]
  exact h2
