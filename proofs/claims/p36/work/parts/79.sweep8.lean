/-! a layer grows; what spread leaves alone -/
theorem g1_I (σ : rS) (q : Nat × Nat) (l j : Nat) (f : Nat → Int32) (x i : Nat) : rI (wR (rowI (wN σ q) (rN σ) f) l j (rN σ)) x i = (if x = rN σ then f i else rI σ x i) ∧ rL (wR (rowI (wN σ q) (rN σ) f) l j (rN σ)) x i = if x = rN σ then 0 else rL σ x i := by
  refine ⟨?_, ?_⟩
  · rw [q_IR, q_rI]
    split
    · rfl
    · rename_i h; exact congrFun (up_other _ _ h) i
  · show va_up (rL σ) (rN σ) (fun _ => 0) x i = _
    rw [up_at]
    split <;> rfl
theorem g1_L (σ : rS) (q : Nat × Nat) (l j : Nat) (f : Nat → Int64) (x i : Nat) : rI (wR (rowL (wN σ q) (rN σ) f) l j (rN σ)) x i = (if x = rN σ then 0 else rI σ x i) ∧ rL (wR (rowL (wN σ q) (rN σ) f) l j (rN σ)) x i = if x = rN σ then f i else rL σ x i := by
  refine ⟨?_, ?_⟩
  · show va_up (rI σ) (rN σ) (fun _ => 0) x i = _
    rw [up_at]
    split <;> rfl
  · rw [q_LR, q_rL]
    split
    · rfl
    · rename_i h; exact congrFun (up_other _ _ h) i
/-- the world behind a growth -/
def GwS (σ τ : rS) (t a b c n : Nat) : Prop := rN τ = rN σ + 3 ∧ (∀ x, x < rN σ → rK τ x = rK σ x) ∧ ((rK τ (rN σ)).2 = gN n ∧ (rK τ (rN σ + 1)).2 = gN n ∧ (rK τ (rN σ + 2)).2 = gN n) ∧ (∀ x j, x < rN σ → ¬ (x = t ∧ j < 3) → rR τ x j = rR σ x j) ∧ (rR τ t 0 = rN σ ∧ rR τ t 1 = rN σ + 1 ∧ rR τ t 2 = rN σ + 2) ∧ (∀ x j, x < rN σ → rI τ x j = rI σ x j) ∧ (∀ x j, x < rN σ → rL τ x j = rL σ x j) ∧ (∀ j, j < n → rI τ (rN σ) j = rI σ a j) ∧ (∀ j, j < n → rL τ (rN σ + 1) j = rL σ b j) ∧ ∀ j, j < n → rL τ (rN σ + 2) j = rL σ c j
theorem gw_spec {σ : rS} {t a b c n h a' b' c' n' : Nat} (F : LyF σ t a b c n h a' b' c' n') : GwS σ (gw σ) t a b c n := by
  obtain ⟨⟨f1, f2, f3⟩, ⟨f4, f5, f6⟩, ⟨f4', f5', f6'⟩, ⟨f7, f8, f9⟩, -, ⟨n1, n2, -, -⟩, -, -, ⟨l1, l2, l3, -, -, -, hN⟩⟩ := F
  obtain ⟨σ3, h3⟩ : ∃ z, z = gw σ := ⟨_, rfl⟩
  have h3' := h3
  unfold gw at h3
  simp only [f1, f4, f7] at h3
  have htN : t < rN σ := by omega
  generalize e1 : wR (rowI (wN σ (0, gN n)) (rN σ) (fun j => if j < n then rI σ a j else 0)) t 0 (rN σ) = σ1 at h3
  have g1 : g1s σ (0, gN n) t 0 σ1 := e1 ▸ g1s_I _ _ _ _ _
  have i1 : ∀ x i, rI σ1 x i = (if x = rN σ then (if i < n then rI σ a i else 0) else rI σ x i) ∧ rL σ1 x i = if x = rN σ then 0 else rL σ x i := fun x i => e1 ▸ g1_I _ _ _ _ _ _ _
  have hN1 : rN σ1 = rN σ + 1 := g1.2.2
  have r1 : rR σ1 t 1 = b := by rw [g1.2.1, if_neg (by omega), if_neg (by omega), f5]
  rw [r1] at h3
  generalize e2 : wR (rowL (wN σ1 (1, gN n)) (rN σ1) (fun j => if j < n then rL σ1 b j else 0)) t 1 (rN σ1) = σ2 at h3
  have g2 : g1s σ1 (1, gN n) t 1 σ2 := e2 ▸ g1s_L _ _ _ _ _
  have i2 : ∀ x i, rI σ2 x i = (if x = rN σ1 then 0 else rI σ1 x i) ∧ rL σ2 x i = if x = rN σ1 then (if i < n then rL σ1 b i else 0) else rL σ1 x i := fun x i => e2 ▸ g1_L _ _ _ _ _ _ _
  have hN2 : rN σ2 = rN σ + 2 := by rw [g2.2.2, hN1]
  have r2 : rR σ2 t 2 = c := by rw [g2.2.1, if_neg (by omega), if_neg (by omega), g1.2.1, if_neg (by omega), if_neg (by omega), f6]
  rw [r2] at h3
  have g3 : g1s σ2 (1, gN n) t 2 σ3 := h3 ▸ g1s_L _ _ _ _ _
  have i3 : ∀ x i, rI σ3 x i = (if x = rN σ2 then 0 else rI σ2 x i) ∧ rL σ3 x i = if x = rN σ2 then (if i < n then rL σ2 c i else 0) else rL σ2 x i := fun x i => h3 ▸ g1_L _ _ _ _ _ _ _
  have hN3 : rN σ3 = rN σ + 3 := by rw [g3.2.2, hN2]
  rw [← h3']
  refine ⟨hN3, fun x hx => ?_, ⟨?_, ?_, ?_⟩, fun x j hx hj => ?_, ⟨?_, ?_, ?_⟩, fun x j hx => ?_, fun x j hx => ?_, fun j hj => ?_, fun j hj => ?_, fun j hj => ?_⟩
  · rw [g3.1, up_other _ _ (by omega), g2.1, up_other _ _ (by omega), g1.1, up_other _ _ (by omega)]
  · rw [g3.1, up_other _ _ (by omega), g2.1, up_other _ _ (by omega), g1.1, up_same]
  · rw [g3.1, up_other _ _ (by omega), g2.1, ← hN1, up_same]
  · rw [g3.1, ← hN2, up_same]
  · rw [g3.2.1, if_neg (by omega), if_neg (by omega), g2.2.1, if_neg (by omega), if_neg (by omega), g1.2.1, if_neg (by omega), if_neg (by omega)]
  · rw [g3.2.1, if_neg (by omega), if_neg (by omega), g2.2.1, if_neg (by omega), if_neg (by omega), g1.2.1, if_pos ⟨rfl, rfl⟩]
  · rw [g3.2.1, if_neg (by omega), if_neg (by omega), g2.2.1, if_pos ⟨rfl, rfl⟩, hN1]
  · rw [g3.2.1, if_pos ⟨rfl, rfl⟩, hN2]
  · rw [(i3 _ _).1, if_neg (by omega), (i2 _ _).1, if_neg (by omega), (i1 _ _).1, if_neg (by omega)]
  · rw [(i3 _ _).2, if_neg (by omega), (i2 _ _).2, if_neg (by omega), (i1 _ _).2, if_neg (by omega)]
  · rw [(i3 _ _).1, if_neg (by omega), (i2 _ _).1, if_neg (by omega), (i1 _ _).1, if_pos rfl, if_pos hj]
  · rw [(i3 _ _).2, if_neg (by omega), (i2 _ _).2, if_pos hN1.symm, if_pos hj, (i1 _ _).2, if_neg (by omega)]
  · rw [(i3 _ _).2, if_pos hN2.symm, if_pos hj, (i2 _ _).2, if_neg (by omega), (i1 _ _).2, if_neg (by omega)]
/-- what spread leaves alone -/
def FrS (σ τ : rS) : Prop := rN σ ≤ rN τ ∧ (∀ x, x < rN σ → rK τ x = rK σ x) ∧ (∀ x j, x < rN σ → ¬ (x = rR σ 37 6 ∧ j < 3) → rR τ x j = rR σ x j) ∧ (∀ x j, x < rN σ → x ≠ 50 → x ≠ rR σ (rR σ 37 6) 0 → ¬ (x = rR σ 37 6 ∧ j = 3) → rI τ x j = rI σ x j) ∧ (∀ x j, x < rN σ → x ≠ rR σ (rR σ 37 6) 1 → x ≠ rR σ (rR σ 37 6) 2 → rL τ x j = rL σ x j) ∧ (rR τ (rR σ 37 6) 0 = rR σ (rR σ 37 6) 0 ∨ rN σ ≤ rR τ (rR σ 37 6) 0) ∧ (rR τ (rR σ 37 6) 1 = rR σ (rR σ 37 6) 1 ∨ rN σ ≤ rR τ (rR σ 37 6) 1) ∧ (rR τ (rR σ 37 6) 2 = rR σ (rR σ 37 6) 2 ∨ rN σ ≤ rR τ (rR σ 37 6) 2)
theorem FrS.rf (σ : rS) : FrS σ σ := ⟨Nat.le_refl _, fun _ _ => rfl, fun _ _ _ _ => rfl, fun _ _ _ _ _ _ => rfl, fun _ _ _ _ _ => rfl, Or.inl rfl, Or.inl rfl, Or.inl rfl⟩
theorem FrS.tr {σ τ υ : rS} (h37 : 37 < rN σ ∧ rR σ 37 6 ≠ 37) (h : FrS σ τ) (g : FrS τ υ) : FrS σ υ := by
  obtain ⟨h1, h2, h3, h4, h5, h6, h7, h8⟩ := h
  obtain ⟨g1, g2, g3, g4, g5, g6, g7, g8⟩ := g
  have e : rR τ 37 6 = rR σ 37 6 := h3 37 6 h37.1 (by omega)
  rw [e] at g3 g4 g5 g6 g7 g8
  refine ⟨by omega, fun x hx => (g2 x (by omega)).trans (h2 x hx), fun x j hx hj => (g3 x j (by omega) hj).trans (h3 x j hx hj), fun x j hx q1 q2 q3 => (g4 x j (by omega) q1 (by omega) q3).trans (h4 x j hx q1 q2 q3), fun x j hx q1 q2 => (g5 x j (by omega) (by omega) (by omega)).trans (h5 x j hx q1 q2), by omega, by omega, by omega⟩
theorem FrS_P {σ τ : rS} {t a b c n h a' b' c' n' : Nat} (F : LyF σ t a b c n h a' b' c' n') (P : FrP σ τ t a b c) : FrS σ τ := by
  obtain ⟨⟨f1, -⟩, ⟨f4, f5, f6⟩, -⟩ := F
  obtain ⟨p1, p2, p3, p4, p5⟩ := P
  unfold FrS
  rw [p1, p2, p3, f1, f4, f5, f6]
  exact ⟨Nat.le_refl _, fun _ _ => rfl, fun _ _ _ _ => rfl, fun x j _ q1 q2 q3 => p4 x j q1 q2 (fun e f => q3 ⟨e, f⟩), fun x j _ q1 q2 => p5 x j q1 q2, Or.inl rfl, Or.inl rfl, Or.inl rfl⟩
theorem FrS_G {σ τ : rS} {t a b c n h a' b' c' n' : Nat} (F : LyF σ t a b c n h a' b' c' n') (P : GwS σ τ t a b c n) : FrS σ τ := by
  obtain ⟨⟨f1, -⟩, ⟨f4, f5, f6⟩, -⟩ := F
  obtain ⟨p1, p2, p3, p4, ⟨p5, p6, p7⟩, p8, p9, -⟩ := P
  unfold FrS
  rw [f1, p5, p6, p7, f4, f5, f6]
  exact ⟨by omega, p2, p4, fun x j hx _ _ _ => p8 x j hx, fun x j hx _ _ => p9 x j hx, Or.inr (by omega), Or.inr (by omega), Or.inr (by omega)⟩
theorem LyF_P {σ τ : rS} {t a b c n h a' b' c' n' : Nat} (F : LyF σ t a b c n h a' b' c' n') (P : FrP σ τ t a b c) : LyF τ t a b c n h a' b' c' n' := by
  obtain ⟨p1, p2, p3, -⟩ := P
  unfold LyF
  rw [p1, p2, p3]
  exact F
theorem LyF_G {σ τ : rS} {t a b c n h a' b' c' n' : Nat} (F : LyF σ t a b c n h a' b' c' n') (P : GwS σ τ t a b c n) : LyF τ t (rN σ) (rN σ + 1) (rN σ + 2) (gN n) h a' b' c' n' := by
  obtain ⟨⟨f1, f2, f3⟩, ⟨f4, f5, f6⟩, ⟨f4', f5', f6'⟩, ⟨f7, f8, f9⟩, ⟨f7', f8', f9'⟩, ⟨n1, n2, n3, n4⟩, ⟨d1, d2, d3, d4, d5, d6⟩, ⟨x1, x2, x3, x4, x5, x6, x7⟩, ⟨l1, l2, l3, l4, l5, l6, hN⟩⟩ := F
  obtain ⟨p1, p2, ⟨k1, k2, k3⟩, p4, ⟨p5, p6, p7⟩, p8, p9, -⟩ := P
  have hg1 : 1024 ≤ gN n := by unfold gN; split <;> omega
  have hg2 : gN n ≤ 65536 := gN_le n2
  refine ⟨⟨(p4 37 6 (by omega) (by omega)).trans f1, (p4 37 5 (by omega) (by omega)).trans f2, f3⟩, ⟨p5, p6, p7⟩, ⟨(p4 h 0 (by omega) (by omega)).trans f4', (p4 h 1 (by omega) (by omega)).trans f5', (p4 h 2 (by omega) (by omega)).trans f6'⟩, ⟨k1, k2, k3⟩, ⟨by rw [p2 a' l4]; exact f7', by rw [p2 b' l5]; exact f8', by rw [p2 c' l6]; exact f9'⟩, ⟨hg1, hg2, n3, n4⟩, ⟨by omega, by omega, by omega, d4, d5, d6⟩, ⟨by omega, x2, by omega, by omega, by omega, by omega, by omega⟩, by omega, by omega, by omega, by omega, by omega, by omega, by omega⟩
theorem StR_G {σ τ : rS} {t a b c n h a' b' c' n' : Nat} (F : LyF σ t a b c n h a' b' c' n') (P : GwS σ τ t a b c n) {l : List (Nat × Int64 × Int64)} (H : StR σ t 3 a b c 50 65535 l) (hl : l.length ≤ n) : StR τ t 3 (rN σ) (rN σ + 1) (rN σ + 2) 50 65535 l := by
  obtain ⟨⟨f1, f2, f3⟩, -, -, -, -, -, -, -, ⟨l1, l2, l3, l4, l5, l6, hN⟩⟩ := F
  obtain ⟨-, -, -, -, -, p8, p9, p10, p11, p12⟩ := P
  obtain ⟨g1, g2, g3, g4, g5⟩ := H
  refine ⟨by rw [p8 t 3 (by omega)]; exact g1, g2, g3, fun i p hi => ?_, fun x hx hx2 => by rw [p8 50 x (by omega)]; exact g5 x hx hx2⟩
  have hil : i < l.length := (List.getElem?_eq_some_iff.mp hi).1
  rw [p10 i (by omega), p11 i (by omega), p12 i (by omega), p8 50 _ (by omega)]
  exact g4 i p hi
/-- room for all growth that there can be -/
def RmS (σ : rS) (n n' : Nat) : Prop := ∃ j j', j ≤ 6 ∧ j' ≤ 6 ∧ n = 1024 * 2 ^ j ∧ n' = 1024 * 2 ^ j' ∧ uC σ + 3 * (6 - j) + 3 * (6 - j') ≤ bC ∧ uS σ + 6 * (65536 - n) + 6 * (65536 - n') ≤ bS
theorem pw6 {j : Nat} (h : j ≤ 6) : 2 ^ j ∈ [1, 2, 4, 8, 16, 32, 64] ∧ (j < 6 ↔ 2 ^ j < 64) := by
  have : j = 0 ∨ j = 1 ∨ j = 2 ∨ j = 3 ∨ j = 4 ∨ j = 5 ∨ j = 6 := by omega
  rcases this with rfl | rfl | rfl | rfl | rfl | rfl | rfl <;> decide
theorem uS_gw {σ : rS} {t a b c n h a' b' c' n' : Nat} (F : LyF σ t a b c n h a' b' c' n') : uS (gw σ) = uS σ + 3 * gN n := by
  obtain ⟨⟨f1, f2, f3⟩, ⟨f4, f5, f6⟩, -, ⟨f7, f8, f9⟩, -, -, -, -, ⟨l1, l2, l3, -, -, -, hN⟩⟩ := F
  unfold gw
  simp only [f1, f4, f7]
  have s1 : ∀ (σ : rS) (q : Nat × Nat) (f : Nat → Int32) (l j v : Nat), 3 ≤ rN σ → uS (wR (rowI (wN σ q) (rN σ) f) l j v) = uS σ + rSz q := fun σ q f l j v h => uS_wN σ q h
  have s2 : ∀ (σ : rS) (q : Nat × Nat) (f : Nat → Int64) (l j v : Nat), 3 ≤ rN σ → uS (wR (rowL (wN σ q) (rN σ) f) l j v) = uS σ + rSz q := fun σ q f l j v h => uS_wN σ q h
  rw [s2 _ _ _ _ _ _ (by show 3 ≤ rN σ + 1 + 1; omega), s2 _ _ _ _ _ _ (by show 3 ≤ rN σ + 1; omega), s1 _ _ _ _ _ _ (by omega)]
  have z1 : rSz (0, gN n) = gN n := rfl
  have z2 : rSz (1, gN n) = gN n := rfl
  rw [z1, z2]
  omega
theorem grow_eq {σ : rS} {t a b c n h a' b' c' n' : Nat} (F : LyF σ t a b c n h a' b' c' n') (R : RmS σ n n') (hn : n < 65536) : f_X3_grow σ = some ((), gw σ) ∧ RmS (gw σ) (gN n) n' ∧ gN n = 2 * n := by
  have hs := uS_gw F
  have hG := gw_spec F
  obtain ⟨⟨f1, f2, f3⟩, ⟨f4, f5, f6⟩, -, ⟨f7, f8, f9⟩, -, -, -, -, -⟩ := F
  obtain ⟨j, j', h1, h2, rfl, rfl, h3, h4⟩ := R
  obtain ⟨p1, p2⟩ := pw6 h1
  have hj : j < 6 := p2.mpr (by omega)
  have hg : gN (1024 * 2 ^ j) = 2 * (1024 * 2 ^ j) := by
    unfold gN
    split
    · rfl
    · simp only [List.mem_cons, List.not_mem_nil, or_false] at p1
      omega
  have hN : uC (gw σ) = uC σ + 3 := hG.1
  refine ⟨?_, ⟨j + 1, j', by omega, h2, by rw [hg, Nat.pow_succ]; omega, rfl, by rw [hN]; omega, ?_⟩, hg⟩
  · unfold f_X3_grow
    simp only [List.mem_cons, List.not_mem_nil, or_false] at p1
    have q1 : 2 ^ j ≤ 32 := by omega
    have q2 : uC σ + 3 ≤ bC := by omega
    have q3 : uS σ + 3 * gN (1024 * 2 ^ j) ≤ bS := by rw [hg]; omega
    rw [f1, f4, f7, if_pos ⟨hn, q2, q3⟩]
  · rw [hs, hg]
    simp only [List.mem_cons, List.not_mem_nil, or_false] at p1
    omega
