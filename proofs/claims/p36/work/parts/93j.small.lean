/-! claims, signs, players and rules as calls of the game -/
theorem Gm_m {t : Nat} {B : Bd} {E : List Ent} {dl : Option (Nat × Nat × Nat)} {m m' : Mem} {B0 : Bd} {D : List (Nat × Nat)} {hh L jk ml pn n wr wr' : Nat} (S : GmS t B E dl m B0 D hh L jk ml pn n wr) (h : ∀ x k, ((x = 67 ∧ ((1 ≤ k ∧ k ≤ 6) ∨ k = 24 ∨ k = 25)) ∨ x = 71 ∨ x = 72 ∨ x = 74 ∨ x = 76) → m' x k = m x k) (h34 : m' 67 34 = nI wr') (h40 : wr' ≤ 40) (t' : Nat) (hle : wr' ≤ t' ∧ E.length + wr' ≤ t' + tot (tjB B0)) : GmS t' B E dl m' B0 D hh L jk ml pn n wr' := by
  obtain ⟨r, T, se, ⟨c1, c2, c3, c4⟩, rp⟩ := S
  refine ⟨RuM_cg r fun i _ _ => h _ _ (by omega), ⟨T.1, ?_⟩, ⟨LaI_cg se.1 fun k => h _ _ (by omega), fun i hi => by rw [h _ _ (by omega)]; exact se.2.1 i hi, fun i hi => by rw [h _ _ (by omega)]; exact se.2.2.1 i hi, fun i hi => by rw [h _ _ (by omega)]; exact se.2.2.2 i hi⟩, ⟨h34, h40, hle, c4⟩, ?_⟩
  · rcases T.2 with ⟨h1, h2⟩ | ⟨p', on⟩
    · exact Or.inl ⟨by rw [h _ _ (by omega)]; exact h1, h2⟩
    · obtain ⟨u1, u2, u3, u4, u5, u6, c, u7, u8⟩ := on
      exact Or.inr ⟨p', u1, by rw [h _ _ (by omega)]; exact u2, u3, u4, u5, by rw [h _ _ (by omega)]; exact u6, c, u7, by rw [h _ _ (by omega)]; exact u8⟩
  · exact RpI_m rp (h _ _ (by omega))
theorem LaI_in {m : Mem} {n : Nat} (la : LaI m n) (hn : n ≤ 3) : ∀ i, i < n → ¬ m 74 i = nI n := fun i hi e => by
  have ne : ∀ q j, q < n → m 74 j = nI q → i ≠ j := fun q j hq h z => by
    rw [← z, e] at h
    have := (nI_eq (by omega) (by omega)).mp h
    omega
  have di : ∀ q q' j j', q < n → q' < n → q ≠ q' → m 74 j = nI q → m 74 j' = nI q' → j ≠ j' := fun q q' j j' hq hq' hne h h' z => by
    rw [← z, h] at h'
    exact hne ((nI_eq (by omega) (by omega)).mp h')
  obtain rfl | rfl | rfl | rfl : n = 0 ∨ n = 1 ∨ n = 2 ∨ n = 3 := by omega
  · omega
  · obtain ⟨j0, a0, b0, -⟩ := la 0 (by omega)
    have := ne 0 j0 (by omega) b0
    omega
  · obtain ⟨j0, a0, b0, -⟩ := la 0 (by omega)
    obtain ⟨j1, a1, b1, -⟩ := la 1 (by omega)
    have h0 := ne 0 j0 (by omega) b0
    have h1 := ne 1 j1 (by omega) b1
    have h2 := di 0 1 j0 j1 (by omega) (by omega) (by omega) b0 b1
    omega
  · obtain ⟨j0, a0, b0, -⟩ := la 0 (by omega)
    obtain ⟨j1, a1, b1, -⟩ := la 1 (by omega)
    obtain ⟨j2, a2, b2, -⟩ := la 2 (by omega)
    have h0 := ne 0 j0 (by omega) b0
    have h1 := ne 1 j1 (by omega) b1
    have h2 := ne 2 j2 (by omega) b2
    have h3 := di 0 1 j0 j1 (by omega) (by omega) (by omega) b0 b1
    have h4 := di 0 2 j0 j2 (by omega) (by omega) (by omega) b0 b2
    have h5 := di 1 2 j1 j2 (by omega) (by omega) (by omega) b1 b2
    omega
theorem BoI_n {B : Bd} {hh L jk n : Nat} (b : BoI B hh L jk n) : BoI B hh L jk (n + 1) := ⟨b.1, ⟨fun i hi hn => b.2.1.1 i hi (by omega), b.2.1.2⟩, b.2.2⟩
/-- an empty table is whole -/
theorem acc_0 {L hh : Nat} {f : Nat → Nat → Nat} (hL : L = 3 ∨ L = 4) (h : ∀ m c, f m c = 0) : AccR L f hh := by
  have u0 : usG 0 = (0, 0, 0, 0) := by decide
  refine ⟨fun _ => (0, 0, 0, 0), fun m _ => ⟨⟨0, by decide, u0.symm⟩, fun c hc => ?_⟩, fun c hc => ⟨0, ?_, ?_⟩⟩
  · have : at4 (0, 0, 0, 0) c = 0 := by
      rcases (by omega : c = 0 ∨ c = 1 ∨ c = 2 ∨ c = 3) with rfl | rfl | rfl | rfl <;> rfl
    rw [this]
    exact Nat.zero_le _
  · have z : ∀ n, colR (rfT L) (lft f (fun _ => (0, 0, 0, 0)) c) n 0 := by
      intro n
      induction n with
      | zero => exact rfl
      | succ n ih =>
        refine ⟨0, ih, ?_⟩
        have e : lft f (fun _ => (0, 0, 0, 0)) c n = 0 := by
          unfold lft
          rw [h, Nat.zero_sub]
        rw [e]
        rcases hL with rfl | rfl
        · exact (by decide : (0 : Nat) ∈ rfT 3 0 0)
        · exact (by decide : (0 : Nat) ∈ rfT 4 0 0)
    exact z hh
  · rcases hL with rfl | rfl <;> decide
theorem BoI_z {X hh L jk n : Nat} (hX : X < 65536) (hL : L = 3 ∨ L = 4) : BoI (zB X) hh L jk n := by
  have s0 : ∀ n, natSum (fun _ => 0) n = 0 := fun n => natSum_zero fun _ _ => rfl
  refine ⟨⟨⟨⟨?_, fun p _ => ?_, hX⟩, fun k _ => by show 0 + 0 ≤ 2; omega, by show 0 ≤ 64; omega⟩, rfl, rfl⟩, ⟨fun _ _ _ _ _ => rfl, ⟨0, by decide, fun k _ => ?_, ?_⟩, fun _ _ _ => rfl⟩, ?_⟩
  · show natSum (fun _ => 0) 53 ≤ 1000
    rw [s0]; omega
  · show natSum (fun _ => 0) 53 ≤ 24
    rw [s0]; omega
  · show 0 + natSum (fun _ => 0) 4 + 0 = _
    rw [s0]
    split <;> rfl
  · show 0 + natSum (fun _ => 0) 4 + natSum (fun _ => 0) 52 + 0 = _
    rw [s0, s0, Nat.mul_zero]
  · refine accB_iff.mpr (acc_0 hL fun m c => ?_)
    unfold tN tjB xZ
    split <;> rfl
