/-! a board cleared; a deal -/
theorem clear_eq {σ : rS} {b : Nat} {P R Z T J : Nat → Nat} {D : List (Nat × Nat)} {ps ts jl F X ch : Nat} (H : BQ σ b P R Z T J D ps ts jl F X ch) : ∃ τ, f_X1_clear σ b = some ((), τ) ∧ BQ τ b (fun _ => 0) (fun _ => 0) (fun _ => 0) (fun _ => 0) (fun _ => 0) [] 0 0 0 0 X (ch + 1) ∧ FrB2 b σ τ := by
  obtain ⟨h1, h2, h3, h4, h5, ⟨h6, h6'⟩, h7, h8, h9, h10, h11, h12⟩ := H
  obtain ⟨σ1, d1⟩ : ∃ z, z = rowI σ (b + 1) (vFill (rI σ (b + 1)) 53 0) := ⟨_, rfl⟩
  obtain ⟨σ2, d2⟩ : ∃ z, z = rowI σ1 (b + 2) (vFill (rI σ1 (b + 2)) 212 0) := ⟨_, rfl⟩
  obtain ⟨σ3, d3⟩ : ∃ z, z = rowI σ2 (b + 3) (vFill (rI σ2 (b + 3)) 4 0) := ⟨_, rfl⟩
  obtain ⟨σ4, d4⟩ : ∃ z, z = rowI σ3 (b + 4) (vFill (rI σ3 (b + 4)) 52 0) := ⟨_, rfl⟩
  obtain ⟨σ5, d5⟩ : ∃ z, z = rowI σ4 (b + 5) (vFill (rI σ4 (b + 5)) 52 0) := ⟨_, rfl⟩
  have q1 : ∀ x j, rI σ1 x j = if x = b + 1 then vFill (rI σ (b + 1)) 53 0 j else rI σ x j := fun x j => by rw [d1, q_rI]
  have q2 : ∀ x j, rI σ2 x j = if x = b + 2 then vFill (rI σ1 (b + 2)) 212 0 j else rI σ1 x j := fun x j => by rw [d2, q_rI]
  have q3 : ∀ x j, rI σ3 x j = if x = b + 3 then vFill (rI σ2 (b + 3)) 4 0 j else rI σ2 x j := fun x j => by rw [d3, q_rI]
  have q4 : ∀ x j, rI σ4 x j = if x = b + 4 then vFill (rI σ3 (b + 4)) 52 0 j else rI σ3 x j := fun x j => by rw [d4, q_rI]
  have q5 : ∀ x j, rI σ5 x j = if x = b + 5 then vFill (rI σ4 (b + 5)) 52 0 j else rI σ4 x j := fun x j => by rw [d5, q_rI]
  have r1 : ∀ x j, x ≠ b + 1 → rI σ1 x j = rI σ x j := fun x j a => by rw [q1, if_neg a]
  have r2 : ∀ x j, x ≠ b + 2 → rI σ2 x j = rI σ1 x j := fun x j a => by rw [q2, if_neg a]
  have r3 : ∀ x j, x ≠ b + 3 → rI σ3 x j = rI σ2 x j := fun x j a => by rw [q3, if_neg a]
  have r4 : ∀ x j, x ≠ b + 4 → rI σ4 x j = rI σ3 x j := fun x j a => by rw [q4, if_neg a]
  have r5 : ∀ x j, x ≠ b + 5 → rI σ5 x j = rI σ4 x j := fun x j a => by rw [q5, if_neg a]
  have rb : ∀ j, rI σ5 b j = rI σ b j := fun j => by rw [r5 _ _ (by omega), r4 _ _ (by omega), r3 _ _ (by omega), r2 _ _ (by omega), r1 _ _ (by omega)]
  have Q0 : BQ σ5 b (fun _ => 0) (fun _ => 0) (fun _ => 0) (fun _ => 0) (fun _ => 0) D ps ts jl F X ch := by
    refine ⟨fun k hk => ?_, fun k hk => ?_, fun k hk => ?_, fun k hk => ?_, fun k hk => ?_, ⟨(rb _).trans h6, fun i d hi => ?_⟩, (rb _).trans h7, (rb _).trans h8, (rb _).trans h9, (rb _).trans h10, (rb _).trans h11, (rb _).trans h12⟩
    · rw [r5 _ _ (by omega), r4 _ _ (by omega), r3 _ _ (by omega), r2 _ _ (by omega), q1, if_pos rfl]; unfold vFill; rw [if_pos hk]; rfl
    · rw [r5 _ _ (by omega), r4 _ _ (by omega), r3 _ _ (by omega), q2, if_pos rfl]; unfold vFill; rw [if_pos hk]; rfl
    · rw [r5 _ _ (by omega), r4 _ _ (by omega), q3, if_pos rfl]; unfold vFill; rw [if_pos hk]; rfl
    · rw [r5 _ _ (by omega), q4, if_pos rfl]; unfold vFill; rw [if_pos hk]; rfl
    · rw [q5, if_pos rfl]; unfold vFill; rw [if_pos hk]; rfl
    · rw [r5 _ _ (by omega), r4 _ _ (by omega), r3 _ _ (by omega), r2 _ _ (by omega), r1 _ _ (by omega)]; exact h6' i d hi
  have Q1 := BQ_f6 Q0 [] D rfl
  have Q2 := BQ_f7 Q1 0
  have Q3 := BQ_f8 Q2 0
  have Q4 := BQ_f9 Q3 0
  have Q5 := BQ_f10 Q4 0
  have Q6 := BQ_f12 Q5 (ch + 1)
  refine ⟨_, ?_, Q6, ?_⟩
  · unfold f_X1_clear
    rw [oLet_eq, ← d1, oLet_eq, ← d2, oLet_eq, ← d3, oLet_eq, ← d4, oLet_eq, ← d5, oLet_eq, oLet_eq, oLet_eq, oLet_eq, oLet_eq, oLet_eq]
    have e : rI (wI (wI (wI (wI (wI σ5 b 6 0) b 7 0) b 8 0) b 9 0) b 10 0) b 12 = nI ch := Q5.2.2.2.2.2.2.2.2.2.2.2
    rw [e, nI_1]
    rfl
  · refine FrB2.tr (τ := σ5) ?_ ((((((Fr_f _ b 6 _).tr (Fr_f _ b 7 _)).tr (Fr_f _ b 8 _)).tr (Fr_f _ b 9 _)).tr (Fr_f _ b 10 _)).tr (Fr_f _ b 12 _))
    refine FrB2.tr (τ := σ4) ?_ (by rw [d5]; exact Fr_row _ ⟨by omega, by omega⟩ _)
    refine FrB2.tr (τ := σ3) ?_ (by rw [d4]; exact Fr_row _ ⟨by omega, by omega⟩ _)
    refine FrB2.tr (τ := σ2) ?_ (by rw [d3]; exact Fr_row _ ⟨by omega, by omega⟩ _)
    refine FrB2.tr (τ := σ1) ?_ (by rw [d2]; exact Fr_row _ ⟨by omega, by omega⟩ _)
    rw [d1]; exact Fr_row _ ⟨by omega, by omega⟩ _
theorem deal_go {b each n : Nat} (hn : n ≤ 4) (he : each ≤ 200) {B : Bd} (o : OkB B) : ∀ d i (σ : rS) ch m, i + d = n → BR σ b (deB each i B) ch → d < m → ∃ τ c, oLoop (b_X1_dealOut_68 b (nI each) (nI n)) m (nI i, σ) = some ((), τ) ∧ BR τ b (deB each n B) (ch + c) ∧ c ≤ each * d ∧ FrB2 b σ τ := by
  intro d
  induction d with
  | zero =>
    intro i σ ch m e H hm
    obtain ⟨m, rfl⟩ : ∃ m', m = m' + 1 := ⟨m - 1, by omega⟩
    have : i = n := e
    subst this
    refine ⟨σ, 0, oLoop_l ?_, H, Nat.zero_le _, FrB2.rf b σ⟩
    unfold b_X1_dealOut_68
    rw [if_pos (show nI i ≤ nI i from (nI_leI (by omega) (by omega)).mpr (Nat.le_refl _))]
  | succ d ih =>
    intro i σ ch m e H hm
    obtain ⟨m, rfl⟩ : ∃ m', m = m' + 1 := ⟨m - 1, by omega⟩
    have oi := deB_ok (each := each) i B (by omega) o
    obtain ⟨σ1, a1, a2, a3⟩ := drawUp_eq H oi (p := i) (by omega) he
    have le := (drUp_ok (p := i) (by omega) each _ oi).2
    obtain ⟨τ, c, b1, b2, b3, b4⟩ := ih (i + 1) σ1 _ m (by omega) a2 (by omega)
    refine ⟨τ, (drUp i each (deB each i B)).1 + c, ?_, by rw [← Nat.add_assoc]; exact b2, by rw [Nat.mul_succ]; omega, a3.tr b4⟩
    rw [oLoop_r (s' := (nI (i + 1), σ1))]
    · exact b1
    · unfold b_X1_dealOut_68
      rw [if_neg (show ¬ nI n ≤ nI i from fun z => by have := (nI_leI (by omega) (by omega)).mp z; omega)]
      dsimp only
      rw [a1, oB_some, nI_1]
theorem b0B_ok {hh jk seed : Nat} (h : hh ≤ 13) (hj : jk ≤ 3) (hs : seed < 65536) : OkB (b0B hh jk seed) := ⟨by show natSum (p0B hh jk) 53 ≤ 1000; rw [p0B_sum h]; omega, fun p _ => by show natSum (fun _ => 0) 53 ≤ 24; decide, hs⟩
theorem dealOut_eq {σ : rS} {b hh jk seed each n : Nat} {P R Z T J : Nat → Nat} {D : List (Nat × Nat)} {ps ts jl F X ch : Nat} (H : BQ σ b P R Z T J D ps ts jl F X ch) (h4 : rI σ 4 0 = nI hh) (h42 : rI σ 4 2 = nI jk) (h13 : hh ≤ 13) (hj : jk ≤ 3) (hb : 5 ≤ b) (hn : n ≤ 4) (he : each ≤ 200) (hs : seed < 65536) : ∃ τ c, f_X1_dealOut σ b (nI seed) (nI each) (nI n) = some ((), τ) ∧ BR τ b (deB each n (b0B hh jk seed)) (ch + c) ∧ 1 ≤ c ∧ c ≤ each * n + 1 ∧ FrB2 b σ τ := by
  obtain ⟨σ1, a1, a2, a3⟩ := clear_eq H
  have g4 : rI σ1 4 0 = nI hh := by rw [a3.2.2.2.2 4 0 (by omega), h4]
  have g42 : rI σ1 4 2 = nI jk := by rw [a3.2.2.2.2 4 2 (by omega), h42]
  obtain ⟨σ2, b1, b2, b3⟩ := fill_eq g4 g42 h13 hj hb a2
  have k4 : rI σ2 4 0 = nI hh := by rw [b3.2.2.2.2 4 0 (by omega), g4]
  have k42 : rI σ2 4 2 = nI jk := by rw [b3.2.2.2.2 4 2 (by omega), g42]
  obtain ⟨σ3, d3⟩ : ∃ z, z = wI σ2 (b + 1) 52 (nI jk) := ⟨_, rfl⟩
  have F3 : FrB2 b σ2 σ3 := by rw [d3]; exact ⟨rfl, rfl, rfl, rfl, fun x j q => by rw [fld_eq, if_neg (by omega)]⟩
  have l4 : rI σ3 4 0 = nI hh := by rw [F3.2.2.2.2 4 0 (by omega), k4]
  have l42 : rI σ3 4 2 = nI jk := by rw [F3.2.2.2.2 4 2 (by omega), k42]
  have Q3 : BQ σ3 b (p0B hh jk) (fun _ => 0) (fun _ => 0) (fun _ => 0) (fun _ => 0) [] 0 0 0 0 X (ch + 1) := by
    obtain ⟨h1, h2, h3, h4, h5, ⟨h6, h6'⟩, h7, h8, h9, h10, h11, h12⟩ := b2
    have q : ∀ x j, x ≠ b + 1 → rI σ3 x j = rI σ2 x j := fun x j a => by rw [d3, fld_eq, if_neg (by omega)]
    refine ⟨fun j hj => ?_, fun k hk => (q _ _ (by omega)).trans (h2 k hk), fun k hk => (q _ _ (by omega)).trans (h3 k hk), fun k hk => (q _ _ (by omega)).trans (h4 k hk), fun k hk => (q _ _ (by omega)).trans (h5 k hk), ⟨(q _ _ (by omega)).trans h6, fun i d hi => (q _ _ (by omega)).trans (h6' i d hi)⟩, (q _ _ (by omega)).trans h7, (q _ _ (by omega)).trans h8, (q _ _ (by omega)).trans h9, (q _ _ (by omega)).trans h10, (q _ _ (by omega)).trans h11, (q _ _ (by omega)).trans h12⟩
    rw [d3, fld_eq]
    by_cases e : j = 52
    · rw [if_pos ⟨rfl, e⟩, e]; rfl
    · rw [if_neg (fun z => e z.2), h1 j hj]
      show nI (if j < 52 then p0B hh jk j else 0) = _
      rw [if_pos (by omega)]
  have Q4 := BQ_f7 Q3 (8 * hh + jk)
  have Q5 := BQ_f11 Q4 seed
  have B5 : BR _ b (deB each 0 (b0B hh jk seed)) (ch + 1) := BQ_cg Q5 (fun _ _ => rfl) (fun _ _ => rfl) (fun _ _ => by show 0 = natSum (fun _ => 0) 53; decide) (fun _ _ => rfl) (fun _ _ => rfl) rfl (by show _ = natSum (p0B hh jk) 53; rw [p0B_sum h13]) (by show 0 = natSum (fun _ => 0) 52 + natSum (fun _ => 0) 52; decide) (by show 0 = natSum (fun _ => 0) 52; decide) rfl rfl rfl
  obtain ⟨τ, c, c1, c2, c3, c4⟩ := deal_go hn he (b0B_ok h13 hj hs) n 0 _ _ oFuel (by omega) B5 (by rw [oFuel_eq]; omega)
  refine ⟨τ, 1 + c, ?_, by rw [← Nat.add_assoc]; exact c2, by omega, by omega, ((((a3.tr b3).tr F3).tr (Fr_f _ b 7 _)).tr (Fr_f _ b 11 _)).tr c4⟩
  unfold f_X1_dealOut
  rw [a1, oB_some, b1, oJ_inr, k42, show (52 : Int32).toNatClampNeg = 52 from rfl, oLet_eq, ← d3]
  have ep : v_X5_pieces σ3 = nI (8 * hh + jk) := by unfold v_X5_pieces; rw [l4, l42, show (8 : Int32) = nI 8 from rfl, nI_mul, nI_add]
  rw [ep, oLet_eq, oLet_eq]
  exact c1
