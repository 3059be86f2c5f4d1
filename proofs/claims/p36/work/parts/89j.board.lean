/-! the class's board, piece by piece -/
abbrev up1 (f : Nat → Nat) (i x : Nat) : Nat → Nat := va_up f i x
def FrB2 (b : Nat) (σ τ : rS) : Prop := rK τ = rK σ ∧ rR τ = rR σ ∧ rN τ = rN σ ∧ rL τ = rL σ ∧ ∀ x j, ¬ (b ≤ x ∧ x ≤ b + 6) → rI τ x j = rI σ x j
theorem FrB2.rf (b : Nat) (σ : rS) : FrB2 b σ σ := ⟨rfl, rfl, rfl, rfl, fun _ _ _ => rfl⟩
theorem FrB2.tr {b : Nat} {σ τ υ : rS} (h : FrB2 b σ τ) (g : FrB2 b τ υ) : FrB2 b σ υ := ⟨g.1.trans h.1, g.2.1.trans h.2.1, g.2.2.1.trans h.2.2.1, g.2.2.2.1.trans h.2.2.2.1, fun x j a => (g.2.2.2.2 x j a).trans (h.2.2.2.2 x j a)⟩
/-- what the cells of a board hold -/
def BQ (σ : rS) (b : Nat) (P R Z T J : Nat → Nat) (D : List (Nat × Nat)) (ps ts jl F X ch : Nat) : Prop :=
  (∀ k, k < 53 → rI σ (b + 1) k = nI (P k)) ∧ (∀ i, i < 212 → rI σ (b + 2) i = nI (R i)) ∧ (∀ p, p < 4 → rI σ (b + 3) p = nI (Z p)) ∧ (∀ k, k < 52 → rI σ (b + 4) k = nI (T k)) ∧ (∀ k, k < 52 → rI σ (b + 5) k = nI (J k)) ∧
  (rI σ b 6 = nI D.length ∧ ∀ i d, D[i]? = some d → rI σ (b + 6) i = nI (64 * d.1 + d.2)) ∧ rI σ b 7 = nI ps ∧ rI σ b 8 = nI ts ∧ rI σ b 9 = nI jl ∧ rI σ b 10 = nI F ∧ rI σ b 11 = nI X ∧ rI σ b 12 = nI ch
theorem nI_m1 {n : Nat} (h : 1 ≤ n) : nI n + -1 = nI (n - 1) := by
  rw [← iI_nat, show (-1 : Int32) = iI (-1) from rfl, iI_add, ← iI_nat]
  congr 1
  omega
theorem nI_s1 {n : Nat} (h : 1 ≤ n) : nI n - 1 = nI (n - 1) := nI_sub h
theorem up1_at (f : Nat → Nat) (i x j : Nat) : up1 f i x j = if j = i then x else f j := up_at f i x j
/-- one field of a board -/
theorem fld_eq {σ : rS} {b k : Nat} {v : Int32} (x j : Nat) : rI (wI σ b k v) x j = if x = b ∧ j = k then v else rI σ x j := q_II σ b k v x j
theorem BQ_f7 {σ : rS} {b : Nat} {P R Z T J : Nat → Nat} {D : List (Nat × Nat)} {ps ts jl F X ch : Nat} (H : BQ σ b P R Z T J D ps ts jl F X ch) (v : Nat) : BQ (wI σ b 7 (nI v)) b P R Z T J D v ts jl F X ch := by
  obtain ⟨h1, h2, h3, h4, h5, ⟨h6, h6'⟩, h7, h8, h9, h10, h11, h12⟩ := H
  have q : ∀ x j, ¬ (x = b ∧ j = 7) → rI (wI σ b 7 (nI v)) x j = rI σ x j := fun x j a => by rw [fld_eq, if_neg a]
  exact ⟨fun k hk => (q _ _ (by omega)).trans (h1 k hk), fun k hk => (q _ _ (by omega)).trans (h2 k hk), fun k hk => (q _ _ (by omega)).trans (h3 k hk), fun k hk => (q _ _ (by omega)).trans (h4 k hk), fun k hk => (q _ _ (by omega)).trans (h5 k hk), ⟨(q _ _ (by omega)).trans h6, fun i d hi => (q _ _ (by omega)).trans (h6' i d hi)⟩, by rw [fld_eq, if_pos ⟨rfl, rfl⟩], (q _ _ (by omega)).trans h8, (q _ _ (by omega)).trans h9, (q _ _ (by omega)).trans h10, (q _ _ (by omega)).trans h11, (q _ _ (by omega)).trans h12⟩
theorem BQ_f8 {σ : rS} {b : Nat} {P R Z T J : Nat → Nat} {D : List (Nat × Nat)} {ps ts jl F X ch : Nat} (H : BQ σ b P R Z T J D ps ts jl F X ch) (v : Nat) : BQ (wI σ b 8 (nI v)) b P R Z T J D ps v jl F X ch := by
  obtain ⟨h1, h2, h3, h4, h5, ⟨h6, h6'⟩, h7, h8, h9, h10, h11, h12⟩ := H
  have q : ∀ x j, ¬ (x = b ∧ j = 8) → rI (wI σ b 8 (nI v)) x j = rI σ x j := fun x j a => by rw [fld_eq, if_neg a]
  exact ⟨fun k hk => (q _ _ (by omega)).trans (h1 k hk), fun k hk => (q _ _ (by omega)).trans (h2 k hk), fun k hk => (q _ _ (by omega)).trans (h3 k hk), fun k hk => (q _ _ (by omega)).trans (h4 k hk), fun k hk => (q _ _ (by omega)).trans (h5 k hk), ⟨(q _ _ (by omega)).trans h6, fun i d hi => (q _ _ (by omega)).trans (h6' i d hi)⟩, (q _ _ (by omega)).trans h7, by rw [fld_eq, if_pos ⟨rfl, rfl⟩], (q _ _ (by omega)).trans h9, (q _ _ (by omega)).trans h10, (q _ _ (by omega)).trans h11, (q _ _ (by omega)).trans h12⟩
theorem BQ_f9 {σ : rS} {b : Nat} {P R Z T J : Nat → Nat} {D : List (Nat × Nat)} {ps ts jl F X ch : Nat} (H : BQ σ b P R Z T J D ps ts jl F X ch) (v : Nat) : BQ (wI σ b 9 (nI v)) b P R Z T J D ps ts v F X ch := by
  obtain ⟨h1, h2, h3, h4, h5, ⟨h6, h6'⟩, h7, h8, h9, h10, h11, h12⟩ := H
  have q : ∀ x j, ¬ (x = b ∧ j = 9) → rI (wI σ b 9 (nI v)) x j = rI σ x j := fun x j a => by rw [fld_eq, if_neg a]
  exact ⟨fun k hk => (q _ _ (by omega)).trans (h1 k hk), fun k hk => (q _ _ (by omega)).trans (h2 k hk), fun k hk => (q _ _ (by omega)).trans (h3 k hk), fun k hk => (q _ _ (by omega)).trans (h4 k hk), fun k hk => (q _ _ (by omega)).trans (h5 k hk), ⟨(q _ _ (by omega)).trans h6, fun i d hi => (q _ _ (by omega)).trans (h6' i d hi)⟩, (q _ _ (by omega)).trans h7, (q _ _ (by omega)).trans h8, by rw [fld_eq, if_pos ⟨rfl, rfl⟩], (q _ _ (by omega)).trans h10, (q _ _ (by omega)).trans h11, (q _ _ (by omega)).trans h12⟩
theorem BQ_f10 {σ : rS} {b : Nat} {P R Z T J : Nat → Nat} {D : List (Nat × Nat)} {ps ts jl F X ch : Nat} (H : BQ σ b P R Z T J D ps ts jl F X ch) (v : Nat) : BQ (wI σ b 10 (nI v)) b P R Z T J D ps ts jl v X ch := by
  obtain ⟨h1, h2, h3, h4, h5, ⟨h6, h6'⟩, h7, h8, h9, h10, h11, h12⟩ := H
  have q : ∀ x j, ¬ (x = b ∧ j = 10) → rI (wI σ b 10 (nI v)) x j = rI σ x j := fun x j a => by rw [fld_eq, if_neg a]
  exact ⟨fun k hk => (q _ _ (by omega)).trans (h1 k hk), fun k hk => (q _ _ (by omega)).trans (h2 k hk), fun k hk => (q _ _ (by omega)).trans (h3 k hk), fun k hk => (q _ _ (by omega)).trans (h4 k hk), fun k hk => (q _ _ (by omega)).trans (h5 k hk), ⟨(q _ _ (by omega)).trans h6, fun i d hi => (q _ _ (by omega)).trans (h6' i d hi)⟩, (q _ _ (by omega)).trans h7, (q _ _ (by omega)).trans h8, (q _ _ (by omega)).trans h9, by rw [fld_eq, if_pos ⟨rfl, rfl⟩], (q _ _ (by omega)).trans h11, (q _ _ (by omega)).trans h12⟩
theorem BQ_f11 {σ : rS} {b : Nat} {P R Z T J : Nat → Nat} {D : List (Nat × Nat)} {ps ts jl F X ch : Nat} (H : BQ σ b P R Z T J D ps ts jl F X ch) (v : Nat) : BQ (wI σ b 11 (nI v)) b P R Z T J D ps ts jl F v ch := by
  obtain ⟨h1, h2, h3, h4, h5, ⟨h6, h6'⟩, h7, h8, h9, h10, h11, h12⟩ := H
  have q : ∀ x j, ¬ (x = b ∧ j = 11) → rI (wI σ b 11 (nI v)) x j = rI σ x j := fun x j a => by rw [fld_eq, if_neg a]
  exact ⟨fun k hk => (q _ _ (by omega)).trans (h1 k hk), fun k hk => (q _ _ (by omega)).trans (h2 k hk), fun k hk => (q _ _ (by omega)).trans (h3 k hk), fun k hk => (q _ _ (by omega)).trans (h4 k hk), fun k hk => (q _ _ (by omega)).trans (h5 k hk), ⟨(q _ _ (by omega)).trans h6, fun i d hi => (q _ _ (by omega)).trans (h6' i d hi)⟩, (q _ _ (by omega)).trans h7, (q _ _ (by omega)).trans h8, (q _ _ (by omega)).trans h9, (q _ _ (by omega)).trans h10, by rw [fld_eq, if_pos ⟨rfl, rfl⟩], (q _ _ (by omega)).trans h12⟩
theorem BQ_f12 {σ : rS} {b : Nat} {P R Z T J : Nat → Nat} {D : List (Nat × Nat)} {ps ts jl F X ch : Nat} (H : BQ σ b P R Z T J D ps ts jl F X ch) (v : Nat) : BQ (wI σ b 12 (nI v)) b P R Z T J D ps ts jl F X v := by
  obtain ⟨h1, h2, h3, h4, h5, ⟨h6, h6'⟩, h7, h8, h9, h10, h11, h12⟩ := H
  have q : ∀ x j, ¬ (x = b ∧ j = 12) → rI (wI σ b 12 (nI v)) x j = rI σ x j := fun x j a => by rw [fld_eq, if_neg a]
  exact ⟨fun k hk => (q _ _ (by omega)).trans (h1 k hk), fun k hk => (q _ _ (by omega)).trans (h2 k hk), fun k hk => (q _ _ (by omega)).trans (h3 k hk), fun k hk => (q _ _ (by omega)).trans (h4 k hk), fun k hk => (q _ _ (by omega)).trans (h5 k hk), ⟨(q _ _ (by omega)).trans h6, fun i d hi => (q _ _ (by omega)).trans (h6' i d hi)⟩, (q _ _ (by omega)).trans h7, (q _ _ (by omega)).trans h8, (q _ _ (by omega)).trans h9, (q _ _ (by omega)).trans h10, (q _ _ (by omega)).trans h11, by rw [fld_eq, if_pos ⟨rfl, rfl⟩]⟩
/-- the stack of what was done, shortened -/
theorem BQ_f6 {σ : rS} {b : Nat} {P R Z T J : Nat → Nat} {D : List (Nat × Nat)} {ps ts jl F X ch : Nat} (H : BQ σ b P R Z T J D ps ts jl F X ch) (D2 D3 : List (Nat × Nat)) (hD : D = D2 ++ D3) : BQ (wI σ b 6 (nI D2.length)) b P R Z T J D2 ps ts jl F X ch := by
  obtain ⟨h1, h2, h3, h4, h5, ⟨h6, h6'⟩, h7, h8, h9, h10, h11, h12⟩ := H
  have q : ∀ x j, ¬ (x = b ∧ j = 6) → rI (wI σ b 6 (nI D2.length)) x j = rI σ x j := fun x j a => by rw [fld_eq, if_neg a]
  exact ⟨fun k hk => (q _ _ (by omega)).trans (h1 k hk), fun k hk => (q _ _ (by omega)).trans (h2 k hk), fun k hk => (q _ _ (by omega)).trans (h3 k hk), fun k hk => (q _ _ (by omega)).trans (h4 k hk), fun k hk => (q _ _ (by omega)).trans (h5 k hk), ⟨by rw [fld_eq, if_pos ⟨rfl, rfl⟩], fun i d hi => (q _ _ (by omega)).trans (h6' i d (by rw [hD, List.getElem?_append_left (List.getElem?_eq_some_iff.mp hi).1]; exact hi))⟩, (q _ _ (by omega)).trans h7, (q _ _ (by omega)).trans h8, (q _ _ (by omega)).trans h9, (q _ _ (by omega)).trans h10, (q _ _ (by omega)).trans h11, (q _ _ (by omega)).trans h12⟩
theorem Fr_f (σ : rS) (b k : Nat) (v : Int32) : FrB2 b σ (wI σ b k v) := ⟨rfl, rfl, rfl, rfl, fun x j a => by rw [fld_eq, if_neg (by omega)]⟩
theorem Fr_row (σ : rS) {b a : Nat} (h : b ≤ a ∧ a ≤ b + 6) (f : Nat → Int32) : FrB2 b σ (rowI σ a f) := ⟨rfl, rfl, rfl, rfl, fun x j q => by rw [q_rI, if_neg (by omega)]⟩
/-- a tile to a rack, or from it -/
theorem give_eq {σ : rS} {b : Nat} {P R Z T J : Nat → Nat} {D : List (Nat × Nat)} {ps ts jl F X ch : Nat} (H : BQ σ b P R Z T J D ps ts jl F X ch) {p k r z : Nat} {by_ : Int32} (hp : p < 4) (hk : k < 53) (hr : nI (R (53 * p + k)) + by_ = nI r) (hz : nI (Z p) + by_ = nI z) : ∃ τ, f_X1_give σ b (nI p) (nI k) by_ = some ((), τ) ∧ BQ τ b P (up1 R (53 * p + k) r) (up1 Z p z) T J D ps ts jl F X (ch + 1) ∧ FrB2 b σ τ := by
  obtain ⟨h1, h2, h3, h4, h5, ⟨h6, h6'⟩, h7, h8, h9, h10, h11, h12⟩ := H
  have ei : nI p * 53 + nI k = nI (53 * p + k) := by rw [show (53 : Int32) = nI 53 from rfl, nI_mul, nI_add, Nat.mul_comm]
  have hi : 53 * p + k < 212 := by omega
  obtain ⟨σ1, d1⟩ : ∃ z, z = rowI σ (b + 2) (va_up (rI σ (b + 2)) (53 * p + k) (nI r)) := ⟨_, rfl⟩
  obtain ⟨σ2, d2⟩ : ∃ w, w = rowI σ1 (b + 3) (va_up (rI σ1 (b + 3)) p (nI z)) := ⟨_, rfl⟩
  have q1 : ∀ x j, x ≠ b + 2 → rI σ1 x j = rI σ x j := fun x j a => by rw [d1, q_rI, if_neg a]
  have q2 : ∀ x j, x ≠ b + 3 → rI σ2 x j = rI σ1 x j := fun x j a => by rw [d2, q_rI, if_neg a]
  have Q2 : BQ σ2 b P (up1 R (53 * p + k) r) (up1 Z p z) T J D ps ts jl F X ch := by
    have q : ∀ x j, x ≠ b + 2 → x ≠ b + 3 → rI σ2 x j = rI σ x j := fun x j a c => (q2 x j c).trans (q1 x j a)
    refine ⟨fun k hk => (q _ _ (by omega) (by omega)).trans (h1 k hk), fun i hi => ?_, fun j hj => ?_, fun k hk => (q _ _ (by omega) (by omega)).trans (h4 k hk), fun k hk => (q _ _ (by omega) (by omega)).trans (h5 k hk), ⟨(q _ _ (by omega) (by omega)).trans h6, fun i d hi => (q _ _ (by omega) (by omega)).trans (h6' i d hi)⟩, (q _ _ (by omega) (by omega)).trans h7, (q _ _ (by omega) (by omega)).trans h8, (q _ _ (by omega) (by omega)).trans h9, (q _ _ (by omega) (by omega)).trans h10, (q _ _ (by omega) (by omega)).trans h11, (q _ _ (by omega) (by omega)).trans h12⟩
    · rw [q2 _ _ (by omega), d1, q_rI, if_pos rfl, up_at, up1_at]
      split
      · rfl
      · exact h2 i hi
    · rw [d2, q_rI, if_pos rfl, up_at, up1_at]
      split
      · rfl
      · rw [q1 _ _ (by omega)]; exact h3 j hj
  refine ⟨wI σ2 b 12 (nI (ch + 1)), ?_, BQ_f12 Q2 _, ?_⟩
  · unfold f_X1_give
    rw [ei, vAt_nI (by decide) hi, h2 _ hi, hr, vSet_nI (by decide) hi, oLet_eq, ← d1, vAt_nI (by decide) hp, q1 _ _ (by omega), h3 p hp, hz, vSet_nI (by decide) hp, oLet_eq, ← d2, oLet_eq, Q2.2.2.2.2.2.2.2.2.2.2.2, nI_1]
  · refine FrB2.tr ?_ (Fr_f σ2 b 12 _)
    rw [d2, d1]
    exact FrB2.tr (Fr_row σ ⟨by omega, by omega⟩ _) (Fr_row _ ⟨by omega, by omega⟩ _)
theorem chgT_eq {σ : rS} {b : Nat} {P R Z T J : Nat → Nat} {D : List (Nat × Nat)} {ps ts jl F X ch : Nat} (H : BQ σ b P R Z T J D ps ts jl F X ch) {k r : Nat} {by_ : Int32} (hk : k < 52) (hr : nI (T k) + by_ = nI r) : ∃ τ, f_X1_change σ b (b + 4) (nI k) by_ = some ((), τ) ∧ BQ τ b P R Z (up1 T k r) J D ps ts jl F X (ch + 1) ∧ FrB2 b σ τ := by
  obtain ⟨h1, h2, h3, h4, h5, ⟨h6, h6'⟩, h7, h8, h9, h10, h11, h12⟩ := H
  obtain ⟨σ1, d1⟩ : ∃ z, z = rowI σ (b + 4) (va_up (rI σ (b + 4)) k (nI r)) := ⟨_, rfl⟩
  have q : ∀ x j, x ≠ b + 4 → rI σ1 x j = rI σ x j := fun x j a => by rw [d1, q_rI, if_neg a]
  have Q1 : BQ σ1 b P R Z (up1 T k r) J D ps ts jl F X ch := by
    refine ⟨fun k hk => (q _ _ (by omega)).trans (h1 k hk), fun k hk => (q _ _ (by omega)).trans (h2 k hk), fun k hk => (q _ _ (by omega)).trans (h3 k hk), fun i hi => ?_, fun k hk => (q _ _ (by omega)).trans (h5 k hk), ⟨(q _ _ (by omega)).trans h6, fun i d hi => (q _ _ (by omega)).trans (h6' i d hi)⟩, (q _ _ (by omega)).trans h7, (q _ _ (by omega)).trans h8, (q _ _ (by omega)).trans h9, (q _ _ (by omega)).trans h10, (q _ _ (by omega)).trans h11, (q _ _ (by omega)).trans h12⟩
    rw [d1, q_rI, if_pos rfl, up_at, up1_at]
    split
    · rfl
    · exact h4 i hi
  refine ⟨wI σ1 b 12 (nI (ch + 1)), ?_, BQ_f12 Q1 _, FrB2.tr (by rw [d1]; exact Fr_row σ ⟨by omega, by omega⟩ _) (Fr_f σ1 b 12 _)⟩
  unfold f_X1_change
  rw [vAt_nI (by decide) hk, h4 k hk, hr, vSet_nI (by decide) hk, oLet_eq, ← d1, oLet_eq, Q1.2.2.2.2.2.2.2.2.2.2.2, nI_1]
theorem chgJ_eq {σ : rS} {b : Nat} {P R Z T J : Nat → Nat} {D : List (Nat × Nat)} {ps ts jl F X ch : Nat} (H : BQ σ b P R Z T J D ps ts jl F X ch) {k r : Nat} {by_ : Int32} (hk : k < 52) (hr : nI (J k) + by_ = nI r) : ∃ τ, f_X1_change σ b (b + 5) (nI k) by_ = some ((), τ) ∧ BQ τ b P R Z T (up1 J k r) D ps ts jl F X (ch + 1) ∧ FrB2 b σ τ := by
  obtain ⟨h1, h2, h3, h4, h5, ⟨h6, h6'⟩, h7, h8, h9, h10, h11, h12⟩ := H
  obtain ⟨σ1, d1⟩ : ∃ z, z = rowI σ (b + 5) (va_up (rI σ (b + 5)) k (nI r)) := ⟨_, rfl⟩
  have q : ∀ x j, x ≠ b + 5 → rI σ1 x j = rI σ x j := fun x j a => by rw [d1, q_rI, if_neg a]
  have Q1 : BQ σ1 b P R Z T (up1 J k r) D ps ts jl F X ch := by
    refine ⟨fun k hk => (q _ _ (by omega)).trans (h1 k hk), fun k hk => (q _ _ (by omega)).trans (h2 k hk), fun k hk => (q _ _ (by omega)).trans (h3 k hk), fun k hk => (q _ _ (by omega)).trans (h4 k hk), fun i hi => ?_, ⟨(q _ _ (by omega)).trans h6, fun i d hi => (q _ _ (by omega)).trans (h6' i d hi)⟩, (q _ _ (by omega)).trans h7, (q _ _ (by omega)).trans h8, (q _ _ (by omega)).trans h9, (q _ _ (by omega)).trans h10, (q _ _ (by omega)).trans h11, (q _ _ (by omega)).trans h12⟩
    rw [d1, q_rI, if_pos rfl, up_at, up1_at]
    split
    · rfl
    · exact h5 i hi
  refine ⟨wI σ1 b 12 (nI (ch + 1)), ?_, BQ_f12 Q1 _, FrB2.tr (by rw [d1]; exact Fr_row σ ⟨by omega, by omega⟩ _) (Fr_f σ1 b 12 _)⟩
  unfold f_X1_change
  rw [vAt_nI (by decide) hk, h5 k hk, hr, vSet_nI (by decide) hk, oLet_eq, ← d1, oLet_eq, Q1.2.2.2.2.2.2.2.2.2.2.2, nI_1]
theorem note_eq {σ : rS} {b : Nat} {P R Z T J : Nat → Nat} {D : List (Nat × Nat)} {ps ts jl F X ch : Nat} (H : BQ σ b P R Z T J D ps ts jl F X ch) {h k : Nat} (hD : D.length < 64) : ∃ τ, f_X1_note σ b (nI h) (nI k) = some ((), τ) ∧ BQ τ b P R Z T J (D ++ [(h, k)]) ps ts jl F X ch ∧ FrB2 b σ τ := by
  obtain ⟨h1, h2, h3, h4, h5, ⟨h6, h6'⟩, h7, h8, h9, h10, h11, h12⟩ := H
  obtain ⟨σ1, d1⟩ : ∃ z, z = rowI σ (b + 6) (va_up (rI σ (b + 6)) D.length (nI (64 * h + k))) := ⟨_, rfl⟩
  have q : ∀ x j, x ≠ b + 6 → rI σ1 x j = rI σ x j := fun x j a => by rw [d1, q_rI, if_neg a]
  have q2 : ∀ x j, ¬ (x = b ∧ j = 6) → rI (wI σ1 b 6 (nI (D.length + 1))) x j = rI σ1 x j := fun x j a => by rw [fld_eq, if_neg a]
  have qq : ∀ x j, x ≠ b + 6 → ¬ (x = b ∧ j = 6) → rI (wI σ1 b 6 (nI (D.length + 1))) x j = rI σ x j := fun x j a c => (q2 x j c).trans (q x j a)
  refine ⟨wI σ1 b 6 (nI (D.length + 1)), ?_, ⟨fun k hk => (qq _ _ (by omega) (by omega)).trans (h1 k hk), fun k hk => (qq _ _ (by omega) (by omega)).trans (h2 k hk), fun k hk => (qq _ _ (by omega) (by omega)).trans (h3 k hk), fun k hk => (qq _ _ (by omega) (by omega)).trans (h4 k hk), fun k hk => (qq _ _ (by omega) (by omega)).trans (h5 k hk), ⟨by rw [fld_eq, if_pos ⟨rfl, rfl⟩, List.length_append]; rfl, fun i d hi => ?_⟩, (qq _ _ (by omega) (by omega)).trans h7, (qq _ _ (by omega) (by omega)).trans h8, (qq _ _ (by omega) (by omega)).trans h9, (qq _ _ (by omega) (by omega)).trans h10, (qq _ _ (by omega) (by omega)).trans h11, (qq _ _ (by omega) (by omega)).trans h12⟩, FrB2.tr (by rw [d1]; exact Fr_row σ ⟨by omega, by omega⟩ _) (Fr_f σ1 b 6 _)⟩
  · unfold f_X1_note
    have e : nI h * 64 + nI k = nI (64 * h + k) := by rw [show (64 : Int32) = nI 64 from rfl, nI_mul, nI_add, Nat.mul_comm]
    have c : ¬ (64 : Int32) < nI D.length + 1 := fun z => by rw [nI_1] at z; have := (nI_lt' (a := 64) (by omega) (by omega)).mp z; omega
    rw [h6, e, vSet_nI (by decide) hD, oLet_eq, ← d1, q _ _ (by omega), h6, if_neg c, oLet_eq, nI_1]
  · rw [q2 _ _ (by omega), d1, q_rI, if_pos rfl, up_at]
    by_cases e : i = D.length
    · subst e
      rw [if_pos rfl]
      rw [List.getElem?_append_right (Nat.le_refl _), Nat.sub_self] at hi
      cases hi
      rfl
    · rw [if_neg e]
      have hl := (List.getElem?_eq_some_iff.mp hi).1
      rw [List.length_append] at hl
      simp only [List.length_cons, List.length_nil] at hl
      rw [List.getElem?_append_left (by omega)] at hi
      exact h6' i d hi
