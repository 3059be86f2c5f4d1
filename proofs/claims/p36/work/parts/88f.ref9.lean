/-! the reference: groups and runs of a number -/
theorem oL_ix {S R : Type} {body : S → Option (R ⊕ S)} (P : Nat → S → Prop) {N : Nat} (Q : R → Prop) (hs : ∀ k s, k < N → P k s → ∃ s', body s = some (.inr s') ∧ P (k + 1) s') (he : ∀ s, P N s → ∃ r, body s = some (.inl r) ∧ Q r) {n : Nat} (hn : N < n) {s : S} (h0 : P 0 s) : ∃ r, oLoop body n s = some r ∧ Q r := by
  have key : ∀ d k n s, k + d = N → d < n → P k s → ∃ r, oLoop body n s = some r ∧ Q r := by
    intro d
    induction d with
    | zero =>
      intro k n s hk hn hP
      obtain ⟨n, rfl⟩ : ∃ m, n = m + 1 := ⟨n - 1, by omega⟩
      have e : k = N := by omega
      subst e
      obtain ⟨r, h1, h2⟩ := he s hP
      exact ⟨r, oLoop_l h1, h2⟩
    | succ d ih =>
      intro k n s hk hn hP
      obtain ⟨n, rfl⟩ : ∃ m, n = m + 1 := ⟨n - 1, by omega⟩
      obtain ⟨s', h1, h2⟩ := hs k s (by omega) hP
      rw [oLoop_r h1]
      exact ih (k + 1) n s' (by omega) (by omega) h2
  exact key N 0 n s (by omega) hn h0
/-- a loop that may return before its end -/
theorem oL_ixE {S R : Type} {body : S → Option (R ⊕ S)} (P : Nat → S → Prop) {N : Nat} (Q : R → Prop) (hs : ∀ k s, k < N → P k s → (∃ s', body s = some (.inr s') ∧ P (k + 1) s') ∨ ∃ r, body s = some (.inl r) ∧ Q r) (he : ∀ s, P N s → ∃ r, body s = some (.inl r) ∧ Q r) {n : Nat} (hn : N < n) {s : S} (h0 : P 0 s) : ∃ r, oLoop body n s = some r ∧ Q r := by
  have key : ∀ d k n s, k + d = N → d < n → P k s → ∃ r, oLoop body n s = some r ∧ Q r := by
    intro d
    induction d with
    | zero =>
      intro k n s hk hn hP
      obtain ⟨n, rfl⟩ : ∃ m, n = m + 1 := ⟨n - 1, by omega⟩
      have e : k = N := by omega
      subst e
      obtain ⟨r, h1, h2⟩ := he s hP
      exact ⟨r, oLoop_l h1, h2⟩
    | succ d ih =>
      intro k n s hk hn hP
      obtain ⟨n, rfl⟩ : ∃ m, n = m + 1 := ⟨n - 1, by omega⟩
      rcases hs k s (by omega) hP with ⟨s', h1, h2⟩ | ⟨r, h1, h2⟩
      · rw [oLoop_r h1]
        exact ih (k + 1) n s' (by omega) (by omega) h2
      · exact ⟨r, oLoop_l h1, h2⟩
  exact key N 0 n s (by omega) hn h0
/-- the tiles that the groups of a pattern take, and how many groups -/
def usL : List V4 := [(0, 0, 0, 0), (0, 1, 1, 1), (0, 2, 2, 2), (1, 0, 1, 1), (1, 1, 2, 2), (2, 0, 2, 2), (1, 1, 0, 1), (1, 2, 1, 2), (2, 1, 1, 2), (2, 2, 0, 2), (1, 1, 1, 0), (1, 2, 2, 1), (2, 1, 2, 1), (2, 2, 1, 1), (2, 2, 2, 0), (1, 1, 1, 1), (1, 2, 2, 2), (2, 1, 2, 2), (2, 2, 1, 2), (2, 2, 2, 1), (2, 2, 2, 2)]
def usG (p : Nat) : V4 := usL.getD p (0, 0, 0, 0)
def ubL : List Nat := [0, 1, 2, 1, 2, 2, 1, 2, 2, 2, 1, 2, 2, 2, 2, 1, 2, 2, 2, 2, 2]
def usN (p : Nat) : Nat := ubL.getD p 0
theorem usG_le (p : Nat) : le4 (usG p) := by
  by_cases h : p < 21
  · have : ∀ p, p < 21 → le4 (usG p) := by unfold le4; decide
    exact this p h
  · have : usG p = (0, 0, 0, 0) := by
      unfold usG
      rw [List.getD_eq_getElem?_getD, List.getElem?_eq_none (by show (21 : Nat) ≤ p; omega)]
      rfl
    rw [this]; exact ⟨by decide, by decide, by decide, by decide⟩
/-- what is left to runs -/
def ruM (b e : Nat → Nat) (u : V4) (c : Nat) : Nat := b c + e c - at4 u c
def fiM (b e : Nat → Nat) (u : V4) (m : Nat) : Bool := (List.range m).all fun c => decide (at4 u c ≤ b c + e c)
theorem fiM_s (b e : Nat → Nat) (u : V4) (m : Nat) : fiM b e u (m + 1) = (fiM b e u m && decide (at4 u m ≤ b m + e m)) := by
  unfold fiM
  rw [List.range_succ, List.all_append]
  simp
theorem fiM_at {b e : Nat → Nat} {u : V4} {m c : Nat} (h : fiM b e u m = true) (hc : c < m) : at4 u c ≤ b c + e c := by
  unfold fiM at h
  have := List.all_eq_true.mp h c (List.mem_range.mpr hc)
  exact of_decide_eq_true this
def FrB (σ τ : rS) : Prop := rK τ = rK σ ∧ rR τ = rR σ ∧ rN τ = rN σ ∧ rL τ = rL σ ∧ ∀ x j, x ≠ 107 → rI τ x j = rI σ x j
theorem FrB.rf (σ : rS) : FrB σ σ := ⟨rfl, rfl, rfl, rfl, fun _ _ _ => rfl⟩
theorem FrB.tr {σ τ υ : rS} (h : FrB σ τ) (g : FrB τ υ) : FrB σ υ := ⟨g.1.trans h.1, g.2.1.trans h.2.1, g.2.2.1.trans h.2.2.1, g.2.2.2.1.trans h.2.2.2.1, fun x j a => (g.2.2.2.2 x j a).trans (h.2.2.2.2 x j a)⟩
theorem i32_sub_lt {a b : Nat} (ha : a < 1000) (hb : b < 1000) : (nI a - nI b < 0) = ¬ (b ≤ a) := by
  rw [← iI_nat, ← iI_nat, iI_sub, show (0 : Int32) = iI 0 from rfl, iI_lt ⟨by omega, by omega⟩ ⟨by omega, by omega⟩]
  exact propext ⟨fun h => by omega, fun h => by omega⟩
/-- what groupsAndRuns leaves alone -/
def FrN7 (σ τ : rS) : Prop := rK τ = rK σ ∧ rR τ = rR σ ∧ rN τ = rN σ ∧ (∀ x j, x ≠ 103 → x ≠ 104 → x ≠ 107 → x ≠ 110 → x ≠ 111 → x ≠ 112 → x ≠ 113 → (x = 67 → j ≠ 56 ∧ j ≠ 65) → rI τ x j = rI σ x j) ∧ ∀ x j, x ≠ 100 → x ≠ 101 → x ≠ 102 → rL τ x j = rL σ x j
theorem FrN7.rf (σ : rS) : FrN7 σ σ := ⟨rfl, rfl, rfl, fun _ _ _ _ _ _ _ _ _ _ => rfl, fun _ _ _ _ _ => rfl⟩
theorem FrN7.tr {σ τ υ : rS} (h : FrN7 σ τ) (g : FrN7 τ υ) : FrN7 σ υ := ⟨g.1.trans h.1, g.2.1.trans h.2.1, g.2.2.1.trans h.2.2.1, fun x j a b c d e f k i => (g.2.2.2.1 x j a b c d e f k i).trans (h.2.2.2.1 x j a b c d e f k i), fun x j a b c => (g.2.2.2.2 x j a b c).trans (h.2.2.2.2 x j a b c)⟩
theorem FrN7_N {σ τ : rS} (f : FrN σ τ) : FrN7 σ τ := ⟨f.1, f.2.1, f.2.2.1, fun x j a b _ d e f' k i => f.2.2.2.1 x j a b d e f' k i, f.2.2.2.2⟩
theorem FrN7_B {σ τ : rS} (f : FrB σ τ) : FrN7 σ τ := ⟨f.1, f.2.1, f.2.2.1, fun x j _ _ c _ _ _ _ _ => f.2.2.2.2 x j c, fun x j _ _ _ => by rw [f.2.2.2.1]⟩
theorem ShM.fr7 {σ τ : rS} {L : Nat} (H : ShM σ L) (f : FrN7 σ τ) : ShM τ L := by
  have q : ∀ x j, x ≠ 103 → x ≠ 104 → x ≠ 107 → x ≠ 110 → x ≠ 111 → x ≠ 112 → x ≠ 113 → (x = 67 → j ≠ 56 ∧ j ≠ 65) → rI τ x j = rI σ x j := f.2.2.2.1
  exact ⟨(q 67 2 (by decide) (by decide) (by decide) (by decide) (by decide) (by decide) (by decide) (fun _ => by decide)).trans H.1, H.2.1, fun i hi => ⟨(q 89 i (by decide) (by decide) (by decide) (by decide) (by decide) (by decide) (by decide) (fun z => absurd z (by decide))).trans (H.2.2 i hi).1, (q 90 i (by decide) (by decide) (by decide) (by decide) (by decide) (by decide) (by decide) (fun z => absurd z (by decide))).trans (H.2.2 i hi).2⟩⟩
def grS (pl : Bool) (L : Nat) (b e : Nat → Nat) (k : Nat) (v : V3) (l : List (Nat × V3)) (p : Nat) : List (Nat × V3) := if fiM b e (usG p) 4 then putsM pl v (emM L k (ruM b e (usG p)) (usN p)) l else l
def grM (pl : Bool) (L : Nat) (b e : Nat → Nat) (k : Nat) (v : V3) (l : List (Nat × V3)) : List (Nat × V3) := (List.range 21).foldl (grS pl L b e k v) l
