/-! loops of programs -/
theorem oL {S R : Type} {body : S → Option (R ⊕ S)} (P : S → Prop) (μ : S → Nat) (Q : R → Prop) (h : ∀ s, P s → (∃ r, body s = some (.inl r) ∧ Q r) ∨ ∃ s', body s = some (.inr s') ∧ P s' ∧ μ s' < μ s) {n : Nat} {s : S} (hP : P s) (hn : μ s < n) : ∃ r, oLoop body n s = some r ∧ Q r := by
  induction n generalizing s with
  | zero => omega
  | succ n ih =>
    simp only [oLoop]
    rcases h s hP with ⟨r, h1, h2⟩ | ⟨s', h1, h2, h3⟩
    · exact ⟨r, by rw [h1], h2⟩
    · rw [h1]
      exact ih h2 (by omega)
/-- a loop that counts, its states known -/
theorem oL_up {S R : Type} {body : S → Option (R ⊕ S)} (st : Nat → S) {N : Nat} {r : R} (k0 : Nat) (hk : k0 ≤ N) (hs : ∀ k, k0 ≤ k → k < N → body (st k) = some (.inr (st (k + 1)))) (he : body (st N) = some (.inl r)) {n : Nat} (hn : N - k0 < n) : oLoop body n (st k0) = some r := by
  obtain ⟨d, hd⟩ : ∃ d, N = k0 + d := ⟨N - k0, by omega⟩
  induction d generalizing k0 n with
  | zero =>
    obtain ⟨n, rfl⟩ : ∃ m, n = m + 1 := ⟨n - 1, by omega⟩
    simp only [oLoop]
    rw [show k0 = N by omega, he]
  | succ d ih =>
    obtain ⟨n, rfl⟩ : ∃ m, n = m + 1 := ⟨n - 1, by omega⟩
    simp only [oLoop]
    rw [hs k0 (Nat.le_refl _) (by omega)]
    exact ih (k0 + 1) (by omega) (fun k h1 h2 => hs k (by omega) h2) (by omega) (by omega)
/-- a loop that counts, and may return before its end -/
theorem oL_find {S R : Type} {body : S → Option (R ⊕ S)} (st : Nat → S) {N : Nat} (Q : R → Prop) (k0 : Nat) (hk : k0 ≤ N) (hs : ∀ k, k0 ≤ k → k < N → body (st k) = some (.inr (st (k + 1))) ∨ ∃ r, body (st k) = some (.inl r) ∧ Q r) (he : ∃ r, body (st N) = some (.inl r) ∧ Q r) {n : Nat} (hn : N - k0 < n) : ∃ r, oLoop body n (st k0) = some r ∧ Q r := by
  obtain ⟨d, hd⟩ : ∃ d, N = k0 + d := ⟨N - k0, by omega⟩
  induction d generalizing k0 n with
  | zero =>
    obtain ⟨n, rfl⟩ : ∃ m, n = m + 1 := ⟨n - 1, by omega⟩
    obtain ⟨r, h1, h2⟩ := he
    simp only [oLoop]
    rw [show k0 = N by omega, h1]
    exact ⟨r, rfl, h2⟩
  | succ d ih =>
    obtain ⟨n, rfl⟩ : ∃ m, n = m + 1 := ⟨n - 1, by omega⟩
    simp only [oLoop]
    rcases hs k0 (Nat.le_refl _) (by omega) with h | ⟨r, h1, h2⟩
    · rw [h]
      exact ih (k0 + 1) (by omega) (fun k h1 h2 => hs k (by omega) h2) (by omega) (by omega)
    · rw [h1]
      exact ⟨r, rfl, h2⟩
theorem oFuel_eq : oFuel = 100000 := rfl
theorem oB_some {T R : Type} {v : T} {τ : rS} {g : T → rS → Option R} : oB (some (v, τ)) g = g v τ := rfl
theorem oB_of {T R : Type} {f : Option (T × rS)} {v : T} {τ : rS} {g : T → rS → Option R} (h : f = some (v, τ)) : oB f g = g v τ := by rw [h]; rfl
theorem oBx_inl {T T2 : Type} {v : T2} {τ : rS} {g : T2 → rS → Option ((T ⊕ String) × rS)} : oBx (some (.inl v, τ)) g = g v τ := rfl
theorem oBx_inr {T T2 : Type} {e : String} {τ : rS} {g : T2 → rS → Option ((T ⊕ String) × rS)} : oBx (some (.inr e, τ)) g = some (.inr e, τ) := rfl
theorem oJ_inl {R S : Type} {r : R} {g : S → Option R} : oJoin (some (.inl r)) g = some r := rfl
theorem oJ_inr {R S : Type} {s : S} {g : S → Option R} : oJoin (some (.inr s)) g = g s := rfl
theorem oJ_ite {R S : Type} {c : Prop} [d : Decidable c] {a b : Option (R ⊕ S)} {g : S → Option R} : oJoin (if c then a else b) g = if c then oJoin a g else oJoin b g := by split <;> rfl
theorem oLet_eq {α β : Type} (v : α) (f : α → β) : oLet v f = f v := rfl
/-! worlds read behind writes -/
theorem q_II (σ : rS) (a k : Nat) (v : Int32) (b j : Nat) : rI (wI σ a k v) b j = if b = a ∧ j = k then v else rI σ b j := by
  by_cases hb : b = a
  · subst hb
    by_cases hj : j = k
    · subst hj; rw [rI_s, if_pos ⟨rfl, rfl⟩]
    · rw [rI_o _ _ _ hj, if_neg (fun q => hj q.2)]
  · rw [if_neg (fun q => hb q.1)]
    exact rI_wIn hb
theorem q_LL (σ : rS) (a k : Nat) (v : Int64) (b j : Nat) : rL (wL σ a k v) b j = if b = a ∧ j = k then v else rL σ b j := by
  by_cases hb : b = a
  · subst hb
    by_cases hj : j = k
    · subst hj; rw [rL_s, if_pos ⟨rfl, rfl⟩]
    · rw [rL_o _ _ _ hj, if_neg (fun q => hj q.2)]
  · rw [if_neg (fun q => hb q.1)]
    exact rL_wLn hb
theorem q_RR (σ : rS) (a k v b j : Nat) : rR (wR σ a k v) b j = if b = a ∧ j = k then v else rR σ b j := rR_at σ a k v b j
theorem q_rI (σ : rS) (a : Nat) (f : Nat → Int32) (b j : Nat) : rI (rowI σ a f) b j = if b = a then f j else rI σ b j := by
  by_cases hb : b = a
  · subst hb; rw [if_pos rfl]; exact rI_rowk _ _ _ _
  · rw [if_neg hb]; exact rI_rowIn hb
theorem q_rL (σ : rS) (a : Nat) (f : Nat → Int64) (b j : Nat) : rL (rowL σ a f) b j = if b = a then f j else rL σ b j := by
  by_cases hb : b = a
  · subst hb; rw [if_pos rfl]; exact rL_rowk _ _ _ _
  · rw [if_neg hb]; exact rL_rowLn hb
theorem q_IL (σ : rS) (a k : Nat) (v : Int64) : rI (wL σ a k v) = rI σ := rfl
theorem q_IR (σ : rS) (a k v : Nat) : rI (wR σ a k v) = rI σ := rfl
theorem q_LI (σ : rS) (a k : Nat) (v : Int32) : rL (wI σ a k v) = rL σ := rfl
theorem q_LR (σ : rS) (a k v : Nat) : rL (wR σ a k v) = rL σ := rfl
theorem q_RI (σ : rS) (a k : Nat) (v : Int32) : rR (wI σ a k v) = rR σ := rfl
theorem q_RL (σ : rS) (a k : Nat) (v : Int64) : rR (wL σ a k v) = rR σ := rfl
theorem q_KI (σ : rS) (a k : Nat) (v : Int32) : rK (wI σ a k v) = rK σ := rfl
theorem q_KL (σ : rS) (a k : Nat) (v : Int64) : rK (wL σ a k v) = rK σ := rfl
theorem q_KR (σ : rS) (a k v : Nat) : rK (wR σ a k v) = rK σ := rfl
theorem q_NI (σ : rS) (a k : Nat) (v : Int32) : rN (wI σ a k v) = rN σ := rfl
theorem q_NL (σ : rS) (a k : Nat) (v : Int64) : rN (wL σ a k v) = rN σ := rfl
theorem q_NR (σ : rS) (a k v : Nat) : rN (wR σ a k v) = rN σ := rfl
theorem q_IrL (σ : rS) (a : Nat) (f : Nat → Int64) : rI (rowL σ a f) = rI σ := rfl
theorem q_LrI (σ : rS) (a : Nat) (f : Nat → Int32) : rL (rowI σ a f) = rL σ := rfl
theorem q_RrI (σ : rS) (a : Nat) (f : Nat → Int32) : rR (rowI σ a f) = rR σ := rfl
theorem q_RrL (σ : rS) (a : Nat) (f : Nat → Int64) : rR (rowL σ a f) = rR σ := rfl
theorem q_KrI (σ : rS) (a : Nat) (f : Nat → Int32) : rK (rowI σ a f) = rK σ := rfl
theorem q_KrL (σ : rS) (a : Nat) (f : Nat → Int64) : rK (rowL σ a f) = rK σ := rfl
theorem q_NrI (σ : rS) (a : Nat) (f : Nat → Int32) : rN (rowI σ a f) = rN σ := rfl
theorem q_NrL (σ : rS) (a : Nat) (f : Nat → Int64) : rN (rowL σ a f) = rN σ := rfl
/-! numbers -/
theorem nI_neg {n : Nat} (h : n < 2 ^ 31) : (nI n).toInt = (n : Int) := nI_toInt h
theorem i32_ext {a b : Int32} (h : a.toInt = b.toInt) : a = b := Int32.toInt_inj.mp h
theorem i32_nI {a : Int32} (h : 0 ≤ a.toInt) : a = nI a.toInt.toNat := by
  have h2 := Int32.toInt_lt a
  apply i32_ext
  rw [nI_toInt (by omega)]
  omega
theorem nI_inj {a b : Nat} (ha : a < 2 ^ 31) (hb : b < 2 ^ 31) (h : nI a = nI b) : a = b := (nI_eq ha hb).mp h
theorem vAt_nI {f : Nat → Int32} {n k : Nat} (hn : n < 2 ^ 31) (hk : k < n) : vAt f n (nI k) = f k := by
  unfold vAt
  rw [if_pos ⟨nI_pos' (by omega), by show nI k < nI n; exact nI_lt hk hn⟩, nI_clamp (by omega)]
theorem vAt_out {f : Nat → Int32} {n : Nat} {i : Int32} (h : i < 0 ∨ nI n ≤ i) : vAt f n i = 0 := by
  unfold vAt
  rw [if_neg]
  rintro ⟨h1, h2⟩
  rcases h with h | h
  · rw [Int32.lt_iff_toInt_lt] at h; rw [Int32.le_iff_toInt_le] at h1; omega
  · rw [Int32.le_iff_toInt_le] at h
    have h2 : i < nI n := h2
    rw [Int32.lt_iff_toInt_lt] at h2; omega
theorem vSet_nI {f : Nat → Int32} {n k : Nat} {x : Int32} (hn : n < 2 ^ 31) (hk : k < n) : vSet f n (nI k) x = va_up f k x := by
  unfold vSet
  rw [if_pos ⟨nI_pos' (by omega), by show nI k < nI n; exact nI_lt hk hn⟩, nI_clamp (by omega)]
theorem inB_nI {n k : Nat} (hn : n < 2 ^ 31) (hk : k < n) : inB (nI k) n := by
  unfold inB
  rw [nI_toInt (by omega)]
  omega
theorem up_at {α : Type} (f : Nat → α) (i : Nat) (x : α) (j : Nat) : va_up f i x j = if j = i then x else f j := by
  by_cases h : j = i
  · subst h; rw [up_same, if_pos rfl]
  · rw [up_other _ _ h, if_neg h]
theorem e_0 : (0 : Int32) = nI 0 := rfl
theorem e_1 : (1 : Int32) = nI 1 := rfl
theorem e_2 : (2 : Int32) = nI 2 := rfl
theorem e_3 : (3 : Int32) = nI 3 := rfl
theorem e_4 : (4 : Int32) = nI 4 := rfl
theorem e_5 : (5 : Int32) = nI 5 := rfl
theorem e_6 : (6 : Int32) = nI 6 := rfl
theorem e_7 : (7 : Int32) = nI 7 := rfl
theorem e_8 : (8 : Int32) = nI 8 := rfl
theorem e_9 : (9 : Int32) = nI 9 := rfl
theorem e_10 : (10 : Int32) = nI 10 := rfl
theorem e_11 : (11 : Int32) = nI 11 := rfl
theorem e_12 : (12 : Int32) = nI 12 := rfl
theorem e_13 : (13 : Int32) = nI 13 := rfl
theorem e_14 : (14 : Int32) = nI 14 := rfl
theorem e_15 : (15 : Int32) = nI 15 := rfl
theorem e_16 : (16 : Int32) = nI 16 := rfl
theorem e_17 : (17 : Int32) = nI 17 := rfl
theorem e_18 : (18 : Int32) = nI 18 := rfl
theorem e_19 : (19 : Int32) = nI 19 := rfl
theorem e_20 : (20 : Int32) = nI 20 := rfl
theorem e_21 : (21 : Int32) = nI 21 := rfl
theorem e_22 : (22 : Int32) = nI 22 := rfl
theorem e_23 : (23 : Int32) = nI 23 := rfl
theorem e_24 : (24 : Int32) = nI 24 := rfl
theorem e_25 : (25 : Int32) = nI 25 := rfl
theorem e_26 : (26 : Int32) = nI 26 := rfl
theorem e_27 : (27 : Int32) = nI 27 := rfl
theorem e_28 : (28 : Int32) = nI 28 := rfl
theorem e_29 : (29 : Int32) = nI 29 := rfl
theorem e_30 : (30 : Int32) = nI 30 := rfl
theorem e_31 : (31 : Int32) = nI 31 := rfl
theorem e_32 : (32 : Int32) = nI 32 := rfl
theorem e_33 : (33 : Int32) = nI 33 := rfl
theorem e_34 : (34 : Int32) = nI 34 := rfl
theorem e_35 : (35 : Int32) = nI 35 := rfl
theorem e_36 : (36 : Int32) = nI 36 := rfl
theorem e_37 : (37 : Int32) = nI 37 := rfl
theorem e_38 : (38 : Int32) = nI 38 := rfl
theorem e_39 : (39 : Int32) = nI 39 := rfl
theorem e_40 : (40 : Int32) = nI 40 := rfl
theorem e_41 : (41 : Int32) = nI 41 := rfl
theorem e_42 : (42 : Int32) = nI 42 := rfl
theorem e_43 : (43 : Int32) = nI 43 := rfl
theorem e_44 : (44 : Int32) = nI 44 := rfl
theorem e_45 : (45 : Int32) = nI 45 := rfl
theorem e_46 : (46 : Int32) = nI 46 := rfl
theorem e_47 : (47 : Int32) = nI 47 := rfl
theorem e_48 : (48 : Int32) = nI 48 := rfl
theorem e_49 : (49 : Int32) = nI 49 := rfl
theorem e_50 : (50 : Int32) = nI 50 := rfl
theorem e_51 : (51 : Int32) = nI 51 := rfl
theorem e_52 : (52 : Int32) = nI 52 := rfl
theorem e_53 : (53 : Int32) = nI 53 := rfl
theorem e_54 : (54 : Int32) = nI 54 := rfl
theorem e_55 : (55 : Int32) = nI 55 := rfl
theorem e_56 : (56 : Int32) = nI 56 := rfl
theorem e_57 : (57 : Int32) = nI 57 := rfl
theorem e_58 : (58 : Int32) = nI 58 := rfl
theorem e_59 : (59 : Int32) = nI 59 := rfl
theorem e_60 : (60 : Int32) = nI 60 := rfl
theorem e_61 : (61 : Int32) = nI 61 := rfl
theorem e_62 : (62 : Int32) = nI 62 := rfl
theorem e_63 : (63 : Int32) = nI 63 := rfl
theorem e_64 : (64 : Int32) = nI 64 := rfl
theorem e_81 : (81 : Int32) = nI 81 := rfl
theorem e_104 : (104 : Int32) = nI 104 := rfl
theorem e_128 : (128 : Int32) = nI 128 := rfl
theorem e_208 : (208 : Int32) = nI 208 := rfl
theorem e_212 : (212 : Int32) = nI 212 := rfl
theorem e_256 : (256 : Int32) = nI 256 := rfl
theorem e_512 : (512 : Int32) = nI 512 := rfl
theorem e_1024 : (1024 : Int32) = nI 1024 := rfl
theorem e_8738 : (8738 : Int32) = nI 8738 := rfl
theorem e_8739 : (8739 : Int32) = nI 8739 := rfl
theorem e_13107 : (13107 : Int32) = nI 13107 := rfl
theorem e_34952 : (34952 : Int32) = nI 34952 := rfl
theorem e_65535 : (65535 : Int32) = nI 65535 := rfl
theorem e_65536 : (65536 : Int32) = nI 65536 := rfl
theorem e_100000 : (100000 : Int32) = nI 100000 := rfl
theorem nI_mul (a b : Nat) : nI a * nI b = nI (a * b) := (Int32.ofNat_mul a b).symm
theorem nI_sub {a b : Nat} (h : b ≤ a) : nI a - nI b = nI (a - b) := by
  have e : nI a = nI (a - b) + nI b := by rw [nI_add]; congr 1; omega
  rw [e, Int32.add_sub_cancel]
theorem nI_lt' {a b : Nat} (ha : a < 2 ^ 31) (hb : b < 2 ^ 31) : nI a < nI b ↔ a < b := by
  rw [Int32.lt_iff_toInt_lt, nI_toInt ha, nI_toInt hb]
  omega
