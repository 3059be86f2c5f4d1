/-! what the sweep reads -/
/-- the kind of a colour and a number, if there is one -/
def sKd (h c n : Nat) : Option Nat := if 1 ≤ n ∧ n ≤ h then some (13 * c + n - 1) else none
theorem sKd_lt {h c n k : Nat} (h13 : h ≤ 13) (hc : c < 4) (hk : sKd h c n = some k) : k < 52 := by
  unfold sKd at hk
  split at hk
  · cases hk; omega
  · cases hk
def sK32 (o : Option Nat) : Int32 := match o with
  | some k => nI k
  | none => -1
theorem kindOf_eq {σ : rS} {h c n : Nat} (hh : rI σ 37 16 = nI h) (h13 : h ≤ 13) (hc : c < 4) (hn : n ≤ 40) : v_X9_kindOf σ (nI c) (nI n) = sK32 (sKd h c n) := by
  unfold v_X9_kindOf sKd
  rw [hh]
  by_cases h1 : 1 ≤ n
  · by_cases h2 : n ≤ h
    · rw [if_neg ?_, if_neg ?_, if_pos ⟨h1, h2⟩]
      · simp (disch := omega) only [e_0, e_1, e_2, e_3, e_4, e_9, e_13, e_21, e_27, e_52, nI_mul, nI_add, nI_sub, nI_lt', nI_leI, nI_eq]; rfl
      · simp (disch := omega) only [e_0, e_1, e_2, e_3, e_4, e_9, e_13, e_21, e_27, e_52, nI_mul, nI_add, nI_sub, nI_lt', nI_leI, nI_eq]; omega
      · simp (disch := omega) only [e_0, e_1, e_2, e_3, e_4, e_9, e_13, e_21, e_27, e_52, nI_mul, nI_add, nI_sub, nI_lt', nI_leI, nI_eq]; omega
    · rw [if_neg ?_, if_pos ?_, if_neg (fun q => h2 q.2)]
      · rfl
      · simp (disch := omega) only [e_0, e_1, e_2, e_3, e_4, e_9, e_13, e_21, e_27, e_52, nI_mul, nI_add, nI_sub, nI_lt', nI_leI, nI_eq]; omega
      · simp (disch := omega) only [e_0, e_1, e_2, e_3, e_4, e_9, e_13, e_21, e_27, e_52, nI_mul, nI_add, nI_sub, nI_lt', nI_leI, nI_eq]; omega
  · rw [if_pos ?_, if_neg (fun q => h1 q.1)]
    · rfl
    · simp (disch := omega) only [e_0, e_1, e_2, e_3, e_4, e_9, e_13, e_21, e_27, e_52, nI_mul, nI_add, nI_sub, nI_lt', nI_leI, nI_eq]; omega
theorem vAt_kd {f : Nat → Int32} {g : Nat → Nat} {h c n : Nat} (h13 : h ≤ 13) (hc : c < 4) (hf : ∀ k, k < 52 → f k = nI (g k)) : vAt f 52 (sK32 (sKd h c n)) = nI (match sKd h c n with | some k => g k | none => 0) := by
  cases hk : sKd h c n with
  | none => exact vAt_out (Or.inl (by decide))
  | some k =>
    have hlt := sKd_lt h13 hc hk
    show vAt f 52 (nI k) = nI (g k)
    rw [← hf k hlt]
    exact vAt_nI (n := 52) (by decide) hlt
/-- how many tiles there are of a number, and may be -/
def sLo (lo : Nat → Nat) (h c n : Nat) : Nat := match sKd h c n with
  | some k => lo k
  | none => 0
def sMo (md : Nat) (lo hi : Nat → Nat) (h c n : Nat) : Nat := match sKd h c n with
  | some k => if md = 3 then min 2 (lo k + 1) else hi k
  | none => 0
/-- what the sweep is told: least, highest, mode, by worth or not, the rows of what there is and of what may be -/
def SwC (σ : rS) (L h md : Nat) (bw : Bool) (lo hi : Nat → Nat) : Prop :=
  (rI σ 37 16 = nI h ∧ h ≤ 13) ∧ (rI σ 37 17 = nI md ∧ md ≤ 4) ∧ rI σ 37 18 = (if bw then 1 else 0) ∧ (∀ k, k < 52 → rI σ 48 k = nI (lo k)) ∧ (∀ k, k < 52 → rI σ 49 k = nI (hi k)) ∧ (∀ k, lo k ≤ 2 ∧ hi k ≤ 2 ∧ lo k ≤ hi k) ∧ (∀ g, g < 21 → rI σ 1 g = gr g) ∧ (L = 3 ∨ L = 4)
  ∧ rR σ 37 14 = (if L = 4 then 43 else 38) ∧ (∀ i, i < 27 → rI σ (rR σ 37 14 + 4) i = (tbHo L).getD i 0)
theorem lo_eq {σ : rS} {L h md : Nat} {bw : Bool} {lo hi : Nat → Nat} (H : SwC σ L h md bw lo hi) {c n : Nat} (hc : c < 4) (hn : n ≤ 40) : vAt (rI σ 48) 52 (v_X9_kindOf σ (nI c) (nI n)) = nI (sLo lo h c n) := by
  rw [kindOf_eq H.1.1 H.1.2 hc hn]
  exact vAt_kd H.1.2 hc H.2.2.2.1
theorem sLo_le {lo : Nat → Nat} {h c n : Nat} (hl : ∀ k, lo k ≤ 2) : sLo lo h c n ≤ 2 := by
  unfold sLo; split
  · exact hl _
  · omega
theorem sMo_le {md : Nat} {lo hi : Nat → Nat} {h c n : Nat} (hl : ∀ k, hi k ≤ 2) : sMo md lo hi h c n ≤ 2 := by
  unfold sMo; split
  · split
    · omega
    · exact hl _
  · omega
theorem sLo_sMo {md : Nat} {lo hi : Nat → Nat} {h c n : Nat} (hl : ∀ k, lo k ≤ 2 ∧ lo k ≤ hi k) : sLo lo h c n ≤ sMo md lo hi h c n := by
  unfold sLo sMo
  cases sKd h c n with
  | none => simp
  | some k =>
    have := hl k
    dsimp only
    split <;> omega
theorem mostOf_eq {σ : rS} {L h md : Nat} {bw : Bool} {lo hi : Nat → Nat} (H : SwC σ L h md bw lo hi) {c n : Nat} (hc : c < 4) (hn : n ≤ 40) : v_X9_mostOf σ (nI c) (nI n) = nI (sMo md lo hi h c n) := by
  obtain ⟨⟨h1, h13⟩, ⟨h2, h4⟩, -, hlo, hhi, hb, -⟩ := H
  unfold v_X9_mostOf sMo
  rw [kindOf_eq h1 h13 hc hn, h2]
  by_cases hm : md = 3
  · rw [if_pos (by rw [hm]; rfl)]
    cases hk : sKd h c n with
    | none =>
      show (if (-1 : Int32) = -1 then _ else _) = _
      rw [if_pos rfl]
      exact vAt_out (Or.inl (by decide))
    | some k =>
      have hlt := sKd_lt h13 hc hk
      show (if nI k = -1 then _ else _) = _
      rw [if_neg (fun q => by have := congrArg Int32.toInt q; rw [nI_toInt (by omega)] at this; have e : (-1 : Int32).toInt = -1 := rfl; omega)]
      show (if vAt (rI σ 48) 52 (nI k) + 1 < 2 then vAt (rI σ 48) 52 (nI k) + 1 else 2) = _
      rw [vAt_nI (n := 52) (by decide) hlt, hlo k hlt]
      dsimp only
      rw [if_pos hm]
      have := hb k
      simp (disch := omega) only [e_0, e_1, e_2, e_3, e_4, e_9, e_13, e_21, e_27, e_52, nI_mul, nI_add, nI_sub, nI_lt', nI_leI, nI_eq]
      by_cases h5 : lo k + 1 < 2
      · rw [if_pos h5]; congr 1; omega
      · rw [if_neg h5]; congr 1; omega
  · have e3 : ¬ nI md = 3 := fun q => hm (nI_inj (b := 3) (by omega) (by omega) q)
    rw [if_neg e3]
    rw [vAt_kd h13 hc hhi]
    cases hk : sKd h c n with
    | none => rfl
    | some k => dsimp only; rw [if_neg hm]
/-- whether runs can grow full, of states of one colour: a bit each -/
def sHo (L a b c : Nat) : Int32 := (tbHo L).getD (9 * a + 3 * b + c) 0
theorem hope_eq {σ : rS} {L h md : Nat} {bw : Bool} {lo hi : Nat → Nat} (H : SwC σ L h md bw lo hi) {a b c : Nat} (ha : a ≤ 2) (hb : b ≤ 2) (hc : c ≤ 2) : v_X8_hopefulWith σ (rR σ 37 14) (nI a) (nI b) (nI c) = sHo L a b c := by
  obtain ⟨-, -, -, -, -, -, -, -, -, ht⟩ := H
  unfold v_X8_hopefulWith sHo
  simp (disch := omega) only [e_0, e_1, e_2, e_3, e_4, e_9, e_13, e_21, e_27, e_52, nI_mul, nI_add, nI_sub, nI_lt', nI_leI, nI_eq]
  rw [vAt_nI (n := 27) (by decide) (by omega)]
  exact ht _ (by omega)
