/-! the reference: one number more -/
def dgM (w c : Nat) : Nat := w / 3 ^ c % 3
def w1M (bw : Bool) (n : Nat) : Nat := if bw then 100 * (n + 1) + 1 else 10000 + n + 1
def w2M (k : Nat) : Nat := if k < 26 then pwM k else 0
def w3M (k : Nat) : Nat := if k < 26 then 0 else pwM k
/-- what so many tiles more of a kind add to a value -/
def adM (pl bw : Bool) (n : Nat) (w : Nat) (v : V3) (c : Nat) : V3 := if pl then (v.1 + lN (dgM w c * w1M bw n), v.2.1 + lN (dgM w c * w2M (13 * c + n)), v.2.2 + lN (dgM w c * w3M (13 * c + n))) else v
def vwM (pl bw : Bool) (n w : Nat) (v : V3) (m : Nat) : V3 := (List.range m).foldl (adM pl bw n w) v
def caM (n : Nat) (ex : Nat → Nat) (w m : Nat) : Bool := (List.range m).all fun c => decide (dgM w c ≤ ex (13 * c + n))
theorem caM_s (n : Nat) (ex : Nat → Nat) (w m : Nat) : caM n ex w (m + 1) = (caM n ex w m && decide (dgM w m ≤ ex (13 * m + n))) := by
  unfold caM
  rw [List.range_succ, List.all_append]
  simp
theorem caM_at {n : Nat} {ex : Nat → Nat} {w m c : Nat} (h : caM n ex w m = true) (hc : c < m) : dgM w c ≤ ex (13 * c + n) := of_decide_eq_true (List.all_eq_true.mp h c (List.mem_range.mpr hc))
def FrD (σ τ : rS) : Prop := rK τ = rK σ ∧ rR τ = rR σ ∧ rN τ = rN σ ∧ rL τ = rL σ ∧ ∀ x j, x ≠ 108 → rI τ x j = rI σ x j
theorem FrD.rf (σ : rS) : FrD σ σ := ⟨rfl, rfl, rfl, rfl, fun _ _ _ => rfl⟩
theorem FrD.tr {σ τ υ : rS} (h : FrD σ τ) (g : FrD τ υ) : FrD σ υ := ⟨g.1.trans h.1, g.2.1.trans h.2.1, g.2.2.1.trans h.2.2.1, g.2.2.2.1.trans h.2.2.2.1, fun x j a => (g.2.2.2.2 x j a).trans (h.2.2.2.2 x j a)⟩
theorem lN_0 : lN 0 = 0 := rfl
theorem l64_z (x : Int64) : x + 0 = x := Int64.add_zero x
theorem bp (pl : Bool) : ((if pl then (1 : Int32) else 0) = 0) = (pl = false) := by cases pl <;> simp
theorem nu_in {σ : rS} {n w : Nat} {ex : Nat → Nat} (hex : ∀ c, c < 4 → rI σ 92 (13 * c + n) = nI (ex (13 * c + n))) (hx2 : ∀ k, ex k ≤ 2) (hn : n < 13) (hw : w < 81) (v : V3) (pl bw : Bool) : ∃ r, oLoop (b_X11_number_56 (nI n) (if pl then 1 else 0) (if bw then 1 else 0)) oFuel (nI w, 1, v.1, v.2.1, v.2.2, 0, σ) = some r ∧ ∃ τ, r = .inr ((if caM n ex w 4 then 1 else 0), (vwM pl bw n w v 4).1, (vwM pl bw n w v 4).2.1, (vwM pl bw n w v 4).2.2, τ) ∧ FrD σ τ ∧ ∀ c, c < 4 → rI τ 108 c = nI (dgM w c) := by
  refine oL_ix (N := 4) (fun k s => s = (nI (w / 3 ^ k), (if caM n ex w k then 1 else 0), (vwM pl bw n w v k).1, (vwM pl bw n w v k).2.1, (vwM pl bw n w v k).2.2, nI k, s.2.2.2.2.2.2) ∧ FrD σ s.2.2.2.2.2.2 ∧ ∀ c, c < k → rI s.2.2.2.2.2.2 108 c = nI (dgM w c)) _ ?_ ?_ (by decide) ⟨by simp [vwM, caM]; rfl, FrD.rf σ, fun c hc => absurd hc (Nat.not_lt_zero c)⟩
  · rintro k ⟨a1, a2, a3, a4, a5, a6, τ⟩ hk ⟨h1, h2, h3⟩
    dsimp only at h1 h2 h3
    simp only [Prod.mk.injEq, and_true] at h1
    obtain ⟨rfl, rfl, rfl, rfl, rfl, rfl⟩ := h1
    have hd : dgM w k < 3 := Nat.mod_lt _ (by decide)
    have hwk : w / 3 ^ k < 81 := Nat.lt_of_le_of_lt (Nat.div_le_self _ _) hw
    have q : ∀ x j, x ≠ 108 → rI τ x j = rI σ x j := h2.2.2.2.2
    have c1 : ¬ (4 : Int32) ≤ nI k := fun q => by have := (nI_leI (a := 4) (by omega) (by omega)).mp q; omega
    have c2 : (13 : Int32) * nI k + nI n = nI (13 * k + n) := by rw [show (13 : Int32) = nI 13 from rfl, nI_mul, nI_add]
    have c3 : iRem (nI (w / 3 ^ k)) 3 = nI (dgM w k) := by rw [show (3 : Int32) = nI 3 from rfl, nI_rem (by omega) (by decide)]; rfl
    have c4 : nI (w / 3 ^ k) / 3 = nI (w / 3 ^ (k + 1)) := by rw [show (3 : Int32) = nI 3 from rfl, nI_div (by omega) (by decide), Nat.div_div_eq_div_mul, Nat.pow_succ]
    have c5 : nI k + 1 = nI (k + 1) := nI_1 k
    have hkk : 13 * k + n < 52 := by omega
    have c6 : ((26 : Int32) ≤ nI (13 * k + n)) = (26 ≤ 13 * k + n) := propext (nI_leI (a := 26) (by omega) (by omega))
    have c7 : (nI (13 * k + n) < (26 : Int32)) = (13 * k + n < 26) := propext (nI_lt' (b := 26) (by omega) (by omega))
    have ex1 : rI (wI τ 108 k (nI (dgM w k))) 92 (13 * k + n) = nI (ex (13 * k + n)) := by rw [q_II, if_neg (fun z => absurd z.1 (by decide)), q 92 _ (by decide), hex k hk]
    have ex2 : rI (wI τ 108 k (nI (dgM w k))) 108 k = nI (dgM w k) := by rw [q_II, if_pos ⟨rfl, rfl⟩]
    have c8 : (nI (ex (13 * k + n)) < nI (dgM w k)) = ¬ (dgM w k ≤ ex (13 * k + n)) := propext ⟨fun z => by have := (nI_lt' (by have := hx2 (13 * k + n); omega) (by omega)).mp z; omega, fun z => (nI_lt' (by have := hx2 (13 * k + n); omega) (by omega)).mpr (by omega)⟩
    have hv : vwM pl bw n w v (k + 1) = adM pl bw n w (vwM pl bw n w v k) k := by unfold vwM; rw [range_foldl]
    have hW : (if bw = false then (10000 : Int64) + (nI n).toInt64 + 1 else (100 : Int64) * (nI n + 1).toInt64 + 1) = lN (w1M bw n) := by
      cases bw
      · rw [if_pos rfl, nI_l (by omega), show (10000 : Int64) = lN 10000 from rfl, lN_add, lN_1]; rfl
      · rw [if_neg (by decide), nI_1, nI_l (by omega), show (100 : Int64) = lN 100 from rfl, lN_mul, lN_1]; rfl
    refine ⟨(nI (w / 3 ^ (k + 1)), (if caM n ex w (k + 1) then 1 else 0), (vwM pl bw n w v (k + 1)).1, (vwM pl bw n w v (k + 1)).2.1, (vwM pl bw n w v (k + 1)).2.2, nI (k + 1), wI τ 108 k (nI (dgM w k))), ?_, rfl, ?_, ?_⟩
    · unfold b_X11_number_56
      dsimp only
      have hi1 : inB (nI k) 4 := inB_nI (by decide) hk
      have hi2 : inB (nI (13 * k + n)) 52 := inB_nI (by decide) hkk
      have cl1 : (nI k).toNatClampNeg = k := nI_clamp (by omega)
      have cl2 : (nI (13 * k + n)).toNatClampNeg = 13 * k + n := nI_clamp (by omega)
      rw [c2, c3, c4, c5, if_neg c1, if_pos hi1, cl1, oLet_eq]
      simp only [if_pos hi1, if_pos hi2, cl2, ex1, ex2, power_eq _ hkk, bp, c6, c7, c8, hW, Option.bind_some, oLet_eq]
      rw [hv, caM_s]
      unfold adM w2M w3M
      have hl := nI_l (show dgM w k < 2 ^ 31 by omega)
      have hcs : caM n ex w k = true ∨ caM n ex w k = false := by cases caM n ex w k <;> simp
      have hps : pl = true ∨ pl = false := by cases pl <;> simp
      by_cases h26 : 13 * k + n < 26
      · have h27 : ¬ 26 ≤ 13 * k + n := by omega
        rcases hcs with hc | hc <;> rcases hps with hp | hp <;> by_cases hz : dgM w k ≤ ex (13 * k + n) <;> simp [hc, hp, hz, h26, h27, oJoin, hl, lN_mul, lN_0, l64_z]
      · have h27 : 26 ≤ 13 * k + n := by omega
        rcases hcs with hc | hc <;> rcases hps with hp | hp <;> by_cases hz : dgM w k ≤ ex (13 * k + n) <;> simp [hc, hp, hz, h26, h27, oJoin, hl, lN_mul, lN_0, l64_z]
    · exact h2.tr ⟨rfl, rfl, rfl, rfl, fun x j a => by rw [q_II, if_neg (fun z => a z.1)]⟩
    · intro c hc
      dsimp only
      rw [q_II]
      by_cases hck : c = k
      · subst hck
        rw [if_pos ⟨rfl, rfl⟩]
      · rw [if_neg (fun z => hck z.2)]
        exact h3 c (by omega)
  · rintro ⟨a1, a2, a3, a4, a5, a6, τ⟩ ⟨h1, h2, h3⟩
    dsimp only at h1 h2 h3
    simp only [Prod.mk.injEq, and_true] at h1
    obtain ⟨rfl, rfl, rfl, rfl, rfl, rfl⟩ := h1
    refine ⟨_, ?_, τ, rfl, h2, h3⟩
    unfold b_X11_number_56
    dsimp only
    rw [if_pos (by decide)]
