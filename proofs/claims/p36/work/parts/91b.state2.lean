/-! plain cells written; arguments in their ranges -/
theorem CI_w {σ : rS} {B : Bd} {E : List Ent} {dl : Option (Nat × Nat × Nat)} {m : Mem} {l : Nat → Int64} {ch : Nat} (H : CI σ B E dl m l ch) {a k : Nat} (h : dC a k) (v : Int32) : CI (wI σ a k v) B E dl (up2 m (cx a) (cj a k) v) l ch := by
  obtain ⟨h1, h2, h3, h4, h5, h6, B', ch', h7⟩ := H
  have q : ∀ x j, ¬ (x = a ∧ j = k) → rI (wI σ a k v) x j = rI σ x j := fun x j e => by rw [fld_eq, if_neg e]
  refine ⟨BQ_fr h1 fun x j _ _ => q x j (by omega), CeR_fr h2 fun x j _ => q x j (by omega), CdR_fr h3 fun x j _ => q x j (by omega), fun x j d => ?_, fun j hj k hk => h5 j hj k hk, ClI_fr h6 ⟨rfl, rfl, rfl, fun x j _ => q x j (by omega), fun _ _ _ => rfl⟩, B', ch', BQ_fr h7 fun x j _ _ => q x j (by omega)⟩
  rw [fld_eq, up2_at]
  by_cases e : x = a ∧ j = k
  · rw [if_pos e, e.1, e.2, if_pos ⟨rfl, rfl⟩]
  · rw [if_neg e, if_neg (fun z => e (c_inj d h z.1 z.2))]
    exact h4 x j d
theorem FrCl_w {σ : rS} {a k : Nat} (h : a ≠ 2 ∧ a < 67) (v : Int32) : FrCl σ (wI σ a k v) := ⟨fun x j d => by rw [fld_eq, if_neg (by omega)], fun _ _ _ => rfl, rfl⟩
/-- a number in a range of naturals -/
theorem vIn_of {v : Int32} {a b : Nat} (hb : b < 2 ^ 31) (h : ¬ vIn v (nI a) (nI b) = 0) (hab : a < 2 ^ 31) : ∃ q, a ≤ q ∧ q ≤ b ∧ v = nI q := by
  unfold vIn at h
  by_cases c : nI a ≤ v ∧ v ≤ nI b
  · obtain ⟨z, hz, e⟩ := iI_of v
    have c1 := c.1
    have c2 := c.2
    rw [e, ← iI_nat] at c1 c2
    have d1 := (iI_le ⟨by omega, by omega⟩ hz).mp c1
    have d2 := (iI_le hz ⟨by omega, by omega⟩).mp c2
    refine ⟨z.toNat, by omega, by omega, ?_⟩
    rw [e, ← iI_nat]
    congr 1
    omega
  · rw [if_neg c] at h; exact absurd rfl h
theorem vIn_in {q a b : Nat} (hb : b < 2 ^ 31) (h1 : a ≤ q) (h2 : q ≤ b) : vIn (nI q) (nI a) (nI b) = 1 := by
  unfold vIn
  rw [if_pos ⟨(nI_leI (by omega) (by omega)).mpr h1, (nI_leI (by omega) (by omega)).mpr h2⟩]
/-- who is a player -/
theorem vIn_pl {v : Int32} {n : Nat} (hn : n ≤ 4) (h : ¬ vIn v 0 (nI n - 1) = 0) : ∃ q, q < n ∧ v = nI q := by
  by_cases e : n = 0
  · subst e
    exfalso
    apply h
    unfold vIn
    rw [if_neg]
    intro c
    obtain ⟨z, hz, e⟩ := iI_of v
    have c1 := c.1
    have c2 := c.2
    rw [e, show (0 : Int32) = iI 0 from rfl] at c1
    rw [e, show nI 0 - 1 = iI (-1) from rfl] at c2
    have d1 := (iI_le ⟨by omega, by omega⟩ hz).mp c1
    have d2 := (iI_le hz ⟨by omega, by omega⟩).mp c2
    omega
  · rw [nI_s1 (by omega)] at h
    obtain ⟨q, -, h2, h3⟩ := vIn_of (a := 0) (by omega) h (by decide)
    exact ⟨q, by omega, h3⟩
theorem le51 {k : Int32} (c2 : ¬ 52 ≤ k) : k ≤ 51 := by
  obtain ⟨z, hz, e⟩ := iI_of k
  rw [e] at c2 ⊢
  rw [show (52 : Int32) = iI 52 from rfl] at c2
  rw [show (51 : Int32) = iI 51 from rfl]
  have : ¬ (52 : Int) ≤ z := fun w => c2 ((iI_le ⟨by omega, by omega⟩ hz).mpr w)
  exact (iI_le hz ⟨by omega, by omega⟩).mpr (by omega)
theorem isKind_of {σ : rS} {hh : Nat} {k : Int32} (h : rI σ 4 0 = nI hh) (h13 : hh ≤ 13) (hk : ¬ v_X5_isKind σ k = 0) : ∃ q, q < 52 ∧ q % 13 < hh ∧ k = nI q := by
  unfold v_X5_isKind at hk
  by_cases c1 : k < 0
  · rw [if_pos c1] at hk; exact absurd rfl hk
  · rw [if_neg c1] at hk
    by_cases c2 : 52 ≤ k
    · rw [if_pos c2] at hk; exact absurd rfl hk
    · rw [if_neg c2] at hk
      obtain ⟨q, -, g1, g2⟩ := vIn_of (v := k) (a := 0) (b := 51) (by decide) (by
        unfold vIn
        rw [if_pos ⟨Int32.not_lt.mp c1, le51 c2⟩]
        decide) (by decide)
      refine ⟨q, by omega, ?_, g2⟩
      rw [g2, h, show (13 : Int32) = nI 13 from rfl, nI_rem (by omega) (by omega)] at hk
      by_cases c3 : hh ≤ q % 13
      · rw [if_pos ((nI_leI (by omega) (by omega)).mpr c3)] at hk; exact absurd rfl hk
      · omega
