/-! the reference: what is come to, as a list -/
abbrev V3 : Type := Int64 × Int64 × Int64
/-- how the values of two ways to a state join in the reference -/
def mgM (pl : Bool) (x y : V3) : V3 :=
  if pl then (if 0 < lg_cmp y.1 x.1 ∨ (lg_cmp y.1 x.1 = 0 ∧ (0 < lg_cmp y.2.1 x.2.1 ∨ (lg_cmp y.2.1 x.2.1 = 0 ∧ 0 < lg_cmp y.2.2 x.2.2))) then y else x)
  else (lRem (x.1 + y.1) (1000000007 : Int64), if 0 ≤ lg_cmp y.2.1 x.2.1 then x.2.1 else y.2.1, if lg_cmp y.2.2 x.2.2 ≤ 0 then x.2.2 else y.2.2)
def FrM (σ τ : rS) : Prop := rK τ = rK σ ∧ rR τ = rR σ ∧ rN τ = rN σ ∧ (∀ x j, x ≠ 103 → x ≠ 104 → (x = 67 → j ≠ 56) → rI τ x j = rI σ x j) ∧ ∀ x j, x ≠ 100 → x ≠ 101 → x ≠ 102 → rL τ x j = rL σ x j
theorem FrM.rf (σ : rS) : FrM σ σ := ⟨rfl, rfl, rfl, fun _ _ _ _ _ => rfl, fun _ _ _ _ _ => rfl⟩
theorem FrM.tr {σ τ υ : rS} (h : FrM σ τ) (g : FrM τ υ) : FrM σ υ := ⟨g.1.trans h.1, g.2.1.trans h.2.1, g.2.2.1.trans h.2.2.1, fun x j a b c => (g.2.2.2.1 x j a b c).trans (h.2.2.2.1 x j a b c), fun x j a b c => (g.2.2.2.2 x j a b c).trans (h.2.2.2.2 x j a b c)⟩
theorem nd_lt {V : Type} {l : List (Nat × V)} (h : nd l) (hs : ∀ p ∈ l, p.1 < 65536) {k : Nat} (hk : k < 65536) (hn : k ∉ l.map (fun p => p.1)) : l.length < 65536 := by
  have := nodup_len (l := (k :: l.map (fun p => p.1) : List Nat)) (m := List.range 65536) (List.nodup_cons.mpr ⟨hn, (show (l.map (fun p => p.1)).Nodup from h)⟩) (fun a ha => by
    rcases List.mem_cons.mp ha with rfl | q
    · exact List.mem_range.mpr hk
    · obtain ⟨p, hp, rfl⟩ := List.mem_map.mp q
      exact List.mem_range.mpr (hs p hp))
  rw [List.length_cons, List.length_map, List.length_range] at this
  exact this
