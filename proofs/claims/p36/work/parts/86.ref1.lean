/-! the reference: what is come to, as a list -/
abbrev V3 : Type := Int64 × Int64 × Int64
/-- how the values of two ways to a state join in the reference -/
def mgM (pl : Bool) (x y : V3) : V3 :=
  if pl then (if 0 < lg_cmp y.1 x.1 ∨ (lg_cmp y.1 x.1 = 0 ∧ (0 < lg_cmp y.2.1 x.2.1 ∨ (lg_cmp y.2.1 x.2.1 = 0 ∧ 0 < lg_cmp y.2.2 x.2.2))) then y else x)
  else (lRem (x.1 + y.1) (1000000007 : Int64), if 0 ≤ lg_cmp y.2.1 x.2.1 then x.2.1 else y.2.1, if lg_cmp y.2.2 x.2.2 ≤ 0 then x.2.2 else y.2.2)
/-- the rows 100 to 104 hold the list -/
def ThM (σ : rS) (l : List (Nat × V3)) : Prop := rI σ 67 56 = nI l.length ∧ nd l ∧ (∀ p ∈ l, p.1 < 65536) ∧ (∀ i p, l[i]? = some p → rI σ 104 i = nI p.1 ∧ rI σ 103 p.1 = 1 ∧ rL σ 100 p.1 = p.2.1 ∧ rL σ 101 p.1 = p.2.2.1 ∧ rL σ 102 p.1 = p.2.2.2) ∧ ∀ k, k < 65536 → k ∉ l.map (fun p => p.1) → rI σ 103 k = 0
def FrM (σ τ : rS) : Prop := rK τ = rK σ ∧ rR τ = rR σ ∧ rN τ = rN σ ∧ (∀ x j, x ≠ 103 → x ≠ 104 → (x = 67 → j ≠ 56) → rI τ x j = rI σ x j) ∧ ∀ x j, x ≠ 100 → x ≠ 101 → x ≠ 102 → rL τ x j = rL σ x j
theorem FrM.rf (σ : rS) : FrM σ σ := ⟨rfl, rfl, rfl, fun _ _ _ _ _ => rfl, fun _ _ _ _ _ => rfl⟩
theorem FrM.tr {σ τ υ : rS} (h : FrM σ τ) (g : FrM τ υ) : FrM σ υ := ⟨g.1.trans h.1, g.2.1.trans h.2.1, g.2.2.1.trans h.2.2.1, fun x j a b c => (g.2.2.2.1 x j a b c).trans (h.2.2.2.1 x j a b c), fun x j a b c => (g.2.2.2.2 x j a b c).trans (h.2.2.2.2 x j a b c)⟩
theorem nd_lt {V : Type} {l : List (Nat × V)} (h : nd l) (hs : ∀ p ∈ l, p.1 < 65536) {k : Nat} (hk : k < 65536) (hn : k ∉ l.map (fun p => p.1)) : l.length < 65536 := by
  have := nodup_len (l := (k :: l.map (fun p => p.1) : List Nat)) (m := List.range 65536) (List.nodup_cons.mpr ⟨hn, (show (l.map (fun p => p.1)).Nodup from h)⟩) (fun a ha => by
    rcases List.mem_cons.mp ha with rfl | q
    · exact List.mem_range.mpr hk
    · obtain ⟨p, hp, rfl⟩ := List.mem_map.mp q
      exact List.mem_range.mpr (hs p hp))
  rw [List.length_cons, List.length_map, List.length_range] at this
  exact this
theorem ThM_set {σ τ : rS} {l : List (Nat × V3)} (H : ThM σ l) {i k : Nat} {w v : V3} (hi : l[i]? = some (k, w)) (h1 : rI τ = rI σ) (h2 : ∀ j, rL τ 100 j = if j = k then v.1 else rL σ 100 j) (h3 : ∀ j, rL τ 101 j = if j = k then v.2.1 else rL σ 101 j) (h4 : ∀ j, rL τ 102 j = if j = k then v.2.2 else rL σ 102 j) : ThM τ (l.set i (k, v)) := by
  obtain ⟨g1, g2, g3, g4, g5⟩ := H
  have hil : i < l.length := (List.getElem?_eq_some_iff.mp hi).1
  have hkeys : (l.set i (k, v)).map (fun p => p.1) = l.map (fun p => p.1) := by
    rw [List.map_set]
    apply List.ext_getElem?
    intro j
    rw [List.getElem?_set]
    split
    · rename_i e; subst e
      rw [List.getElem?_map, hi, List.length_map, if_pos hil]; rfl
    · rfl
  refine ⟨by rw [h1, g1, List.length_set], by unfold nd; rw [hkeys]; exact g2, fun p hp => ?_, fun j p hj => ?_, fun t ht ht2 => by rw [h1]; rw [hkeys] at ht2; exact g5 t ht ht2⟩
  · rcases List.mem_or_eq_of_mem_set hp with q | q
    · exact g3 p q
    · subst q; exact g3 (k, w) (List.mem_of_getElem? hi)
  · rw [List.getElem?_set] at hj
    split at hj
    · rename_i e; subst e
      first | (rw [if_pos hil] at hj; cases hj) | cases hj
      obtain ⟨q1, q2, q3, q4, q5⟩ := g4 i _ hi
      rw [h1, h2, h3, h4, if_pos rfl, if_pos rfl, if_pos rfl]
      exact ⟨q1, q2, rfl, rfl, rfl⟩
    · rename_i e
      obtain ⟨q1, q2, q3, q4, q5⟩ := g4 j p hj
      have hne : ¬ p.1 = k := fun q => e (nd_get g2 hi hj q.symm)
      rw [h1, h2, h3, h4, if_neg hne, if_neg hne, if_neg hne]
      exact ⟨q1, q2, q3, q4, q5⟩
theorem ThM_app {σ τ : rS} {l : List (Nat × V3)} (H : ThM σ l) {k : Nat} {v : V3} (hk : k < 65536) (hn : k ∉ l.map (fun p => p.1)) (h1 : rI τ 67 56 = nI (l.length + 1)) (h2 : ∀ j, rI τ 104 j = if j = l.length then nI k else rI σ 104 j) (h3 : ∀ j, rI τ 103 j = if j = k then 1 else rI σ 103 j) (h4 : ∀ j, rL τ 100 j = if j = k then v.1 else rL σ 100 j) (h5 : ∀ j, rL τ 101 j = if j = k then v.2.1 else rL σ 101 j) (h6 : ∀ j, rL τ 102 j = if j = k then v.2.2 else rL σ 102 j) : ThM τ (l ++ [(k, v)]) := by
  obtain ⟨g1, g2, g3, g4, g5⟩ := H
  refine ⟨?_, ?_, fun p hp => ?_, fun i p hi => ?_, fun t ht ht2 => ?_⟩
  · rw [h1, List.length_append]; rfl
  · unfold nd at g2 ⊢
    rw [List.map_append]
    exact List.nodup_append.mpr ⟨g2, by simp, fun a ha b hb => by simp at hb; subst hb; exact fun e => hn (e ▸ ha)⟩
  · rcases List.mem_append.mp hp with q | q
    · exact g3 p q
    · rw [List.mem_singleton.mp q]; exact hk
  · by_cases hil : i < l.length
    · rw [List.getElem?_append_left hil] at hi
      obtain ⟨q1, q2, q3, q4, q5⟩ := g4 i p hi
      have hpk : p.1 ≠ k := fun e => hn (e ▸ List.mem_map_of_mem (f := fun p => p.1) (List.mem_of_getElem? hi))
      have hne : i ≠ l.length := by omega
      rw [h2, h3, h4, h5, h6, if_neg hne, if_neg hpk, if_neg hpk, if_neg hpk, if_neg hpk]
      exact ⟨q1, q2, q3, q4, q5⟩
    · rw [List.getElem?_append_right (by omega)] at hi
      have hi0 : i = l.length := by
        have := (List.getElem?_eq_some_iff.mp hi).1
        simp at this; omega
      subst hi0
      simp only [Nat.sub_self, List.getElem?_cons_zero, Option.some.injEq] at hi
      subst hi
      rw [h2, h3, h4, h5, h6, if_pos rfl, if_pos rfl, if_pos rfl, if_pos rfl, if_pos rfl]
      exact ⟨rfl, rfl, rfl, rfl, rfl⟩
  · rw [List.map_append] at ht2
    have q1 : t ∉ l.map (fun p => p.1) := fun q => ht2 (List.mem_append_left _ q)
    have q2 : t ≠ k := fun q => ht2 (List.mem_append_right _ (by simp [q]))
    rw [h3, if_neg q2]
    exact g5 t ht q1
