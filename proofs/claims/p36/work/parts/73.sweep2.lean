/-! the ways of a number, as a list -/
/-- how two ways to one row of tiles are one; of two values in mode 4 the greater (first, then second) -/
def mgW (md : Nat) (a b : Int64 × Int64) : Int64 × Int64 := if md = 3 then (a.1 ||| b.1, a.2) else if 0 < lg_cmp b.1 a.1 ∨ (lg_cmp b.1 a.1 = 0 ∧ 0 < lg_cmp b.2 a.2) then b else a
/-- the rows 59 to 62 and the number of ways are those of the list l -/
def WaR (σ : rS) (l : List (Nat × Int64 × Int64)) : Prop := rI σ 37 11 = nI l.length ∧ nd l ∧ (∀ p ∈ l, p.1 ≤ 8738) ∧ (∀ i p, l[i]? = some p → rI σ 59 i = nI p.1 ∧ rL σ 60 i = p.2.1 ∧ rL σ 61 i = p.2.2 ∧ rI σ 62 p.1 = nI (i + 1)) ∧ ∀ t, t ≤ 8738 → t ∉ l.map (·.1) → rI σ 62 t = 0
/-- nothing but the rows of ways changes -/
def FrW (σ τ : rS) : Prop := rK τ = rK σ ∧ rR τ = rR σ ∧ rN τ = rN σ ∧ (∀ a j, a ≠ 59 → a ≠ 62 → (a = 37 → j ≠ 11) → rI τ a j = rI σ a j) ∧ (∀ a j, a ≠ 60 → a ≠ 61 → rL τ a j = rL σ a j)
theorem FrW.rf (σ : rS) : FrW σ σ := ⟨rfl, rfl, rfl, fun _ _ _ _ _ => rfl, fun _ _ _ _ => rfl⟩
theorem FrW.tr {σ τ υ : rS} (h : FrW σ τ) (g : FrW τ υ) : FrW σ υ := ⟨g.1.trans h.1, g.2.1.trans h.2.1, g.2.2.1.trans h.2.2.1, fun a j h1 h2 h3 => (g.2.2.2.1 a j h1 h2 h3).trans (h.2.2.2.1 a j h1 h2 h3), fun a j h1 h2 => (g.2.2.2.2 a j h1 h2).trans (h.2.2.2.2 a j h1 h2)⟩
theorem nd_get {V : Type} {l : List (Nat × V)} (h : nd l) {i j : Nat} {p q : Nat × V} (hi : l[i]? = some p) (hj : l[j]? = some q) (e : p.1 = q.1) : i = j := by
  unfold nd at h
  have h1 : (l.map (·.1))[i]? = some p.1 := by rw [List.getElem?_map, hi]; rfl
  have h2 : (l.map (·.1))[j]? = some p.1 := by rw [List.getElem?_map, hj, e]; rfl
  have hl : i < (l.map (·.1)).length := (List.getElem?_eq_some_iff.mp h1).1
  exact (List.getElem?_inj hl h).mp (h1.trans h2.symm)
theorem nd_mem {V : Type} {l : List (Nat × V)} {k : Nat} (h : k ∈ l.map (·.1)) : ∃ (i : Nat) (v : V), l[i]? = some (k, v) := by
  obtain ⟨p, hp, rfl⟩ := List.mem_map.mp h
  obtain ⟨i, hi⟩ := List.getElem?_of_mem hp
  exact ⟨i, p.2, hi⟩
theorem ins_in {V : Type} {m : V → V → V} {l : List (Nat × V)} (hl : nd l) {k i : Nat} {w : V} (v : V) (hi : l[i]? = some (k, w)) : ins m l k v = l.set i (k, m w v) := by
  have hk : k ∈ l.map (·.1) := List.mem_map.mpr ⟨(k, w), List.mem_of_getElem? hi, rfl⟩
  unfold ins
  rw [if_pos hk]
  apply List.ext_getElem?
  intro j
  rw [List.getElem?_map, List.getElem?_set]
  by_cases hj : i = j
  · subst hj
    rw [hi, if_pos rfl, if_pos (List.getElem?_eq_some_iff.mp hi).1]
    simp
  · rw [if_neg hj]
    cases hq : l[j]? with
    | none => rfl
    | some q =>
      simp only [Option.map_some]
      rw [if_neg (fun e => hj (nd_get hl hi hq e.symm))]
theorem ins_out {V : Type} {m : V → V → V} {l : List (Nat × V)} {k : Nat} (v : V) (hk : k ∉ l.map (·.1)) : ins m l k v = l ++ [(k, v)] := by
  unfold ins
  rw [if_neg hk]
set_option maxHeartbeats 1000000 in
theorem addWay_eq {σ : rS} {l : List (Nat × Int64 × Int64)} {md t : Nat} {f s : Int64} (hmd : rI σ 37 17 = nI md) (h4 : md ≤ 4) (ht : t ≤ 8738) (hl : t ∉ l.map (·.1) → l.length < 81) (hl2 : l.length ≤ 81) (H : WaR σ l) : ∃ τ, f_X9_addWay σ (nI t) f s = some ((), τ) ∧ WaR τ (ins (mgW md) l t (f, s)) ∧ FrW σ τ := by
  obtain ⟨h1, h2, h3, h5, h6⟩ := H
  unfold f_X9_addWay
  have c1 : ¬ ((if nI t < 0 then true else if nI t ≤ 8738 then false else true) = true) := by
    have e : nI t ≤ 8738 := (nI_leI (b := 8738) (by omega) (by omega)).mpr ht
    rw [if_neg (nI_pos (by omega)), if_pos e]
    exact Bool.false_ne_true
  rw [if_neg c1, if_pos (inB_nI (by decide) (by omega)), nI_clamp (by omega)]
  simp only [oLet_eq]
  rw [h1, hmd]
  by_cases hk : t ∈ l.map (·.1)
  · obtain ⟨i, ⟨wf, ws⟩, hi⟩ := nd_mem hk
    obtain ⟨k1, k2, k3, k4⟩ := h5 i _ hi
    have hil : i < l.length := (List.getElem?_eq_some_iff.mp hi).1
    dsimp only at k1 k2 k3 k4
    rw [k4, show nI (i + 1) - 1 = nI i from nI_pred i, nI_clamp (by omega)]
    have c2 : (if 0 ≤ nI i then true else if 81 ≤ nI l.length then true else false) = true := by rw [if_pos (nI_pos' (by omega))]
    rw [if_pos c2, k2, k3]
    have c3 : ¬ nI i < 0 := nI_pos (by omega)
    have c4 : ¬ (81 : Int32) ≤ nI i := fun q => by have := (nI_leI (a := 81) (by omega) (by omega)).mp q; omega
    have ib : inB (nI i) 81 := inB_nI (by decide) (by omega)
    rw [ins_in h2 (f, s) hi]
    have wr : ∀ (nf ns : Int64) (τ : rS), FrW σ τ → (∀ a j, rI τ a j = rI σ a j) → (∀ j, j ≠ i → rL τ 60 j = rL σ 60 j ∧ rL τ 61 j = rL σ 61 j) → rL τ 60 i = nf → rL τ 61 i = ns → WaR τ (l.set i (t, nf, ns)) := by
      intro nf ns τ hF hI hL hf hs
      have hkeys : (l.set i (t, nf, ns)).map (·.1) = l.map (·.1) := by
        rw [List.map_set]
        apply List.ext_getElem?
        intro j
        rw [List.getElem?_set]
        split
        · rename_i e; subst e
          rw [List.getElem?_map, hi, List.length_map, if_pos hil]; rfl
        · rfl
      refine ⟨by rw [hI, h1, List.length_set], by unfold nd; rw [hkeys]; exact h2, fun p hp => ?_, fun j p hj => ?_, fun u hu hu2 => by rw [hI]; rw [hkeys] at hu2; exact h6 u hu hu2⟩
      · rcases List.mem_or_eq_of_mem_set hp with q | q
        · exact h3 p q
        · subst q; exact ht
      · rw [List.getElem?_set] at hj
        split at hj
        · rename_i e; subst e
          first | (rw [if_pos hil] at hj; cases hj) | cases hj
          exact ⟨by rw [hI, k1], hf, hs, by rw [hI, k4]⟩
        · rename_i e
          obtain ⟨g1, g2, g3, g4⟩ := h5 j p hj
          exact ⟨by rw [hI, g1], by rw [(hL j (Ne.symm e)).1, g2], by rw [(hL j (Ne.symm e)).2, g3], by rw [hI, g4]⟩
    by_cases h7 : md = 3
    · have c5 : ¬ ((if nI i < 0 then true else if 81 ≤ nI i then true else if nI md = 3 then false else true) = true) := by
        rw [if_neg c3, if_neg c4, if_pos (by rw [h7]; rfl)]; exact Bool.false_ne_true
      rw [if_neg c5, if_pos ib]
      refine ⟨_, rfl, ?_, ?_⟩
      · unfold mgW
        rw [if_pos h7]
        refine wr _ _ _ ⟨rfl, rfl, rfl, fun _ _ _ _ _ => rfl, fun a j h1 h2 => by rw [q_LL, if_neg (fun q => h1 q.1)]⟩ (fun _ _ => rfl) (fun j hj => ?_) (by rw [q_LL, if_pos ⟨rfl, rfl⟩]) (by rw [q_LL, if_neg (fun q => absurd q.1 (by decide))]; exact k3)
        rw [q_LL, q_LL, if_neg (fun q => hj q.2), if_neg (fun q => absurd q.1 (by decide))]
        exact ⟨rfl, rfl⟩
      · exact ⟨rfl, rfl, rfl, fun _ _ _ _ _ => rfl, fun a j h1 h2 => by rw [q_LL, if_neg (fun q => h1 q.1)]⟩
    · have e3 : ¬ nI md = 3 := fun q => h7 (nI_inj (b := 3) (by omega) (by omega) q)
      have c5 : (if nI i < 0 then true else if 81 ≤ nI i then true else if nI md = 3 then false else true) = true := by
        rw [if_neg c3, if_neg c4, if_neg e3]
      have c6 : ¬ ((if nI i < 0 then true else if 81 ≤ nI i then true else false) = true) := by
        rw [if_neg c3, if_neg c4]; exact Bool.false_ne_true
      rw [if_pos c5, if_neg c6, if_pos ib]
      have two : WaR (wL (wL σ 60 i f) 61 i s) (l.set i (t, f, s)) ∧ FrW σ (wL (wL σ 60 i f) 61 i s) := by
        have F : FrW σ (wL (wL σ 60 i f) 61 i s) := ⟨rfl, rfl, rfl, fun _ _ _ _ _ => rfl, fun a j h1 h2 => by rw [q_LL, if_neg (fun q => h2 q.1), q_LL, if_neg (fun q => h1 q.1)]⟩
        refine ⟨wr _ _ _ F (fun _ _ => rfl) (fun j hj => ?_) ?_ ?_, F⟩
        · rw [q_LL, q_LL, q_LL, q_LL, if_neg (fun q => absurd q.1 (by decide)), if_neg (fun q => hj q.2), if_neg (fun q => hj q.2), if_neg (fun q => absurd q.1 (by decide))]
          exact ⟨rfl, rfl⟩
        · rw [q_LL, if_neg (fun q => absurd q.1 (by decide)), q_LL, if_pos ⟨rfl, rfl⟩]
        · rw [q_LL, if_pos ⟨rfl, rfl⟩]
      have same : WaR σ (l.set i (t, wf, ws)) := by
        rw [show l.set i (t, wf, ws) = l from by
          apply List.ext_getElem?
          intro j
          rw [List.getElem?_set]
          split
          · rename_i e; subst e; first | rw [if_pos hil, hi] | rw [hi]
          · rfl]
        exact ⟨h1, h2, h3, h5, h6⟩
      unfold mgW
      rw [if_neg h7]
      by_cases h8 : 0 < lg_cmp f wf
      · rw [if_pos h8, if_pos (Or.inl h8)]
        exact ⟨_, rfl, two.1, two.2⟩
      · rw [if_neg h8]
        by_cases h9 : lg_cmp f wf = 0
        · by_cases h10 : 0 < lg_cmp s ws
          · have h11 : ¬ lg_cmp s ws ≤ 0 := i32_nle.mpr h10
            have c7 : ¬ ((if lg_cmp f wf = 0 then (if lg_cmp s ws ≤ 0 then true else false) else true) = true) := by
              rw [if_pos h9, if_neg h11]; exact Bool.false_ne_true
            rw [if_neg c7, if_pos (Or.inr ⟨h9, h10⟩)]
            exact ⟨_, rfl, two.1, two.2⟩
          · have h11 : lg_cmp s ws ≤ 0 := i32_nlt.mp h10
            have c7 : (if lg_cmp f wf = 0 then (if lg_cmp s ws ≤ 0 then true else false) else true) = true := by
              rw [if_pos h9, if_pos h11]
            rw [if_pos c7, if_neg (fun q => q.elim h8 (fun q => h10 q.2))]
            exact ⟨_, rfl, same, FrW.rf σ⟩
        · have c7 : (if lg_cmp f wf = 0 then (if lg_cmp s ws ≤ 0 then true else false) else true) = true := by
            rw [if_neg h9]
          rw [if_pos c7, if_neg (fun q => q.elim h8 (fun q => h9 q.1))]
          exact ⟨_, rfl, same, FrW.rf σ⟩
  · have hlen := hl hk
    rw [h6 t ht hk]
    have c2 : ¬ ((if (0 : Int32) ≤ 0 - 1 then true else if 81 ≤ nI l.length then true else false) = true) := by
      rw [if_neg (by decide), if_neg (fun q => by have := (nI_leI (a := 81) (by omega) (by omega)).mp q; omega)]
      exact Bool.false_ne_true
    rw [if_neg c2]
    have r1 : rI (wI σ 62 t (nI l.length + 1)) 37 11 = nI l.length := by rw [q_II, if_neg (fun q => absurd q.1 (by decide))]; exact h1
    have ib : inB (nI l.length) 81 := inB_nI (by decide) hlen
    rw [r1, if_pos ib, nI_clamp (by omega)]
    have r2 : ∀ v, rI (wI (wI σ 62 t (nI l.length + 1)) 59 l.length v) 37 11 = nI l.length := fun v => by rw [q_II, if_neg (fun q => absurd q.1 (by decide))]; exact r1
    rw [r2, if_pos ib, nI_clamp (by omega)]
    have r3 : ∀ v w, rI (wL (wI (wI σ 62 t (nI l.length + 1)) 59 l.length v) 60 l.length w) 37 11 = nI l.length := fun v w => r2 v
    rw [r3, if_pos ib, nI_clamp (by omega)]
    have r4 : ∀ v w x, rI (wL (wL (wI (wI σ 62 t (nI l.length + 1)) 59 l.length v) 60 l.length w) 61 l.length x) 37 11 = nI l.length := fun v w x => r2 v
    rw [r4]
    refine ⟨_, rfl, ?_, ?_⟩
    · rw [ins_out _ hk]
      refine ⟨?_, ?_, ?_, ?_, ?_⟩
      · rw [q_II, if_pos ⟨rfl, rfl⟩, List.length_append]; exact nI_1 _
      · unfold nd
        rw [List.map_append]
        exact List.nodup_append.mpr ⟨h2, by simp, fun a ha b hb => by simp at hb; subst hb; exact fun e => hk (e ▸ ha)⟩
      · intro p hp
        rcases List.mem_append.mp hp with q | q
        · exact h3 p q
        · rw [List.mem_singleton.mp q]; exact ht
      · intro i p hi
        simp only [q_II, q_IL, q_LL, q_LI]
        by_cases hil : i < l.length
        · rw [List.getElem?_append_left hil] at hi
          obtain ⟨g1, g2, g3, g4⟩ := h5 i p hi
          have hpt : p.1 ≠ t := fun e => hk (e ▸ List.mem_map_of_mem (f := (·.1)) (List.mem_of_getElem? hi))
          have hne : ¬ i = l.length := by omega
          simp only [hne, hpt, and_false, if_false, show ¬ ((59 : Nat) = 37) from by decide, show ¬ ((62 : Nat) = 37) from by decide, show ¬ ((62 : Nat) = 59) from by decide, show ¬ ((59 : Nat) = 62) from by decide, show ¬ ((60 : Nat) = 61) from by decide, show ¬ ((61 : Nat) = 60) from by decide, false_and]
          exact ⟨g1, g2, g3, g4⟩
        · rw [List.getElem?_append_right (by omega)] at hi
          have hi0 : i = l.length := by
            have := (List.getElem?_eq_some_iff.mp hi).1
            simp at this; omega
          subst hi0
          simp only [Nat.sub_self, List.getElem?_cons_zero, Option.some.injEq] at hi
          subst hi
          simp only [and_true, and_self, if_true, if_false, show ¬ ((59 : Nat) = 37) from by decide, show ¬ ((62 : Nat) = 37) from by decide, show ¬ ((62 : Nat) = 59) from by decide, show ¬ ((60 : Nat) = 61) from by decide, false_and]
          exact ⟨trivial, trivial, trivial, nI_1 _⟩
      · intro u hu hu2
        rw [List.map_append] at hu2
        have hu3 : u ∉ l.map (·.1) := fun q => hu2 (List.mem_append_left _ q)
        have hu4 : u ≠ t := fun q => hu2 (List.mem_append_right _ (by simp [q]))
        simp only [q_II, q_IL]
        simp only [hu4, and_false, if_false, show ¬ ((62 : Nat) = 37) from by decide, show ¬ ((62 : Nat) = 59) from by decide, false_and]
        exact h6 u hu hu3
    · refine ⟨rfl, rfl, rfl, fun a j k1 k2 k3 => ?_, fun a j k1 k2 => ?_⟩
      · simp only [q_II, q_IL]
        rw [if_neg (fun q => k3 q.1 q.2), if_neg (fun q => k1 q.1), if_neg (fun q => k2 q.1)]
      · simp only [q_LL, q_LI]
        rw [if_neg (fun q => k2 q.1), if_neg (fun q => k1 q.1)]
