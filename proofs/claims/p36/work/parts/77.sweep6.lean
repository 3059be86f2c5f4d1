/-! a layer as a list -/
theorem nI_and (a b : Nat) : nI a &&& nI b = nI (a &&& b) := by
  apply Int32.toBitVec_inj.mp
  show BitVec.ofNat 32 a &&& BitVec.ofNat 32 b = BitVec.ofNat 32 (a &&& b)
  exact BitVec.ofNat_and.symm
theorem nI_16 {k : Nat} (h : k < 65536) : nI k &&& 65535 = nI k := by
  show nI k &&& nI 65535 = nI k
  rw [nI_and, show (65535 : Nat) = 2 ^ 16 - 1 from rfl, Nat.and_two_pow_sub_one_eq_mod, Nat.mod_eq_of_lt h]
/-- states with two numbers, in rows a, b, c; how many in (z, f); where a state stands in row s -/
def StR (σ : rS) (z f a b c s N : Nat) (l : List (Nat × Int64 × Int64)) : Prop := rI σ z f = nI l.length ∧ nd l ∧ (∀ p ∈ l, p.1 ≤ N) ∧ (∀ i p, l[i]? = some p → rI σ a i = nI p.1 ∧ rL σ b i = p.2.1 ∧ rL σ c i = p.2.2 ∧ rI σ s p.1 = nI (i + 1)) ∧ ∀ t, t ≤ N → t ∉ l.map (fun p => p.1) → rI σ s t = 0
theorem StR_app {σ τ : rS} {z f a b c s N : Nat} {l : List (Nat × Int64 × Int64)} (H : StR σ z f a b c s N l) {k : Nat} {v : Int64 × Int64} (hk : k ≤ N) (hn : k ∉ l.map (fun p => p.1)) (h1 : rI τ z f = nI (l.length + 1)) (h2 : ∀ j, rI τ a j = if j = l.length then nI k else rI σ a j) (h3 : ∀ j, rL τ b j = if j = l.length then v.1 else rL σ b j) (h4 : ∀ j, rL τ c j = if j = l.length then v.2 else rL σ c j) (h5 : ∀ j, rI τ s j = if j = k then nI (l.length + 1) else rI σ s j) : StR τ z f a b c s N (l ++ [(k, v)]) := by
  obtain ⟨g1, g2, g3, g4, g5⟩ := H
  refine ⟨?_, ?_, fun p hp => ?_, fun i p hi => ?_, fun t ht ht2 => ?_⟩
  · rw [h1, List.length_append]; rfl
  · unfold nd at g2 ⊢
    rw [List.map_append]
    exact List.nodup_append.mpr ⟨g2, by simp, fun a ha b hb => by simp at hb; subst hb; exact fun e => hn (e ▸ ha)⟩
  · rcases List.mem_append.mp hp with q | q
    · exact g3 p q
    · rw [List.mem_singleton.mp q]; exact hk
  · by_cases hil : i < l.length
    · rw [List.getElem?_append_left hil] at hi
      obtain ⟨q1, q2, q3, q4⟩ := g4 i p hi
      have hpk : p.1 ≠ k := fun e => hn (e ▸ List.mem_map_of_mem (f := fun p => p.1) (List.mem_of_getElem? hi))
      have hne : i ≠ l.length := by omega
      rw [h2, h3, h4, h5, if_neg hne, if_neg hne, if_neg hne, if_neg hpk]
      exact ⟨q1, q2, q3, q4⟩
    · rw [List.getElem?_append_right (by omega)] at hi
      have hi0 : i = l.length := by
        have := (List.getElem?_eq_some_iff.mp hi).1
        simp at this; omega
      subst hi0
      simp only [Nat.sub_self, List.getElem?_cons_zero, Option.some.injEq] at hi
      subst hi
      rw [h2, h3, h4, h5, if_pos rfl, if_pos rfl, if_pos rfl, if_pos rfl]
      exact ⟨rfl, rfl, rfl, rfl⟩
  · rw [List.map_append] at ht2
    have q1 : t ∉ l.map (fun p => p.1) := fun q => ht2 (List.mem_append_left _ q)
    have q2 : t ≠ k := fun q => ht2 (List.mem_append_right _ (by simp [q]))
    rw [h5, if_neg q2]
    exact g5 t ht q1
theorem StR_set {σ τ : rS} {z f a b c s N : Nat} {l : List (Nat × Int64 × Int64)} (H : StR σ z f a b c s N l) {i k : Nat} {w v : Int64 × Int64} (hi : l[i]? = some (k, w)) (h1 : rI τ z f = rI σ z f) (h2 : ∀ j, rI τ a j = rI σ a j) (h3 : ∀ j, rL τ b j = if j = i then v.1 else rL σ b j) (h4 : ∀ j, rL τ c j = if j = i then v.2 else rL σ c j) (h5 : ∀ j, rI τ s j = rI σ s j) : StR τ z f a b c s N (l.set i (k, v)) := by
  obtain ⟨g1, g2, g3, g4, g5⟩ := H
  have hil : i < l.length := (List.getElem?_eq_some_iff.mp hi).1
  have hkeys : (l.set i (k, v)).map (fun p => p.1) = l.map (fun p => p.1) := by
    rw [List.map_set]
    apply List.ext_getElem?
    intro j
    rw [List.getElem?_set]
    split
    · rename_i e; subst e
      rw [List.getElem?_map, hi, List.length_map, if_pos hil]; rfl
    · rfl
  refine ⟨by rw [h1, g1, List.length_set], by unfold nd; rw [hkeys]; exact g2, fun p hp => ?_, fun j p hj => ?_, fun t ht ht2 => by rw [h5]; rw [hkeys] at ht2; exact g5 t ht ht2⟩
  · rcases List.mem_or_eq_of_mem_set hp with q | q
    · exact g3 p q
    · subst q; exact g3 (k, w) (List.mem_of_getElem? hi)
  · rw [List.getElem?_set] at hj
    split at hj
    · rename_i e; subst e
      first | (rw [if_pos hil] at hj; cases hj) | cases hj
      obtain ⟨q1, q2, q3, q4⟩ := g4 i _ hi
      rw [h2, h3, h4, h5, if_pos rfl, if_pos rfl]
      exact ⟨q1, rfl, rfl, q4⟩
    · rename_i e
      obtain ⟨q1, q2, q3, q4⟩ := g4 j p hj
      rw [h2, h3, h4, h5, if_neg (Ne.symm e), if_neg (Ne.symm e)]
      exact ⟨q1, q2, q3, q4⟩
theorem set_same {α : Type} {l : List α} {i : Nat} {x : α} (h : l[i]? = some x) : l.set i x = l := by
  apply List.ext_getElem?
  intro j
  rw [List.getElem?_set]
  split
  · rename_i e; subst e
    have hil : i < l.length := (List.getElem?_eq_some_iff.mp h).1
    first | rw [if_pos hil, h] | rw [h]
  · rfl
/-- the cells of the two layers: t and h, their rows and lengths -/
def LyF (σ : rS) (t a b c n h a' b' c' n' : Nat) : Prop :=
  (rR σ 37 6 = t ∧ rR σ 37 5 = h ∧ ((t = 51 ∧ h = 55) ∨ (t = 55 ∧ h = 51))) ∧ (rR σ t 0 = a ∧ rR σ t 1 = b ∧ rR σ t 2 = c) ∧ (rR σ h 0 = a' ∧ rR σ h 1 = b' ∧ rR σ h 2 = c') ∧
  ((rK σ a).2 = n ∧ (rK σ b).2 = n ∧ (rK σ c).2 = n) ∧ ((rK σ a').2 = n' ∧ (rK σ b').2 = n' ∧ (rK σ c').2 = n') ∧ (1024 ≤ n ∧ n ≤ 65536 ∧ 1024 ≤ n' ∧ n' ≤ 65536) ∧
  ((a = t + 1 ∨ 67 ≤ a) ∧ (b = t + 2 ∨ 67 ≤ b) ∧ (c = t + 3 ∨ 67 ≤ c) ∧ (a' = h + 1 ∨ 67 ≤ a') ∧ (b' = h + 2 ∨ 67 ≤ b') ∧ (c' = h + 3 ∨ 67 ≤ c')) ∧
  (b ≠ c ∧ b' ≠ c' ∧ a ≠ a' ∧ b ≠ b' ∧ b ≠ c' ∧ c ≠ b' ∧ c ≠ c') ∧ (a < rN σ ∧ b < rN σ ∧ c < rN σ ∧ a' < rN σ ∧ b' < rN σ ∧ c' < rN σ ∧ 67 ≤ rN σ)
theorem LyF_of {σ : rS} (H : Sy σ) : ∃ t a b c n h a' b' c' n', LyF σ t a b c n h a' b' c' n' := by
  obtain ⟨hS, -, -, -, hd, L1, L2, x0, x1, x2, x3, x4⟩ := H
  have hN := hS.2.2
  obtain ⟨n, c, f, s, -, r0, r1, r2, k0, k1, k2, n1, n2, d0, d1, d2, e, l0, l1, l2⟩ := L1
  obtain ⟨n', c', f', s', -, r0', r1', r2', k0', k1', k2', n1', n2', d0', d1', d2', e', l0', l1', l2'⟩ := L2
  rw [r0, r0'] at x0
  rw [r1, r1'] at x1
  rw [r1, r2'] at x2
  rw [r2, r1'] at x3
  rw [r2, r2'] at x4
  rcases hd with ⟨q1, q2⟩ | ⟨q1, q2⟩
  · exact ⟨55, c', f', s', n', 51, c, f, s, n, ⟨q2, q1, Or.inr ⟨rfl, rfl⟩⟩, ⟨r0', r1', r2'⟩, ⟨r0, r1, r2⟩, ⟨by rw [k0'], by rw [k1'], by rw [k2']⟩, ⟨by rw [k0], by rw [k1], by rw [k2]⟩, ⟨n1', n2', n1, n2⟩, ⟨d0', d1', d2', d0, d1, d2⟩, ⟨e', e, Ne.symm x0, Ne.symm x1, Ne.symm x3, Ne.symm x2, Ne.symm x4⟩, l0', l1', l2', l0, l1, l2, hN⟩
  · exact ⟨51, c, f, s, n, 55, c', f', s', n', ⟨q2, q1, Or.inl ⟨rfl, rfl⟩⟩, ⟨r0, r1, r2⟩, ⟨r0', r1', r2'⟩, ⟨by rw [k0], by rw [k1], by rw [k2]⟩, ⟨by rw [k0'], by rw [k1'], by rw [k2']⟩, ⟨n1, n2, n1', n2'⟩, ⟨d0, d1, d2, d0', d1', d2'⟩, ⟨e, e', x0, x1, x2, x3, x4⟩, l0, l1, l2, l0', l1', l2', hN⟩
/-- nothing but the layer t and the row of places changes -/
def FrP (σ τ : rS) (t a b c : Nat) : Prop := rK τ = rK σ ∧ rR τ = rR σ ∧ rN τ = rN σ ∧ (∀ x j, x ≠ 50 → x ≠ a → (x = t → j ≠ 3) → rI τ x j = rI σ x j) ∧ ∀ x j, x ≠ b → x ≠ c → rL τ x j = rL σ x j
theorem FrP.rf (σ : rS) (t a b c : Nat) : FrP σ σ t a b c := ⟨rfl, rfl, rfl, fun _ _ _ _ _ => rfl, fun _ _ _ _ => rfl⟩
theorem append_eq {σ : rS} {t a b c n h a' b' c' n' : Nat} (F : LyF σ t a b c n h a' b' c' n') {l : List (Nat × Int64 × Int64)} (H : StR σ t 3 a b c 50 65535 l) {k : Nat} (hk : k < 65536) (hn : k ∉ l.map (fun p => p.1)) (hl : l.length < n) (v1 v2 : Int64) : ∃ τ, f_X9_append σ (nI k) v1 v2 = some ((), τ) ∧ StR τ t 3 a b c 50 65535 (l ++ [(k, v1, v2)]) ∧ FrP σ τ t a b c := by
  obtain ⟨⟨f1, f2, f3⟩, ⟨f4, f5, f6⟩, -, ⟨f7, f8, f9⟩, -, ⟨n1, n2, -, -⟩, ⟨d1, d2, d3, -, -, -⟩, ⟨x1, -⟩, -⟩ := F
  have g1 := H.1
  refine ⟨wI (wI (wL (wL (wI σ a l.length (nI k)) b l.length v1) c l.length v2) t 3 (nI (l.length + 1))) 50 k (nI (l.length + 1)), ?_, ?_, ?_⟩
  · unfold f_X9_append
    have c1 : ¬ nI n ≤ nI l.length := fun q => by have := (nI_leI (by omega) (by omega)).mp q; omega
    have ib : inB (nI l.length) n := inB_nI (by omega) hl
    simp only [oLet_eq, f1, f4, f5, f6, f7, f8, f9, q_RI, q_RL, q_KI, q_KL, q_IL, g1, nI_16 hk]
    rw [if_neg c1, if_pos ib, if_pos ib, if_pos ib, if_pos (inB_nI (n := 65536) (by decide) hk), nI_clamp (by omega), nI_clamp (by omega), q_II, if_neg (by omega), g1, show nI l.length + 1 = nI (l.length + 1) from nI_1 _]
  · refine StR_app H (v := (v1, v2)) (by omega) hn ?_ (fun j => ?_) (fun j => ?_) (fun j => ?_) (fun j => ?_)
    · rw [q_II, if_neg (by omega), q_II, if_pos ⟨rfl, rfl⟩]
    · rw [q_II, if_neg (by omega), q_II, if_neg (by omega), q_IL, q_IL, q_II]
      simp
    · show rL (wL (wL _ _ _ _) _ _ _) b j = _
      rw [q_LL, if_neg (fun q => x1 q.1), q_LL]
      simp; rfl
    · show rL (wL (wL _ _ _ _) _ _ _) c j = _
      rw [q_LL, q_LL, if_neg (c := c = b ∧ _) (fun q => x1 q.1.symm)]
      simp; rfl
    · rw [q_II, q_II, if_neg (c := (50 : Nat) = t ∧ _) (by omega), q_IL, q_IL, q_II, if_neg (c := (50 : Nat) = a ∧ _) (by omega)]
      simp
  · refine ⟨rfl, rfl, rfl, fun x j y1 y2 y3 => ?_, fun x j y1 y2 => ?_⟩
    · rw [q_II, if_neg (fun q => y1 q.1), q_II, if_neg (fun q => y3 q.1 q.2), q_IL, q_IL, q_II, if_neg (fun q => y2 q.1)]
    · show rL (wL (wL _ _ _ _) _ _ _) x j = _
      rw [q_LL, if_neg (fun q => y2 q.1), q_LL, if_neg (fun q => y1 q.1)]
      rfl
/-- how the values of two ways to a state join -/
def hiW (x : Int64) : Int64 := (x.toUInt64 >>> (((32 : Int32)).toInt64.toUInt64 &&& Int64.toUInt64 63)).toInt64
def mgL (md : Nat) (x y : Int64 × Int64) : Int64 × Int64 :=
  if md = 3 then (x.1 ||| y.1, x.2)
  else if md = 2 then (lRem (x.1 + y.1) (1000000007 : Int64), ((if 0 ≤ lg_cmp (hiW x.2) (hiW y.2) then hiW y.2 else hiW x.2) <<< (((32 : Int32)).toInt64 &&& 63)) ||| (if x.2.toInt32 ≤ y.2.toInt32 then y.2.toInt32.toInt64 else x.2.toInt32.toInt64))
  else if md = 4 then (if 0 < lg_cmp y.1 x.1 ∨ (lg_cmp y.1 x.1 = 0 ∧ 0 < lg_cmp y.2 x.2) then y else x)
  else x
theorem merge_eq {σ : rS} {t a b c n h a' b' c' n' md : Nat} (F : LyF σ t a b c n h a' b' c' n') (hmd : rI σ 37 17 = nI md) (h4 : md ≤ 4) {l : List (Nat × Int64 × Int64)} (H : StR σ t 3 a b c 50 65535 l) {i k : Nat} {w : Int64 × Int64} (hi : l[i]? = some (k, w)) (hl : l.length ≤ n) (v1 v2 : Int64) : ∃ τ, f_X9_merge σ (nI i) v1 v2 = some ((), τ) ∧ StR τ t 3 a b c 50 65535 (l.set i (k, mgL md w (v1, v2))) ∧ FrP σ τ t a b c := by
  obtain ⟨⟨f1, f2, f3⟩, ⟨f4, f5, f6⟩, -, ⟨f7, f8, f9⟩, -, ⟨n1, n2, -, -⟩, ⟨d1, d2, d3, -, -, -⟩, ⟨x1, -⟩, -⟩ := F
  obtain ⟨q1, q2, q3, q4⟩ := H.2.2.2.1 i _ hi
  have q2 : rL σ b i = w.1 := q2
  have q3 : rL σ c i = w.2 := q3
  have ec : ∀ x, rL (wL σ b i x) c i = w.2 := fun x => by rw [q_LL, if_neg (fun q => x1 q.1.symm)]; exact q3
  have hil : i < l.length := (List.getElem?_eq_some_iff.mp hi).1
  have ib : inB (nI i) n := inB_nI (by omega) (by omega)
  have e3 : (nI md = 3) = (md = 3) := propext (nI_eq (b := 3) (by omega) (by omega))
  have e2 : (nI md = 2) = (md = 2) := propext (nI_eq (b := 2) (by omega) (by omega))
  have e4 : (nI md = 4) = (md = 4) := propext (nI_eq (b := 4) (by omega) (by omega))
  have two : ∀ u1 u2 : Int64, StR (wL (wL σ b i u1) c i u2) t 3 a b c 50 65535 (l.set i (k, u1, u2)) ∧ FrP σ (wL (wL σ b i u1) c i u2) t a b c := by
    intro u1 u2
    refine ⟨StR_set H (v := (u1, u2)) hi rfl (fun _ => rfl) (fun j => ?_) (fun j => ?_) (fun _ => rfl), rfl, rfl, rfl, fun _ _ _ _ _ => rfl, fun x j y1 y2 => ?_⟩
    · rw [q_LL, if_neg (fun q => x1 q.1), q_LL]; simp
    · rw [q_LL, q_LL, if_neg (c := c = b ∧ _) (fun q => x1 q.1.symm)]; simp
    · rw [q_LL, if_neg (fun q => y2 q.1), q_LL, if_neg (fun q => y1 q.1)]
  have one : ∀ u1 : Int64, StR (wL σ b i u1) t 3 a b c 50 65535 (l.set i (k, u1, w.2)) ∧ FrP σ (wL σ b i u1) t a b c := by
    intro u1
    refine ⟨StR_set H (v := (u1, w.2)) hi rfl (fun _ => rfl) (fun j => ?_) (fun j => ?_) (fun _ => rfl), rfl, rfl, rfl, fun _ _ _ _ _ => rfl, fun x j y1 y2 => ?_⟩
    · rw [q_LL]; simp
    · rw [q_LL, if_neg (fun q => x1 q.1.symm)]
      split
      · rename_i e; rw [e]; exact q3
      · rfl
    · rw [q_LL, if_neg (fun q => y1 q.1)]
  have same : StR σ t 3 a b c 50 65535 (l.set i (k, w)) ∧ FrP σ σ t a b c := by
    rw [set_same hi]; exact ⟨H, FrP.rf _ _ _ _ _⟩
  unfold f_X9_merge mgL hiW
  simp only [oLet_eq, f1, f4, f5, f6, f7, f8, f9, q_RI, q_RL, q_KI, q_KL, hmd, e3, e2, e4]
  rw [if_pos ib, nI_clamp (by omega), q2, q3]
  by_cases m3 : md = 3
  · rw [if_pos m3, if_pos m3]
    exact ⟨_, rfl, (one _).1, (one _).2⟩
  · rw [if_neg m3, if_neg m3]
    by_cases m2 : md = 2
    · rw [if_pos m2, if_pos m2, if_pos ib, if_pos (show ¬ (1000000007 : Int64) = 0 by decide), ec]
      exact ⟨_, rfl, (two _ _).1, (two _ _).2⟩
    · rw [if_neg m2, if_neg m2]
      by_cases m4 : md = 4
      · rw [if_pos m4, if_pos m4, if_pos ib]
        by_cases h8 : 0 < lg_cmp v1 w.1
        · rw [if_pos h8, if_pos (Or.inl h8)]
          exact ⟨_, rfl, (two _ _).1, (two _ _).2⟩
        · rw [if_neg h8]
          by_cases h9 : lg_cmp v1 w.1 = 0
          · by_cases h10 : 0 < lg_cmp v2 w.2
            · have h11 : ¬ lg_cmp v2 w.2 ≤ 0 := i32_nle.mpr h10
              rw [if_neg (by rw [if_pos h9, if_neg h11]; exact Bool.false_ne_true), if_pos (Or.inr ⟨h9, h10⟩)]
              exact ⟨_, rfl, (two _ _).1, (two _ _).2⟩
            · have h11 : lg_cmp v2 w.2 ≤ 0 := i32_nlt.mp h10
              rw [if_pos (by rw [if_pos h9, if_pos h11]), if_neg (fun q => q.elim h8 (fun q => h10 q.2))]
              exact ⟨_, rfl, same.1, same.2⟩
          · rw [if_pos (by rw [if_neg h9]), if_neg (fun q => q.elim h8 (fun q => h9 q.1))]
            exact ⟨_, rfl, same.1, same.2⟩
      · rw [if_neg m4, if_neg m4]
        exact ⟨_, rfl, same.1, same.2⟩
