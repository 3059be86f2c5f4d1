/-! put -/
theorem lk_neg {l n : Nat} : ¬ (0 : Int32) ≤ 0 - 1 := by decide
theorem put_tail {σ : rS} {t a b c n h a' b' c' n' md : Nat} (F : LyF σ t a b c n h a' b' c' n') (hmd : rI σ 37 17 = nI md) (h4 : md ≤ 4) {l : List (Nat × Int64 × Int64)} (H : StR σ t 3 a b c 50 65535 l) {k : Nat} (hk : k < 65536) (hl : k ∉ l.map (fun p => p.1) → l.length < n) (hl2 : l.length ≤ n) (u1 u2 : Int64) : ∃ τ, (if inB ((nI k) &&& 65535) 65536 then (oLet ((rI σ 50 ((nI k) &&& 65535 : Int32).toNatClampNeg) - 1 : Int32) fun x32 => if 0 ≤ x32 then (if (if (rI σ (rR σ 37 6) 3) ≤ x32 then true else (if (nI (rK σ (rR σ (rR σ 37 6) 0)).2) ≤ x32 then true else false)) = true then (some (((), σ))) else (oB (f_X9_merge σ x32 u1 u2) fun _ σ34 => some (((), σ34)))) else (oB (f_X9_append σ (nI k) u1 u2) fun _ σ36 => some (((), σ36)))) else none) = some ((), τ) ∧ StR τ t 3 a b c 50 65535 (ins (mgL md) l k (u1, u2)) ∧ FrP σ τ t a b c := by
  have F2 := F
  obtain ⟨⟨f1, f2, f3⟩, ⟨f4, f5, f6⟩, -, ⟨f7, f8, f9⟩, -, ⟨n1, n2, -, -⟩, ⟨d1, d2, d3, -, -, -⟩, ⟨x1, -⟩, -⟩ := F2
  have g1 := H.1
  rw [nI_16 hk, if_pos (inB_nI (n := 65536) (by decide) hk), nI_clamp (by omega)]
  simp only [oLet_eq, f1, f4, f7, g1]
  by_cases hm : k ∈ l.map (fun p => p.1)
  · obtain ⟨i, w, hi⟩ := nd_mem hm
    obtain ⟨q1, q2, q3, q4⟩ := H.2.2.2.1 i _ hi
    have hil : i < l.length := (List.getElem?_eq_some_iff.mp hi).1
    have q4 : rI σ 50 k = nI (i + 1) := q4
    rw [q4, show nI (i + 1) - 1 = nI i from nI_pred i, if_pos (nI_pos' (by omega))]
    have c1 : ¬ nI l.length ≤ nI i := fun q => by have := (nI_leI (by omega) (by omega)).mp q; omega
    have c2 : ¬ nI n ≤ nI i := fun q => by have := (nI_leI (by omega) (by omega)).mp q; omega
    rw [if_neg (by rw [if_neg c1, if_neg c2]; exact Bool.false_ne_true), ins_in H.2.1 (u1, u2) hi]
    obtain ⟨τ, k1, k2, k3⟩ := merge_eq F hmd h4 H hi hl2 u1 u2
    rw [k1]
    exact ⟨τ, rfl, k2, k3⟩
  · have hs := H.2.2.2.2 k (by omega) hm
    rw [hs, if_neg (by decide), ins_out _ hm]
    obtain ⟨τ, k1, k2, k3⟩ := append_eq F H hk hm (hl hm) u1 u2
    rw [k1]
    exact ⟨τ, rfl, k2, k3⟩
/-- how many colours lack a full run -/
def lkW (su : Nat → Int32) (code : Int32) (m : Nat) : Int32 := (List.range m).foldl (fun s c => s + ((((su c) >>> (((code >>> ((4 * nI c) &&& 31)) &&& 15) &&& 31)) &&& 1) ^^^ 1)) 0
def wxW (su : Nat → Int32) (x y : Int64) (code : Int32) : Int64 := if lkW su code 4 = 0 then ((if lg_cmp (y &&& (4503599627370496 : Int64)) (0 : Int64) = 0 then (0 : Int64) else x) ||| (if lg_cmp (x &&& (4503599627370496 : Int64)) (0 : Int64) = 0 then (0 : Int64) else (y &&& (((-4503599627370497) : Int64))))) else if lkW su code 4 = 1 then (((if lg_cmp (y &&& (4503599627370496 : Int64)) (0 : Int64) = 0 then (0 : Int64) else x) ||| (if lg_cmp (x &&& (4503599627370496 : Int64)) (0 : Int64) = 0 then (0 : Int64) else (y &&& (((-4503599627370497) : Int64))))) &&& (4503599627370496 : Int64)) else 0
theorem wx_eq {σ : rS} {su : Nat → Int32} (hs : ∀ c, c < 4 → rI σ 64 c = su c) (x y : Int64) (code : Int32) : f_X9_withExtras σ x y code = some (wxW su x y code) := by
  unfold f_X9_withExtras
  simp only [oLet_eq]
  have hL : oLoop (b_X9_withExtras_43 σ code) oFuel (0, 0) = some (.inr (lkW su code 4)) := by
    refine oL_up (N := 4) (fun c => (lkW su code c, nI c)) 0 (by omega) (fun c _ hc => ?_) ?_ (by decide)
    · unfold b_X9_withExtras_43
      dsimp only
      have c1 : ¬ (4 : Int32) ≤ nI c := fun q => by have := (nI_leI (a := 4) (by omega) (by omega)).mp q; omega
      rw [if_neg c1, if_pos (inB_nI (by decide) hc), nI_clamp (by omega), hs c hc]
      simp only [oLet_eq]
      rw [show nI c + 1 = nI (c + 1) from nI_1 c]
      conv => rhs; unfold lkW; rw [range_foldl]
      rfl
    · unfold b_X9_withExtras_43
      rfl
  rw [hL, oJ_inr]
  rfl
/-- what becomes of a state's value on a way, by steps -/
def actW (md : Nat) (su : Nat → Int32) (code p4 : Int32) (v w : Int64 × Int64) : Option (Int64 × Int64) :=
  if md = 4 then some (v.1 + w.1, v.2 + w.2)
  else if md = 2 then some (lRem (v.1 <<< ((((p4 >>> ((8 : Int32) &&& 31)) &&& 7 : Int32)).toInt64 &&& 63)) (1000000007 : Int64), v.2 + ((4294967297 : Int64) * (((((p4 >>> ((16 : Int32) &&& 31)) &&& 15 : Int32)).toInt64) + w.1)))
  else if md = 3 then (if lg_cmp (wxW su v.1 w.1 code) (0 : Int64) = 0 then none else some (wxW su v.1 w.1 code, v.2))
  else some v
def putW (md : Nat) (su : Nat → Int32) (k : Nat) (p4 : Int32) (v w : Int64 × Int64) (l : List (Nat × Int64 × Int64)) : List (Nat × Int64 × Int64) := match actW md su (nI k) p4 v w with
  | none => l
  | some u => ins (mgL md) l k u
theorem put_eq {σ : rS} {t a b c n h a' b' c' n' md : Nat} (F : LyF σ t a b c n h a' b' c' n') (hmd : rI σ 37 17 = nI md) (h4 : md ≤ 4) {su : Nat → Int32} (hs : ∀ c, c < 4 → rI σ 64 c = su c) {l : List (Nat × Int64 × Int64)} (H : StR σ t 3 a b c 50 65535 l) {k i j : Nat} (hk : k < 65536) (hl : k ∉ l.map (fun p => p.1) → l.length < n) (hl2 : l.length ≤ n) (hi : i < n') (hj : j < 81) {v w : Int64 × Int64} (v1 : rL σ b' i = v.1) (v2 : rL σ c' i = v.2) (w1 : rL σ 60 j = w.1) (w2 : rL σ 61 j = w.2) (p4 : Int32) : ∃ τ, f_X9_put σ (nI i) (nI j) (nI k) p4 = some ((), τ) ∧ StR τ t 3 a b c 50 65535 (putW md su k p4 v w l) ∧ FrP σ τ t a b c := by
  have tl := put_tail F hmd h4 H hk hl hl2
  have F2 := F
  obtain ⟨⟨f1, f2, f3⟩, ⟨f4, f5, f6⟩, ⟨f4', f5', f6'⟩, ⟨f7, f8, f9⟩, ⟨f7', f8', f9'⟩, ⟨n1, n2, n1', n2'⟩, -⟩ := F2
  have ibi : inB (nI i) n' := inB_nI (by omega) hi
  have ibj : inB (nI j) 81 := inB_nI (by decide) hj
  have e3 : (nI md = 3) = (md = 3) := propext (nI_eq (b := 3) (by omega) (by omega))
  have e2 : (nI md = 2) = (md = 2) := propext (nI_eq (b := 2) (by omega) (by omega))
  have e4 : (nI md = 4) = (md = 4) := propext (nI_eq (b := 4) (by omega) (by omega))
  have r1 : rL σ (rR σ (rR σ 37 5) 1) (nI i).toNatClampNeg = v.1 := by rw [f2, f5', nI_clamp (by omega), v1]
  have r2 : rL σ (rR σ (rR σ 37 5) 2) (nI i).toNatClampNeg = v.2 := by rw [f2, f6', nI_clamp (by omega), v2]
  have r3 : rL σ 60 (nI j).toNatClampNeg = w.1 := by rw [nI_clamp (by omega), w1]
  have r4 : rL σ 61 (nI j).toNatClampNeg = w.2 := by rw [nI_clamp (by omega), w2]
  have r5 : (rK σ (rR σ (rR σ 37 5) 0)).2 = n' := by rw [f2, f4', f7']
  have r6 : (rK σ (rR σ (rR σ 37 5) 1)).2 = n' := by rw [f2, f5', f8']
  have r7 : (rK σ (rR σ (rR σ 37 5) 2)).2 = n' := by rw [f2, f6', f9']
  unfold f_X9_put putW actW
  rw [r5, if_pos ibi]
  rw [oLet_eq, oLet_eq, r1, r2, hmd]
  simp only [e4, e2, e3]
  by_cases m4 : md = 4
  · rw [if_pos m4, if_pos m4, if_pos ibj, oLet_eq, oLet_eq, r3, r4]
    exact tl _ _
  · rw [if_neg m4, if_neg m4]
    by_cases m2 : md = 2
    · rw [if_pos m2, if_pos m2, if_pos (show ¬ (1000000007 : Int64) = 0 by decide), oLet_eq, if_pos ibj, oLet_eq, r3]
      exact tl _ _
    · rw [if_neg m2, if_neg m2]
      by_cases m3 : md = 3
      · rw [if_pos m3, if_pos m3, if_pos ibj, r3, wx_eq hs]
        show ∃ τ, (if lg_cmp (wxW su v.1 w.1 (nI k)) 0 = 0 then _ else _) = _ ∧ _
        by_cases hz : lg_cmp (wxW su v.1 w.1 (nI k)) 0 = 0
        · rw [if_pos hz, if_pos hz]
          exact ⟨σ, rfl, H, FrP.rf _ _ _ _ _⟩
        · rw [if_neg hz, if_neg hz]
          exact tl _ _
      · rw [if_neg m3, if_neg m3]
        exact tl _ _
