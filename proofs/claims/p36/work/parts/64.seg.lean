/-! the law's act, told before and after -/
def sG (f g : Nat → Int64) : Nat → Nat → Int32
  | 0, _ => 1
  | n + 1, k => if lg_cmp (f k) (g k) = 0 then sG f g n (k + 1) else 0
theorem sG_01 (f g : Nat → Int64) : ∀ n k, sG f g n k = 0 ∨ sG f g n k = 1
  | 0, _ => Or.inr rfl
  | n + 1, k => by
    unfold sG
    split
    · exact sG_01 f g n (k + 1)
    · exact Or.inl rfl
theorem tkS : ∀ k, k < 62 → ¬ (62 : Int32) ≤ nI k ∧ inB (nI k) 62 ∧ (nI k).toNatClampNeg = k ∧ nI k + 1 = nI (k + 1) := by decide +kernel
theorem S_go {σ : rS} {a b : Nat} (ha : rK σ a = (1, 62)) (hb : rK σ b = (1, 62)) : ∀ n k, k + n = 62 → rE mL_same 1 2 [some (.ref a), some (.ref b), some (.int (nI k))] [] σ 0 0 (.inl (some (.int (sG (rL σ a) (rL σ b) n k)))) σ := by
  intro n
  induction n with
  | zero =>
    intro k hk
    have hk2 : k = 62 := by omega
    subst hk2
    refine E_iload_n (x := nI 62) dL_same_2 rfl ?_
    refine E_bipush (v := 62) dL_same_3 (by decide) ?_
    refine E_icmp_ge 26 dL_same_5 (by decide) (fun _ => ?_) (fun h => absurd (by decide) h)
    refine E_iconst (v := 1) dL_same_26 (by decide) ?_
    exact E_zret01 rfl (Or.inr rfl) dL_same_27
  | succ n ih =>
    intro k hk
    obtain ⟨t1, t2, t3, t4⟩ := tkS k (by omega)
    refine E_iload_n (x := nI k) dL_same_2 rfl ?_
    refine E_bipush (v := 62) dL_same_3 (by decide) ?_
    refine E_icmp_ge 26 dL_same_5 (by decide) (fun h => absurd h t1) (fun _ => ?_)
    refine E_aload_n (x := a) dL_same_8 rfl ?_
    refine E_iload_n (x := nI k) dL_same_9 rfl ?_
    refine E_lald dL_same_10 ha (inB_vp t2) ?_
    refine E_aload_n (x := b) dL_same_11 rfl ?_
    refine E_iload_n (x := nI k) dL_same_12 rfl ?_
    refine E_lald dL_same_13 hb (inB_vp t2) ?_
    rw [t3]
    refine E_lcmp dL_same_14 ?_
    refine E_if_eq 20 dL_same_15 (by decide) (fun h => ?_) (fun h => ?_)
    · unfold sG
      rw [if_pos h]
      refine E_iinc (x := nI k) (v := 1) (ls2 := [some (.ref a), some (.ref b), some (.int (nI (k + 1)))]) dL_same_20 rfl (by decide) (by decide) (by rw [t4]; rfl) ?_
      exact E_goto 2 dL_same_23 (by decide) (ih (k + 1) (by omega))
    · unfold sG
      rw [if_neg h]
      refine E_iconst (v := 0) dL_same_18 (by decide) ?_
      exact E_zret01 rfl (Or.inl rfl) dL_same_19
theorem ok_same {σ : rS} {a b : Nat} (ha : rK σ a = (1, 62)) (hb : rK σ b = (1, 62)) : rMet yL_same mL_same 1 [.ref a, .ref b] σ 0 0 (some (.int (sG (rL σ a) (rL σ b) 62 0))) σ := by
  refine rMet_of (ls := [some (.ref a), some (.ref b), none]) yfL_same rfl (Nat.le_of_ble_eq_true rfl) ?_
  refine E_iconst (v := 0) dL_same_0 (by decide) ?_
  exact E_istore_n (ls2 := [some (.ref a), some (.ref b), some (.int (nI 0))]) dL_same_1 (by decide) rfl (S_go ha hb 62 0 rfl)
def f_act (σ : rS) (was : Nat → Int64) (x y kind hi : Int32) : Option (Int64 × rS) := if kind ≤ 19 then f_L_acts σ (x >>> ((9 : Int32) &&& 31)) y kind hi else if 0 ≤ lg_cmp (was 0) 0 then f_L_acts σ (x >>> ((9 : Int32) &&& 31)) y kind hi else some (-10004, σ)
def f_seg (σ : rS) (x y kind hi : Int32) : Option (Int32 × rS) := (f_tell σ).bind fun r1 => (f_act r1.2 r1.1 x y kind hi).bind fun r2 => if 0 < lg_cmp r2.1 (-10000) then some (1, r2.2) else (f_tell r2.2).bind fun r3 => some (if sG r1.1 r3.1 62 0 = 0 then 0 else 1, r3.2)
def mL_law : rM := (RL, cL_law, 11, some .boolean, false, List.replicate 100 ⟨0, 0, 0, 0⟩)
theorem B_tell0 {B pc : Nat} {ls : List (Option Value)} {st : List Value} {σ τ1 τ : rS} {g : Nat → Int64} {kc ks : Nat} {o : Option Value ⊕ String} (hJ : J Sy σ) (wf : Wf σ) (hf : f_tell σ = some (g, τ1)) (hcat : (st.map fun v => v.category).sum ≤ 8) (d : decode mL_law.2.1 pc = .ok (.invokestatic 166, 3)) (kk : Wf τ1 → rEb B mL_law 28 (pc + 3) ls (.ref (rN τ1) :: st) (xR τ1 g) kc ks o τ) : rEb B mL_law 28 pc ls (.ref 3 :: st) σ (kc + (249 + (uC τ1 - uC σ))) (ks + (1550 + (uS τ1 - uS σ))) o τ := by
  rcases (ok_tell hJ wf hf).2 with ⟨w, hM⟩ | hM
  · exact B_callS (as := [.ref 3]) (st := st) hM (by decide) yfL_tell mlL_166 stL_tell rfl hcat rfl d (kk w)
  · exact B_callS (as := [.ref 3]) (st := st) hM (by decide) yfL_tell mlL_166 stL_tell rfl hcat rfl d B_bad
theorem B_tell1 {B pc : Nat} {ls : List (Option Value)} {st : List Value} {σ τ1 τ : rS} {f g : Nat → Int64} {kc ks : Nat} {o : Option Value ⊕ String} (hJ : J Sy σ) (hB : B ≤ rN σ) (wf : Wf σ) (hf : f_tell σ = some (g, τ1)) (hcat : (st.map fun v => v.category).sum ≤ 8) (d : decode mL_law.2.1 pc = .ok (.invokestatic 166, 3)) (kk : Wf τ1 → rEb B mL_law 28 (pc + 3) (ls.map (Option.map (mv (rN σ) (rN τ1 + 1)))) (.ref (rN τ1) :: st.map (mv (rN σ) (rN τ1 + 1))) (xR (xR τ1 g) f) kc ks o τ) : rEb B mL_law 28 pc ls (.ref 3 :: st) (xR σ f) (kc + (249 + (uC τ1 - uC σ))) (ks + (1550 + (uS τ1 - uS σ))) o τ := by
  have h67 := Sy_67 hJ
  have has : rSt [.ref 3] (rN σ) := fun x hx => by
    cases List.mem_singleton.mp hx
    exact ⟨by decide, Nat.lt_of_lt_of_le (by decide) h67⟩
  rcases (ok_tell hJ wf hf).2 with ⟨w, hM⟩ | hM
  · exact B_callSx (as := [.ref 3]) (st := st) hM hB wf has (by decide) yfL_tell mlL_166 stL_tell rfl hcat rfl d (fun _ _ => kk w)
  · refine B_callSx (as := [.ref 3]) (st := st) hM hB wf has (by decide) yfL_tell mlL_166 stL_tell rfl hcat rfl d (fun w2 _ => absurd (w2 0 0) (by decide))
abbrev lsA (a b c d x y k : Int32) (e : Int32) (w : Option Value) : List (Option Value) := [some (.ref 2), some (.ref 3), none, some (.int b), some (.int c), some (.int e), some (.int d), some (.int x), some (.int y), some (.int k), w]
theorem lsA_mv {a b c d x y k e : Int32} {p q : Nat} (h : 3 < p) : (lsA a b c d x y k e (some (.ref p))).map (Option.map (mv p q)) = lsA a b c d x y k e (some (.ref q)) := by
  show [some (mv _ _ (.ref 2)), some (mv _ _ (.ref 3)), none, some (.int b), some (.int c), some (.int e), some (.int d), some (.int x), some (.int y), some (.int k), some (mv _ _ (.ref p))] = _
  rw [mv_s, mv_o (by omega), mv_o (by omega)]
theorem lsA_wv {a b c d x y k e : Int32} {n : Nat} (h : 3 < n) : ∀ (i : Nat) (v : Value), (lsA a b c d x y k e none)[i]? = some (some v) → wv n v := by
  intro i v hv
  match i, hv with
  | 0, hv => cases hv; exact ⟨by decide, Nat.lt_trans (by decide) h⟩
  | 1, hv => cases hv; exact ⟨by decide, h⟩
  | 2, hv => cases hv
  | 3, hv => cases hv; exact trivial
  | 4, hv => cases hv; exact trivial
  | 5, hv => cases hv; exact trivial
  | 6, hv => cases hv; exact trivial
  | 7, hv => cases hv; exact trivial
  | 8, hv => cases hv; exact trivial
  | 9, hv => cases hv; exact trivial
  | 10, hv => cases hv
  | i + 11, hv => simp at hv
theorem lsA_le {a b c d x y k e : Int32} {w : Option Value} : ∀ (i : Nat) (v : Value), (lsA a b c d x y k e none)[i]? = some (some v) → (lsA a b c d x y k e w)[i]? = some (some v) := by
  intro i v hv
  match i, hv with
  | 0, hv => exact hv
  | 1, hv => exact hv
  | 2, hv => exact hv
  | 3, hv => exact hv
  | 4, hv => exact hv
  | 5, hv => exact hv
  | 6, hv => exact hv
  | 7, hv => exact hv
  | 8, hv => exact hv
  | 9, hv => exact hv
  | 10, hv => cases hv
  | i + 11, hv => simp at hv
/-- behind the comparison: the answer is kept, the rows are dropped -/
theorem B_kept1 {B : Nat} {a b c d x y k e v : Int32} {σ τ : rS} {f : Nat → Int64} {w : Option Value} {kc ks : Nat} {o : Option Value ⊕ String} (hB : B ≤ rN σ) (wf : Wf σ) (h3 : 3 < rN σ) (kk : rE mL_law 28 383 (lsA a b c d x y k v none) [] σ kc ks o τ) : rEb B mL_law 28 324 (lsA a b c d x y k e w) [.int v] (xR σ f) kc ks o τ := by
  refine B_istore (ls2 := lsA a b c d x y k v w) dL_law_324 (by decide) rfl ?_
  refine B_goto 383 dL_law_326 (by decide) ?_
  refine B_less (ls2 := lsA a b c d x y k v none) ?_ lsA_le
  exact B_drop hB wf (lsA_wv h3) (fun _ h => absurd h List.not_mem_nil) (rEb_of kk)
theorem B_kept2 {B : Nat} {a b c d x y k e v : Int32} {σ τ : rS} {f g : Nat → Int64} {w : Option Value} {kc ks : Nat} {o : Option Value ⊕ String} (hB : B ≤ rN σ) (wf : Wf σ) (h3 : 3 < rN σ) (kk : rE mL_law 28 383 (lsA a b c d x y k v none) [] σ kc ks o τ) : rEb B mL_law 28 324 (lsA a b c d x y k e w) [.int v] (xR (xR σ g) f) kc ks o τ := by
  refine B_istore (ls2 := lsA a b c d x y k v w) dL_law_324 (by decide) rfl ?_
  refine B_goto 383 dL_law_326 (by decide) ?_
  refine B_less (ls2 := lsA a b c d x y k v none) ?_ lsA_le
  have hN : rN σ ≤ rN (xR σ g) := Nat.le_succ _
  refine B_drop (Nat.le_trans hB hN) (xR_wf wf) (lsA_wv (Nat.lt_of_lt_of_le h3 hN)) (fun _ h => absurd h List.not_mem_nil) ?_
  exact B_drop hB wf (lsA_wv h3) (fun _ h => absurd h List.not_mem_nil) (rEb_of kk)
/-- from the act's answer on -/
theorem B_after {B : Nat} {a b c d x y k e : Int32} {v : Int64} {σ τ : rS} {was : Nat → Int64} {kc ks cx sx : Nat} {o : Option Value ⊕ String} {p : Option (Int32 × rS)} (hp : p = if 0 < lg_cmp v (-10000) then some (1, σ) else (f_tell σ).bind fun r3 => some (if sG was r3.1 62 0 = 0 then 0 else 1, r3.2)) (hJ : J Sy σ) (hB : B ≤ rN σ) (wf : Wf σ) {u : Int32} {σ3 : rS} (h : p = some (u, σ3)) (hc : kc + (249 + (uC σ3 - uC σ)) ≤ cx) (hs : ks + (1550 + (uS σ3 - uS σ)) ≤ sx) (kk : rE mL_law 28 383 (lsA a b c d x y k u none) [] σ3 kc ks o τ) : rEb B mL_law 28 300 (lsA a b c d x y k e (some (.ref (rN σ)))) [.long v] (xR σ was) cx sx o τ := by
  have h67 := Sy_67 hJ
  rw [hp] at h
  refine B_ldc2 dL_law_300 kcL_174 ?_
  refine B_lcmp dL_law_303 ?_
  refine B_if_gt 319 dL_law_304 (by decide) (fun q => ?_) (fun q => ?_)
  · rw [if_pos q] at h
    cases h
    refine B_iconst (v := 1) dL_law_319 (by decide) ?_
    refine B_goto 324 dL_law_320 (by decide) ?_
    exact B_room (B_kept1 hB wf (by omega) kk) (by omega) (by omega)
  · rw [if_neg q] at h
    obtain ⟨⟨g, σ4⟩, hf, h2⟩ := Option.bind_eq_some_iff.mp h
    cases h2
    have h4 := (ok_tell hJ wf hf).1
    have h674 := Sy_67 h4.1
    have hN : rN σ ≤ rN σ4 := h4.2.1
    refine B_room (kc := kc + (249 + (uC σ4 - uC σ))) (ks := ks + (1550 + (uS σ4 - uS σ))) ?_ hc hs
    refine B_aload (x := rN σ) dL_law_307 rfl ?_
    refine B_aload_n (x := 3) dL_law_309 rfl ?_
    refine B_tell1 hJ hB wf hf (Nat.le_of_ble_eq_true rfl) dL_law_310 (fun w4 => ?_)
    rw [lsA_mv (by omega)]
    show rEb B mL_law 28 313 _ [.ref (rN σ4), mv (rN σ) (rN σ4 + 1) (.ref (rN σ))] _ _ _ _ _
    rw [mv_s]
    have ka : rK (xR (xR σ4 g) was) (rN σ4 + 1) = (1, 62) := xR_K (xR σ4 g) was
    have kb : rK (xR (xR σ4 g) was) (rN σ4) = (1, 62) := (xR_Ko (Nat.ne_of_lt (Nat.lt_succ_self _))).trans (xR_K σ4 g)
    have hM := ok_same ka kb
    have la : rL (xR (xR σ4 g) was) (rN σ4 + 1) = was := xR_L (xR σ4 g) was
    have lb : rL (xR (xR σ4 g) was) (rN σ4) = g := (xR_Lo (Nat.ne_of_lt (Nat.lt_succ_self _))).trans (xR_L σ4 g)
    rw [la, lb] at hM
    refine B_callS (as := [.ref (rN σ4 + 1), .ref (rN σ4)]) (st := []) (mc := 0) (ms := 0) hM (by decide) yfL_same mlL_176 stL_same rfl (Nat.zero_le _) rfl dL_law_313 ?_
    refine B_if_eq 323 dL_law_316 (by decide) (fun z => ?_) (fun z => ?_)
    · rw [if_pos z] at kk
      refine B_iconst (v := 0) dL_law_323 (by decide) ?_
      exact B_kept2 (Nat.le_trans hB hN) w4 (by omega) kk
    · rw [if_neg z] at kk
      refine B_iconst (v := 1) dL_law_319 (by decide) ?_
      refine B_goto 324 dL_law_320 (by decide) ?_
      exact B_kept2 (Nat.le_trans hB hN) w4 (by omega) kk
theorem act_J {σ τ : rS} {was : Nat → Int64} {x y k hi : Int32} {v : Int64} (hJ : J Sy σ) (h : f_act σ was x y k hi = some (v, τ)) : J Sy τ ∧ uC σ ≤ uC τ ∧ uS σ ≤ uS τ := by
  unfold f_act at h
  split at h
  · exact (ok_L_acts hJ v τ h).1
  · split at h
    · exact (ok_L_acts hJ v τ h).1
    · cases h
      exact ⟨hJ, Nat.le_refl _, Nat.le_refl _⟩
theorem B_acts {B : Nat} {a b c d x y k e : Int32} {v : Int64} {σ τ1 τ : rS} {was : Nat → Int64} {kc ks : Nat} {o : Option Value ⊕ String} (hJ : J Sy σ) (hB : B ≤ rN σ) (wf : Wf σ) (hf : f_L_acts σ (x >>> ((9 : Int32) &&& 31)) y k b = some (v, τ1)) (kk : Wf τ1 → rEb B mL_law 28 300 (lsA a b c d x y k e (some (.ref (rN τ1)))) [.long v] (xR τ1 was) kc ks o τ) : rEb B mL_law 28 286 (lsA a b c d x y k e (some (.ref (rN σ)))) [] (xR σ was) (kc + (56 + (uC τ1 - uC σ))) (ks + (336 + (uS τ1 - uS σ))) o τ := by
  have h67 := Sy_67 hJ
  obtain ⟨-, hM⟩ := ok_L_acts hJ v τ1 hf
  refine B_aload_n (x := 3) dL_law_286 rfl ?_
  refine B_iload (x := x) dL_law_287 rfl ?_
  refine B_bipush (v := 9) dL_law_289 (by decide) ?_
  refine B_ishr dL_law_291 ?_
  refine B_iload (x := y) dL_law_292 rfl ?_
  refine B_iload (x := k) dL_law_294 rfl ?_
  refine B_iload_n (x := b) dL_law_296 rfl ?_
  refine B_callSx (as := [.ref 3, .int (x >>> ((9 : Int32) &&& 31)), .int y, .int k, .int b]) (st := []) hM hB wf ?_ (by decide) yfL_acts mlL_170 stL_acts rfl (Nat.zero_le _) rfl dL_law_297 (fun w1 w2 => ?_)
  · intro z hz
    simp only [List.mem_cons, List.not_mem_nil, or_false] at hz
    rcases hz with rfl | rfl | rfl | rfl | rfl
    · exact ⟨by decide, Nat.lt_of_lt_of_le (by decide) h67⟩
    all_goals exact trivial
  · rw [lsA_mv (by omega)]
    exact kk w1
theorem E_seg {a b c d x y k e u : Int32} {σ σ3 τ : rS} {kc ks : Nat} {o : Option Value ⊕ String} (hJ : J Sy σ) (h : f_seg σ x y k b = some (u, σ3)) (kk : rE mL_law 28 383 (lsA a b c d x y k u none) [] σ3 kc ks o τ) : rE mL_law 28 258 (lsA a b c d x y k e none) [] σ (kc + (554 + (uC σ3 - uC σ))) (ks + (3436 + (uS σ3 - uS σ))) o τ := by
  refine rE_b (B_wf (fun wf => ?_))
  unfold f_seg at h
  obtain ⟨⟨was, σ1⟩, hf1, h⟩ := Option.bind_eq_some_iff.mp h
  obtain ⟨⟨v, σ2⟩, hf2, h⟩ := Option.bind_eq_some_iff.mp h
  dsimp only at hf2 h
  obtain ⟨J1, c1, s1⟩ := (ok_tell hJ wf hf1).1
  obtain ⟨J2, c2, s2⟩ := act_J J1 hf2
  have hc3 : uC σ2 ≤ uC σ3 ∧ uS σ2 ≤ uS σ3 := by
    split at h
    · cases h; exact ⟨Nat.le_refl _, Nat.le_refl _⟩
    · obtain ⟨⟨g, σ4⟩, hf, h2⟩ := Option.bind_eq_some_iff.mp h
      cases h2
      exact (T_go 62 0 _ σ2 rfl J2 g _ hf).1.2
  obtain ⟨c3, s3⟩ := hc3
  refine B_room (kc := (kc + (249 + (uC σ3 - uC σ2)) + (56 + (uC σ2 - uC σ1))) + (249 + (uC σ1 - uC σ))) (ks := (ks + (1550 + (uS σ3 - uS σ2)) + (336 + (uS σ2 - uS σ1))) + (1550 + (uS σ1 - uS σ))) ?_ (by omega) (by omega)
  refine B_aload_n (x := 3) dL_law_258 rfl ?_
  refine B_tell0 hJ wf hf1 (by decide) dL_law_259 (fun w1 => ?_)
  have hN1 : rN σ ≤ rN σ1 := c1
  refine B_astore (ls2 := lsA a b c d x y k e (some (.ref (rN σ1)))) dL_law_262 (by decide) rfl ?_
  refine B_iload (x := k) dL_law_264 rfl ?_
  refine B_bipush (v := 19) dL_law_266 (by decide) ?_
  have go : f_L_acts σ1 (x >>> ((9 : Int32) &&& 31)) y k b = some (v, σ2) → rEb (rN σ) mL_law 28 286 (lsA a b c d x y k e (some (.ref (rN σ1)))) [] (xR σ1 was) (kc + (249 + (uC σ3 - uC σ2)) + (56 + (uC σ2 - uC σ1))) (ks + (1550 + (uS σ3 - uS σ2)) + (336 + (uS σ2 - uS σ1))) o τ := fun hf => by
    have hN2 : rN σ1 ≤ rN σ2 := c2
    exact B_acts J1 hN1 w1 hf (fun w2 => B_after rfl J2 (Nat.le_trans hN1 hN2) w2 h (Nat.le_refl _) (Nat.le_refl _) kk)
  refine B_icmp_le 286 dL_law_268 (by decide) (fun q => ?_) (fun q => ?_)
  · unfold f_act at hf2
    rw [if_pos q] at hf2
    exact go hf2
  · refine B_aload (x := rN σ1) dL_law_271 rfl ?_
    refine B_iconst (v := 0) dL_law_273 (by decide) ?_
    refine B_lald dL_law_274 (xR_K σ1 was) (inB_vp (by decide)) ?_
    rw [xR_L]
    refine B_lconst (v := 0) dL_law_275 (by decide) ?_
    refine B_lcmp dL_law_276 ?_
    refine B_if_ge 286 dL_law_277 (by decide) (fun r => ?_) (fun r => ?_)
    · unfold f_act at hf2
      rw [if_neg q] at hf2
      have r' : 0 ≤ lg_cmp (was 0) 0 := r
      rw [if_pos r'] at hf2
      exact go hf2
    · unfold f_act at hf2
      rw [if_neg q] at hf2
      have r' : ¬ 0 ≤ lg_cmp (was 0) 0 := r
      rw [if_neg r'] at hf2
      cases hf2
      refine B_ldc2 dL_law_280 kcL_131 ?_
      refine B_goto 300 dL_law_283 (by decide) ?_
      exact B_after rfl J1 hN1 w1 h (by omega) (by omega) kk
theorem seg_J {σ τ : rS} {x y k hi u : Int32} (hJ : J Sy σ) (h : f_seg σ x y k hi = some (u, τ)) : J Sy τ ∧ uC σ ≤ uC τ ∧ uS σ ≤ uS τ := by
  unfold f_seg at h
  obtain ⟨⟨was, σ1⟩, hf1, h⟩ := Option.bind_eq_some_iff.mp h
  obtain ⟨⟨v, σ2⟩, hf2, h⟩ := Option.bind_eq_some_iff.mp h
  dsimp only at hf2 h
  obtain ⟨J1, c1, s1⟩ := (T_go 62 0 _ σ rfl hJ was σ1 hf1).1
  obtain ⟨J2, c2, s2⟩ := act_J J1 hf2
  split at h
  · cases h; exact ⟨J2, Nat.le_trans c1 c2, Nat.le_trans s1 s2⟩
  · obtain ⟨⟨g, σ4⟩, hf, h2⟩ := Option.bind_eq_some_iff.mp h
    cases h2
    obtain ⟨J3, c3, s3⟩ := (T_go 62 0 _ σ2 rfl J2 g _ hf).1
    exact ⟨J3, Nat.le_trans (Nat.le_trans c1 c2) c3, Nat.le_trans (Nat.le_trans s1 s2) s3⟩
theorem P_seg {kc ks kc2 ks2 : Nat} {o : Option Value ⊕ String} {τ : rS} {R : Type} {W : R → rS} {K : R → Prop} {a b c d x y k e : Int32} {σ : rS} {rest : Int32 → rS → Option R} (hm : kc2 + 554 ≤ kc) (hs : ks2 + 3436 ≤ ks) (kk : ∀ v τ1, rP Sy mL_law 28 kc2 ks2 o τ W K 383 (lsA a b c d x y k v none) [] τ1 (rest v τ1)) : rP Sy mL_law 28 kc ks o τ W K 258 (lsA a b c d x y k e none) [] σ (oB (f_seg σ x y k b) rest) := by
  intro hJ r hr
  obtain ⟨⟨v, τ1⟩, hf, hr2⟩ := Option.bind_eq_some_iff.mp hr
  obtain ⟨h1, h2, h3⟩ := seg_J hJ hf
  obtain ⟨⟨g1, g2, g3⟩, g4⟩ := kk v τ1 h1 r hr2
  refine ⟨⟨g1, Nat.le_trans h2 g2, Nat.le_trans h3 g3⟩, fun p q z => ?_⟩
  exact E_room (E_seg hJ hf (g4 p q z)) (by omega) (by omega)
