/-! methods with handlers (the law's own) -/
def rHh (M : rM) : List (Nat × Nat × Nat × Nat) → Prop := fun hh => M.2.2.2.2.2 = tableOf hh
/-- what is fixed of a method with handlers -/
def rYh (y : MethodName) (M : rM) (n : Nat) (hh : List (Nat × Nat × Nat × Nat)) : Prop := y.cls = M.1 ∧ plainName y.cls = true ∧ Cond.codeWith y M.2.1 M.2.2.1 M.2.2.2.1 hh ∈ rWd ∧ Cond.initialized y.cls ∈ rWd ∧ (parseMethodDescriptor y.desc).map (fun d => d.parameters.length) = some n ∧ M.2.2.1 ≤ 80 ∧ M.2.2.2.2.2 = tableOf hh ∧ M.2.2.2.2.1 = false ∧ y.cls ≠ "java/lang/invoke/MethodHandle" ∧ y.cls ≠ "java/lang/invoke/VarHandle"
abbrev rHdH (y : MethodName) (M : rM) (hh : List (Nat × Nat × Nat × Nat)) : List Cond := .codeWith y M.2.1 M.2.2.1 M.2.2.2.1 hh :: rWd
def rMetH (y : MethodName) (M : rM) (hh : List (Nat × Nat × Nat × Nat)) (k : Nat) (as : List Value) (σ : rS) (mc ms : Nat) (v : Option Value) (τ : rS) : Prop := ∀ (l : Launch) (G : rG) (ad : Nat → Nat), l.stackTraces = false → vx_Met l y (rHdH y M hh) ({ frames := k, cells := mc, slots := ms, locals := 100 * k }) (rPc G ad σ as) (rQ G ad (rN σ) (.inl v) τ) (rX G ad (rN σ) (.inl v) τ) mc ms (rA G)
theorem rMetH_of {y : MethodName} {M : rM} {k n : Nat} {hh : List (Nat × Nat × Nat × Nat)} {as : List Value} {ls : List (Option Value)} {σ τ : rS} {mc ms : Nat} {v : Option Value} (hy : rYh y M n hh) (hls : rEn M.2.2.1 as = ls) (hsz : (rEnt as).length ≤ M.2.2.1) (hE : rE M k 0 ls [] σ mc ms (.inl v) τ) : rMetH y M hh k as σ mc ms v τ := by
  subst hls
  intro l G ad hst
  refine vx_ofWH (hh := hh) hy.2.1 rfl ?_
  intro p e s m args below meth c s₁ B hml hv
  obtain ⟨rfl, hC, hW, hwf⟩ := hv
  have hx := B.exec
  have hb := B.bytes
  have hr := B.returns
  have hts0 := atoms_spec (ws := rHdH y M hh) B.pre
  have hown : s.vm.findClass M.1 = some m.cls := by rw [← hy.1]; exact findClass_of_methodNamed B.named
  have hlocks := B.notSynchronized
  have hin : M.2.2.2.2.1 = true → meth.name = "<init>" := fun q => by rw [hy.2.2.2.2.2.2.2.1] at q; cases q
  have htab : c.exceptionTable.toList = M.2.2.2.2.2 := by
    rw [hy.2.2.2.2.2.2.1]
    exact vx_table (x := y) B (hts0 _ List.mem_cons_self)
  have hl := lv_entry (as.map (tv ad)) (n := M.2.2.1) (by rw [rEnt_len]; exact hsz)
  rw [lg_entry_eq]
  refine hE l p e _ s m _ below meth c G ad (rN σ) ad s.heap [] 0 0 _ ⟨hst, hx, hb, hml, hown, fun w hw => hts0 w (List.mem_cons_of_mem _ hw), hlocks, hr, hin, fun _ => htab, Nat.le_refl _, Nat.le_refl _, hC⟩ hW.1 (Nat.le_refl _) (fun _ _ => rfl) (Nat.le_of_eq (Nat.zero_add _)) (Nat.le_of_eq (Nat.zero_add _)) hW va_S.rf ⟨hl.1, hl.2.1, fun i v hv => ?_⟩ (fun v hv => absurd hv List.not_mem_nil)
  obtain ⟨h1, h2⟩ := rEnt_at ad as 0 i v (rEn_at hv)
  rw [Nat.zero_add] at h2
  exact ⟨hwf v h1, hl.2.2 _ h2⟩
theorem r_afterH {p : Program} {l : Launch} {e : Env} {R : Room} {s : State} {m : MethodId} {args : Array Value} {below : List Frame} {meth : Method} {c : Code} {H : Heap} {locs : List Loc} {cells slots : Nat} {Q : State → Prop} {G : rG} {ad : Nat → Nat} {n : Nat} {v : Option Value} {τ1 : rS} {mc ms pc : Nat} {la : Array Slot} {st0 rest : List Value} {a : Array Value} (hr : vx_Run p l e R s m args below meth c H locs cells slots mc ms (F0 m pc la st0) rest (rQ G ad n (.inl v) τ1 a) (rX G ad n (.inl v) τ1) (rA G)) (hS : va_S (rA G) s.heap H locs)
    (kk : ∀ (ad' : Nat → Nat) (H1 : Heap) (locs1 : List Loc), (∀ i, i < n → ad' i = ad i) → (∀ x, v = some x → wv (rN τ1) x) → rW G ad' τ1 H1 → va_S (rA G) s.heap H1 locs1 → n ≤ rN τ1 → W p l e R s m args below meth c H1 locs1 (cells + mc) (slots + ms) Q (F0 m (pc + 3) la ((v.map (tv ad')).toList ++ rest))) : W p l e R s m args below meth c H locs cells slots Q (F0 m pc la st0) := by
  refine r_after (a := a) (fun T hT X => ?_) hS kk
  rcases hr T hT X with h | ⟨q, st₀, t, T', L, E1, ce, h0, X', hL, e1, e2, ⟨ho, -⟩, -⟩
  · exact h
  · cases ho
/-- a static call of a method with handlers, which does not throw -/
theorem E_callSH {M : rM} {k pc : Nat} {ls : List (Option Value)} {st stk : List Value} {σ τ τ1 : rS} {kc ks : Nat} {o : Option Value ⊕ String} {idx : Nat} {y : MethodName} {M2 : rM} {hh : List (Nat × Nat × Nat × Nat)} {k2 n mc ms : Nat} {as : List Value} {v : Option Value} (hM : rMetH y M2 hh k2 as σ mc ms v τ1) (hk2 : k2 < k) (hy : rYh y M2 n hh) (hln : Cond.methodLink M.1 idx y ∈ rWd) (hi : Cond.static y ∈ rWd) (hn9 : as.length = n) (hcat : (st.map fun v => v.category).sum ≤ 8) (hrev : stk = as.reverse ++ st) (d : decode M.2.1 pc = .ok (.invokestatic idx, 3)) (kk : rE M k (pc + 3) ls (v.toList ++ st) τ1 kc ks o τ) : rE M k pc ls stk σ (kc + mc) (ks + ms) o τ := by
  intro l p e R s m args below meth c0 G ad0 n0 ad H locs cells slots la C h3 hn ha hc hs hW hS hl hw
  subst hrev
  have hkf := C.2.2.2.2.2.2.2.2.2.2.1
  have hkl := C.2.2.2.2.2.2.2.2.2.2.2.1
  have hts := C.2.2.2.2.2.1
  have hmx := hy.2.2.2.2.2.1
  have e1 : ad 1 = ad0 1 := ha 1 (by omega)
  have e2 : ad 2 = ad0 2 := ha 2 (by omega)
  have hall : rSt as (rN σ) ∧ rSt st (rN σ) := by
    refine ⟨fun v hv => hw v ?_, fun v hv => hw v ?_⟩
    · exact List.mem_append_left _ (List.mem_reverse.mpr hv)
    · exact List.mem_append_right _ hv
  have hst' := hall.2
  have hG : GoodIn rWd (rHdH y M2 hh) := rGood fun w hw => (List.mem_cons.mp hw).elim (fun q => by rw [q]; exact hy.2.2.1) id
  have hroom : k2 + 1 ≤ R.frames ∧ 8 + (M2.2.2.1 + 11) + 100 * k2 ≤ R.locals := ⟨by omega, by omega⟩
  have hpre : ∀ U : State, U.heap = H → s.WarmedH U.vm → rPc G ad σ as (as.map (tv ad)).toArray U := fun U hU hWm => ⟨rfl, rC_go (by rw [e1, e2]; exact C.2.2.2.2.2.2.2.2.2.2.2.2) hU hS hWm, by rw [hU]; exact hW, hall.1⟩
  have hcw : vx_CSW R s args M.1 idx y M2.2.1 M2.2.2.1 M2.2.2.2.1 hh (rHdH y M2 hh) ({ frames := k2, cells := mc, slots := ms, locals := 100 * k2 }) mc ms n := by
    refine ⟨⟨rfl, rfl, hroom.1, hroom.2, pay_in hts hG, List.mem_cons_self⟩, hts _ hy.2.2.1, hts _ hy.2.2.2.1, ⟨hy.2.2.2.2.2.2.2.2.1, hy.2.2.2.2.2.2.2.2.2⟩, fun sig h => ?_, hts _ hln, hts _ hi⟩
    have h2 := hy.2.2.2.2.1
    rw [h] at h2
    exact (Option.some.inj h2).symm
  have hr := vx_runSX (cells := cells) (slots := slots) (locs := locs) (meth := meth) (below := below) (e := e) (As := (as.map (tv ad))) (rest := st.map (tv ad)) (g := F0 m pc la ((as.reverse ++ st).map (tv ad))) (own := M.1) ⟨C.2.1, C.2.2.1, C.2.2.2.1, C.2.2.2.2.1, hts⟩ (hM l G ad C.1) hcw ⟨rPc_blind, hpre⟩ rfl (by rw [List.length_map]; exact hn9) hl.1 (by rw [List.map_append, List.map_reverse] <;> rfl) (lv_room (by rw [rcats]; exact hcat)) d ⟨by omega, by omega⟩
  refine r_afterH hr hS (fun ad' H1 locs1 hag hwf hW1 hS1 hnn => ?_)
  have e9 : (v.map (tv ad')).toList ++ st.map (tv ad) = (v.toList ++ st).map (tv ad') := by
    rw [List.map_append, rSt_agree hag hst']
    cases v <;> rfl
  rw [e9]
  refine kk l p e R s m args below meth c0 G ad0 n0 ad' H1 locs1 (cells + mc) (slots + ms) la C h3 (Nat.le_trans hn hnn) (fun i hi => (hag i (Nat.lt_of_lt_of_le hi hn)).trans (ha i hi)) (by omega) (by omega) hW1 hS1 (rLv_agree hag hnn hl) (fun x hx => ?_)
  rcases List.mem_append.mp hx with q | q
  · cases v with
    | none => exact absurd q List.not_mem_nil
    | some v0 =>
      have : x = v0 := List.mem_singleton.mp q
      subst this
      exact hwf _ rfl
  · exact wv_mono hnn (hst' x q)

abbrev hL_does : List (Nat × Nat × Nat × Nat) := [(0, 534, 535, 121), (0, 534, 541, 125), (0, 534, 547, 129)]
def mL_does : rM := (RL, cL_does, 8, some .long, false, tableOf hL_does)
theorem yfL_does : rYh yL_does mL_does 7 hL_does := ⟨rfl, by decide +kernel, rWd2 228 rfl (by decide +kernel), iniL, by decide +kernel, by decide, rfl, rfl, by decide +kernel, by decide +kernel⟩
theorem stL_does : Cond.static yL_does ∈ rWd := rWd2 227 (by decide +kernel) (by decide +kernel)
theorem ca_IllegalArgumentException : Cond.castable "java/lang/IllegalArgumentException" "java/lang/IllegalArgumentException" ∈ rNw := rNw3 1 (by decide +kernel) (by decide +kernel)
theorem ca_IllegalStateException : Cond.castable "java/lang/IllegalStateException" "java/lang/IllegalStateException" ∈ rNw := rNw3 68 (by decide +kernel) (by decide +kernel)
theorem ca_IndexOutOfBoundsException : Cond.castable "java/lang/IndexOutOfBoundsException" "java/lang/IndexOutOfBoundsException" ∈ rNw := rNw5 125 (by decide +kernel) (by decide +kernel)
/-- a wrapper does what p says -/
def rFnH (I : rS → Prop) (y : MethodName) (M : rM) (hh : List (Nat × Nat × Nat × Nat)) (k : Nat) (as : List Value) (σ : rS) (m s : Nat) (p : Option (Int64 × rS)) : Prop :=
  J I σ → ∀ v τ, p = some (v, τ) → (J I τ ∧ uC σ ≤ uC τ ∧ uS σ ≤ uS τ) ∧ rMetH y M hh k as σ (m + (uC τ - uC σ)) (s + (uS τ - uS σ)) (some (.long v)) τ
theorem rFnH_of {I : rS → Prop} {y : MethodName} {M : rM} {hh : List (Nat × Nat × Nat × Nat)} {k n : Nat} {as : List Value} {ls : List (Option Value)} {σ : rS} {m s : Nat} {p : Option (Int64 × rS)} (hy : rYh y M n hh) (hls : rEn M.2.2.1 as = ls) (hsz : (rEnt as).length ≤ M.2.2.1) (h : ∀ o τ, rP I M k m s o τ Prod.snd (K0 tL o τ) 0 ls [] σ p) : rFnH I y M hh k as σ m s p := fun hJ v τ hp => by
  obtain ⟨h1, h2⟩ := h (tL v) τ hJ (v, τ) hp
  exact ⟨h1, rMetH_of hy hls hsz (h2 (Nat.le_refl _) (Nat.le_refl _) ⟨rfl, rfl⟩)⟩
theorem P_callH {M : rM} {k kc ks kc2 ks2 : Nat} {o : Option Value ⊕ String} {τ : rS} {I : rS → Prop} {R : Type} {W : R → rS} {K : R → Prop} {y : MethodName} {M2 : rM} {hh : List (Nat × Nat × Nat × Nat)} {k2 m s : Nat} {as : List Value} {f : Option (Int64 × rS)} {rest : Int64 → rS → Option R} {pc pc2 : Nat} {ls : List (Option Value)} {st : List Value} {st2 : Int64 → List Value} {σ : rS} (hF : J I σ → rFnH I y M2 hh k2 as σ m s f) (hE : J I σ → ∀ kc ks mc ms v τ1, rMetH y M2 hh k2 as σ mc ms (some (.long v)) τ1 → rE M k pc2 ls (st2 v) τ1 kc ks o τ → rE M k pc ls st σ (kc + mc) (ks + ms) o τ) (hm : kc2 + m ≤ kc) (hs : ks2 + s ≤ ks) (kk : ∀ v τ1, rP I M k kc2 ks2 o τ W K pc2 ls (st2 v) τ1 (rest v τ1)) : rP I M k kc ks o τ W K pc ls st σ (oB f rest) := by
  intro hJ r hr
  obtain ⟨⟨v, τ1⟩, hf, hr2⟩ := Option.bind_eq_some_iff.mp hr
  obtain ⟨⟨h1, h2, h3⟩, h4⟩ := hF hJ hJ v τ1 hf
  obtain ⟨⟨g1, g2, g3⟩, g4⟩ := kk v τ1 h1 r hr2
  refine ⟨⟨g1, Nat.le_trans h2 g2, Nat.le_trans h3 g3⟩, fun a b c => ?_⟩
  have h5 := hE hJ _ _ _ _ v τ1 h4 (g4 a b c)
  exact E_room h5 (by omega) (by omega)
/-- a call whose throws are caught -/
def oBc {T2 : Type} (f : Option ((T2 ⊕ String) × rS)) (hcs : List (String × Int64)) (rest : T2 → rS → Option (Int64 × rS)) : Option (Int64 × rS) := f.bind fun r => match r with
  | (.inl v, τ) => rest v τ
  | (.inr e, τ) => (hcs.lookup e).map fun c => (c, τ)
theorem P_callc {M : rM} {k kc ks kc2 ks2 : Nat} {o : Option Value ⊕ String} {τ : rS} {I : rS → Prop} {T2 : Type} {t2 : T2 → Option Value} {y : MethodName} {M2 : rM} {k2 m s : Nat} {as : List Value} {f : Option ((T2 ⊕ String) × rS)} {hcs : List (String × Int64)} {rest : T2 → rS → Option (Int64 × rS)} {pc pc2 : Nat} {ls : List (Option Value)} {st : List Value} {st2 : T2 → List Value} {σ : rS} (hF : J I σ → rFn I y M2 k2 as σ m s (tX fun v => .inl (t2 v)) f) (hE : J I σ → ∀ kc ks mc ms v τ1, rMet y M2 k2 as σ mc ms (t2 v) τ1 → rE M k pc2 ls (st2 v) τ1 kc ks o τ → rE M k pc ls st σ (kc + mc) (ks + ms) o τ) (hX : J I σ → ∀ e c, hcs.lookup e = some c → ∀ kc ks mc ms τ1, rMetX y M2 k2 as σ mc ms e τ1 → rE M k pc ls st σ (kc + mc) (ks + ms) (.inl (some (.long c))) τ1) (hm : kc2 + m ≤ kc) (hs : ks2 + s ≤ ks) (kk : ∀ v τ1, rP I M k kc2 ks2 o τ Prod.snd (K0 tL o τ) pc2 ls (st2 v) τ1 (rest v τ1)) : rP I M k kc ks o τ Prod.snd (K0 tL o τ) pc ls st σ (oBc f hcs rest) := by
  intro hJ r hr
  obtain ⟨⟨v, τ1⟩, hf, hr2⟩ := Option.bind_eq_some_iff.mp hr
  obtain ⟨⟨h1, h2, h3⟩, h4⟩ := hF hJ hJ v τ1 hf
  cases v with
  | inl v =>
    obtain ⟨⟨g1, g2, g3⟩, g4⟩ := kk v τ1 h1 r hr2
    refine ⟨⟨g1, Nat.le_trans h2 g2, Nat.le_trans h3 g3⟩, fun a b c => ?_⟩
    have h5 := hE hJ _ _ _ _ v τ1 h4 (g4 a b c)
    exact E_room h5 (by omega) (by omega)
  | inr e =>
    obtain ⟨c, hc, hr3⟩ := Option.map_eq_some_iff.mp hr2
    cases hr3
    refine ⟨⟨h1, h2, h3⟩, fun a b q => ?_⟩
    obtain ⟨q1, q2⟩ := q
    have q1' : tL c = o := q1
    have q2' : τ1 = τ := q2
    subst q1'; subst q2'
    exact E_room (hX hJ e c hc kc2 ks2 _ _ τ1 h4) (by omega) (by omega)
theorem look1 {a e : String} {x c : Int64} (h : [(a, x)].lookup e = some c) : e = a ∧ x = c := by
  simp only [List.lookup] at h
  split at h
  · rename_i q; cases h; exact ⟨by simpa using q, rfl⟩
  · cases h
theorem look2 {a b e : String} {x y c : Int64} (h : [(a, x), (b, y)].lookup e = some c) : (e = a ∧ x = c) ∨ (e = b ∧ y = c) := by
  simp only [List.lookup] at h
  split at h
  · rename_i q; cases h; exact Or.inl ⟨by simpa using q, rfl⟩
  · split at h
    · rename_i q; cases h; exact Or.inr ⟨by simpa using q, rfl⟩
    · cases h
theorem look3 {a b d e : String} {x y z c : Int64} (h : [(a, x), (b, y), (d, z)].lookup e = some c) : (e = a ∧ x = c) ∨ (e = b ∧ y = c) ∨ (e = d ∧ z = c) := by
  simp only [List.lookup] at h
  split at h
  · rename_i q; cases h; exact Or.inl ⟨by simpa using q, rfl⟩
  · split at h
    · rename_i q; cases h; exact Or.inr (Or.inl ⟨by simpa using q, rfl⟩)
    · split at h
      · rename_i q; cases h; exact Or.inr (Or.inr ⟨by simpa using q, rfl⟩)
      · cases h

