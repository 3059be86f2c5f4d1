
def rPc (G : rG) (ad : Nat → Nat) (σ : rS) (as : List Value) : Array Value → State → Prop := va_Pc (as.map (tv ad)) (fun U => rC G (ad 1) (ad 2) U ∧ rW G ad σ U.heap ∧ rSt as (rN σ))
abbrev rHd (y : MethodName) (M : rM) : List Cond := .code y M.2.1 M.2.2.1 M.2.2.2.1 :: rWd
/-- the method y, called with as in the world σ, returns v, and the world is τ; mc cells of ms slots are new -/
def rMet (y : MethodName) (M : rM) (k : Nat) (as : List Value) (σ : rS) (mc ms : Nat) (v : Option Value) (τ : rS) : Prop := ∀ (l : Launch) (G : rG) (ad : Nat → Nat), l.stackTraces = false → Met l y (rHd y M) ({ frames := k, cells := mc, slots := ms, locals := 100 * k }) (rPc G ad σ as) (rQ G ad (rN σ) (.inl v) τ) mc ms (rA G)
/-- it throws E -/
def rMetX (y : MethodName) (M : rM) (k : Nat) (as : List Value) (σ : rS) (mc ms : Nat) (E : String) (τ : rS) : Prop := ∀ (l : Launch) (G : rG) (ad : Nat → Nat), l.stackTraces = false → vx_Met l y (rHd y M) ({ frames := k, cells := mc, slots := ms, locals := 100 * k }) (rPc G ad σ as) (rQ G ad (rN σ) (.inr E) τ) (rX G ad (rN σ) (.inr E) τ) mc ms (rA G)
theorem rMet_vx {l : Launch} {y : MethodName} {ws : List Cond} {rm : Room} {Pc : Array Value → State → Prop} {G : rG} {ad : Nat → Nat} {n : Nat} {v : Option Value} {τ : rS} {mc ms : Nat} {free : Addr → Prop} (h : vx_Met l y ws rm Pc (rQ G ad n (.inl v) τ) (rX G ad n (.inl v) τ) mc ms free) : Met l y ws rm Pc (rQ G ad n (.inl v) τ) mc ms free := by
  intro p e a b c s m args below hf happ hp hk
  obtain ⟨n, o, h1, h2, h3, h4⟩ := h p e a b c s m args below hf happ hp hk
  refine ⟨n, o, h1, h2, h3, ?_⟩
  rcases h4 with h4 | ⟨q, -, E, ce, L, hx, -⟩
  · exact h4
  · exact absurd hx.1 (by simp)
def rEnt : List Value → List (Option Value)
  | [] => []
  | v :: vs => some v :: (if v.category = 2 then none :: rEnt vs else rEnt vs)
/-- the places of a frame at its beginning -/
def rEn (nL : Nat) (as : List Value) : List (Option Value) := rEnt as ++ List.replicate (nL - (rEnt as).length) none
theorem rEnt_len (ad : Nat → Nat) : ∀ as : List Value, (lg_sl (as.map (tv ad))).length = (rEnt as).length
  | [] => rfl
  | v :: vs => by
    have h := rEnt_len ad vs
    rw [List.map_cons]
    unfold rEnt
    have e : ∀ (a : Value) (l : List Value), lg_sl (a :: l) = (if a.category = 2 then [Slot.val a, Slot.second] else [Slot.val a]) ++ lg_sl l := fun a l => by simp [lg_sl]
    rw [e, List.length_append, h, tv_cat]
    by_cases hc : v.category = 2
    · simp [hc]; omega
    · simp [hc]; omega
theorem rEnt_at (ad : Nat → Nat) : ∀ (as : List Value) (i0 i : Nat) (v : Value), (rEnt as)[i]? = some (some v) → v ∈ as ∧ (i0 + i, tv ad v) ∈ lv_args i0 (as.map (tv ad))
  | [], i0, i, v, h => by simp [rEnt] at h
  | w :: ws, i0, i, v, h => by
    unfold rEnt at h
    rw [List.map_cons]
    unfold lv_args
    rw [tv_cat]
    cases i with
    | zero =>
      simp at h
      subst h
      exact ⟨List.mem_cons_self, List.mem_cons_self⟩
    | succ i =>
      rw [List.getElem?_cons_succ] at h
      by_cases hc : w.category = 2
      · rw [if_pos hc] at h
        rw [if_pos hc]
        cases i with
        | zero => simp at h
        | succ i =>
          rw [List.getElem?_cons_succ] at h
          obtain ⟨h1, h2⟩ := rEnt_at ad ws (i0 + 2) i v h
          refine ⟨List.mem_cons_of_mem _ h1, List.mem_cons_of_mem _ ?_⟩
          rw [show i0 + (i + 1 + 1) = i0 + 2 + i by omega]
          exact h2
      · rw [if_neg hc] at h
        rw [if_neg hc]
        obtain ⟨h1, h2⟩ := rEnt_at ad ws (i0 + 1) i v h
        refine ⟨List.mem_cons_of_mem _ h1, List.mem_cons_of_mem _ ?_⟩
        rw [show i0 + (i + 1) = i0 + 1 + i by omega]
        exact h2
theorem rEn_at {nL : Nat} {as : List Value} {i : Nat} {v : Value} (h : (rEn nL as)[i]? = some (some v)) : (rEnt as)[i]? = some (some v) := by
  unfold rEn at h
  rw [List.getElem?_append] at h
  split at h
  · exact h
  · rw [List.getElem?_replicate] at h
    split at h <;> simp at h
/-- what is fixed of a method: its name goes with what is said of it -/
def rYn (y : MethodName) (M : rM) (n : Nat) : Prop := y.cls = M.1 ∧ plainName y.cls = true ∧ Cond.code y M.2.1 M.2.2.1 M.2.2.2.1 ∈ rWd ∧ Cond.initialized y.cls ∈ rWd ∧ y.cls ≠ "java/lang/invoke/MethodHandle" ∧ y.cls ≠ "java/lang/invoke/VarHandle" ∧ (parseMethodDescriptor y.desc).map (fun d => d.parameters.length) = some n ∧ M.2.2.1 ≤ 80 ∧ M.2.2.2.2.2 = [] ∧ (M.2.2.2.2.1 = true → y.name = "<init>")
theorem vx_of_rE {l : Launch} {y : MethodName} {M : rM} {k n : Nat} {as : List Value} {ls : List (Option Value)} {σ τ : rS} {mc ms : Nat} {o : Option Value ⊕ String} {G : rG} {ad : Nat → Nat} (hy : rYn y M n) (hls : rEn M.2.2.1 as = ls) (hsz : (rEnt as).length ≤ M.2.2.1) (hE : rE M k 0 ls [] σ mc ms o τ) (hst : l.stackTraces = false) : vx_Met l y (rHd y M) ({ frames := k, cells := mc, slots := ms, locals := 100 * k }) (rPc G ad σ as) (rQ G ad (rN σ) o τ) (rX G ad (rN σ) o τ) mc ms (rA G) := by
  subst hls
  refine vx_ofW hy.2.1 rfl ?_
  intro p e s m args below meth c s₁ B hml ht hv
  obtain ⟨rfl, hC, hW, hwf⟩ := hv
  have hx := B.exec
  have hb := B.bytes
  have hr := B.returns
  have hts0 := atoms_spec (ws := rHd y M) B.pre
  have hown : s.vm.findClass M.1 = some m.cls := by rw [← hy.1]; exact findClass_of_methodNamed B.named
  have hlocks := B.notSynchronized
  have hin : M.2.2.2.2.1 = true → meth.name = "<init>" := fun q => (name_of_methodNamed B.named B.method).1.trans (hy.2.2.2.2.2.2.2.2.2 q)
  have htab : c.exceptionTable.toList = M.2.2.2.2.2 := by
    rw [hy.2.2.2.2.2.2.2.2.1]
    exact List.eq_nil_iff_forall_not_mem.mpr fun x hx => ht x hx
  have hl := lv_entry (as.map (tv ad)) (n := M.2.2.1) (by rw [rEnt_len]; exact hsz)
  rw [lg_entry_eq]
  refine hE l p e _ s m _ below meth c G ad (rN σ) ad s.heap [] 0 0 _ ⟨hst, hx, hb, hml, hown, fun w hw => hts0 w (List.mem_cons_of_mem _ hw), hlocks, hr, hin, fun _ => htab, Nat.le_refl _, Nat.le_refl _, hC⟩ hW.1 (Nat.le_refl _) (fun _ _ => rfl) (Nat.le_of_eq (Nat.zero_add _)) (Nat.le_of_eq (Nat.zero_add _)) hW va_S.rf ⟨hl.1, hl.2.1, fun i v hv => ?_⟩ (fun v hv => absurd hv List.not_mem_nil)
  obtain ⟨h1, h2⟩ := rEnt_at ad as 0 i v (rEn_at hv)
  rw [Nat.zero_add] at h2
  exact ⟨hwf v h1, hl.2.2 _ h2⟩
theorem rMet_of {y : MethodName} {M : rM} {k n : Nat} {as : List Value} {ls : List (Option Value)} {σ τ : rS} {mc ms : Nat} {v : Option Value} (hy : rYn y M n) (hls : rEn M.2.2.1 as = ls) (hsz : (rEnt as).length ≤ M.2.2.1) (hE : rE M k 0 ls [] σ mc ms (.inl v) τ) : rMet y M k as σ mc ms v τ := fun _ _ _ hst => rMet_vx (vx_of_rE hy hls hsz hE hst)
theorem rMetX_of {y : MethodName} {M : rM} {k n : Nat} {as : List Value} {ls : List (Option Value)} {σ τ : rS} {mc ms : Nat} {E : String} (hy : rYn y M n) (hls : rEn M.2.2.1 as = ls) (hsz : (rEnt as).length ≤ M.2.2.1) (hE : rE M k 0 ls [] σ mc ms (.inr E) τ) : rMetX y M k as σ mc ms E τ := fun _ _ _ hst => vx_of_rE hy hls hsz hE hst
theorem rPc_blind {G : rG} {ad : Nat → Nat} {σ : rS} {as : List Value} : FrameBlind (rPc G ad σ as) := fun _ _ _ _ h => ⟨h.1, rC_call h.2.1, h.2.2.1, h.2.2.2⟩
theorem rcats (ad : Nat → Nat) (st : List Value) : ((st.map (tv ad)).map fun v => v.category).sum = (st.map fun v => v.category).sum := by
  rw [List.map_map]
  congr 1
  exact List.map_congr_left fun v _ => tv_cat ad v

theorem r_after {p : Program} {l : Launch} {e : Env} {R : Room} {s : State} {m : MethodId} {args : Array Value} {below : List Frame} {meth : Method} {c : Code} {H : Heap} {locs : List Loc} {cells slots : Nat} {Q : State → Prop} {G : rG} {ad : Nat → Nat} {n : Nat} {v : Option Value} {τ1 : rS} {mc ms pc : Nat} {la : Array Slot} {st0 rest : List Value} {a : Array Value} (hr : va_Run p l e R s m args below meth c H locs cells slots mc ms (F0 m pc la st0) rest (rQ G ad n (.inl v) τ1 a) (rA G)) (hS : va_S (rA G) s.heap H locs)
    (kk : ∀ (ad' : Nat → Nat) (H1 : Heap) (locs1 : List Loc), (∀ i, i < n → ad' i = ad i) → (∀ x, v = some x → wv (rN τ1) x) → rW G ad' τ1 H1 → va_S (rA G) s.heap H1 locs1 → n ≤ rN τ1 → W p l e R s m args below meth c H1 locs1 (cells + mc) (slots + ms) Q (F0 m (pc + 3) la ((v.map (tv ad')).toList ++ rest))) : W p l e R s m args below meth c H locs cells slots Q (F0 m pc la st0) := by
  intro T hT X
  obtain ⟨v1, st₀, t, T', L, h0, X', hL, e1, e2, ⟨ad', v2, ho, hag, hv, hwf, hW1, hF, hnn⟩, st⟩ := hr T hT X
  cases hv
  cases ho
  have hF1 : H.size ≤ t.heap.size ∧ ∀ q : Nat, q < H.size → ¬ rA G q → t.heap[q]? = H[q]? := by rw [← h0]; exact hF
  obtain ⟨t2, a1, b1⟩ := kk ad' T'.heap (locs ++ L) hag hwf (by rw [e1]; exact hW1)
    ⟨Nat.le_trans hS.1 (by rw [e1]; exact hF1.1), fun q h1 h2 => by rw [e1, hF1.2 q (Nat.lt_of_lt_of_le h1 hS.1) h2]; exact hS.2.1 q h1 h2, fun q hq => by
      rcases List.mem_append.mp hq with h | h
      · exact hS.2.2 q h
      · exact hL q h⟩ hnn T' rfl X'
  exact ⟨t2, st t2 a1, b1⟩

theorem E_callV {M : rM} {k pc : Nat} {ls : List (Option Value)} {st stk : List Value} {σ τ τ1 : rS} {kc ks : Nat} {o : Option Value ⊕ String} {idx : Nat} {y : MethodName} {M2 : rM} {k2 n mc ms : Nat} {as : List Value} {b : Nat} {v : Option Value} (hM : rMet y M2 k2 (.ref b :: as) σ mc ms v τ1) (hk2 : k2 < k) (hy : rYn y M2 n) (hln : Cond.methodLink M.1 idx y ∈ rWd) (hi : Cond.instanceMethod y ∈ rWd) (hse : Cond.selects y.cls y y ∈ rWd) {cI : Nat} {T : u_T} {Nf : Nat} (hcl : rCl cI y.cls T Nf) (hkd : rK σ b = (cI + 3, 0)) (hn9 : as.length = n) (hcat : (st.map fun v => v.category).sum ≤ 8) (hrev : stk = as.reverse ++ .ref b :: st) (d : decode M.2.1 pc = .ok (.invokevirtual idx, 3)) (kk : rE M k (pc + 3) ls (v.toList ++ st) τ1 kc ks o τ) : rE M k pc ls stk σ (kc + mc) (ks + ms) o τ := by
  intro l p e R s m args below meth c0 G ad0 n0 ad H locs cells slots la C h3 hn ha hc hs hW hS hl hw
  subst hrev
  have hkf := C.2.2.2.2.2.2.2.2.2.2.1
  have hkl := C.2.2.2.2.2.2.2.2.2.2.2.1
  have hts := C.2.2.2.2.2.1
  have hmx := hy.2.2.2.2.2.2.2.1
  have e1 : ad 1 = ad0 1 := ha 1 (by omega)
  have e2 : ad 2 = ad0 2 := ha 2 (by omega)
  have hall : rSt (.ref b :: as) (rN σ) ∧ rSt st (rN σ) := by
    refine ⟨fun v hv => hw v ?_, fun v hv => hw v ?_⟩
    · rcases List.mem_cons.mp hv with rfl | q
      · exact List.mem_append_right _ List.mem_cons_self
      · exact List.mem_append_left _ (List.mem_reverse.mpr q)
    · exact List.mem_append_right _ (List.mem_cons_of_mem _ hv)
  have hst' := hall.2
  have hG : GoodIn rWd (rHd y M2) := rGood fun w hw => (List.mem_cons.mp hw).elim (fun q => by rw [q]; exact hy.2.2.1) id
  have hd : y.cls ≠ "java/lang/invoke/MethodHandle" ∧ y.cls ≠ "java/lang/invoke/VarHandle" ∧ (parseMethodDescriptor y.desc).map (fun d => d.parameters.length) = some n := ⟨hy.2.2.2.2.1, hy.2.2.2.2.2.1, hy.2.2.2.2.2.2.1⟩
  have hroom : k2 + 1 ≤ R.frames ∧ 8 + (M2.2.2.1 + 11) + 100 * k2 ≤ R.locals := ⟨by omega, by omega⟩
  have hpre : ∀ U : State, U.heap = H → s.WarmedH U.vm → rPc G ad σ (.ref b :: as) ((.ref b :: as).map (tv ad)).toArray U := fun U hU hWm => ⟨rfl, rC_go (by rw [e1, e2]; exact C.2.2.2.2.2.2.2.2.2.2.2.2) hU hS hWm, by rw [hU]; exact hW, hall.1⟩
  have hrecv : ∃ cell : Cell, H[ad b]? = some cell ∧ cell.vm.isStatics = false ∧ s.vm.findClass y.cls = some cell.cls := va_recv C.2.2.2.2.2.2.2.2.2.2.2.2.1 hW.2.1 hcl.1 (q0 := b - 3) (by rw [rws_at (rW_three hW hkd (hall.1 _ List.mem_cons_self).1) (hall.1 _ List.mem_cons_self).2, rc_obj hkd])
  have hr := va_runV (cells := cells) (slots := slots) (locs := locs) (meth := meth) (below := below) (e := e) (As := (as.map (tv ad))) (rest := st.map (tv ad)) (g := F0 m pc la ((as.reverse ++ .ref b :: st).map (tv ad))) (b := ad b) (own := M.1) (C := y.cls) ⟨C.2.1, C.2.2.1, C.2.2.2.1, C.2.2.2.2.1, hts⟩ (hM l G ad C.1) ⟨(callB_of n hts hG rfl rfl rfl (hts _ hy.2.2.2.1) (hts _ hln) hd hroom), hts _ hi, hts _ hse⟩ ⟨rPc_blind, hrecv, hpre⟩ rfl (by rw [List.length_map]; exact hn9) hl.1 (by rw [List.map_append, List.map_reverse] <;> rfl) (lv_room (by rw [rcats]; exact hcat)) d ⟨by omega, by omega⟩
  refine r_after hr hS (fun ad' H1 locs1 hag hwf hW1 hS1 hnn => ?_)
  have e9 : (v.map (tv ad')).toList ++ st.map (tv ad) = (v.toList ++ st).map (tv ad') := by
    rw [List.map_append, rSt_agree hag hst']
    cases v <;> rfl
  rw [e9]
  refine kk l p e R s m args below meth c0 G ad0 n0 ad' H1 locs1 (cells + mc) (slots + ms) la C h3 (Nat.le_trans hn hnn) (fun i hi => (hag i (Nat.lt_of_lt_of_le hi hn)).trans (ha i hi)) (by omega) (by omega) hW1 hS1 (rLv_agree hag hnn hl) (fun x hx => ?_)
  rcases List.mem_append.mp hx with q | q
  · cases v with
    | none => exact absurd q List.not_mem_nil
    | some v0 =>
      have : x = v0 := List.mem_singleton.mp q
      subst this
      exact hwf _ rfl
  · exact wv_mono hnn (hst' x q)

theorem E_callVN {M : rM} {k pc : Nat} {ls : List (Option Value)} {st stk : List Value} {σ τ τ1 : rS} {kc ks : Nat} {o : Option Value ⊕ String} {host : String} {idx : Nat} {y : MethodName} {M2 : rM} {k2 n mc ms : Nat} {as : List Value} {b : Nat} {v : Option Value} (hM : rMet y M2 k2 (.ref b :: as) σ mc ms v τ1) (hk2 : k2 < k) (hy : rYn y M2 n) (hln : Cond.methodLinkNest M.1 idx y host ∈ rNw) (hi : Cond.instanceMethod y ∈ rWd) (hse : Cond.selects y.cls y y ∈ rWd) {cI : Nat} {T : u_T} {Nf : Nat} (hcl : rCl cI y.cls T Nf) (hkd : rK σ b = (cI + 3, 0)) (hn9 : as.length = n) (hcat : (st.map fun v => v.category).sum ≤ 8) (hrev : stk = as.reverse ++ .ref b :: st) (d : decode M.2.1 pc = .ok (.invokevirtual idx, 3)) (kk : rE M k (pc + 3) ls (v.toList ++ st) τ1 kc ks o τ) : rE M k pc ls stk σ (kc + mc) (ks + ms) o τ := by
  intro l p e R s m args below meth c0 G ad0 n0 ad H locs cells slots la C h3 hn ha hc hs hW hS hl hw
  subst hrev
  have hkf := C.2.2.2.2.2.2.2.2.2.2.1
  have hkl := C.2.2.2.2.2.2.2.2.2.2.2.1
  have hts := C.2.2.2.2.2.1
  have hmx := hy.2.2.2.2.2.2.2.1
  have e1 : ad 1 = ad0 1 := ha 1 (by omega)
  have e2 : ad 2 = ad0 2 := ha 2 (by omega)
  have hall : rSt (.ref b :: as) (rN σ) ∧ rSt st (rN σ) := by
    refine ⟨fun v hv => hw v ?_, fun v hv => hw v ?_⟩
    · rcases List.mem_cons.mp hv with rfl | q
      · exact List.mem_append_right _ List.mem_cons_self
      · exact List.mem_append_left _ (List.mem_reverse.mpr q)
    · exact List.mem_append_right _ (List.mem_cons_of_mem _ hv)
  have hst' := hall.2
  have hG : GoodIn rWd (rHd y M2) := rGood fun w hw => (List.mem_cons.mp hw).elim (fun q => by rw [q]; exact hy.2.2.1) id
  have hd : y.cls ≠ "java/lang/invoke/MethodHandle" ∧ y.cls ≠ "java/lang/invoke/VarHandle" ∧ (parseMethodDescriptor y.desc).map (fun d => d.parameters.length) = some n := ⟨hy.2.2.2.2.1, hy.2.2.2.2.2.1, hy.2.2.2.2.2.2.1⟩
  have hroom : k2 + 1 ≤ R.frames ∧ 8 + (M2.2.2.1 + 11) + 100 * k2 ≤ R.locals := ⟨by omega, by omega⟩
  have hpre : ∀ U : State, U.heap = H → s.WarmedH U.vm → rPc G ad σ (.ref b :: as) ((.ref b :: as).map (tv ad)).toArray U := fun U hU hWm => ⟨rfl, rC_go (by rw [e1, e2]; exact C.2.2.2.2.2.2.2.2.2.2.2.2) hU hS hWm, by rw [hU]; exact hW, hall.1⟩
  have hrecv : ∃ cell : Cell, H[ad b]? = some cell ∧ cell.vm.isStatics = false ∧ s.vm.findClass y.cls = some cell.cls := va_recv C.2.2.2.2.2.2.2.2.2.2.2.2.1 hW.2.1 hcl.1 (q0 := b - 3) (by rw [rws_at (rW_three hW hkd (hall.1 _ List.mem_cons_self).1) (hall.1 _ List.mem_cons_self).2, rc_obj hkd])
  have hr := va_runVN (cells := cells) (slots := slots) (locs := locs) (meth := meth) (below := below) (e := e) (As := (as.map (tv ad))) (rest := st.map (tv ad)) (g := F0 m pc la ((as.reverse ++ .ref b :: st).map (tv ad))) (b := ad b) (own := M.1) (C := y.cls) ⟨C.2.1, C.2.2.1, C.2.2.2.1, C.2.2.2.2.1, hts⟩ (hM l G ad C.1) ⟨(va_cnB n hts hG rfl rfl rfl (C.2.2.2.2.2.2.2.2.2.2.2.2.2.2.2.2.2.2.2.2 _ hln) (hts _ hy.2.2.2.1) hd hroom), hts _ hi, hts _ hse⟩ ⟨rPc_blind, hrecv, hpre⟩ rfl (by rw [List.length_map]; exact hn9) hl.1 (by rw [List.map_append, List.map_reverse] <;> rfl) (lv_room (by rw [rcats]; exact hcat)) d ⟨by omega, by omega⟩
  refine r_after hr hS (fun ad' H1 locs1 hag hwf hW1 hS1 hnn => ?_)
  have e9 : (v.map (tv ad')).toList ++ st.map (tv ad) = (v.toList ++ st).map (tv ad') := by
    rw [List.map_append, rSt_agree hag hst']
    cases v <;> rfl
  rw [e9]
  refine kk l p e R s m args below meth c0 G ad0 n0 ad' H1 locs1 (cells + mc) (slots + ms) la C h3 (Nat.le_trans hn hnn) (fun i hi => (hag i (Nat.lt_of_lt_of_le hi hn)).trans (ha i hi)) (by omega) (by omega) hW1 hS1 (rLv_agree hag hnn hl) (fun x hx => ?_)
  rcases List.mem_append.mp hx with q | q
  · cases v with
    | none => exact absurd q List.not_mem_nil
    | some v0 =>
      have : x = v0 := List.mem_singleton.mp q
      subst this
      exact hwf _ rfl
  · exact wv_mono hnn (hst' x q)

theorem E_callS {M : rM} {k pc : Nat} {ls : List (Option Value)} {st stk : List Value} {σ τ τ1 : rS} {kc ks : Nat} {o : Option Value ⊕ String} {idx : Nat} {y : MethodName} {M2 : rM} {k2 n mc ms : Nat} {as : List Value} {v : Option Value} (hM : rMet y M2 k2 as σ mc ms v τ1) (hk2 : k2 < k) (hy : rYn y M2 n) (hln : Cond.methodLink M.1 idx y ∈ rWd) (hi : Cond.static y ∈ rWd) (hn9 : as.length = n) (hcat : (st.map fun v => v.category).sum ≤ 8) (hrev : stk = as.reverse ++ st) (d : decode M.2.1 pc = .ok (.invokestatic idx, 3)) (kk : rE M k (pc + 3) ls (v.toList ++ st) τ1 kc ks o τ) : rE M k pc ls stk σ (kc + mc) (ks + ms) o τ := by
  intro l p e R s m args below meth c0 G ad0 n0 ad H locs cells slots la C h3 hn ha hc hs hW hS hl hw
  subst hrev
  have hkf := C.2.2.2.2.2.2.2.2.2.2.1
  have hkl := C.2.2.2.2.2.2.2.2.2.2.2.1
  have hts := C.2.2.2.2.2.1
  have hmx := hy.2.2.2.2.2.2.2.1
  have e1 : ad 1 = ad0 1 := ha 1 (by omega)
  have e2 : ad 2 = ad0 2 := ha 2 (by omega)
  have hall : rSt as (rN σ) ∧ rSt st (rN σ) := by
    refine ⟨fun v hv => hw v ?_, fun v hv => hw v ?_⟩
    · exact List.mem_append_left _ (List.mem_reverse.mpr hv)
    · exact List.mem_append_right _ hv
  have hst' := hall.2
  have hG : GoodIn rWd (rHd y M2) := rGood fun w hw => (List.mem_cons.mp hw).elim (fun q => by rw [q]; exact hy.2.2.1) id
  have hd : y.cls ≠ "java/lang/invoke/MethodHandle" ∧ y.cls ≠ "java/lang/invoke/VarHandle" ∧ (parseMethodDescriptor y.desc).map (fun d => d.parameters.length) = some n := ⟨hy.2.2.2.2.1, hy.2.2.2.2.2.1, hy.2.2.2.2.2.2.1⟩
  have hroom : k2 + 1 ≤ R.frames ∧ 8 + (M2.2.2.1 + 11) + 100 * k2 ≤ R.locals := ⟨by omega, by omega⟩
  have hpre : ∀ U : State, U.heap = H → s.WarmedH U.vm → rPc G ad σ as (as.map (tv ad)).toArray U := fun U hU hWm => ⟨rfl, rC_go (by rw [e1, e2]; exact C.2.2.2.2.2.2.2.2.2.2.2.2) hU hS hWm, by rw [hU]; exact hW, hall.1⟩
  have hr := va_runS (cells := cells) (slots := slots) (locs := locs) (meth := meth) (below := below) (e := e) (As := (as.map (tv ad))) (rest := st.map (tv ad)) (g := F0 m pc la ((as.reverse ++ st).map (tv ad))) (own := M.1) ⟨C.2.1, C.2.2.1, C.2.2.2.1, C.2.2.2.2.1, hts⟩ (hM l G ad C.1) ⟨(callB_of n hts hG rfl rfl rfl (hts _ hy.2.2.2.1) (hts _ hln) hd hroom), hts _ hi⟩ ⟨rPc_blind, hpre⟩ rfl (by rw [List.length_map]; exact hn9) hl.1 (by rw [List.map_append, List.map_reverse] <;> rfl) (lv_room (by rw [rcats]; exact hcat)) d ⟨by omega, by omega⟩
  refine r_after hr hS (fun ad' H1 locs1 hag hwf hW1 hS1 hnn => ?_)
  have e9 : (v.map (tv ad')).toList ++ st.map (tv ad) = (v.toList ++ st).map (tv ad') := by
    rw [List.map_append, rSt_agree hag hst']
    cases v <;> rfl
  rw [e9]
  refine kk l p e R s m args below meth c0 G ad0 n0 ad' H1 locs1 (cells + mc) (slots + ms) la C h3 (Nat.le_trans hn hnn) (fun i hi => (hag i (Nat.lt_of_lt_of_le hi hn)).trans (ha i hi)) (by omega) (by omega) hW1 hS1 (rLv_agree hag hnn hl) (fun x hx => ?_)
  rcases List.mem_append.mp hx with q | q
  · cases v with
    | none => exact absurd q List.not_mem_nil
    | some v0 =>
      have : x = v0 := List.mem_singleton.mp q
      subst this
      exact hwf _ rfl
  · exact wv_mono hnn (hst' x q)

theorem E_callSN {M : rM} {k pc : Nat} {ls : List (Option Value)} {st stk : List Value} {σ τ τ1 : rS} {kc ks : Nat} {o : Option Value ⊕ String} {host : String} {idx : Nat} {y : MethodName} {M2 : rM} {k2 n mc ms : Nat} {as : List Value} {v : Option Value} (hM : rMet y M2 k2 as σ mc ms v τ1) (hk2 : k2 < k) (hy : rYn y M2 n) (hln : Cond.methodLinkNest M.1 idx y host ∈ rNw) (hi : Cond.static y ∈ rWd) (hn9 : as.length = n) (hcat : (st.map fun v => v.category).sum ≤ 8) (hrev : stk = as.reverse ++ st) (d : decode M.2.1 pc = .ok (.invokestatic idx, 3)) (kk : rE M k (pc + 3) ls (v.toList ++ st) τ1 kc ks o τ) : rE M k pc ls stk σ (kc + mc) (ks + ms) o τ := by
  intro l p e R s m args below meth c0 G ad0 n0 ad H locs cells slots la C h3 hn ha hc hs hW hS hl hw
  subst hrev
  have hkf := C.2.2.2.2.2.2.2.2.2.2.1
  have hkl := C.2.2.2.2.2.2.2.2.2.2.2.1
  have hts := C.2.2.2.2.2.1
  have hmx := hy.2.2.2.2.2.2.2.1
  have e1 : ad 1 = ad0 1 := ha 1 (by omega)
  have e2 : ad 2 = ad0 2 := ha 2 (by omega)
  have hall : rSt as (rN σ) ∧ rSt st (rN σ) := by
    refine ⟨fun v hv => hw v ?_, fun v hv => hw v ?_⟩
    · exact List.mem_append_left _ (List.mem_reverse.mpr hv)
    · exact List.mem_append_right _ hv
  have hst' := hall.2
  have hG : GoodIn rWd (rHd y M2) := rGood fun w hw => (List.mem_cons.mp hw).elim (fun q => by rw [q]; exact hy.2.2.1) id
  have hd : y.cls ≠ "java/lang/invoke/MethodHandle" ∧ y.cls ≠ "java/lang/invoke/VarHandle" ∧ (parseMethodDescriptor y.desc).map (fun d => d.parameters.length) = some n := ⟨hy.2.2.2.2.1, hy.2.2.2.2.2.1, hy.2.2.2.2.2.2.1⟩
  have hroom : k2 + 1 ≤ R.frames ∧ 8 + (M2.2.2.1 + 11) + 100 * k2 ≤ R.locals := ⟨by omega, by omega⟩
  have hpre : ∀ U : State, U.heap = H → s.WarmedH U.vm → rPc G ad σ as (as.map (tv ad)).toArray U := fun U hU hWm => ⟨rfl, rC_go (by rw [e1, e2]; exact C.2.2.2.2.2.2.2.2.2.2.2.2) hU hS hWm, by rw [hU]; exact hW, hall.1⟩
  have hr := va_runSN (cells := cells) (slots := slots) (locs := locs) (meth := meth) (below := below) (e := e) (As := (as.map (tv ad))) (rest := st.map (tv ad)) (g := F0 m pc la ((as.reverse ++ st).map (tv ad))) (own := M.1) ⟨C.2.1, C.2.2.1, C.2.2.2.1, C.2.2.2.2.1, hts⟩ (hM l G ad C.1) ⟨(va_cnB n hts hG rfl rfl rfl (C.2.2.2.2.2.2.2.2.2.2.2.2.2.2.2.2.2.2.2.2 _ hln) (hts _ hy.2.2.2.1) hd hroom), hts _ hi, trivial⟩ ⟨rPc_blind, hpre⟩ rfl (by rw [List.length_map]; exact hn9) hl.1 (by rw [List.map_append, List.map_reverse] <;> rfl) (lv_room (by rw [rcats]; exact hcat)) d ⟨by omega, by omega⟩
  refine r_after hr hS (fun ad' H1 locs1 hag hwf hW1 hS1 hnn => ?_)
  have e9 : (v.map (tv ad')).toList ++ st.map (tv ad) = (v.toList ++ st).map (tv ad') := by
    rw [List.map_append, rSt_agree hag hst']
    cases v <;> rfl
  rw [e9]
  refine kk l p e R s m args below meth c0 G ad0 n0 ad' H1 locs1 (cells + mc) (slots + ms) la C h3 (Nat.le_trans hn hnn) (fun i hi => (hag i (Nat.lt_of_lt_of_le hi hn)).trans (ha i hi)) (by omega) (by omega) hW1 hS1 (rLv_agree hag hnn hl) (fun x hx => ?_)
  rcases List.mem_append.mp hx with q | q
  · cases v with
    | none => exact absurd q List.not_mem_nil
    | some v0 =>
      have : x = v0 := List.mem_singleton.mp q
      subst this
      exact hwf _ rfl
  · exact wv_mono hnn (hst' x q)

theorem E_callI {M : rM} {k pc : Nat} {ls : List (Option Value)} {st stk : List Value} {σ τ τ1 : rS} {kc ks : Nat} {o : Option Value ⊕ String} {idx : Nat} {y : MethodName} {M2 : rM} {k2 n mc ms : Nat} {as : List Value} {b : Nat} {v : Option Value} (hM : rMet y M2 k2 (.ref b :: as) σ mc ms v τ1) (hk2 : k2 < k) (hy : rYn y M2 n) (hln : Cond.methodLink M.1 idx y ∈ rWd) (hi : Cond.instanceMethod y ∈ rWd) (hy1 : y.name = "<init>") (hrn : M2.2.2.2.1 = none) (hn9 : as.length = n) (hcat : (st.map fun v => v.category).sum ≤ 8) (hrev : stk = as.reverse ++ .ref b :: st) (d : decode M.2.1 pc = .ok (.invokespecial idx, 3)) (kk : rE M k (pc + 3) ls (v.toList ++ st) τ1 kc ks o τ) : rE M k pc ls stk σ (kc + mc) (ks + ms) o τ := by
  intro l p e R s m args below meth c0 G ad0 n0 ad H locs cells slots la C h3 hn ha hc hs hW hS hl hw
  subst hrev
  have hkf := C.2.2.2.2.2.2.2.2.2.2.1
  have hkl := C.2.2.2.2.2.2.2.2.2.2.2.1
  have hts := C.2.2.2.2.2.1
  have hmx := hy.2.2.2.2.2.2.2.1
  have e1 : ad 1 = ad0 1 := ha 1 (by omega)
  have e2 : ad 2 = ad0 2 := ha 2 (by omega)
  have hall : rSt (.ref b :: as) (rN σ) ∧ rSt st (rN σ) := by
    refine ⟨fun v hv => hw v ?_, fun v hv => hw v ?_⟩
    · rcases List.mem_cons.mp hv with rfl | q
      · exact List.mem_append_right _ List.mem_cons_self
      · exact List.mem_append_left _ (List.mem_reverse.mpr q)
    · exact List.mem_append_right _ (List.mem_cons_of_mem _ hv)
  have hst' := hall.2
  have hG : GoodIn rWd (rHd y M2) := rGood fun w hw => (List.mem_cons.mp hw).elim (fun q => by rw [q]; exact hy.2.2.1) id
  have hd : y.cls ≠ "java/lang/invoke/MethodHandle" ∧ y.cls ≠ "java/lang/invoke/VarHandle" ∧ (parseMethodDescriptor y.desc).map (fun d => d.parameters.length) = some n := ⟨hy.2.2.2.2.1, hy.2.2.2.2.2.1, hy.2.2.2.2.2.2.1⟩
  have hroom : k2 + 1 ≤ R.frames ∧ 8 + (M2.2.2.1 + 11) + 100 * k2 ≤ R.locals := ⟨by omega, by omega⟩
  have hpre : ∀ U : State, U.heap = H → s.WarmedH U.vm → rPc G ad σ (.ref b :: as) ((.ref b :: as).map (tv ad)).toArray U := fun U hU hWm => ⟨rfl, rC_go (by rw [e1, e2]; exact C.2.2.2.2.2.2.2.2.2.2.2.2) hU hS hWm, by rw [hU]; exact hW, hall.1⟩
  have hcb0 : CallB R s args M.1 idx y M2.2.1 M2.2.2.1 M2.2.2.2.1 (rHd y M2) ({ frames := k2, cells := mc, slots := ms, locals := 100 * k2 }) mc ms n := (callB_of n hts hG rfl rfl rfl (hts _ hy.2.2.2.1) (hts _ hln) hd hroom)
  have hcb : CallB R s args M.1 idx y M2.2.1 M2.2.2.1 none (rHd y M2) ({ frames := k2, cells := mc, slots := ms, locals := 100 * k2 }) mc ms n := by
    rw [hrn] at hcb0
    exact hcb0
  have hr := va_runI (cells := cells) (slots := slots) (locs := locs) (meth := meth) (below := below) (e := e) (As := (as.map (tv ad))) (rest := st.map (tv ad)) (g := F0 m pc la ((as.reverse ++ .ref b :: st).map (tv ad))) (b := ad b) (own := M.1) ⟨C.2.1, C.2.2.1, C.2.2.2.1, C.2.2.2.2.1, hts⟩ (hM l G ad C.1) ⟨hcb, hy1, hts _ hi⟩ ⟨rPc_blind, hpre⟩ rfl (by rw [List.length_map]; exact hn9) hl.1 (by rw [List.map_append, List.map_reverse] <;> rfl) (lv_room (by rw [rcats]; exact hcat)) d ⟨by omega, by omega⟩
  refine r_after hr hS (fun ad' H1 locs1 hag hwf hW1 hS1 hnn => ?_)
  have e9 : (v.map (tv ad')).toList ++ st.map (tv ad) = (v.toList ++ st).map (tv ad') := by
    rw [List.map_append, rSt_agree hag hst']
    cases v <;> rfl
  rw [e9]
  refine kk l p e R s m args below meth c0 G ad0 n0 ad' H1 locs1 (cells + mc) (slots + ms) la C h3 (Nat.le_trans hn hnn) (fun i hi => (hag i (Nat.lt_of_lt_of_le hi hn)).trans (ha i hi)) (by omega) (by omega) hW1 hS1 (rLv_agree hag hnn hl) (fun x hx => ?_)
  rcases List.mem_append.mp hx with q | q
  · cases v with
    | none => exact absurd q List.not_mem_nil
    | some v0 =>
      have : x = v0 := List.mem_singleton.mp q
      subst this
      exact hwf _ rfl
  · exact wv_mono hnn (hst' x q)

theorem E_callIN {M : rM} {k pc : Nat} {ls : List (Option Value)} {st stk : List Value} {σ τ τ1 : rS} {kc ks : Nat} {o : Option Value ⊕ String} {host : String} {idx : Nat} {y : MethodName} {M2 : rM} {k2 n mc ms : Nat} {as : List Value} {b : Nat} {v : Option Value} (hM : rMet y M2 k2 (.ref b :: as) σ mc ms v τ1) (hk2 : k2 < k) (hy : rYn y M2 n) (hln : Cond.methodLinkNest M.1 idx y host ∈ rNw) (hi : Cond.instanceMethod y ∈ rWd) (hy1 : y.name = "<init>") (hrn : M2.2.2.2.1 = none) (hn9 : as.length = n) (hcat : (st.map fun v => v.category).sum ≤ 8) (hrev : stk = as.reverse ++ .ref b :: st) (d : decode M.2.1 pc = .ok (.invokespecial idx, 3)) (kk : rE M k (pc + 3) ls (v.toList ++ st) τ1 kc ks o τ) : rE M k pc ls stk σ (kc + mc) (ks + ms) o τ := by
  intro l p e R s m args below meth c0 G ad0 n0 ad H locs cells slots la C h3 hn ha hc hs hW hS hl hw
  subst hrev
  have hkf := C.2.2.2.2.2.2.2.2.2.2.1
  have hkl := C.2.2.2.2.2.2.2.2.2.2.2.1
  have hts := C.2.2.2.2.2.1
  have hmx := hy.2.2.2.2.2.2.2.1
  have e1 : ad 1 = ad0 1 := ha 1 (by omega)
  have e2 : ad 2 = ad0 2 := ha 2 (by omega)
  have hall : rSt (.ref b :: as) (rN σ) ∧ rSt st (rN σ) := by
    refine ⟨fun v hv => hw v ?_, fun v hv => hw v ?_⟩
    · rcases List.mem_cons.mp hv with rfl | q
      · exact List.mem_append_right _ List.mem_cons_self
      · exact List.mem_append_left _ (List.mem_reverse.mpr q)
    · exact List.mem_append_right _ (List.mem_cons_of_mem _ hv)
  have hst' := hall.2
  have hG : GoodIn rWd (rHd y M2) := rGood fun w hw => (List.mem_cons.mp hw).elim (fun q => by rw [q]; exact hy.2.2.1) id
  have hd : y.cls ≠ "java/lang/invoke/MethodHandle" ∧ y.cls ≠ "java/lang/invoke/VarHandle" ∧ (parseMethodDescriptor y.desc).map (fun d => d.parameters.length) = some n := ⟨hy.2.2.2.2.1, hy.2.2.2.2.2.1, hy.2.2.2.2.2.2.1⟩
  have hroom : k2 + 1 ≤ R.frames ∧ 8 + (M2.2.2.1 + 11) + 100 * k2 ≤ R.locals := ⟨by omega, by omega⟩
  have hpre : ∀ U : State, U.heap = H → s.WarmedH U.vm → rPc G ad σ (.ref b :: as) ((.ref b :: as).map (tv ad)).toArray U := fun U hU hWm => ⟨rfl, rC_go (by rw [e1, e2]; exact C.2.2.2.2.2.2.2.2.2.2.2.2) hU hS hWm, by rw [hU]; exact hW, hall.1⟩
  have hcb0 : va_CN R s args M.1 idx y host M2.2.1 M2.2.2.1 M2.2.2.2.1 (rHd y M2) ({ frames := k2, cells := mc, slots := ms, locals := 100 * k2 }) mc ms n := (va_cnB n hts hG rfl rfl rfl (C.2.2.2.2.2.2.2.2.2.2.2.2.2.2.2.2.2.2.2.2 _ hln) (hts _ hy.2.2.2.1) hd hroom)
  have hcb : va_CN R s args M.1 idx y host M2.2.1 M2.2.2.1 none (rHd y M2) ({ frames := k2, cells := mc, slots := ms, locals := 100 * k2 }) mc ms n := by
    rw [hrn] at hcb0
    exact hcb0
  have hr := va_runIN (cells := cells) (slots := slots) (locs := locs) (meth := meth) (below := below) (e := e) (As := (as.map (tv ad))) (rest := st.map (tv ad)) (g := F0 m pc la ((as.reverse ++ .ref b :: st).map (tv ad))) (b := ad b) (own := M.1) ⟨C.2.1, C.2.2.1, C.2.2.2.1, C.2.2.2.2.1, hts⟩ (hM l G ad C.1) ⟨hcb, hy1, hts _ hi⟩ ⟨rPc_blind, hpre⟩ rfl (by rw [List.length_map]; exact hn9) hl.1 (by rw [List.map_append, List.map_reverse] <;> rfl) (lv_room (by rw [rcats]; exact hcat)) d ⟨by omega, by omega⟩
  refine r_after hr hS (fun ad' H1 locs1 hag hwf hW1 hS1 hnn => ?_)
  have e9 : (v.map (tv ad')).toList ++ st.map (tv ad) = (v.toList ++ st).map (tv ad') := by
    rw [List.map_append, rSt_agree hag hst']
    cases v <;> rfl
  rw [e9]
  refine kk l p e R s m args below meth c0 G ad0 n0 ad' H1 locs1 (cells + mc) (slots + ms) la C h3 (Nat.le_trans hn hnn) (fun i hi => (hag i (Nat.lt_of_lt_of_le hi hn)).trans (ha i hi)) (by omega) (by omega) hW1 hS1 (rLv_agree hag hnn hl) (fun x hx => ?_)
  rcases List.mem_append.mp hx with q | q
  · cases v with
    | none => exact absurd q List.not_mem_nil
    | some v0 =>
      have : x = v0 := List.mem_singleton.mp q
      subst this
      exact hwf _ rfl
  · exact wv_mono hnn (hst' x q)

