
theorem E_tableIn {M : rM} {k pc : Nat} {ls : List (Option Value)} {st : List Value} {σ τ : rS} {kc ks : Nat} {o : Option Value ⊕ String} {dflt lo hi : Int} {offs : Array Int} {len : Nat} {x : Int32} {off : Int} (tgt : Nat) (d : decode M.2.1 pc = .ok (.tableswitch dflt lo hi offs, len)) (h1 : ¬ x.toInt < lo) (h2 : ¬ hi < x.toInt) (ho : offs[(x.toInt - lo).toNat]? = some off) (ht : (pc : Int) + off = (tgt : Int)) (kk : rE M k tgt ls st σ kc ks o τ) : rE M k pc ls (.int x :: st) σ kc ks o τ := by
  intro l p e R s m args below meth c0 G ad0 n0 ad H locs cells slots la C h3 hn ha hc hs hW hS hl hw
  exact lv_tableIn C.2.1 C.2.2.1 d h1 h2 ho ht (kk l p e R s m args below meth c0 G ad0 n0 ad H locs cells slots la C h3 hn ha hc hs hW hS hl (rSt_t hw))
theorem E_tableOut {M : rM} {k pc : Nat} {ls : List (Option Value)} {st : List Value} {σ τ : rS} {kc ks : Nat} {o : Option Value ⊕ String} {dflt lo hi : Int} {offs : Array Int} {len : Nat} {x : Int32} (tgt : Nat) (d : decode M.2.1 pc = .ok (.tableswitch dflt lo hi offs, len)) (h : x.toInt < lo ∨ hi < x.toInt) (ht : (pc : Int) + dflt = (tgt : Int)) (kk : rE M k tgt ls st σ kc ks o τ) : rE M k pc ls (.int x :: st) σ kc ks o τ := by
  intro l p e R s m args below meth c0 G ad0 n0 ad H locs cells slots la C h3 hn ha hc hs hW hS hl hw
  exact lv_tableOut C.2.1 C.2.2.1 d h ht (kk l p e R s m args below meth c0 G ad0 n0 ad H locs cells slots la C h3 hn ha hc hs hW hS hl (rSt_t hw))
theorem E_lookup {M : rM} {k pc : Nat} {ls : List (Option Value)} {st : List Value} {σ τ : rS} {kc ks : Nat} {o : Option Value ⊕ String} {dflt : Int} {ps : Array (Int × Int)} {len : Nat} {x : Int32} {off : Int} (tgt : Nat) (d : decode M.2.1 pc = .ok (.lookupswitch dflt ps, len)) (hp : (ps.toList.zip (ps.toList.drop 1)).all (fun (a, next) => a.1 < next.1) = true) (ho : Op.lookupswitch.offset ps.toList dflt x.toInt = off) (ht : (pc : Int) + off = (tgt : Int)) (kk : rE M k tgt ls st σ kc ks o τ) : rE M k pc ls (.int x :: st) σ kc ks o τ := by
  intro l p e R s m args below meth c0 G ad0 n0 ad H locs cells slots la C h3 hn ha hc hs hW hS hl hw
  exact lv_lookup C.2.1 C.2.2.1 d hp ho ht (kk l p e R s m args below meth c0 G ad0 n0 ad H locs cells slots la C h3 hn ha hc hs hW hS hl (rSt_t hw))
/-- of two longs -/
def rcmp (x y : Int64) : Int32 := if x < y then -1 else if x = y then 0 else 1
/-- more room than is wanted -/
theorem E_room {M : rM} {k pc : Nat} {ls : List (Option Value)} {st : List Value} {σ τ : rS} {kc ks kc2 ks2 : Nat} {o : Option Value ⊕ String} (h : rE M k pc ls st σ kc ks o τ) (h1 : kc ≤ kc2) (h2 : ks ≤ ks2) : rE M k pc ls st σ kc2 ks2 o τ := by
  intro l p e R s m args below meth c0 G ad0 n0 ad H locs cells slots la C h3 hn ha hc hs hW hS hl hw
  exact h l p e R s m args below meth c0 G ad0 n0 ad H locs cells slots la C h3 hn ha (by omega) (by omega) hW hS hl hw
/-- deeper than is wanted -/
theorem E_deep {M : rM} {k k2 pc : Nat} {ls : List (Option Value)} {st : List Value} {σ τ : rS} {kc ks : Nat} {o : Option Value ⊕ String} (h : rE M k pc ls st σ kc ks o τ) (h1 : k ≤ k2) : rE M k2 pc ls st σ kc ks o τ := by
  intro l p e R s m args below meth c0 G ad0 n0 ad H locs cells slots la C h3 hn ha hc hs hW hS hl hw
  obtain ⟨c1, c2, c3, c4, c5, c6, c7, c8, c9, c10, c11, c12, c13⟩ := C
  exact h l p e R s m args below meth c0 G ad0 n0 ad H locs cells slots la ⟨c1, c2, c3, c4, c5, c6, c7, c8, c9, c10, Nat.le_trans h1 c11, by omega, c13⟩ h3 hn ha hc hs hW hS hl hw
/-- places that are not used any more -/
theorem E_less {M : rM} {k pc : Nat} {ls ls2 : List (Option Value)} {st : List Value} {σ τ : rS} {kc ks : Nat} {o : Option Value ⊕ String} (h : rE M k pc ls2 st σ kc ks o τ) (h1 : ∀ (i : Nat) (v : Value), ls2[i]? = some (some v) → ls[i]? = some (some v)) : rE M k pc ls st σ kc ks o τ := by
  intro l p e R s m args below meth c0 G ad0 n0 ad H locs cells slots la C h3 hn ha hc hs hW hS hl hw
  exact h l p e R s m args below meth c0 G ad0 n0 ad H locs cells slots la C h3 hn ha hc hs hW hS ⟨hl.1, hl.2.1, fun i v q => hl.2.2 i v (h1 i v q)⟩ hw
theorem rW_ext {G : rG} {ad : Nat → Nat} {σ : rS} {H H1 : Heap} (h : rW G ad σ H) (hq : ∀ q : Nat, q < H.size → H1[q]? = H[q]?) : rW G ad σ H1 :=
  ⟨h.1, h.2.1.kept fun j q hj => hq q.1 ((h.2.1 j q hj).lt), h.2.2⟩
/-- a new exception without a text is thrown, and leaves the method -/
theorem E_throw0 {M : rM} {k pc : Nat} {ls : List (Option Value)} {st : List Value} {σ : rS} {kc ks : Nat} {ik ic : Nat} {cls : String} {names : List String} (hcls : Bundle.fit cls = true) (hnames : ∀ n ∈ names, Bundle.fit n = true) (hln : Cond.classLink M.1 ik cls ∈ rWd) (hini : Cond.initialized cls ∈ rWd) (hat : ∀ w ∈ vx_at0 M.1 ic cls names, w ∈ rWd ∨ w ∈ rNw) (hgood : ∀ w ∈ Cond.classLink M.1 ik cls :: Cond.initialized cls :: vx_at0 M.1 ic cls names, vx_ot w = true) (htab : M.2.2.2.2.2 = []) (hk : 6 ≤ k) (hnm : names.length ≤ 2) (hst : (st.map fun v => v.category).sum ≤ 8)
    (d0 : decode M.2.1 pc = .ok (.new ik, 3)) (d3 : decode M.2.1 (pc + 3) = .ok (.dup, 1)) (d4 : decode M.2.1 (pc + 4) = .ok (.invokespecial ic, 3)) (d7 : decode M.2.1 (pc + 7) = .ok (.athrow, 1)) : rE M k pc ls st σ (kc + 1) (ks + 6) (.inr cls) σ := by
  intro l p e R s m args below meth c0 G ad0 n0 ad H locs cells slots la C h3 hn ha hc hs hW hS hl hw
  have hkf := C.2.2.2.2.2.2.2.2.2.2.1
  have hkl := C.2.2.2.2.2.2.2.2.2.2.2.1
  have hts := C.2.2.2.2.2.1
  refine vx_throw0 (A := rA G) (names := names) C.2.1 C.2.2.1 C.1 C.2.2.2.2.1 hcls hnames (hts _ hln) (hts _ hini) (fun w hw => (hat w hw).elim (hts w) (fun h => va_Nw.use ?_ (C.2.2.2.2.2.2.2.2.2.2.2.2.2.2.2.2.2.2.2.2 _ h))) hgood C.2.2.2.2.2.2.2.2.2.2.2.2.2.2.1 C.2.2.2.2.2.2.2.2.2.2.2.2.2.2.2.1 hS (hl.1.trans C.2.2.2.1.symm) d0 d3 d4 d7 (fun x hx => by rw [C.2.2.2.2.2.2.2.2.2.1 (by rw [htab]; exact Nat.zero_le _), htab] at hx; cases hx) (by omega) (by rw [rcats]; omega) (by omega) (by omega) C.2.2.2.2.2.2.1 (fun t hv h1 h2 => ?_) hS.2.2 (by omega) (by omega)
  · have hg := (List.mem_filter.mp h).2
    cases w <;> first | rfl | (simp [rNs] at hg)
  · exact ⟨rfl, ad, ha, rW_ext hW h2, ⟨Nat.le_trans hS.1 h1, fun q hq hA => (h2 q (Nat.lt_of_lt_of_le hq hS.1)).trans (hS.2.1 q hq hA)⟩, hn⟩

theorem r_afterX {p : Program} {l : Launch} {e : Env} {R : Room} {s : State} {m : MethodId} {args : Array Value} {below : List Frame} {meth : Method} {c : Code} {H : Heap} {locs : List Loc} {cells slots : Nat} {Q : State → Prop} {G : rG} {ad : Nat → Nat} {n : Nat} {E : String} {τ1 : rS} {mc ms pc : Nat} {la : Array Slot} {st0 rest : List Value} {a : Array Value} (hr : vx_Run p l e R s m args below meth c H locs cells slots mc ms (F0 m pc la st0) rest (rQ G ad n (.inr E) τ1 a) (rX G ad n (.inr E) τ1) (rA G)) (hS : va_S (rA G) s.heap H locs)
    (kk : ∀ (ad' : Nat → Nat) (H1 : Heap) (locs1 : List Loc) (q9 : Addr) (ce : Cell), (∀ i, i < n → ad' i = ad i) → rW G ad' τ1 H1 → va_S (rA G) s.heap H1 locs1 → n ≤ rN τ1 → H1[q9]? = some ce → ce.vm = .none → s.vm.findClass E = some ce.cls → vx_W p l e R s m args below meth c H1 locs1 (cells + mc) (slots + ms) Q (F0 m pc la rest) q9) : W p l e R s m args below meth c H locs cells slots Q (F0 m pc la st0) := by
  intro T hT X
  rcases hr T hT X with ⟨v, st₀, t, T', L, h0, X', hL, e1, e2, ⟨ad', v2, ho, -⟩, st⟩ | ⟨q, st₀, t, T', L, E1, ce, h0, X', hL, e1, e2, ⟨ho, ad', hag, hW1, hF, hnn⟩, hce, hcv, hcl, st⟩
  · cases ho
  · cases ho
    have hF1 : H.size ≤ t.heap.size ∧ ∀ q : Nat, q < H.size → ¬ rA G q → t.heap[q]? = H[q]? := by rw [← h0]; exact hF
    obtain ⟨t2, a1, b1⟩ := kk ad' T'.heap (locs ++ L) q ce hag (by rw [e1]; exact hW1)
      ⟨Nat.le_trans hS.1 (by rw [e1]; exact hF1.1), fun q h1 h2 => by rw [e1, hF1.2 q (Nat.lt_of_lt_of_le h1 hS.1) h2]; exact hS.2.1 q h1 h2, fun q hq => by
        rcases List.mem_append.mp hq with h | h
        · exact hS.2.2 q h
        · exact hL q h⟩ hnn (by rw [e1]; exact hce) hcv hcl T' rfl X'
    exact ⟨t2, st.trans a1, b1⟩

/-- a call that throws, and is not caught here -/
theorem E_callVx {M : rM} {k pc : Nat} {ls : List (Option Value)} {st stk : List Value} {σ τ τ1 : rS} {kc ks : Nat} {idx : Nat} {y : MethodName} {M2 : rM} {k2 n mc ms : Nat} {as : List Value} {b : Nat} {E : String} (hM : rMetX y M2 k2 (.ref b :: as) σ mc ms E τ1) (hk2 : k2 < k) (hy : rYn y M2 n) (hln : Cond.methodLink M.1 idx y ∈ rWd) (hi : Cond.instanceMethod y ∈ rWd) (hse : Cond.selects y.cls y y ∈ rWd) {cI : Nat} {T : u_T} {Nf : Nat} (hcl : rCl cI y.cls T Nf) (hkd : rK σ b = (cI + 3, 0)) (hn9 : as.length = n) (hcat : (st.map fun v => v.category).sum ≤ 8) (hrev : stk = as.reverse ++ .ref b :: st) (d : decode M.2.1 pc = .ok (.invokevirtual idx, 3)) (htab : M.2.2.2.2.2 = []) : rE M k pc ls stk σ (kc + mc) (ks + ms) (.inr E) τ1 := by
  intro l p e R s m args below meth c0 G ad0 n0 ad H locs cells slots la C h3 hn ha hc hs hW hS hl hw
  subst hrev
  have hkf := C.2.2.2.2.2.2.2.2.2.2.1
  have hkl := C.2.2.2.2.2.2.2.2.2.2.2.1
  have hts := C.2.2.2.2.2.1
  have hmx := hy.2.2.2.2.2.2.2.1
  have e1 : ad 1 = ad0 1 := ha 1 (by omega)
  have e2 : ad 2 = ad0 2 := ha 2 (by omega)
  have hall : rSt (.ref b :: as) (rN σ) ∧ rSt st (rN σ) := by
    refine ⟨fun v hv => hw v ?_, fun v hv => hw v ?_⟩
    · rcases List.mem_cons.mp hv with rfl | q
      · exact List.mem_append_right _ List.mem_cons_self
      · exact List.mem_append_left _ (List.mem_reverse.mpr q)
    · exact List.mem_append_right _ (List.mem_cons_of_mem _ hv)
  have hst' := hall.2
  have hG : GoodIn rWd (rHd y M2) := rGood fun w hw => (List.mem_cons.mp hw).elim (fun q => by rw [q]; exact hy.2.2.1) id
  have hd : y.cls ≠ "java/lang/invoke/MethodHandle" ∧ y.cls ≠ "java/lang/invoke/VarHandle" ∧ (parseMethodDescriptor y.desc).map (fun d => d.parameters.length) = some n := ⟨hy.2.2.2.2.1, hy.2.2.2.2.2.1, hy.2.2.2.2.2.2.1⟩
  have hroom : k2 + 1 ≤ R.frames ∧ 8 + (M2.2.2.1 + 11) + 100 * k2 ≤ R.locals := ⟨by omega, by omega⟩
  have hpre : ∀ U : State, U.heap = H → s.WarmedH U.vm → rPc G ad σ (.ref b :: as) ((.ref b :: as).map (tv ad)).toArray U := fun U hU hWm => ⟨rfl, rC_go (by rw [e1, e2]; exact C.2.2.2.2.2.2.2.2.2.2.2.2) hU hS hWm, by rw [hU]; exact hW, hall.1⟩
  have hrecv : ∃ cell : Cell, H[ad b]? = some cell ∧ cell.vm.isStatics = false ∧ s.vm.findClass y.cls = some cell.cls := va_recv C.2.2.2.2.2.2.2.2.2.2.2.2.1 hW.2.1 hcl.1 (q0 := b - 3) (by rw [rws_at (rW_three hW hkd (hall.1 _ List.mem_cons_self).1) (hall.1 _ List.mem_cons_self).2, rc_obj hkd])
  have hr := vx_runV (cells := cells) (slots := slots) (locs := locs) (meth := meth) (below := below) (e := e) (As := (as.map (tv ad))) (rest := st.map (tv ad)) (g := F0 m pc la ((as.reverse ++ .ref b :: st).map (tv ad))) (b := ad b) (own := M.1) (C := y.cls) ⟨C.2.1, C.2.2.1, C.2.2.2.1, C.2.2.2.2.1, hts⟩ (hM l G ad C.1) ⟨(callB_of n hts hG rfl rfl rfl (hts _ hy.2.2.2.1) (hts _ hln) hd hroom), hts _ hi, hts _ hse⟩ ⟨rPc_blind, hrecv, hpre⟩ rfl (by rw [List.length_map]; exact hn9) hl.1 (by rw [List.map_append, List.map_reverse] <;> rfl) (lv_room (by rw [rcats]; exact hcat)) d ⟨by omega, by omega⟩
  refine r_afterX hr hS (fun ad' H1 locs1 q9 ce hag hW1 hS1 hnn hce hcv hcl => ?_)
  exact vx_out (fun x hx => by rw [C.2.2.2.2.2.2.2.2.2.1 (by rw [htab]; exact Nat.zero_le _), htab] at hx; cases hx) C.2.2.2.2.2.2.1 hce hcv hcl (fun t ht hv => ⟨rfl, ad', fun i hi => (hag i (Nat.lt_of_lt_of_le hi hn)).trans (ha i hi), by rw [ht]; exact hW1, hS1.F ht, Nat.le_trans hn hnn⟩) hS1.2.2 (by omega) (by omega)
/-- a call that throws, and is caught here -/
theorem E_callVc {M : rM} {k pc : Nat} {ls : List (Option Value)} {st stk : List Value} {σ τ τ1 : rS} {kc ks : Nat} {o : Option Value ⊕ String} {idx : Nat} {y : MethodName} {M2 : rM} {k2 n mc ms : Nat} {as : List Value} {b : Nat} {E : String} (hM : rMetX y M2 k2 (.ref b :: as) σ mc ms E τ1) (hk2 : k2 < k) (hy : rYn y M2 n) (hln : Cond.methodLink M.1 idx y ∈ rWd) (hi : Cond.instanceMethod y ∈ rWd) (hse : Cond.selects y.cls y y ∈ rWd) {cI : Nat} {T : u_T} {Nf : Nat} (hcl : rCl cI y.cls T Nf) (hkd : rK σ b = (cI + 3, 0)) (hn9 : as.length = n) (hcat : (st.map fun v => v.category).sum ≤ 8) (hrev : stk = as.reverse ++ .ref b :: st) (d : decode M.2.1 pc = .ok (.invokevirtual idx, 3)) (pre : List ExceptionTableEntry) (x : ExceptionTableEntry) (suf : List ExceptionTableEntry) {nm : String} (hsplit : M.2.2.2.2.2 = pre ++ x :: suf) (hlen : M.2.2.2.2.2.length ≤ 90) (hpass : ∀ z ∈ pre, covers z pc = false ∨ (z.catchType ≠ 0 ∧ ∃ nm : String, Cond.classLink M.1 z.catchType nm ∈ rWd ∧ (E, nm) ∈ rNo)) (hx : covers x pc = true) (h0 : x.catchType ≠ 0) (hlk : Cond.classLink M.1 x.catchType nm ∈ rWd) (hcast : Cond.castable E nm ∈ rNw) (j hp : Nat) (hhp : x.handlerPc = hp) {len : Nat} (dh : (decode M.2.1 hp = .ok (.astore j, 2) ∧ len = 2) ∨ (∃ f : Fin 4, (f : Nat) = j ∧ decode M.2.1 hp = .ok (.astore_n f, 1) ∧ len = 1)) (hjl : j < M.2.2.1) (hjo : ∀ (i : Nat) (v : Value), ls[i]? = some (some v) → i + 1 = j → v.category ≠ 2)
    (kk : rE M k (hp + len) (ls.set j none) [] τ1 kc ks o τ) : rE M k pc ls stk σ (kc + mc) (ks + ms) o τ := by
  intro l p e R s m args below meth c0 G ad0 n0 ad H locs cells slots la C h3 hn ha hc hs hW hS hl hw
  subst hrev
  have hkf := C.2.2.2.2.2.2.2.2.2.2.1
  have hkl := C.2.2.2.2.2.2.2.2.2.2.2.1
  have hts := C.2.2.2.2.2.1
  have hmx := hy.2.2.2.2.2.2.2.1
  have e1 : ad 1 = ad0 1 := ha 1 (by omega)
  have e2 : ad 2 = ad0 2 := ha 2 (by omega)
  have hall : rSt (.ref b :: as) (rN σ) ∧ rSt st (rN σ) := by
    refine ⟨fun v hv => hw v ?_, fun v hv => hw v ?_⟩
    · rcases List.mem_cons.mp hv with rfl | q
      · exact List.mem_append_right _ List.mem_cons_self
      · exact List.mem_append_left _ (List.mem_reverse.mpr q)
    · exact List.mem_append_right _ (List.mem_cons_of_mem _ hv)
  have hst' := hall.2
  have hG : GoodIn rWd (rHd y M2) := rGood fun w hw => (List.mem_cons.mp hw).elim (fun q => by rw [q]; exact hy.2.2.1) id
  have hd : y.cls ≠ "java/lang/invoke/MethodHandle" ∧ y.cls ≠ "java/lang/invoke/VarHandle" ∧ (parseMethodDescriptor y.desc).map (fun d => d.parameters.length) = some n := ⟨hy.2.2.2.2.1, hy.2.2.2.2.2.1, hy.2.2.2.2.2.2.1⟩
  have hroom : k2 + 1 ≤ R.frames ∧ 8 + (M2.2.2.1 + 11) + 100 * k2 ≤ R.locals := ⟨by omega, by omega⟩
  have hpre : ∀ U : State, U.heap = H → s.WarmedH U.vm → rPc G ad σ (.ref b :: as) ((.ref b :: as).map (tv ad)).toArray U := fun U hU hWm => ⟨rfl, rC_go (by rw [e1, e2]; exact C.2.2.2.2.2.2.2.2.2.2.2.2) hU hS hWm, by rw [hU]; exact hW, hall.1⟩
  have hrecv : ∃ cell : Cell, H[ad b]? = some cell ∧ cell.vm.isStatics = false ∧ s.vm.findClass y.cls = some cell.cls := va_recv C.2.2.2.2.2.2.2.2.2.2.2.2.1 hW.2.1 hcl.1 (q0 := b - 3) (by rw [rws_at (rW_three hW hkd (hall.1 _ List.mem_cons_self).1) (hall.1 _ List.mem_cons_self).2, rc_obj hkd])
  have hr := vx_runV (cells := cells) (slots := slots) (locs := locs) (meth := meth) (below := below) (e := e) (As := (as.map (tv ad))) (rest := st.map (tv ad)) (g := F0 m pc la ((as.reverse ++ .ref b :: st).map (tv ad))) (b := ad b) (own := M.1) (C := y.cls) ⟨C.2.1, C.2.2.1, C.2.2.2.1, C.2.2.2.2.1, hts⟩ (hM l G ad C.1) ⟨(callB_of n hts hG rfl rfl rfl (hts _ hy.2.2.2.1) (hts _ hln) hd hroom), hts _ hi, hts _ hse⟩ ⟨rPc_blind, hrecv, hpre⟩ rfl (by rw [List.length_map]; exact hn9) hl.1 (by rw [List.map_append, List.map_reverse] <;> rfl) (lv_room (by rw [rcats]; exact hcat)) d ⟨by omega, by omega⟩
  refine r_afterX hr hS (fun ad' H1 locs1 q9 ce hag hW1 hS1 hnn hce hcv hcl => ?_)
  have hC := C.2.2.2.2.2.2.2.2.2.2.2.2
  refine vx_catch C.2.2.2.2.1 pre x suf ((C.2.2.2.2.2.2.2.2.2.1 hlen).trans hsplit) (fun z hz => (hpass z hz).imp id (fun ⟨h, nm, h1, h2⟩ => ⟨h, nm, hts _ h1, hC.2.2.2.2.2.2.2.1.2 _ h2⟩)) hx h0 (hts _ hlk) (va_Nw.use rfl (hC.2.2.2.2.2.2.2.2 _ hcast)) hce hcv hcl ?_
  rw [hhp]
  have hl1 := rLv_agree hag hnn hl
  have fin : ∀ lb : Array Slot, lv_has lb M.2.2.1 ((j, .ref q9) :: (rAs ls ad').filter (fun q => !(q.1 == j) && !(q.1 + 1 == j && q.2.category == 2))) → rLv lb M.2.2.1 (ls.set j none) ad' (rN τ1) := by
    intro lb hb
    refine ⟨hb.1, hb.2.1, fun i v hv => ?_⟩
    rw [List.getElem?_set] at hv
    have hne : i ≠ j := fun q => by
      subst q
      rw [if_pos rfl] at hv
      split at hv <;> cases hv
    rw [if_neg (fun q => hne q.symm)] at hv
    refine ⟨(hl1.2.2 i v hv).1, hb.2.2 (i, tv ad' v) (List.mem_cons_of_mem _ (List.mem_filter.mpr ⟨rAs_in.mpr ⟨v, hv, rfl⟩, ?_⟩))⟩
    have g := hjo i v hv
    have g2 : (tv ad' v).category = v.category := tv_cat ad' v
    simp only [Bool.and_eq_true, Bool.not_eq_true', beq_eq_false_iff_ne, Bool.and_eq_false_iff, ne_eq]
    grind
  have kk1 : ∀ lb : Array Slot, lv_has lb M.2.2.1 ((j, .ref q9) :: (rAs ls ad').filter (fun q => !(q.1 == j) && !(q.1 + 1 == j && q.2.category == 2))) → W p l e R s m args below meth c0 H1 locs1 (cells + mc) (slots + ms) (vx_MQ below (rQ G ad0 n0 o τ) (rX G ad0 n0 o τ) args s R.cells R.slots (rA G)) (F0 m (hp + len) lb []) := fun lb hb => kk l p e R s m args below meth c0 G ad0 n0 ad' H1 locs1 (cells + mc) (slots + ms) lb C h3 (Nat.le_trans hn hnn) (fun i hi => (hag i (Nat.lt_of_lt_of_le hi hn)).trans (ha i hi)) (by omega) (by omega) hW1 hS1 (fin lb hb) (fun v hv => absurd hv List.not_mem_nil)
  rcases dh with ⟨dh, rfl⟩ | ⟨f, hf, dh, rfl⟩
  · exact lv_astore C.2.1 C.2.2.1 dh (rLv_has hl1) hjl rfl kk1
  · subst hf
    exact lv_astore_n C.2.1 C.2.2.1 dh rfl (rLv_has hl1) hjl rfl kk1

theorem E_lcmp {M : rM} {k pc : Nat} {ls : List (Option Value)} {st : List Value} {σ τ : rS} {kc ks : Nat} {o : Option Value ⊕ String} {x y : Int64} (d : decode M.2.1 pc = .ok (.lcmp, 1)) (kk : rE M k (pc + 1) ls (.int (lg_cmp x y) :: st) σ kc ks o τ) : rE M k pc ls (.long y :: .long x :: st) σ kc ks o τ := by
  intro l p e R s m args below meth c0 G ad0 n0 ad H locs cells slots la C h3 hn ha hc hs hW hS hl hw
  exact W.lcmp C.2.1 C.2.2.1 d (kk l p e R s m args below meth c0 G ad0 n0 ad H locs cells slots la C h3 hn ha hc hs hW hS hl (rSt_c trivial (rSt_t (rSt_t hw))))
theorem E_ldcw {M : rM} {k pc : Nat} {ls : List (Option Value)} {st : List Value} {σ τ : rS} {kc ks : Nat} {o : Option Value ⊕ String} {i : Nat} {v : Int32} (d : decode M.2.1 pc = .ok (.ldc_w i, 3)) (hv : Jvm.Cond.constant M.1 i v ∈ rWd) (kk : rE M k (pc + 3) ls (.int v :: st) σ kc ks o τ) : rE M k pc ls st σ kc ks o τ := by
  intro l p e R s m args below meth c0 G ad0 n0 ad H locs cells slots la C h3 hn ha hc hs hW hS hl hw
  exact lv_ldcw C.2.1 C.2.2.1 C.2.2.2.2.1 (C.2.2.2.2.2.1 _ hv) d (kk l p e R s m args below meth c0 G ad0 n0 ad H locs cells slots la C h3 hn ha hc hs hW hS hl (rSt_c trivial hw))
/-- a whole row of ints, of longs is another -/
def rowI (σ : rS) (a : Nat) (f : Nat → Int32) : rS := (rK σ, va_up (rI σ) a f, rL σ, rR σ, rN σ)
def rowL (σ : rS) (a : Nat) (f : Nat → Int64) : rS := (rK σ, rI σ, va_up (rL σ) a f, rR σ, rN σ)
theorem wI_row (σ : rS) (a k : Nat) (v : Int32) : wI σ a k v = rowI σ a (va_up (rI σ a) k v) := rfl
theorem wL_row (σ : rS) (a k : Nat) (v : Int64) : wL σ a k v = rowL σ a (va_up (rL σ a) k v) := rfl
theorem rI_row (σ : rS) (a : Nat) (f : Nat → Int32) : rI (rowI σ a f) a = f := up_same _ _ _
theorem rL_row (σ : rS) (a : Nat) (f : Nat → Int64) : rL (rowL σ a f) a = f := up_same _ _ _
theorem rI_rowo (σ : rS) {a b : Nat} (f : Nat → Int32) (h : b ≠ a) : rI (rowI σ a f) b = rI σ b := up_other _ _ h
theorem rL_rowo (σ : rS) {a b : Nat} (f : Nat → Int64) (h : b ≠ a) : rL (rowL σ a f) b = rL σ b := up_other _ _ h
theorem up_twice {α : Type} (f : Nat → α) (i : Nat) (x y : α) : va_up (va_up f i x) i y = va_up f i y := by
  funext j; by_cases h : j = i
  · subst h; rw [up_same, up_same]
  · rw [up_other _ _ h, up_other _ _ h, up_other _ _ h]
theorem up_id {α : Type} (f : Nat → α) (i : Nat) : va_up f i (f i) = f := by
  funext j; by_cases h : j = i
  · subst h; rw [up_same]
  · rw [up_other _ _ h]
theorem up_comm {α : Type} (f : Nat → α) {i j : Nat} (x y : α) (h : i ≠ j) : va_up (va_up f i x) j y = va_up (va_up f j y) i x := by
  funext k; by_cases h1 : k = j
  · subst h1; rw [up_same, up_other _ _ (fun q => h q.symm), up_same]
  · rw [up_other _ _ h1]; by_cases h2 : k = i
    · subst h2; rw [up_same, up_same]
    · rw [up_other _ _ h2, up_other _ _ h2, up_other _ _ h1]
theorem rowI_twice (σ : rS) (a : Nat) (f g : Nat → Int32) : rowI (rowI σ a f) a g = rowI σ a g := by
  show (rK σ, va_up (va_up (rI σ) a f) a g, rL σ, rR σ, rN σ) = _; rw [up_twice]; rfl
theorem rowL_twice (σ : rS) (a : Nat) (f g : Nat → Int64) : rowL (rowL σ a f) a g = rowL σ a g := by
  show (rK σ, rI σ, va_up (va_up (rL σ) a f) a g, rR σ, rN σ) = _; rw [up_twice]; rfl
theorem rowI_id (σ : rS) (a : Nat) : rowI σ a (rI σ a) = σ := by
  show (rK σ, va_up (rI σ) a (rI σ a), rL σ, rR σ, rN σ) = _; rw [up_id]
theorem rowL_id (σ : rS) (a : Nat) : rowL σ a (rL σ a) = σ := by
  show (rK σ, rI σ, va_up (rL σ) a (rL σ a), rR σ, rN σ) = _; rw [up_id]

theorem E_copyi {M : rM} {k pc : Nat} {ls : List (Option Value)} {st : List Value} {σ τ : rS} {kc ks : Nat} {o : Option Value ⊕ String} {idx a0 a n0' n1 : Nat} {sp dp n : Int32} (hln : Cond.methodLink M.1 idx arraycopyName ∈ rWd) (hnat : Cond.native arraycopyName ∈ rWd) (hstt : Cond.static arraycopyName ∈ rWd) (hini : Cond.initialized "java/lang/System" ∈ rWd) (d : decode M.2.1 pc = .ok (.invokestatic idx, 3)) (hk0 : rK σ a0 = (0, n0')) (hk1 : rK σ a = (0, n1)) (h30 : 3 ≤ a0) (h31 : 3 ≤ a) (h1 : ¬ sp < 0) (h2 : ¬ dp < 0) (h3n : ¬ n < 0) (h4 : sp.toNatClampNeg + n.toNatClampNeg ≤ n0') (h5 : dp.toNatClampNeg + n.toNatClampNeg ≤ n1) (hkk : 1 ≤ k) (hst : (st.map fun v => v.category).sum ≤ 8)
    (kk : rE M k (pc + 3) ls st (rowI σ a (va_cpy (rI σ a0) (rI σ a) sp.toNatClampNeg dp.toNatClampNeg n.toNatClampNeg)) kc ks o τ) : rE M k pc ls (.int n :: .int dp :: .ref a :: .int sp :: .ref a0 :: st) σ kc ks o τ := by
  intro l p e R s m args below meth c0 G ad0 n0 ad H locs cells slots la C h3 hn ha hc hs hW hS hl hw
  have hkf := C.2.2.2.2.2.2.2.2.2.2.1
  have hkl := C.2.2.2.2.2.2.2.2.2.2.2.1
  have hts := C.2.2.2.2.2.1
  have hw0 := rSt_h (rSt_t (rSt_t (rSt_t (rSt_t hw))))
  have hw1 := rSt_h (rSt_t (rSt_t hw))
  refine va_copyi (tys := rT G) (ls := la) C.2.1 C.2.2.1 (C.2.2.2.1.trans hl.1.symm) C.2.2.2.2.1 (hts _ hln) (hts _ hnat) (hts _ hstt) (hts _ hini) C.2.2.2.2.2.2.2.2.2.2.2.2.1 hW.2.1 hW.2.2.1 hS (a0 - 3) (a - 3) 0 0 (by rw [rws_at h30 hw0.2, rc_int hk0]) (by rw [rws_at h31 hw1.2, rc_int hk1]) rfl rfl rfl h1 h2 h3n h4 h5 (fun _ _ => rfl) (by omega) ?_ d (fun H1 locs1 hP1 hD1 hS1 => ?_)
  · rw [rcats]
    have : nativeFrameWords "java/lang/System" "arraycopy" 5 = 7 := by decide
    rw [this]; omega
  have hW1 : rW G ad (rowI σ a (va_cpy (rI σ a0) (rI σ a) sp.toNatClampNeg dp.toNatClampNeg n.toNatClampNeg)) H1 := rW_put hW h31 rfl rfl (fun b hb => by first | rfl | exact up_other _ _ hb) (fun b hb => by first | rfl | exact up_other _ _ hb) (fun b hb => rfl) (fun j => hW.2.2.2.2.2.2.2 a j) (by rw [rc_int (show rK (rowI σ a _) a = (0, n1) from hk1), rI_row]) hP1 hD1
  exact kk l p e R s m args below meth c0 G ad0 n0 ad H1 locs1 cells slots la C h3 hn ha hc hs hW1 hS1 hl (rSt_t (rSt_t (rSt_t (rSt_t (rSt_t hw)))))

theorem E_copyl {M : rM} {k pc : Nat} {ls : List (Option Value)} {st : List Value} {σ τ : rS} {kc ks : Nat} {o : Option Value ⊕ String} {idx a0 a n0' n1 : Nat} {sp dp n : Int32} (hln : Cond.methodLink M.1 idx arraycopyName ∈ rWd) (hnat : Cond.native arraycopyName ∈ rWd) (hstt : Cond.static arraycopyName ∈ rWd) (hini : Cond.initialized "java/lang/System" ∈ rWd) (d : decode M.2.1 pc = .ok (.invokestatic idx, 3)) (hk0 : rK σ a0 = (1, n0')) (hk1 : rK σ a = (1, n1)) (h30 : 3 ≤ a0) (h31 : 3 ≤ a) (h1 : ¬ sp < 0) (h2 : ¬ dp < 0) (h3n : ¬ n < 0) (h4 : sp.toNatClampNeg + n.toNatClampNeg ≤ n0') (h5 : dp.toNatClampNeg + n.toNatClampNeg ≤ n1) (hkk : 1 ≤ k) (hst : (st.map fun v => v.category).sum ≤ 8)
    (kk : rE M k (pc + 3) ls st (rowL σ a (va_cpy (rL σ a0) (rL σ a) sp.toNatClampNeg dp.toNatClampNeg n.toNatClampNeg)) kc ks o τ) : rE M k pc ls (.int n :: .int dp :: .ref a :: .int sp :: .ref a0 :: st) σ kc ks o τ := by
  intro l p e R s m args below meth c0 G ad0 n0 ad H locs cells slots la C h3 hn ha hc hs hW hS hl hw
  have hkf := C.2.2.2.2.2.2.2.2.2.2.1
  have hkl := C.2.2.2.2.2.2.2.2.2.2.2.1
  have hts := C.2.2.2.2.2.1
  have hw0 := rSt_h (rSt_t (rSt_t (rSt_t (rSt_t hw))))
  have hw1 := rSt_h (rSt_t (rSt_t hw))
  refine va_copyl (tys := rT G) (ls := la) C.2.1 C.2.2.1 (C.2.2.2.1.trans hl.1.symm) C.2.2.2.2.1 (hts _ hln) (hts _ hnat) (hts _ hstt) (hts _ hini) C.2.2.2.2.2.2.2.2.2.2.2.2.1 hW.2.1 hW.2.2.1 hS (a0 - 3) (a - 3) 1 1 (by rw [rws_at h30 hw0.2, rc_long hk0]) (by rw [rws_at h31 hw1.2, rc_long hk1]) rfl rfl rfl h1 h2 h3n h4 h5 (fun _ _ => rfl) (by omega) ?_ d (fun H1 locs1 hP1 hD1 hS1 => ?_)
  · rw [rcats]
    have : nativeFrameWords "java/lang/System" "arraycopy" 5 = 7 := by decide
    rw [this]; omega
  have hW1 : rW G ad (rowL σ a (va_cpy (rL σ a0) (rL σ a) sp.toNatClampNeg dp.toNatClampNeg n.toNatClampNeg)) H1 := rW_put hW h31 rfl rfl (fun b hb => by first | rfl | exact up_other _ _ hb) (fun b hb => by first | rfl | exact up_other _ _ hb) (fun b hb => rfl) (fun j => hW.2.2.2.2.2.2.2 a j) (by rw [rc_long (show rK (rowL σ a _) a = (1, n1) from hk1), rL_row]) hP1 hD1
  exact kk l p e R s m args below meth c0 G ad0 n0 ad H1 locs1 cells slots la C h3 hn ha hc hs hW1 hS1 hl (rSt_t (rSt_t (rSt_t (rSt_t (rSt_t hw)))))

