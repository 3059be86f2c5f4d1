def R_law : String := "RackwordLaw"
def lw_P (b : Addr) (xs : List Int32) (args : Array Value) (s : State) : Prop := args = #[.ref b] ∧ s.IntsAt b xs ∧ xs.length ≤ 260 ∧ (Jvm.Cond.and given_1 narrow_1).before args s = true
def lw_Q (_ : Array Value) (s : State) (o : Outcome) (t : State) : Prop := o = .returned (some (.int 1)) ∧ Framed s o t [] 600086 7301442
def lw_Z (below : List Frame) (a : Array Value) (s : State) : State → Prop := fun t => ∃ o, t.status = .running ∧ Ended t below o ∧ lw_Q a s o t
/-- the law's own end, with 1 on the stack, nothing written that was there before, its room as the claim has it -/
theorem lw_ret {p : Program} {l : Launch} {e : Env} {s : State} {m : MethodId} {below : List Frame} {meth : Method} {c : Code} {b : Nat} (hx : p.tables.exec = Jvm.exec) (hb : c.code = code) (hr : meth.sig.returnType = ret) (hlocks : meth.locks = false) {pc : Nat} {H : Heap} {ls : Array Slot} (hdg : decode code pc = .ok (.ireturn, 1)) : W p l e room_1 s m #[Value.ref b] below meth c H [] 600086 7301442 (lw_Z below #[Value.ref b] s) (F0 m pc ls [.int 1]) := by
  intro T hT X
  obtain ⟨fs, hret, hrun, hended, hW, hframe⟩ := X.leave (v := some (.int 1)) (hlocks := hlocks) (fun h => by rw [hr] at h; cases h)
  have hmeth' : T.vm.method? m = some meth := X.method'
  refine ⟨T.setFrames fs, ?_, .returned (some (.int 1)), hrun, hended, rfl, ⟨_, rfl⟩, hW, hframe⟩
  jvm_step X.here [X.here.top, hx, hb, hdg, hmeth', hr, ret, narrow_b1]
  (try refine ⟨rfl, ?_⟩); (try refine ⟨rfl, ?_⟩)
  first | (intro acts; rw [hret _ acts rfl rfl rfl]) | rw [hret _ _ rfl rfl rfl]
  exact Steps.refl _
/-- what holds at the law's entry: the machine, the code, the tables' words (any of lw_tbl by 'hts w (by decide +kernel)'), the script of L ints xs at the cell b, what the Statement gives of the start (any of its parts by flat_of_before) -/
def lw_At (p : Program) (s : State) (m : MethodId) (meth : Method) (c : Code) (b L : Nat) (xs : Nat → Int32) : Prop :=
  p.tables.exec = Jvm.exec ∧ c.code = code ∧ meth.sig.returnType = ret ∧ c.maxLocals = 11 ∧ s.vm.findClass R_law = some m.cls ∧ (∀ w ∈ lw_tbl, w.before #[Value.ref b] s = true) ∧ va_X b L xs s s.heap ∧ b < s.heap.size ∧ meth.locks = false ∧ (Jvm.Cond.and given_1 narrow_1).before #[Value.ref b] s = true
theorem cl_known {s : State} {args : Array Value} (hts : ∀ w ∈ lw_tbl, w.before args s = true) : ∃ (dC : Nat → ClassId) (dI : Nat → Nat → Nat), ∀ (k : Nat) (q : vw_C), vwCl[k]? = some q → u_Kn s q.1 q.2.1 q.2.2 (dC k) (dI k) := by
  have hin : ∀ w, w ∈ rWd → w ∈ lw_tbl := fun w h => (List.mem_filter.mp h).1
  have h : ∀ k : Nat, ∃ p : ClassId × (Nat → Nat), ∀ q : vw_C, vwCl[k]? = some q → u_Kn s q.1 q.2.1 q.2.2 p.1 p.2 := by
    intro k
    match k with
    | 0 =>
      obtain ⟨c, i, h⟩ := u_known hts (fun w hw => hin w (clX1.2.1 w hw)) (hts _ (hin _ insX1))
      exact ⟨(c, i), fun q hq => by cases hq; exact h⟩
    | 1 =>
      obtain ⟨c, i, h⟩ := u_known hts (fun w hw => hin w (clX2.2.1 w hw)) (hts _ (hin _ insX2))
      exact ⟨(c, i), fun q hq => by cases hq; exact h⟩
    | 2 =>
      obtain ⟨c, i, h⟩ := u_known hts (fun w hw => hin w (clX3.2.1 w hw)) (hts _ (hin _ insX3))
      exact ⟨(c, i), fun q hq => by cases hq; exact h⟩
    | 3 =>
      obtain ⟨c, i, h⟩ := u_known hts (fun w hw => hin w (clX4.2.1 w hw)) (hts _ (hin _ insX4))
      exact ⟨(c, i), fun q hq => by cases hq; exact h⟩
    | 4 =>
      obtain ⟨c, i, h⟩ := u_known hts (fun w hw => hin w (clX5.2.1 w hw)) (hts _ (hin _ insX5))
      exact ⟨(c, i), fun q hq => by cases hq; exact h⟩
    | 5 =>
      obtain ⟨c, i, h⟩ := u_known hts (fun w hw => hin w (clX6.2.1 w hw)) (hts _ (hin _ insX6))
      exact ⟨(c, i), fun q hq => by cases hq; exact h⟩
    | 6 =>
      obtain ⟨c, i, h⟩ := u_known hts (fun w hw => hin w (clX7.2.1 w hw)) (hts _ (hin _ insX7))
      exact ⟨(c, i), fun q hq => by cases hq; exact h⟩
    | 7 =>
      obtain ⟨c, i, h⟩ := u_known hts (fun w hw => hin w (clX8.2.1 w hw)) (hts _ (hin _ insX8))
      exact ⟨(c, i), fun q hq => by cases hq; exact h⟩
    | 8 =>
      obtain ⟨c, i, h⟩ := u_known hts (fun w hw => hin w (clX9.2.1 w hw)) (hts _ (hin _ insX9))
      exact ⟨(c, i), fun q hq => by cases hq; exact h⟩
    | 9 =>
      obtain ⟨c, i, h⟩ := u_known hts (fun w hw => hin w (clX10.2.1 w hw)) (hts _ (hin _ insX10))
      exact ⟨(c, i), fun q hq => by cases hq; exact h⟩
    | k + 10 =>
      obtain ⟨c, i, h⟩ := u_known hts (fun w hw => hin w (clX1.2.1 w hw)) (hts _ (hin _ insX1))
      exact ⟨(c, i), fun q hq => by simp [vwCl] at hq⟩
  exact ⟨fun k => (h k).choose.1, fun k => (h k).choose.2, fun k => (h k).choose_spec⟩
theorem arr_known {s : State} {args : Array Value} {ty : FieldType} (h : (Cond.arrayClass ty).before args s = true) (hty : ty = .int ∨ ty = .long) : ∃ cA : ClassId, ArrOfT s cA ty ∧ va_RA s cA ty := by
  obtain ⟨cA, kA, comp, hfind, hk, hkind⟩ := Cond.arrayClass_spec h
  exact ⟨cA, fun n z => ⟨(fun k h => by cases h), kA, hk, comp, hkind⟩, by rcases hty with rfl | rfl <;> exact hfind⟩
theorem uS_00 (L : Nat) (xs : Nat → Int32) : uS (σ00 L xs) = 0 := rfl
theorem wnew {p : Program} {l : Launch} {e : Env} {R : Room} {s : State} {m : MethodId} {args : Array Value} {below : List Frame} {meth : Method} {c : Code} {H : Heap} {locs : List Loc} {cells slots : Nat} {Q Q2 : State → Prop} {g : JFrame} (h : ∀ t, Q t → Q2 t) (k : W p l e R s m args below meth c H locs cells slots Q g) : W p l e R s m args below meth c H locs cells slots Q2 g := fun T hT X => by
  obtain ⟨t, a, b⟩ := k T hT X
  exact ⟨t, a, h t b⟩
set_option maxRecDepth 20000 in
theorem whole_start {p : Program} {e : Env} {s : State} {m : MethodId} {below : List Frame} {meth : Method} {c : Code} (l : Launch) (hflags : l.flags = flags0) {b L : Nat} {xs : Nat → Int32} (hL : L ≤ 260) (C0 : lw_At p s m meth c b L xs) : W p l e room_1 s m #[Value.ref b] below meth c s.heap [] 0 0 (lw_Z below #[Value.ref b] s) (entryFrame m ([Value.ref b] : List Value).toArray 11) := by
  obtain ⟨hx, hb, hr, hml, hown, hts, hX, hbl, hlocks, hgv⟩ := id C0
  have hs := flat_of_before _ hgv
  have hin : ∀ w, w ∈ rWd → w ∈ lw_tbl := fun w h => (List.mem_filter.mp h).1
  have hA : ∀ a : Nat, a < s.heap.size → ¬ (fun q : Nat => s.heap.size ≤ q) a := fun a h z => absurd h (Nat.not_lt.mpr z)
  obtain ⟨dC, dI, hKc⟩ := cl_known hts
  obtain ⟨cI, hcI⟩ := arr_known (hts _ (hin _ ac_int)) (Or.inl rfl)
  obtain ⟨cJ, hcJ⟩ := arr_known (hts _ (hin _ ac_long)) (Or.inr rfl)
  have hgl : (Term.length (.static "Rackword" "GROUPS" "[I")).eval #[Value.ref b] s none [] s = some (.int (Int32.ofNat 21)) := va_eqt (hs _ (by decide +kernel))
  have hge : ∀ j : Nat, j < 21 → (Term.elem (.static "Rackword" "GROUPS" "[I") (.int (Int32.ofNat j))).eval #[Value.ref b] s none [] s = some (.int (gr j)) := by
    intro j hj
    match j, hj with
    | 0, _ => exact va_eqt (hs (.eq (.elem (.static "Rackword" "GROUPS" "[I") (.int 0)) (.int 0)) (by decide +kernel))
    | 1, _ => exact va_eqt (hs (.eq (.elem (.static "Rackword" "GROUPS" "[I") (.int 1)) (.int 273)) (by decide +kernel))
    | 2, _ => exact va_eqt (hs (.eq (.elem (.static "Rackword" "GROUPS" "[I") (.int 2)) (.int 4113)) (by decide +kernel))
    | 3, _ => exact va_eqt (hs (.eq (.elem (.static "Rackword" "GROUPS" "[I") (.int 3)) (.int 4353)) (by decide +kernel))
    | 4, _ => exact va_eqt (hs (.eq (.elem (.static "Rackword" "GROUPS" "[I") (.int 4)) (.int 4368)) (by decide +kernel))
    | 5, _ => exact va_eqt (hs (.eq (.elem (.static "Rackword" "GROUPS" "[I") (.int 5)) (.int 4369)) (by decide +kernel))
    | 6, _ => exact va_eqt (hs (.eq (.elem (.static "Rackword" "GROUPS" "[I") (.int 6)) (.int 546)) (by decide +kernel))
    | 7, _ => exact va_eqt (hs (.eq (.elem (.static "Rackword" "GROUPS" "[I") (.int 7)) (.int 4386)) (by decide +kernel))
    | 8, _ => exact va_eqt (hs (.eq (.elem (.static "Rackword" "GROUPS" "[I") (.int 8)) (.int 4626)) (by decide +kernel))
    | 9, _ => exact va_eqt (hs (.eq (.elem (.static "Rackword" "GROUPS" "[I") (.int 9)) (.int 4641)) (by decide +kernel))
    | 10, _ => exact va_eqt (hs (.eq (.elem (.static "Rackword" "GROUPS" "[I") (.int 10)) (.int 4642)) (by decide +kernel))
    | 11, _ => exact va_eqt (hs (.eq (.elem (.static "Rackword" "GROUPS" "[I") (.int 11)) (.int 8226)) (by decide +kernel))
    | 12, _ => exact va_eqt (hs (.eq (.elem (.static "Rackword" "GROUPS" "[I") (.int 12)) (.int 8466)) (by decide +kernel))
    | 13, _ => exact va_eqt (hs (.eq (.elem (.static "Rackword" "GROUPS" "[I") (.int 13)) (.int 8481)) (by decide +kernel))
    | 14, _ => exact va_eqt (hs (.eq (.elem (.static "Rackword" "GROUPS" "[I") (.int 14)) (.int 8482)) (by decide +kernel))
    | 15, _ => exact va_eqt (hs (.eq (.elem (.static "Rackword" "GROUPS" "[I") (.int 15)) (.int 8706)) (by decide +kernel))
    | 16, _ => exact va_eqt (hs (.eq (.elem (.static "Rackword" "GROUPS" "[I") (.int 16)) (.int 8721)) (by decide +kernel))
    | 17, _ => exact va_eqt (hs (.eq (.elem (.static "Rackword" "GROUPS" "[I") (.int 17)) (.int 8722)) (by decide +kernel))
    | 18, _ => exact va_eqt (hs (.eq (.elem (.static "Rackword" "GROUPS" "[I") (.int 18)) (.int 8736)) (by decide +kernel))
    | 19, _ => exact va_eqt (hs (.eq (.elem (.static "Rackword" "GROUPS" "[I") (.int 19)) (.int 8737)) (by decide +kernel))
    | 20, _ => exact va_eqt (hs (.eq (.elem (.static "Rackword" "GROUPS" "[I") (.int 20)) (.int 8738)) (by decide +kernel))
    | k + 21, h => exact absurd h (by omega)
  obtain ⟨t, ht, hT⟩ := va_Tof (A := fun q : Nat => s.heap.size ≤ q) (f := fun j => .int (gr j)) (by decide) (hs (.arrayOf (.static "Rackword" "GROUPS" "[I") .int) (by decide +kernel)) hgl hge hA
  have htl : t < s.heap.size := by
    obtain ⟨cell, h1, -⟩ := hT
    exact (Array.getElem?_eq_some_iff.mp h1).1
  have hZ := va_Zof (A := fun q : Nat => s.heap.size ≤ q) (hts (.laysStatic "Rackword" "GROUPS" "[I") (by decide +kernel)) (hts (.initialized "Rackword") (by decide +kernel)) ht hA
  have hU := vx_Zqof (A := fun q : Nat => s.heap.size ≤ q) (hts (.laysStatic Bundle.tN "UNASSIGNED_STACK" Bundle.steD) (by decide +kernel)) (hts (.initialized Bundle.tN) (by decide +kernel)) (hs (.isRef (.static Bundle.tN "UNASSIGNED_STACK" Bundle.steD)) (by decide +kernel)) hA
  have hV := vx_Zqof (A := fun q : Nat => s.heap.size ≤ q) (hts (.laysStatic Bundle.tN "SUPPRESSED_SENTINEL" Bundle.listD) (by decide +kernel)) (hts (.initialized Bundle.tN) (by decide +kernel)) (hs (.isRef (.static Bundle.tN "SUPPRESSED_SENTINEL" Bundle.listD)) (by decide +kernel)) hA
  have hT2 : va_T .int b L (fun j => .int (xs j)) (fun q : Nat => s.heap.size ≤ q) s s.heap := by
    obtain ⟨scr, h1, h2, h3, h4, h5⟩ := hX
    exact ⟨scr, h1, h2, h3, Nat.le_of_eq h4.symm, by rw [h4], h5, hA b hbl⟩
  obtain ⟨G, hG⟩ : ∃ G : rG, G = ((dC, dI), cI, cJ, cJ, (fun q : Nat => s.heap.size ≤ q), (21, gr), (L, xs)) := ⟨_, rfl⟩
  obtain ⟨ad, had⟩ : ∃ ad : Nat → Nat, ad = fun i => if i = 1 then t else b := ⟨_, rfl⟩
  have ad1 : ad 1 = t := by rw [had]; rfl
  have ad2 : ad 2 = b := by rw [had]; rfl
  have hC : rC G (ad 1) (ad 2) s := by
    rw [ad1, ad2, hG]
    refine ⟨⟨hKc, fun k q hk => ?_⟩, hZ, hU, hV, fun q h => h, hA t htl, hA b hbl, ⟨⟨hT, hT2⟩, ?_⟩, ?_⟩
    · match k, hk with
      | 0, hk => cases hk; exact hcI
      | 1, hk => cases hk; exact hcJ
      | k + 2, hk => simp [rT] at hk
    · intro q hq
      refine va_Nc.of (args := #[Value.ref b]) (hs _ ?_)
      simp only [rNo, List.mem_cons, List.not_mem_nil, or_false] at hq
      rcases hq with rfl | rfl | rfl <;> decide +kernel
    · intro w hw
      have h1 := List.mem_filter.mp hw
      refine va_tabs (A := #[Value.ref b]) ?_ rfl (hts w h1.1)
      have h2 := h1.2
      cases w <;> first | rfl | (simp [rNs] at h2)
  have hW : rW G ad (σ00 L xs) s.heap := by
    rw [hG]
    exact ⟨Nat.le_refl 3, fun k q h => by simp [rws, σ00] at h, ⟨fun i j p q h => by simp [rws, σ00] at h, fun k q h => by simp [rws, σ00] at h⟩, rfl, rfl, rfl, rfl, fun a k => by show 0 < 3; decide⟩
  obtain ⟨τ, hf⟩ := law_true L xs
  have hSy : ∀ τ1, f_X10_init (wN (σ00 L xs) (12, 0)) = some ((), τ1) → Sy τ1 := fun τ1 h1 => by
    obtain ⟨τ2, h2, -⟩ := za_sh L xs 0
    have h3 := h2
    unfold zt at h3
    rw [h1, Option.bind_some] at h3
    split at h3
    · cases h3
      exact (start_ok h2).2
    · cases h3
  obtain ⟨b1, b2, hE⟩ := law_walk (σ0 := σ00 L xs) ⟨Nat.le_refl 3, fun i hi => by (have : rN (σ00 L xs) = 3 := rfl); omega, rfl, rfl⟩ rfl (uS_00 L xs) hf hSy
  have hl := lv_entry ([.ref b]) (n := 11) (Nat.le_of_ble_eq_true rfl)
  rw [lg_entry_eq]
  have K := hE l p e room_1 s m #[Value.ref b] below meth c G ad 3 ad s.heap [] 0 0 _ ⟨by unfold Launch.stackTraces; rw [hflags]; decide, hx, hb, hml, hown, fun w hw => hts w (hin w hw), hlocks, hr, (fun h => by cases h), (fun h => absurd h (by decide)), by decide, by decide, hC⟩ (Nat.le_refl 3) (Nat.le_refl 3) (fun _ _ => rfl) (by decide) (by decide) hW va_S.rf ⟨hl.1, hl.2.1, fun i v hv => ?_⟩ (fun v hv => absurd hv List.not_mem_nil)
  · refine wnew (fun tt hq => ?_) K
    obtain ⟨o, h1, h2, h3⟩ := hq
    refine ⟨o, h1, h2, ?_⟩
    rcases h3 with ⟨⟨ad', v, g1, g2, g3, g4⟩, L2, g5, g6⟩ | ⟨q, -, E, ce, L2, hx2, -⟩
    · cases g1
      refine ⟨g3, ?_⟩
      obtain ⟨f1, f2, f3, f4, f5, f6, f7, f8⟩ := g5
      refine ⟨f1, f2, f3, f4, f5, f6, f7, fun a cc ha => ?_⟩
      obtain ⟨c', k1, k2, k3, k4⟩ := f8 a cc ha
      refine ⟨c', k1, k2, k3, fun i _ => k4 i (fun hm => ?_)⟩
      have hlt : a < s.heap.size := (Array.getElem?_eq_some_iff.mp ha).1
      have := g6 _ hm
      rw [hG] at this
      exact absurd hlt (Nat.not_lt.mpr this)
    · exact absurd hx2.1 (by simp)
  · match i, hv with
    | 0, hv =>
      cases hv
      refine ⟨⟨by decide, by show 2 < 3; decide⟩, ?_⟩
      show _ = some (Slot.val (.ref (ad 2)))
      rw [ad2]
      exact hl.2.2 (0, .ref b) List.mem_cons_self
    | i + 1, hv =>
      exfalso
      match i, hv with
      | 0, hv => cases hv
      | 1, hv => cases hv
      | 2, hv => cases hv
      | 3, hv => cases hv
      | 4, hv => cases hv
      | 5, hv => cases hv
      | 6, hv => cases hv
      | 7, hv => cases hv
      | 8, hv => cases hv
      | 9, hv => cases hv
      | i + 10, hv => simp at hv
-- ===== YOUR PART ENDS =====
set_option maxHeartbeats 4000000 in
theorem lw_walk (l : Launch) (hflags : l.flags = flags0) (b : Addr) (xs : List Int32) : MetFree l x (headSpec (Jvm.Cond.code x code maxLocals ret :: tables_1) room_1) (lw_P b xs) (fun _ _ _ _ _ => True) lw_Q := by
  refine MetFree.of_bodyS (code := code) (maxLocals := maxLocals) (ret := ret) (by decide) ?_ ?_
  · intro args s m h hn
    obtain ⟨meth, c, h1, h2, h3, h4, h5, h6, -, -⟩ := Cond.code_spec hn (atoms_spec (ws := Jvm.Cond.code x code maxLocals ret :: tables_1) h _ List.mem_cons_self)
    exact ⟨meth, c, h1, h2, h3, h4, h5, h6⟩
  · intro p e s m args below meth c s₁ B hml0 hP _
    obtain ⟨rfl, hx, hbd, hgv⟩ := hP
    obtain ⟨scr, harrAt, hlist, hof, hsmall⟩ := hx
    obtain ⟨hcb, hkn, -, -⟩ := State.arrayAt?_spec harrAt
    have hown : s.vm.findClass R_law = some m.cls := findClass_of_methodNamed B.named
    have hts0 : ∀ c ∈ (Jvm.Cond.code x code maxLocals ret :: tables_1), c.before #[Value.ref b] s = true := atoms_spec (ws := Jvm.Cond.code x code maxLocals ret :: tables_1) B.pre
    have hts : ∀ w ∈ lw_tbl, w.before #[Value.ref b] s = true := k2_hts_sels lw_privs (fun w hw => hts0 w (List.mem_cons_of_mem _ hw)) lw_privs_ok
    have hml : c.maxLocals = 11 := B.maxLocals_eq (hts0 _ List.mem_cons_self)
    have X₀ : Stand p l e room_1 s m #[Value.ref b] below meth c s₁ [] 0 0 := Stand.of_body B
    have hh0 : s₁.heap = s.heap := by rw [B.state]; rfl
    have hsz : scr.slots.size = xs.length := by rw [← Array.length_toList, hlist, List.length_map]
    have hval : ∀ j : Nat, j < xs.length → scr.slots[j]? = some (.int (xs.getD j 0)) := fun j hj => by
      rw [← Array.getElem?_toList, hlist]
      simp [hj]
    have hbl : b < s.heap.size := (Array.getElem?_eq_some_iff.mp hcb).1
    have hX : va_X b xs.length (fun j => xs.getD j 0) s s.heap := ⟨scr, hcb, hof, hkn, hsz, hval⟩
    have K : W p l e room_1 s m #[Value.ref b] below meth c s₁.heap [] 0 0 (lw_Z below #[Value.ref b] s) (entryFrame m ([Value.ref b] : List Value).toArray 11) := by
      rw [hh0]
      exact whole_start l hflags hbd ⟨B.exec, B.bytes, B.returns, hml, hown, hts, hX, hbl, B.notSynchronized, hgv⟩
    obtain ⟨t, a1, o, b1, b2, b3⟩ := K s₁ rfl X₀
    exact ⟨t, o, a1, b1, b2, b3⟩
theorem lw_pre_spec {args : Array Value} {s : State} (h : (Jvm.Cond.and given_1 narrow_1).before args s = true) (hr : rest_1_c.before args s = true) : ∃ (b : Addr) (xs : List Int32), lw_P b xs args s := by
  have hs := flat_of_before _ h
  have hq := flat_of_before _ hr
  have hc : (Cond.count 1).before args s = true := hs _ (by decide +kernel)
  have harr : (Cond.arrayOf (.arg 0) .int).before args s = true := hs _ (by decide +kernel)
  have hle : (Cond.le (.length (.arg 0)) (.int 260)).before args s = true := hs _ (by decide +kernel)
  have hlen : (Cond.isInt (.length (.arg 0))).before args s = true := hq _ (by decide +kernel)
  have hall : (Cond.all (.arg 0) (.isInt (.elem (.arg 0) (.index 0)))).before args s = true := hq _ (by decide +kernel)
  obtain ⟨b, xs, hb, hx⟩ := State.ints_of_pre rfl harr hlen hall
  have hsm : xs.length < 2 ^ 31 := hx.choose_spec.2.2.2
  have hev : (Term.length (.arg 0)).eval args s none [] s = some (.int xs.length.toInt32) := hx.length_eval hb
  have hv := Cond.le_ints hev (show (Term.int 260).eval args s none [] s = some (.int 260) from rfl)
  have hd : xs.length.toInt32 ≤ 260 := by
    simpa [Cond.before, Cond.holds, hv] using hle
  have hN : xs.length ≤ 260 := (Int32.ofNat_le_ofNat hsm (by decide)).mp (show Int32.ofNat xs.length ≤ Int32.ofNat 260 from hd)
  exact ⟨b, xs, Cond.one_arg hc (show args[0]? = some (.ref b) from hb), hx, hN, h⟩
theorem lw_comes (l : Launch) (hflags : l.flags = flags0) : Comes l x (Jvm.Cond.code x code maxLocals ret :: tables_1) room_1 (fun tb e args s => Calls_1 tb e args s ∧ rest_1 tb e args s ∧ Pre_1 tb e args s)
    (fun _ _ args s o t => lw_Q args s o t) := by
  intro p e ha hc hk s m args below hf hfit hheap happ hpre
  obtain ⟨b, xs, hP⟩ := lw_pre_spec hpre.2.2 hpre.2.1
  obtain ⟨k, o, h1, h2, h3, hQ⟩ := lw_walk l hflags b xs p e ha hc hk s m args below hf ((Spec.applies_iff_loose hf).mp happ).1 hP trivial
  exact ⟨k, o, h1, h2, h3, hQ⟩
theorem lw_frame {s t : State} {o : Outcome} {args : Array Value} (h : Framed s o t [] 600086 7301442) :
    Framed s o t (fieldLocs frame_1_writes args s ++ arrayLocs frame_1_arrays args s ++ staticLocs frame_1_statics s) 600086 7301442 := h
theorem lw_limb (L : Cond) (hL : ∀ (args : Array Value) (s t : State), L.after args s (.returned (some (.int 1))) t = true) :
    ArmFor flags0 classFile x code maxLocals ret World_1 tables_1 room_1 Calls_1 rest_1 Pre_1
      (fun tb e a s o t => postC L tb e a s o t ∧ Framed s o t (fieldLocs frame_1_writes a s ++ arrayLocs frame_1_arrays a s ++ staticLocs frame_1_statics s) 600086 7301442) := by
  intro l hflags _ _ p e ha hc hk s m args below hf hfit hheap happ hpre
  obtain ⟨k, o, h1, h2, h3, rfl, hF⟩ := lw_comes l hflags p e ha hc hk s m args below hf hfit hheap happ hpre
  exact ⟨k, _, h1, h2, h3, hL args s _, lw_frame hF⟩
theorem i_vc : Claimed_1_1 ∧ Claimed_1_2 := ⟨lw_limb limb_1_1 (fun args s t => by simp [limb_1_1, Cond.after, Cond.holds, Cond.value]), lw_limb limb_1_2 (fun args s t => Cond.after_iff.mpr (by
  first | (rw [show limb_1_2 = Cond.eq .result (.int 1) from rfl, Cond.eq_ints (x := 1) (y := 1) rfl rfl]; simp; done) | (simp [limb_1_2, Cond.value, Term.eval]; done)))⟩
