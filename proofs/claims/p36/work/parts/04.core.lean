
/-! the world of a run: cells by number, at addresses that a map ad gives; 1 and 2 are the two read rows (GROUPS, the script); from 3 on what was made -/
abbrev rS : Type := (Nat → Nat × Nat) × (Nat → Nat → Int32) × (Nat → Nat → Int64) × (Nat → Nat → Nat) × Nat
abbrev rK (σ : rS) : Nat → Nat × Nat := σ.1
abbrev rI (σ : rS) : Nat → Nat → Int32 := σ.2.1
abbrev rL (σ : rS) : Nat → Nat → Int64 := σ.2.2.1
abbrev rR (σ : rS) : Nat → Nat → Nat := σ.2.2.2.1
abbrev rN (σ : rS) : Nat := σ.2.2.2.2
/-- one int, one long, one reference is written -/
def wI (σ : rS) (a k : Nat) (v : Int32) : rS := (rK σ, va_up (rI σ) a (va_up (rI σ a) k v), rL σ, rR σ, rN σ)
def wL (σ : rS) (a k : Nat) (v : Int64) : rS := (rK σ, rI σ, va_up (rL σ) a (va_up (rL σ a) k v), rR σ, rN σ)
def wR (σ : rS) (a k : Nat) (v : Nat) : rS := (rK σ, rI σ, rL σ, va_up (rR σ) a (va_up (rR σ a) k v), rN σ)
/-- a new cell of kind q, all zero -/
def wN (σ : rS) (q : Nat × Nat) : rS := (va_up (rK σ) (rN σ) q, va_up (rI σ) (rN σ) (fun _ => 0), va_up (rL σ) (rN σ) (fun _ => 0), va_up (rR σ) (rN σ) (fun _ => 0), rN σ + 1)
/-- the constants of a run: the classes' numbers and slots; int[], long[], boolean[]; which cells are its own; the read rows -/
abbrev rG : Type := va_G × ClassId × ClassId × ClassId × (Nat → Prop) × (Nat × (Nat → Int32)) × (Nat × (Nat → Int32))
abbrev gD (G : rG) : va_G := G.1
abbrev gI (G : rG) : ClassId := G.2.1
abbrev gJ (G : rG) : ClassId := G.2.2.1
abbrev gZ (G : rG) : ClassId := G.2.2.2.1
abbrev gB (G : rG) : Nat → Prop := G.2.2.2.2.1
abbrev g1 (G : rG) : Nat × (Nat → Int32) := G.2.2.2.2.2.1
abbrev g2 (G : rG) : Nat × (Nat → Int32) := G.2.2.2.2.2.2
abbrev rT (G : rG) : List (ClassId × FieldType) := [(gI G, .int), (gJ G, .long)]
def rA (G : rG) : Nat → Prop := gB G
/-- how many fields, of which types -/
def rF (c : Nat) : Nat := (vwCl.map (fun q => q.2.2)).getD c 0
def rTy (c : Nat) : Nat → FieldType := [tyX1, tyX2, tyX3, tyX4, tyX5, tyX6, tyX7, tyX8, tyX9, tyX10, tyX11].getD c (fun _ => .int)
def rv (σ : rS) (ad : Nat → Nat) (a k : Nat) (ty : FieldType) : Value := match ty with
  | .long => .long (rL σ a k)
  | .object _ => va_rf (if rR σ a k = 0 then none else some (ad (rR σ a k)))
  | .array _ => va_rf (if rR σ a k = 0 then none else some (ad (rR σ a k)))
  | _ => .int (rI σ a k)
def rfs (σ : rS) (ad : Nat → Nat) (a c : Nat) : List Value := (List.range (rF c)).map (fun k => rv σ ad a k (rTy c k))
def rc (G : rG) (σ : rS) (ad : Nat → Nat) (a : Nat) : va_E := match rK σ a with
  | (0, n) => .inl (gI G, n, .inl (rI σ a))
  | (1, n) => .inl (gJ G, n, .inr (.inl (rL σ a)))
  | (2, n) => .inl (gZ G, n, .inl (rI σ a))
  | (c + 3, _) => .inr (c, rfs σ ad a c)
def rws (G : rG) (σ : rS) (ad : Nat → Nat) : va_W := (List.range (rN σ - 3)).map (fun i => (ad (i + 3), rc G σ ad (i + 3)))
def rW (G : rG) (ad : Nat → Nat) (σ : rS) (H : Heap) : Prop := 3 ≤ rN σ ∧ va_P (gD G) vwCl (rws G σ ad) H ∧ va_D (rA G) (rws G σ ad) ∧ rK σ 1 = (0, (g1 G).1) ∧ rI σ 1 = (g1 G).2 ∧ rK σ 2 = (0, (g2 G).1) ∧ rI σ 2 = (g2 G).2 ∧ ∀ a k, rR σ a k < rN σ
theorem rws_at {G : rG} {σ : rS} {ad : Nat → Nat} {a : Nat} (h : 3 ≤ a) (h2 : a < rN σ) : (rws G σ ad)[a - 3]? = some (ad a, rc G σ ad a) := by
  unfold rws
  rw [List.getElem?_map, List.getElem?_range (by omega)]
  simp only [Option.map_some]
  rw [show a - 3 + 3 = a by omega]
theorem rws_set {G : rG} {σ τ : rS} {ad : Nat → Nat} {a : Nat} (h : 3 ≤ a) (hN : rN τ = rN σ) (ho : ∀ b, b ≠ a → rc G τ ad b = rc G σ ad b) : (rws G σ ad).set (a - 3) (ad a, rc G τ ad a) = rws G τ ad := by
  apply List.ext_getElem?
  intro i
  unfold rws
  rw [hN, List.getElem?_set]
  by_cases hi : a - 3 = i
  · subst hi
    rw [if_pos rfl]
    by_cases hl : a - 3 < rN σ - 3
    · rw [if_pos (by simpa using hl), List.getElem?_map, List.getElem?_range hl]
      simp only [Option.map_some]
      rw [show a - 3 + 3 = a by omega]
    · rw [if_neg (by simpa using hl), List.getElem?_eq_none (by simpa using hl)]
  · rw [if_neg hi, List.getElem?_map, List.getElem?_map]
    by_cases hl : i < rN σ - 3
    · rw [List.getElem?_range hl]
      simp only [Option.map_some]
      rw [ho (i + 3) (by omega)]
    · rw [List.getElem?_eq_none (by simpa using hl)]
      rfl
/-- which words of the tables every method is given, and those of nest mates -/
def rWd : List Cond := lw_tbl.filter goodWord
def rNs (w : Cond) : Bool := match w with
  | .fieldLinkNest .. => true
  | .methodLinkNest .. => true
  | .declares .. => true
  | .castable .. => true
  | _ => false
/-- no object of the first is one of the second -/
def rNo : List (String × String) := [("java/lang/IllegalStateException", "java/lang/IllegalArgumentException"), ("java/lang/IllegalArgumentException", "java/lang/IndexOutOfBoundsException"), ("java/lang/IllegalStateException", "java/lang/IndexOutOfBoundsException")]
def rNw : List Cond := lw_tbl.filter rNs
theorem rWd_in {w : Cond} (i : Nat) (h : tables_1[i]? = some w) (hg : goodWord w = true) : w ∈ rWd := List.mem_filter.mpr ⟨List.mem_append_right _ (List.mem_of_getElem? h), hg⟩
theorem rNw_in {w : Cond} (i : Nat) (h : tables_1[i]? = some w) (hg : rNs w = true) : w ∈ rNw := List.mem_filter.mpr ⟨List.mem_append_right _ (List.mem_of_getElem? h), hg⟩
theorem rWd_good {w : Cond} (h : w ∈ rWd) : goodWord w = true := (List.mem_filter.mp h).2
theorem rGood {ws : List Cond} (h : ∀ w ∈ ws, w ∈ rWd) : GoodIn rWd ws := fun w hw => ⟨h w hw, good_of_word (rWd_good (h w hw))⟩
/-- what holds of the machine all the while -/
def rC (G : rG) (a1 a2 : Nat) (U : State) : Prop := va_K (gD G) vwCl (rT G) U ∧ va_Z "Rackword" "GROUPS" "[I" (.ref a1) (rA G) U U.heap ∧ vx_Zq Bundle.tN "UNASSIGNED_STACK" Bundle.steD (rA G) U U.heap ∧ vx_Zq Bundle.tN "SUPPRESSED_SENTINEL" Bundle.listD (rA G) U U.heap ∧ (∀ q : Nat, U.heap.size ≤ q → rA G q) ∧ ¬ rA G a1 ∧ ¬ rA G a2 ∧ ((va_T .int a1 (g1 G).1 (fun j => .int ((g1 G).2 j)) (rA G) U U.heap ∧ va_T .int a2 (g2 G).1 (fun j => .int ((g2 G).2 j)) (rA G) U U.heap) ∧ ∀ q ∈ rNo, va_Nc q.1 q.2 U) ∧ ∀ w ∈ rNw, va_Nw w U
theorem rC_go {G : rG} {a1 a2 : Nat} {s U : State} {H : Heap} {locs : List Loc} (h : rC G a1 a2 s) (hU : U.heap = H) (hS : va_S (rA G) s.heap H locs) (hW : s.WarmedH U.vm) : rC G a1 a2 U := by
  obtain ⟨h1, h2, h3, h4, h5, h6, h7, ⟨h8, h8n⟩, h9⟩ := h
  have hq : ∀ a : Nat, a < s.heap.size → ¬ rA G a → H[a]? = s.heap[a]? := fun a h z => hS.2.1 a h z
  refine ⟨va_K.moved hW.alike h1, ?_, ?_, ?_, ?_, h6, h7, ?_, ?_⟩
  · rw [hU]; exact va_Z.moved hW.alike (va_Z.kept h2 hq)
  · rw [hU]; exact vx_Zq.moved hW.alike (vx_Zq.kept h3 hq)
  · rw [hU]; exact vx_Zq.moved hW.alike (vx_Zq.kept h4 hq)
  · rw [hU]; exact fun q hq => h5 q (Nat.le_trans hS.1 hq)
  · refine ⟨?_, fun q hq => va_Nc.moved hW.alike (h8n q hq)⟩
    rw [hU]
    exact ⟨va_T.moved hW.alike (va_T.kept h8.1 hq), va_T.moved hW.alike (va_T.kept h8.2 hq)⟩
  · intro w hw
    have hg := (List.mem_filter.mp hw).2
    have h := h9 w hw
    cases w with
    | fieldLinkNest a i b n d h0 => exact va_Nw.warmF hW h
    | methodLinkNest a i x h0 => exact va_Nw.warmM hW h
    | declares x => exact va_Nw.warmD hW h
    | castable C T => exact va_Nw.warmC hW h
    | _ => simp [rNs] at hg
theorem rC_call {G : rG} {a1 a2 : Nat} {U : State} {g : JFrame} {mk : MethodId} {a : Array Value} (h : rC G a1 a2 U) : rC G a1 a2 (U.calling g mk a) := by
  obtain ⟨h1, h2, h3, h4, h5, h6, h7, ⟨h8, h8n⟩, h9⟩ := h
  exact ⟨va_K.moved (u := U) (U := U.calling g mk a) (Vm.Alike.refl U.vm) h1, va_Z.moved (u := U) (U := U.calling g mk a) (Vm.Alike.refl U.vm) h2, vx_Zq.moved (u := U) (U := U.calling g mk a) (Vm.Alike.refl U.vm) h3, vx_Zq.moved (u := U) (U := U.calling g mk a) (Vm.Alike.refl U.vm) h4, h5, h6, h7, ⟨⟨va_T.moved (u := U) (U := U.calling g mk a) (Vm.Alike.refl U.vm) h8.1, va_T.moved (u := U) (U := U.calling g mk a) (Vm.Alike.refl U.vm) h8.2⟩, fun q hq => va_Nc.moved (u := U) (U := U.calling g mk a) (Vm.Alike.refl U.vm) (h8n q hq)⟩, fun w hw => by
    have hg := (List.mem_filter.mp hw).2
    have h := h9 w hw
    exact va_Nw.same (by cases w <;> first | rfl | (simp [rNs] at hg)) (u := U) (U := U.calling g mk a) rfl h⟩
/-- values: a reference is a cell's number -/
def tv (ad : Nat → Nat) (v : Value) : Value := match v with
  | .ref i => .ref (ad i)
  | v => v
def wv (n : Nat) (v : Value) : Prop := match v with
  | .ref i => 0 < i ∧ i < n
  | .retAddr _ => False
  | .float _ => False
  | .double _ => False
  | _ => True
theorem tv_cat (ad : Nat → Nat) (v : Value) : (tv ad v).category = v.category := by cases v <;> rfl
theorem tv_agree {ad ad' : Nat → Nat} {n : Nat} {v : Value} (h : ∀ i, i < n → ad' i = ad i) (hv : wv n v) : tv ad' v = tv ad v := by
  cases v with
  | ref i => exact congrArg Value.ref (h i hv.2)
  | _ => rfl
theorem wv_mono {n k : Nat} {v : Value} (h : n ≤ k) (hv : wv n v) : wv k v := by
  cases v with
  | ref i => exact ⟨hv.1, Nat.lt_of_lt_of_le hv.2 h⟩
  | _ => exact hv
def rLv (la : Array Slot) (nL : Nat) (ls : List (Option Value)) (ad : Nat → Nat) (n : Nat) : Prop := la.size = nL ∧ lv_wf la ∧ ∀ (i : Nat) (v : Value), ls[i]? = some (some v) → wv n v ∧ la[i]? = some (Slot.val (tv ad v))
def rSt (st : List Value) (n : Nat) : Prop := ∀ v ∈ st, wv n v
theorem rSt_c {st : List Value} {n : Nat} {v : Value} (h : wv n v) (hs : rSt st n) : rSt (v :: st) n := List.forall_mem_cons.mpr ⟨h, hs⟩
theorem rSt_t {st : List Value} {n : Nat} {v : Value} (hs : rSt (v :: st) n) : rSt st n := (List.forall_mem_cons.mp hs).2
theorem rSt_h {st : List Value} {n : Nat} {v : Value} (hs : rSt (v :: st) n) : wv n v := (List.forall_mem_cons.mp hs).1
theorem rSt_agree {ad ad' : Nat → Nat} {n : Nat} {st : List Value} (h : ∀ i, i < n → ad' i = ad i) (hs : rSt st n) : st.map (tv ad') = st.map (tv ad) := List.map_congr_left fun v hv => tv_agree h (hs v hv)
theorem rLv_agree {la : Array Slot} {nL n k : Nat} {ls : List (Option Value)} {ad ad' : Nat → Nat} (h : ∀ i, i < n → ad' i = ad i) (hk : n ≤ k) (hl : rLv la nL ls ad n) : rLv la nL ls ad' k :=
  ⟨hl.1, hl.2.1, fun i v hv => ⟨wv_mono hk (hl.2.2 i v hv).1, by rw [tv_agree h (hl.2.2 i v hv).1]; exact (hl.2.2 i v hv).2⟩⟩
/-- a method: its class, its bytes, how many places, its type of answer, whether it is a constructor, its table of handlers -/
abbrev rM : Type := String × ByteArray × Nat × Option FieldType × Bool × List ExceptionTableEntry
def rCx (M : rM) (k : Nat) (l : Launch) (p : Program) (R : Room) (s : State) (m : MethodId) (args : Array Value) (meth : Method) (c : Code) (G : rG) (a1 a2 : Nat) : Prop :=
  l.stackTraces = false ∧ p.tables.exec = Jvm.exec ∧ c.code = M.2.1 ∧ c.maxLocals = M.2.2.1 ∧ s.vm.findClass M.1 = some m.cls ∧ (∀ w ∈ rWd, w.before args s = true) ∧ meth.locks = false ∧ meth.sig.returnType = M.2.2.2.1 ∧ (M.2.2.2.2.1 = true → meth.name = "<init>") ∧ (M.2.2.2.2.2.length ≤ 90 → c.exceptionTable.toList = M.2.2.2.2.2) ∧ k ≤ R.frames ∧ 100 * k ≤ R.locals ∧ rC G a1 a2 s
def rQ (G : rG) (ad0 : Nat → Nat) (n0 : Nat) (o : Option Value ⊕ String) (τ : rS) : Array Value → State → Outcome → State → Prop := fun _ st oc t => ∃ (ad' : Nat → Nat) (v : Option Value), o = .inl v ∧ (∀ i, i < n0 → ad' i = ad0 i) ∧ oc = .returned (v.map (tv ad')) ∧ (∀ x, v = some x → wv (rN τ) x) ∧ rW G ad' τ t.heap ∧ va_F (rA G) st t ∧ n0 ≤ rN τ
def rX (G : rG) (ad0 : Nat → Nat) (n0 : Nat) (o : Option Value ⊕ String) (τ : rS) : String → State → State → Prop := fun E st t => o = .inr E ∧ ∃ ad' : Nat → Nat, (∀ i, i < n0 → ad' i = ad0 i) ∧ rW G ad' τ t.heap ∧ va_F (rA G) st t ∧ n0 ≤ rN τ
/-- from this point of a method, its frame's places ls, its stack st, the world σ, with kc cells and ks slots to spend, the method comes to its end with o, and the world is τ -/
def rE (M : rM) (k pc : Nat) (ls : List (Option Value)) (st : List Value) (σ : rS) (kc ks : Nat) (o : Option Value ⊕ String) (τ : rS) : Prop :=
  ∀ (l : Launch) (p : Program) (e : Env) (R : Room) (s : State) (m : MethodId) (args : Array Value) (below : List Frame) (meth : Method) (c : Code) (G : rG) (ad0 : Nat → Nat) (n0 : Nat) (ad : Nat → Nat) (H : Heap) (locs : List Loc) (cells slots : Nat) (la : Array Slot),
    rCx M k l p R s m args meth c G (ad0 1) (ad0 2) → 3 ≤ n0 → n0 ≤ rN σ → (∀ i, i < n0 → ad i = ad0 i) → cells + kc ≤ R.cells → slots + ks ≤ R.slots → rW G ad σ H → va_S (rA G) s.heap H locs → rLv la M.2.2.1 ls ad (rN σ) → rSt st (rN σ) →
    W p l e R s m args below meth c H locs cells slots (vx_MQ below (rQ G ad0 n0 o τ) (rX G ad0 n0 o τ) args s R.cells R.slots (rA G)) (F0 m pc la (st.map (tv ad)))

theorem E_iconst {M : rM} {k pc : Nat} {ls : List (Option Value)} {st : List Value} {σ τ : rS} {kc ks : Nat} {o : Option Value ⊕ String} {n : Int} {v : Int32} (d : decode M.2.1 pc = .ok (.iconst n, 1)) (hv : Int32.ofInt n = v) (kk : rE M k (pc + 1) ls (.int v :: st) σ kc ks o τ) : rE M k pc ls (st) σ kc ks o τ := by
  intro l p e R s m args below meth c G ad0 n0 ad H locs cells slots la C h3 hn ha hc hs hW hS hl hw
  refine lv_iconst C.2.1 C.2.2.1 d hv ?_
  exact kk l p e R s m args below meth c G ad0 n0 ad H locs cells slots la C h3 hn ha hc hs hW hS hl (rSt_c trivial (hw))

theorem E_bipush {M : rM} {k pc : Nat} {ls : List (Option Value)} {st : List Value} {σ τ : rS} {kc ks : Nat} {o : Option Value ⊕ String} {n : Int} {v : Int32} (d : decode M.2.1 pc = .ok (.bipush n, 2)) (hv : (Int8.ofInt n).toInt32 = v) (kk : rE M k (pc + 2) ls (.int v :: st) σ kc ks o τ) : rE M k pc ls (st) σ kc ks o τ := by
  intro l p e R s m args below meth c G ad0 n0 ad H locs cells slots la C h3 hn ha hc hs hW hS hl hw
  refine lv_bipush C.2.1 C.2.2.1 d hv ?_
  exact kk l p e R s m args below meth c G ad0 n0 ad H locs cells slots la C h3 hn ha hc hs hW hS hl (rSt_c trivial (hw))

theorem E_sipush {M : rM} {k pc : Nat} {ls : List (Option Value)} {st : List Value} {σ τ : rS} {kc ks : Nat} {o : Option Value ⊕ String} {n : Int} {v : Int32} (d : decode M.2.1 pc = .ok (.sipush n, 3)) (hv : (Int16.ofInt n).toInt32 = v) (kk : rE M k (pc + 3) ls (.int v :: st) σ kc ks o τ) : rE M k pc ls (st) σ kc ks o τ := by
  intro l p e R s m args below meth c G ad0 n0 ad H locs cells slots la C h3 hn ha hc hs hW hS hl hw
  refine lv_sipush C.2.1 C.2.2.1 d hv ?_
  exact kk l p e R s m args below meth c G ad0 n0 ad H locs cells slots la C h3 hn ha hc hs hW hS hl (rSt_c trivial (hw))

theorem E_lconst {M : rM} {k pc : Nat} {ls : List (Option Value)} {st : List Value} {σ τ : rS} {kc ks : Nat} {o : Option Value ⊕ String} {n : Fin 2} {v : Int64} (d : decode M.2.1 pc = .ok (.lconst n, 1)) (hv : Int64.ofNat (n : Nat) = v) (kk : rE M k (pc + 1) ls (.long v :: st) σ kc ks o τ) : rE M k pc ls (st) σ kc ks o τ := by
  intro l p e R s m args below meth c G ad0 n0 ad H locs cells slots la C h3 hn ha hc hs hW hS hl hw
  refine lv_lconst C.2.1 C.2.2.1 d hv ?_
  exact kk l p e R s m args below meth c G ad0 n0 ad H locs cells slots la C h3 hn ha hc hs hW hS hl (rSt_c trivial (hw))

theorem E_iload_n {M : rM} {k pc : Nat} {ls : List (Option Value)} {st : List Value} {σ τ : rS} {kc ks : Nat} {o : Option Value ⊕ String} {j : Fin 4} {x : Int32} (d : decode M.2.1 pc = .ok (.iload_n j, 1)) (hj : ls[(j : Nat)]? = some (some (.int x))) (kk : rE M k (pc + 1) ls (.int x :: st) σ kc ks o τ) : rE M k pc ls st σ kc ks o τ := by
  intro l p e R s m args below meth c G ad0 n0 ad H locs cells slots la C h3 hn ha hc hs hW hS hl hw
  refine lv_iload_n C.2.1 C.2.2.1 d rfl (hl.2.2 _ _ hj).2 ?_
  exact kk l p e R s m args below meth c G ad0 n0 ad H locs cells slots la C h3 hn ha hc hs hW hS hl (rSt_c (hl.2.2 _ _ hj).1 hw)

theorem E_iload {M : rM} {k pc : Nat} {ls : List (Option Value)} {st : List Value} {σ τ : rS} {kc ks : Nat} {o : Option Value ⊕ String} {j : Nat} {x : Int32} (d : decode M.2.1 pc = .ok (.iload j, 2)) (hj : ls[j]? = some (some (.int x))) (kk : rE M k (pc + 2) ls (.int x :: st) σ kc ks o τ) : rE M k pc ls st σ kc ks o τ := by
  intro l p e R s m args below meth c G ad0 n0 ad H locs cells slots la C h3 hn ha hc hs hW hS hl hw
  refine lv_iload C.2.1 C.2.2.1 d (hl.2.2 _ _ hj).2 ?_
  exact kk l p e R s m args below meth c G ad0 n0 ad H locs cells slots la C h3 hn ha hc hs hW hS hl (rSt_c (hl.2.2 _ _ hj).1 hw)

theorem E_lload_n {M : rM} {k pc : Nat} {ls : List (Option Value)} {st : List Value} {σ τ : rS} {kc ks : Nat} {o : Option Value ⊕ String} {j : Fin 4} {x : Int64} (d : decode M.2.1 pc = .ok (.lload_n j, 1)) (hj : ls[(j : Nat)]? = some (some (.long x))) (kk : rE M k (pc + 1) ls (.long x :: st) σ kc ks o τ) : rE M k pc ls st σ kc ks o τ := by
  intro l p e R s m args below meth c G ad0 n0 ad H locs cells slots la C h3 hn ha hc hs hW hS hl hw
  refine lv_lload_n C.2.1 C.2.2.1 d rfl (hl.2.2 _ _ hj).2 ?_
  exact kk l p e R s m args below meth c G ad0 n0 ad H locs cells slots la C h3 hn ha hc hs hW hS hl (rSt_c (hl.2.2 _ _ hj).1 hw)

theorem E_lload {M : rM} {k pc : Nat} {ls : List (Option Value)} {st : List Value} {σ τ : rS} {kc ks : Nat} {o : Option Value ⊕ String} {j : Nat} {x : Int64} (d : decode M.2.1 pc = .ok (.lload j, 2)) (hj : ls[j]? = some (some (.long x))) (kk : rE M k (pc + 2) ls (.long x :: st) σ kc ks o τ) : rE M k pc ls st σ kc ks o τ := by
  intro l p e R s m args below meth c G ad0 n0 ad H locs cells slots la C h3 hn ha hc hs hW hS hl hw
  refine lv_lload C.2.1 C.2.2.1 d (hl.2.2 _ _ hj).2 ?_
  exact kk l p e R s m args below meth c G ad0 n0 ad H locs cells slots la C h3 hn ha hc hs hW hS hl (rSt_c (hl.2.2 _ _ hj).1 hw)

theorem E_aload_n {M : rM} {k pc : Nat} {ls : List (Option Value)} {st : List Value} {σ τ : rS} {kc ks : Nat} {o : Option Value ⊕ String} {j : Fin 4} {x : Nat} (d : decode M.2.1 pc = .ok (.aload_n j, 1)) (hj : ls[(j : Nat)]? = some (some (.ref x))) (kk : rE M k (pc + 1) ls (.ref x :: st) σ kc ks o τ) : rE M k pc ls st σ kc ks o τ := by
  intro l p e R s m args below meth c G ad0 n0 ad H locs cells slots la C h3 hn ha hc hs hW hS hl hw
  refine lv_aload_n C.2.1 C.2.2.1 d rfl (hl.2.2 _ _ hj).2 ?_
  exact kk l p e R s m args below meth c G ad0 n0 ad H locs cells slots la C h3 hn ha hc hs hW hS hl (rSt_c (hl.2.2 _ _ hj).1 hw)

theorem E_aload {M : rM} {k pc : Nat} {ls : List (Option Value)} {st : List Value} {σ τ : rS} {kc ks : Nat} {o : Option Value ⊕ String} {j : Nat} {x : Nat} (d : decode M.2.1 pc = .ok (.aload j, 2)) (hj : ls[j]? = some (some (.ref x))) (kk : rE M k (pc + 2) ls (.ref x :: st) σ kc ks o τ) : rE M k pc ls st σ kc ks o τ := by
  intro l p e R s m args below meth c G ad0 n0 ad H locs cells slots la C h3 hn ha hc hs hW hS hl hw
  refine lv_aload C.2.1 C.2.2.1 d (hl.2.2 _ _ hj).2 ?_
  exact kk l p e R s m args below meth c G ad0 n0 ad H locs cells slots la C h3 hn ha hc hs hW hS hl (rSt_c (hl.2.2 _ _ hj).1 hw)

theorem E_iadd {M : rM} {k pc : Nat} {ls : List (Option Value)} {st : List Value} {σ τ : rS} {kc ks : Nat} {o : Option Value ⊕ String} {x y : Int32} (d : decode M.2.1 pc = .ok (.iadd, 1)) (kk : rE M k (pc + 1) ls (.int (x + y) :: st) σ kc ks o τ) : rE M k pc ls (.int y :: .int x :: st) σ kc ks o τ := by
  intro l p e R s m args below meth c G ad0 n0 ad H locs cells slots la C h3 hn ha hc hs hW hS hl hw
  refine lv_iadd C.2.1 C.2.2.1 d ?_
  exact kk l p e R s m args below meth c G ad0 n0 ad H locs cells slots la C h3 hn ha hc hs hW hS hl (rSt_c trivial (rSt_t (rSt_t (hw))))

theorem E_isub {M : rM} {k pc : Nat} {ls : List (Option Value)} {st : List Value} {σ τ : rS} {kc ks : Nat} {o : Option Value ⊕ String} {x y : Int32} (d : decode M.2.1 pc = .ok (.isub, 1)) (kk : rE M k (pc + 1) ls (.int (x - y) :: st) σ kc ks o τ) : rE M k pc ls (.int y :: .int x :: st) σ kc ks o τ := by
  intro l p e R s m args below meth c G ad0 n0 ad H locs cells slots la C h3 hn ha hc hs hW hS hl hw
  refine lv_isub C.2.1 C.2.2.1 d ?_
  exact kk l p e R s m args below meth c G ad0 n0 ad H locs cells slots la C h3 hn ha hc hs hW hS hl (rSt_c trivial (rSt_t (rSt_t (hw))))

theorem E_imul {M : rM} {k pc : Nat} {ls : List (Option Value)} {st : List Value} {σ τ : rS} {kc ks : Nat} {o : Option Value ⊕ String} {x y : Int32} (d : decode M.2.1 pc = .ok (.imul, 1)) (kk : rE M k (pc + 1) ls (.int (x * y) :: st) σ kc ks o τ) : rE M k pc ls (.int y :: .int x :: st) σ kc ks o τ := by
  intro l p e R s m args below meth c G ad0 n0 ad H locs cells slots la C h3 hn ha hc hs hW hS hl hw
  refine lv_imul C.2.1 C.2.2.1 d ?_
  exact kk l p e R s m args below meth c G ad0 n0 ad H locs cells slots la C h3 hn ha hc hs hW hS hl (rSt_c trivial (rSt_t (rSt_t (hw))))

theorem E_iand {M : rM} {k pc : Nat} {ls : List (Option Value)} {st : List Value} {σ τ : rS} {kc ks : Nat} {o : Option Value ⊕ String} {x y : Int32} (d : decode M.2.1 pc = .ok (.iand, 1)) (kk : rE M k (pc + 1) ls (.int (x &&& y) :: st) σ kc ks o τ) : rE M k pc ls (.int y :: .int x :: st) σ kc ks o τ := by
  intro l p e R s m args below meth c G ad0 n0 ad H locs cells slots la C h3 hn ha hc hs hW hS hl hw
  refine lv_iand C.2.1 C.2.2.1 d ?_
  exact kk l p e R s m args below meth c G ad0 n0 ad H locs cells slots la C h3 hn ha hc hs hW hS hl (rSt_c trivial (rSt_t (rSt_t (hw))))

theorem E_ior {M : rM} {k pc : Nat} {ls : List (Option Value)} {st : List Value} {σ τ : rS} {kc ks : Nat} {o : Option Value ⊕ String} {x y : Int32} (d : decode M.2.1 pc = .ok (.ior, 1)) (kk : rE M k (pc + 1) ls (.int (x ||| y) :: st) σ kc ks o τ) : rE M k pc ls (.int y :: .int x :: st) σ kc ks o τ := by
  intro l p e R s m args below meth c G ad0 n0 ad H locs cells slots la C h3 hn ha hc hs hW hS hl hw
  refine lv_ior C.2.1 C.2.2.1 d ?_
  exact kk l p e R s m args below meth c G ad0 n0 ad H locs cells slots la C h3 hn ha hc hs hW hS hl (rSt_c trivial (rSt_t (rSt_t (hw))))

theorem E_ixor {M : rM} {k pc : Nat} {ls : List (Option Value)} {st : List Value} {σ τ : rS} {kc ks : Nat} {o : Option Value ⊕ String} {x y : Int32} (d : decode M.2.1 pc = .ok (.ixor, 1)) (kk : rE M k (pc + 1) ls (.int (x ^^^ y) :: st) σ kc ks o τ) : rE M k pc ls (.int y :: .int x :: st) σ kc ks o τ := by
  intro l p e R s m args below meth c G ad0 n0 ad H locs cells slots la C h3 hn ha hc hs hW hS hl hw
  refine lv_ixor C.2.1 C.2.2.1 d ?_
  exact kk l p e R s m args below meth c G ad0 n0 ad H locs cells slots la C h3 hn ha hc hs hW hS hl (rSt_c trivial (rSt_t (rSt_t (hw))))

theorem E_ladd {M : rM} {k pc : Nat} {ls : List (Option Value)} {st : List Value} {σ τ : rS} {kc ks : Nat} {o : Option Value ⊕ String} {x y : Int64} (d : decode M.2.1 pc = .ok (.ladd, 1)) (kk : rE M k (pc + 1) ls (.long (x + y) :: st) σ kc ks o τ) : rE M k pc ls (.long y :: .long x :: st) σ kc ks o τ := by
  intro l p e R s m args below meth c G ad0 n0 ad H locs cells slots la C h3 hn ha hc hs hW hS hl hw
  refine lv_ladd C.2.1 C.2.2.1 d ?_
  exact kk l p e R s m args below meth c G ad0 n0 ad H locs cells slots la C h3 hn ha hc hs hW hS hl (rSt_c trivial (rSt_t (rSt_t (hw))))

theorem E_lsub {M : rM} {k pc : Nat} {ls : List (Option Value)} {st : List Value} {σ τ : rS} {kc ks : Nat} {o : Option Value ⊕ String} {x y : Int64} (d : decode M.2.1 pc = .ok (.lsub, 1)) (kk : rE M k (pc + 1) ls (.long (x - y) :: st) σ kc ks o τ) : rE M k pc ls (.long y :: .long x :: st) σ kc ks o τ := by
  intro l p e R s m args below meth c G ad0 n0 ad H locs cells slots la C h3 hn ha hc hs hW hS hl hw
  refine lv_lsub C.2.1 C.2.2.1 d ?_
  exact kk l p e R s m args below meth c G ad0 n0 ad H locs cells slots la C h3 hn ha hc hs hW hS hl (rSt_c trivial (rSt_t (rSt_t (hw))))

theorem E_lmul {M : rM} {k pc : Nat} {ls : List (Option Value)} {st : List Value} {σ τ : rS} {kc ks : Nat} {o : Option Value ⊕ String} {x y : Int64} (d : decode M.2.1 pc = .ok (.lmul, 1)) (kk : rE M k (pc + 1) ls (.long (x * y) :: st) σ kc ks o τ) : rE M k pc ls (.long y :: .long x :: st) σ kc ks o τ := by
  intro l p e R s m args below meth c G ad0 n0 ad H locs cells slots la C h3 hn ha hc hs hW hS hl hw
  refine lv_lmul C.2.1 C.2.2.1 d ?_
  exact kk l p e R s m args below meth c G ad0 n0 ad H locs cells slots la C h3 hn ha hc hs hW hS hl (rSt_c trivial (rSt_t (rSt_t (hw))))

theorem E_land {M : rM} {k pc : Nat} {ls : List (Option Value)} {st : List Value} {σ τ : rS} {kc ks : Nat} {o : Option Value ⊕ String} {x y : Int64} (d : decode M.2.1 pc = .ok (.land, 1)) (kk : rE M k (pc + 1) ls (.long (x &&& y) :: st) σ kc ks o τ) : rE M k pc ls (.long y :: .long x :: st) σ kc ks o τ := by
  intro l p e R s m args below meth c G ad0 n0 ad H locs cells slots la C h3 hn ha hc hs hW hS hl hw
  refine lv_land C.2.1 C.2.2.1 d ?_
  exact kk l p e R s m args below meth c G ad0 n0 ad H locs cells slots la C h3 hn ha hc hs hW hS hl (rSt_c trivial (rSt_t (rSt_t (hw))))

theorem E_lor {M : rM} {k pc : Nat} {ls : List (Option Value)} {st : List Value} {σ τ : rS} {kc ks : Nat} {o : Option Value ⊕ String} {x y : Int64} (d : decode M.2.1 pc = .ok (.lor, 1)) (kk : rE M k (pc + 1) ls (.long (x ||| y) :: st) σ kc ks o τ) : rE M k pc ls (.long y :: .long x :: st) σ kc ks o τ := by
  intro l p e R s m args below meth c G ad0 n0 ad H locs cells slots la C h3 hn ha hc hs hW hS hl hw
  refine lv_lor C.2.1 C.2.2.1 d ?_
  exact kk l p e R s m args below meth c G ad0 n0 ad H locs cells slots la C h3 hn ha hc hs hW hS hl (rSt_c trivial (rSt_t (rSt_t (hw))))

theorem E_lxor {M : rM} {k pc : Nat} {ls : List (Option Value)} {st : List Value} {σ τ : rS} {kc ks : Nat} {o : Option Value ⊕ String} {x y : Int64} (d : decode M.2.1 pc = .ok (.lxor, 1)) (kk : rE M k (pc + 1) ls (.long (x ^^^ y) :: st) σ kc ks o τ) : rE M k pc ls (.long y :: .long x :: st) σ kc ks o τ := by
  intro l p e R s m args below meth c G ad0 n0 ad H locs cells slots la C h3 hn ha hc hs hW hS hl hw
  refine lv_lxor C.2.1 C.2.2.1 d ?_
  exact kk l p e R s m args below meth c G ad0 n0 ad H locs cells slots la C h3 hn ha hc hs hW hS hl (rSt_c trivial (rSt_t (rSt_t (hw))))

theorem E_idiv {M : rM} {k pc : Nat} {ls : List (Option Value)} {st : List Value} {σ τ : rS} {kc ks : Nat} {o : Option Value ⊕ String} {x y : Int32} (d : decode M.2.1 pc = .ok (.idiv, 1)) (h0 : ¬ y = 0) (kk : rE M k (pc + 1) ls (.int (x / y) :: st) σ kc ks o τ) : rE M k pc ls (.int y :: .int x :: st) σ kc ks o τ := by
  intro l p e R s m args below meth c G ad0 n0 ad H locs cells slots la C h3 hn ha hc hs hW hS hl hw
  refine lv_idiv C.2.1 C.2.2.1 d h0 ?_
  exact kk l p e R s m args below meth c G ad0 n0 ad H locs cells slots la C h3 hn ha hc hs hW hS hl (rSt_c trivial (rSt_t (rSt_t (hw))))

theorem E_irem {M : rM} {k pc : Nat} {ls : List (Option Value)} {st : List Value} {σ τ : rS} {kc ks : Nat} {o : Option Value ⊕ String} {x y : Int32} (d : decode M.2.1 pc = .ok (.irem, 1)) (h0 : ¬ y = 0) (kk : rE M k (pc + 1) ls (.int (x - x / y * y) :: st) σ kc ks o τ) : rE M k pc ls (.int y :: .int x :: st) σ kc ks o τ := by
  intro l p e R s m args below meth c G ad0 n0 ad H locs cells slots la C h3 hn ha hc hs hW hS hl hw
  refine lv_irem C.2.1 C.2.2.1 d h0 ?_
  exact kk l p e R s m args below meth c G ad0 n0 ad H locs cells slots la C h3 hn ha hc hs hW hS hl (rSt_c trivial (rSt_t (rSt_t (hw))))

theorem E_ldiv {M : rM} {k pc : Nat} {ls : List (Option Value)} {st : List Value} {σ τ : rS} {kc ks : Nat} {o : Option Value ⊕ String} {x y : Int64} (d : decode M.2.1 pc = .ok (.ldiv, 1)) (h0 : ¬ y = 0) (kk : rE M k (pc + 1) ls (.long (x / y) :: st) σ kc ks o τ) : rE M k pc ls (.long y :: .long x :: st) σ kc ks o τ := by
  intro l p e R s m args below meth c G ad0 n0 ad H locs cells slots la C h3 hn ha hc hs hW hS hl hw
  refine lv_ldiv C.2.1 C.2.2.1 d h0 ?_
  exact kk l p e R s m args below meth c G ad0 n0 ad H locs cells slots la C h3 hn ha hc hs hW hS hl (rSt_c trivial (rSt_t (rSt_t (hw))))

theorem E_lrem {M : rM} {k pc : Nat} {ls : List (Option Value)} {st : List Value} {σ τ : rS} {kc ks : Nat} {o : Option Value ⊕ String} {x y : Int64} (d : decode M.2.1 pc = .ok (.lrem, 1)) (h0 : ¬ y = 0) (kk : rE M k (pc + 1) ls (.long (x - x / y * y) :: st) σ kc ks o τ) : rE M k pc ls (.long y :: .long x :: st) σ kc ks o τ := by
  intro l p e R s m args below meth c G ad0 n0 ad H locs cells slots la C h3 hn ha hc hs hW hS hl hw
  refine lv_lrem C.2.1 C.2.2.1 d h0 ?_
  exact kk l p e R s m args below meth c G ad0 n0 ad H locs cells slots la C h3 hn ha hc hs hW hS hl (rSt_c trivial (rSt_t (rSt_t (hw))))

theorem E_ineg {M : rM} {k pc : Nat} {ls : List (Option Value)} {st : List Value} {σ τ : rS} {kc ks : Nat} {o : Option Value ⊕ String} {x : Int32} (d : decode M.2.1 pc = .ok (.ineg, 1)) (kk : rE M k (pc + 1) ls (.int (-x) :: st) σ kc ks o τ) : rE M k pc ls (.int x :: st) σ kc ks o τ := by
  intro l p e R s m args below meth c G ad0 n0 ad H locs cells slots la C h3 hn ha hc hs hW hS hl hw
  refine lv_ineg C.2.1 C.2.2.1 d ?_
  exact kk l p e R s m args below meth c G ad0 n0 ad H locs cells slots la C h3 hn ha hc hs hW hS hl (rSt_c trivial (rSt_t (hw)))

theorem E_ishl {M : rM} {k pc : Nat} {ls : List (Option Value)} {st : List Value} {σ τ : rS} {kc ks : Nat} {o : Option Value ⊕ String} {x y : Int32} (d : decode M.2.1 pc = .ok (.ishl, 1)) (kk : rE M k (pc + 1) ls (.int (x <<< (y &&& 31)) :: st) σ kc ks o τ) : rE M k pc ls (.int y :: .int x :: st) σ kc ks o τ := by
  intro l p e R s m args below meth c G ad0 n0 ad H locs cells slots la C h3 hn ha hc hs hW hS hl hw
  refine lv_ishl C.2.1 C.2.2.1 d ?_
  exact kk l p e R s m args below meth c G ad0 n0 ad H locs cells slots la C h3 hn ha hc hs hW hS hl (rSt_c trivial (rSt_t (rSt_t (hw))))

theorem E_ishr {M : rM} {k pc : Nat} {ls : List (Option Value)} {st : List Value} {σ τ : rS} {kc ks : Nat} {o : Option Value ⊕ String} {x y : Int32} (d : decode M.2.1 pc = .ok (.ishr, 1)) (kk : rE M k (pc + 1) ls (.int (x >>> (y &&& 31)) :: st) σ kc ks o τ) : rE M k pc ls (.int y :: .int x :: st) σ kc ks o τ := by
  intro l p e R s m args below meth c G ad0 n0 ad H locs cells slots la C h3 hn ha hc hs hW hS hl hw
  refine lv_ishr C.2.1 C.2.2.1 d ?_
  exact kk l p e R s m args below meth c G ad0 n0 ad H locs cells slots la C h3 hn ha hc hs hW hS hl (rSt_c trivial (rSt_t (rSt_t (hw))))

theorem E_i2l {M : rM} {k pc : Nat} {ls : List (Option Value)} {st : List Value} {σ τ : rS} {kc ks : Nat} {o : Option Value ⊕ String} {x : Int32} (d : decode M.2.1 pc = .ok (.i2l, 1)) (kk : rE M k (pc + 1) ls (.long x.toInt64 :: st) σ kc ks o τ) : rE M k pc ls (.int x :: st) σ kc ks o τ := by
  intro l p e R s m args below meth c G ad0 n0 ad H locs cells slots la C h3 hn ha hc hs hW hS hl hw
  refine lv_i2l C.2.1 C.2.2.1 d rfl ?_
  exact kk l p e R s m args below meth c G ad0 n0 ad H locs cells slots la C h3 hn ha hc hs hW hS hl (rSt_c trivial (rSt_t (hw)))

theorem E_l2i {M : rM} {k pc : Nat} {ls : List (Option Value)} {st : List Value} {σ τ : rS} {kc ks : Nat} {o : Option Value ⊕ String} {x : Int64} (d : decode M.2.1 pc = .ok (.l2i, 1)) (kk : rE M k (pc + 1) ls (.int x.toInt32 :: st) σ kc ks o τ) : rE M k pc ls (.long x :: st) σ kc ks o τ := by
  intro l p e R s m args below meth c G ad0 n0 ad H locs cells slots la C h3 hn ha hc hs hW hS hl hw
  refine lv_l2i C.2.1 C.2.2.1 d rfl ?_
  exact kk l p e R s m args below meth c G ad0 n0 ad H locs cells slots la C h3 hn ha hc hs hW hS hl (rSt_c trivial (rSt_t (hw)))

theorem E_i2c {M : rM} {k pc : Nat} {ls : List (Option Value)} {st : List Value} {σ τ : rS} {kc ks : Nat} {o : Option Value ⊕ String} {x : Int32} (d : decode M.2.1 pc = .ok (.i2c, 1)) (kk : rE M k (pc + 1) ls (.int (x.toUInt32 % 65536).toInt32 :: st) σ kc ks o τ) : rE M k pc ls (.int x :: st) σ kc ks o τ := by
  intro l p e R s m args below meth c G ad0 n0 ad H locs cells slots la C h3 hn ha hc hs hW hS hl hw
  refine lv_i2c C.2.1 C.2.2.1 d rfl ?_
  exact kk l p e R s m args below meth c G ad0 n0 ad H locs cells slots la C h3 hn ha hc hs hW hS hl (rSt_c trivial (rSt_t (hw)))

theorem E_lushr {M : rM} {k pc : Nat} {ls : List (Option Value)} {st : List Value} {σ τ : rS} {kc ks : Nat} {o : Option Value ⊕ String} {x : Int64} {y : Int32} (d : decode M.2.1 pc = .ok (.lushr, 1)) (kk : rE M k (pc + 1) ls (.long (x.toUInt64 >>> (y.toInt64.toUInt64 &&& Int64.toUInt64 63)).toInt64 :: st) σ kc ks o τ) : rE M k pc ls (.int y :: .long x :: st) σ kc ks o τ := by
  intro l p e R s m args below meth c G ad0 n0 ad H locs cells slots la C h3 hn ha hc hs hW hS hl hw
  refine lv_lushr C.2.1 C.2.2.1 d rfl ?_
  exact kk l p e R s m args below meth c G ad0 n0 ad H locs cells slots la C h3 hn ha hc hs hW hS hl (rSt_c trivial (rSt_t (rSt_t (hw))))

theorem E_lshl {M : rM} {k pc : Nat} {ls : List (Option Value)} {st : List Value} {σ τ : rS} {kc ks : Nat} {o : Option Value ⊕ String} {x : Int64} {y : Int32} (d : decode M.2.1 pc = .ok (.lshl, 1)) (kk : rE M k (pc + 1) ls (.long (x <<< (y.toInt64 &&& 63)) :: st) σ kc ks o τ) : rE M k pc ls (.int y :: .long x :: st) σ kc ks o τ := by
  intro l p e R s m args below meth c G ad0 n0 ad H locs cells slots la C h3 hn ha hc hs hW hS hl hw
  refine lv_lshl C.2.1 C.2.2.1 d rfl ?_
  exact kk l p e R s m args below meth c G ad0 n0 ad H locs cells slots la C h3 hn ha hc hs hW hS hl (rSt_c trivial (rSt_t (rSt_t (hw))))

theorem E_lshr {M : rM} {k pc : Nat} {ls : List (Option Value)} {st : List Value} {σ τ : rS} {kc ks : Nat} {o : Option Value ⊕ String} {x : Int64} {y : Int32} (d : decode M.2.1 pc = .ok (.lshr, 1)) (kk : rE M k (pc + 1) ls (.long (x >>> (y.toInt64 &&& 63)) :: st) σ kc ks o τ) : rE M k pc ls (.int y :: .long x :: st) σ kc ks o τ := by
  intro l p e R s m args below meth c G ad0 n0 ad H locs cells slots la C h3 hn ha hc hs hW hS hl hw
  refine lv_lshr C.2.1 C.2.2.1 d rfl ?_
  exact kk l p e R s m args below meth c G ad0 n0 ad H locs cells slots la C h3 hn ha hc hs hW hS hl (rSt_c trivial (rSt_t (rSt_t (hw))))

theorem E_dup {M : rM} {k pc : Nat} {ls : List (Option Value)} {st : List Value} {σ τ : rS} {kc ks : Nat} {o : Option Value ⊕ String} {v : Value} (d : decode M.2.1 pc = .ok (.dup, 1)) (hc1 : v.category = 1) (kk : rE M k (pc + 1) ls (v :: v :: st) σ kc ks o τ) : rE M k pc ls (v :: st) σ kc ks o τ := by
  intro l p e R s m args below meth c G ad0 n0 ad H locs cells slots la C h3 hn ha hc hs hW hS hl hw
  refine lv_dup C.2.1 C.2.2.1 d ((tv_cat _ _).trans hc1) ?_
  exact kk l p e R s m args below meth c G ad0 n0 ad H locs cells slots la C h3 hn ha hc hs hW hS hl (rSt_c (rSt_h hw) (hw))

theorem E_pop {M : rM} {k pc : Nat} {ls : List (Option Value)} {st : List Value} {σ τ : rS} {kc ks : Nat} {o : Option Value ⊕ String} {v : Value} (d : decode M.2.1 pc = .ok (.pop, 1)) (hc1 : v.category = 1) (kk : rE M k (pc + 1) ls (st) σ kc ks o τ) : rE M k pc ls (v :: st) σ kc ks o τ := by
  intro l p e R s m args below meth c G ad0 n0 ad H locs cells slots la C h3 hn ha hc hs hW hS hl hw
  refine lv_pop C.2.1 C.2.2.1 d ((tv_cat _ _).trans hc1) ?_
  exact kk l p e R s m args below meth c G ad0 n0 ad H locs cells slots la C h3 hn ha hc hs hW hS hl (rSt_t (hw))

theorem E_dup2 {M : rM} {k pc : Nat} {ls : List (Option Value)} {st : List Value} {σ τ : rS} {kc ks : Nat} {o : Option Value ⊕ String} {v w : Value} (d : decode M.2.1 pc = .ok (.dup2, 1)) (hc1 : v.category = 1) (hc2 : w.category = 1) (kk : rE M k (pc + 1) ls (v :: w :: v :: w :: st) σ kc ks o τ) : rE M k pc ls (v :: w :: st) σ kc ks o τ := by
  intro l p e R s m args below meth c G ad0 n0 ad H locs cells slots la C h3 hn ha hc hs hW hS hl hw
  refine lv_dup2_11 C.2.1 C.2.2.1 d ((tv_cat _ _).trans hc1) ((tv_cat _ _).trans hc2) ?_
  exact kk l p e R s m args below meth c G ad0 n0 ad H locs cells slots la C h3 hn ha hc hs hW hS hl (rSt_c (rSt_h hw) (rSt_c (rSt_h (rSt_t hw)) hw))

theorem E_dup2l {M : rM} {k pc : Nat} {ls : List (Option Value)} {st : List Value} {σ τ : rS} {kc ks : Nat} {o : Option Value ⊕ String} {x : Int64} (d : decode M.2.1 pc = .ok (.dup2, 1)) (kk : rE M k (pc + 1) ls (.long x :: .long x :: st) σ kc ks o τ) : rE M k pc ls (.long x :: st) σ kc ks o τ := by
  intro l p e R s m args below meth c G ad0 n0 ad H locs cells slots la C h3 hn ha hc hs hW hS hl hw
  refine lv_dup2_2 C.2.1 C.2.2.1 d rfl ?_
  exact kk l p e R s m args below meth c G ad0 n0 ad H locs cells slots la C h3 hn ha hc hs hW hS hl (rSt_c trivial (hw))

theorem E_dup_x1 {M : rM} {k pc : Nat} {ls : List (Option Value)} {st : List Value} {σ τ : rS} {kc ks : Nat} {o : Option Value ⊕ String} {v w : Value} (d : decode M.2.1 pc = .ok (.dup_x1, 1)) (hc1 : v.category = 1) (hc2 : w.category = 1) (kk : rE M k (pc + 1) ls (v :: w :: v :: st) σ kc ks o τ) : rE M k pc ls (v :: w :: st) σ kc ks o τ := by
  intro l p e R s m args below meth c G ad0 n0 ad H locs cells slots la C h3 hn ha hc hs hW hS hl hw
  refine lv_dup_x1 C.2.1 C.2.2.1 d ((tv_cat _ _).trans hc1) ((tv_cat _ _).trans hc2) ?_
  exact kk l p e R s m args below meth c G ad0 n0 ad H locs cells slots la C h3 hn ha hc hs hW hS hl (rSt_c (rSt_h hw) (rSt_c (rSt_h (rSt_t hw)) (rSt_c (rSt_h hw) (rSt_t (rSt_t hw)))))

theorem E_dup_x2 {M : rM} {k pc : Nat} {ls : List (Option Value)} {st : List Value} {σ τ : rS} {kc ks : Nat} {o : Option Value ⊕ String} {v w z : Value} (d : decode M.2.1 pc = .ok (.dup_x2, 1)) (hc1 : v.category = 1) (hc2 : w.category = 1) (hc3 : z.category = 1) (kk : rE M k (pc + 1) ls (v :: w :: z :: v :: st) σ kc ks o τ) : rE M k pc ls (v :: w :: z :: st) σ kc ks o τ := by
  intro l p e R s m args below meth c G ad0 n0 ad H locs cells slots la C h3 hn ha hc hs hW hS hl hw
  refine lv_dup_x2 C.2.1 C.2.2.1 d ((tv_cat _ _).trans hc1) ((tv_cat _ _).trans hc2) ((tv_cat _ _).trans hc3) ?_
  exact kk l p e R s m args below meth c G ad0 n0 ad H locs cells slots la C h3 hn ha hc hs hW hS hl (rSt_c (rSt_h hw) (rSt_c (rSt_h (rSt_t hw)) (rSt_c (rSt_h (rSt_t (rSt_t hw))) (rSt_c (rSt_h hw) (rSt_t (rSt_t (rSt_t hw)))))))

theorem E_if_eq {M : rM} {k pc : Nat} {ls : List (Option Value)} {st : List Value} {σ τ : rS} {kc ks : Nat} {o : Option Value ⊕ String} {x : Int32} {off : Int} (tgt : Nat) (d : decode M.2.1 pc = .ok (.ifCond .eq off, 3)) (ht : (pc : Int) + off = (tgt : Int)) (kt : x = 0 → rE M k tgt ls st σ kc ks o τ) (kf : ¬ x = 0 → rE M k (pc + 3) ls st σ kc ks o τ) : rE M k pc ls (.int x :: st) σ kc ks o τ := by
  intro l p e R s m args below meth c G ad0 n0 ad H locs cells slots la C h3 hn ha hc hs hW hS hl hw
  exact lv_if_eq C.2.1 C.2.2.1 d ht (fun q => kt q l p e R s m args below meth c G ad0 n0 ad H locs cells slots la C h3 hn ha hc hs hW hS hl (rSt_t hw)) (fun q => kf q l p e R s m args below meth c G ad0 n0 ad H locs cells slots la C h3 hn ha hc hs hW hS hl (rSt_t hw))

theorem E_if_ne {M : rM} {k pc : Nat} {ls : List (Option Value)} {st : List Value} {σ τ : rS} {kc ks : Nat} {o : Option Value ⊕ String} {x : Int32} {off : Int} (tgt : Nat) (d : decode M.2.1 pc = .ok (.ifCond .ne off, 3)) (ht : (pc : Int) + off = (tgt : Int)) (kt : ¬ x = 0 → rE M k tgt ls st σ kc ks o τ) (kf : x = 0 → rE M k (pc + 3) ls st σ kc ks o τ) : rE M k pc ls (.int x :: st) σ kc ks o τ := by
  intro l p e R s m args below meth c G ad0 n0 ad H locs cells slots la C h3 hn ha hc hs hW hS hl hw
  exact lv_if_ne C.2.1 C.2.2.1 d ht (fun q => kt q l p e R s m args below meth c G ad0 n0 ad H locs cells slots la C h3 hn ha hc hs hW hS hl (rSt_t hw)) (fun q => kf q l p e R s m args below meth c G ad0 n0 ad H locs cells slots la C h3 hn ha hc hs hW hS hl (rSt_t hw))

theorem E_if_lt {M : rM} {k pc : Nat} {ls : List (Option Value)} {st : List Value} {σ τ : rS} {kc ks : Nat} {o : Option Value ⊕ String} {x : Int32} {off : Int} (tgt : Nat) (d : decode M.2.1 pc = .ok (.ifCond .lt off, 3)) (ht : (pc : Int) + off = (tgt : Int)) (kt : x < 0 → rE M k tgt ls st σ kc ks o τ) (kf : ¬ x < 0 → rE M k (pc + 3) ls st σ kc ks o τ) : rE M k pc ls (.int x :: st) σ kc ks o τ := by
  intro l p e R s m args below meth c G ad0 n0 ad H locs cells slots la C h3 hn ha hc hs hW hS hl hw
  exact lv_if_lt C.2.1 C.2.2.1 d ht (fun q => kt q l p e R s m args below meth c G ad0 n0 ad H locs cells slots la C h3 hn ha hc hs hW hS hl (rSt_t hw)) (fun q => kf q l p e R s m args below meth c G ad0 n0 ad H locs cells slots la C h3 hn ha hc hs hW hS hl (rSt_t hw))

theorem E_if_ge {M : rM} {k pc : Nat} {ls : List (Option Value)} {st : List Value} {σ τ : rS} {kc ks : Nat} {o : Option Value ⊕ String} {x : Int32} {off : Int} (tgt : Nat) (d : decode M.2.1 pc = .ok (.ifCond .ge off, 3)) (ht : (pc : Int) + off = (tgt : Int)) (kt : 0 ≤ x → rE M k tgt ls st σ kc ks o τ) (kf : ¬ 0 ≤ x → rE M k (pc + 3) ls st σ kc ks o τ) : rE M k pc ls (.int x :: st) σ kc ks o τ := by
  intro l p e R s m args below meth c G ad0 n0 ad H locs cells slots la C h3 hn ha hc hs hW hS hl hw
  exact lv_if_ge C.2.1 C.2.2.1 d ht (fun q => kt q l p e R s m args below meth c G ad0 n0 ad H locs cells slots la C h3 hn ha hc hs hW hS hl (rSt_t hw)) (fun q => kf q l p e R s m args below meth c G ad0 n0 ad H locs cells slots la C h3 hn ha hc hs hW hS hl (rSt_t hw))

theorem E_if_gt {M : rM} {k pc : Nat} {ls : List (Option Value)} {st : List Value} {σ τ : rS} {kc ks : Nat} {o : Option Value ⊕ String} {x : Int32} {off : Int} (tgt : Nat) (d : decode M.2.1 pc = .ok (.ifCond .gt off, 3)) (ht : (pc : Int) + off = (tgt : Int)) (kt : 0 < x → rE M k tgt ls st σ kc ks o τ) (kf : ¬ 0 < x → rE M k (pc + 3) ls st σ kc ks o τ) : rE M k pc ls (.int x :: st) σ kc ks o τ := by
  intro l p e R s m args below meth c G ad0 n0 ad H locs cells slots la C h3 hn ha hc hs hW hS hl hw
  exact lv_if_gt C.2.1 C.2.2.1 d ht (fun q => kt q l p e R s m args below meth c G ad0 n0 ad H locs cells slots la C h3 hn ha hc hs hW hS hl (rSt_t hw)) (fun q => kf q l p e R s m args below meth c G ad0 n0 ad H locs cells slots la C h3 hn ha hc hs hW hS hl (rSt_t hw))

theorem E_if_le {M : rM} {k pc : Nat} {ls : List (Option Value)} {st : List Value} {σ τ : rS} {kc ks : Nat} {o : Option Value ⊕ String} {x : Int32} {off : Int} (tgt : Nat) (d : decode M.2.1 pc = .ok (.ifCond .le off, 3)) (ht : (pc : Int) + off = (tgt : Int)) (kt : x ≤ 0 → rE M k tgt ls st σ kc ks o τ) (kf : ¬ x ≤ 0 → rE M k (pc + 3) ls st σ kc ks o τ) : rE M k pc ls (.int x :: st) σ kc ks o τ := by
  intro l p e R s m args below meth c G ad0 n0 ad H locs cells slots la C h3 hn ha hc hs hW hS hl hw
  exact lv_if_le C.2.1 C.2.2.1 d ht (fun q => kt q l p e R s m args below meth c G ad0 n0 ad H locs cells slots la C h3 hn ha hc hs hW hS hl (rSt_t hw)) (fun q => kf q l p e R s m args below meth c G ad0 n0 ad H locs cells slots la C h3 hn ha hc hs hW hS hl (rSt_t hw))

theorem E_icmp_eq {M : rM} {k pc : Nat} {ls : List (Option Value)} {st : List Value} {σ τ : rS} {kc ks : Nat} {o : Option Value ⊕ String} {x y : Int32} {off : Int} (tgt : Nat) (d : decode M.2.1 pc = .ok (.if_icmp .eq off, 3)) (ht : (pc : Int) + off = (tgt : Int)) (kt : x = y → rE M k tgt ls st σ kc ks o τ) (kf : ¬ x = y → rE M k (pc + 3) ls st σ kc ks o τ) : rE M k pc ls (.int y :: .int x :: st) σ kc ks o τ := by
  intro l p e R s m args below meth c G ad0 n0 ad H locs cells slots la C h3 hn ha hc hs hW hS hl hw
  exact lv_icmp_eq C.2.1 C.2.2.1 d ht (fun q => kt q l p e R s m args below meth c G ad0 n0 ad H locs cells slots la C h3 hn ha hc hs hW hS hl (rSt_t (rSt_t hw))) (fun q => kf q l p e R s m args below meth c G ad0 n0 ad H locs cells slots la C h3 hn ha hc hs hW hS hl (rSt_t (rSt_t hw)))

theorem E_icmp_ne {M : rM} {k pc : Nat} {ls : List (Option Value)} {st : List Value} {σ τ : rS} {kc ks : Nat} {o : Option Value ⊕ String} {x y : Int32} {off : Int} (tgt : Nat) (d : decode M.2.1 pc = .ok (.if_icmp .ne off, 3)) (ht : (pc : Int) + off = (tgt : Int)) (kt : ¬ x = y → rE M k tgt ls st σ kc ks o τ) (kf : x = y → rE M k (pc + 3) ls st σ kc ks o τ) : rE M k pc ls (.int y :: .int x :: st) σ kc ks o τ := by
  intro l p e R s m args below meth c G ad0 n0 ad H locs cells slots la C h3 hn ha hc hs hW hS hl hw
  exact lv_icmp_ne C.2.1 C.2.2.1 d ht (fun q => kt q l p e R s m args below meth c G ad0 n0 ad H locs cells slots la C h3 hn ha hc hs hW hS hl (rSt_t (rSt_t hw))) (fun q => kf q l p e R s m args below meth c G ad0 n0 ad H locs cells slots la C h3 hn ha hc hs hW hS hl (rSt_t (rSt_t hw)))

theorem E_icmp_lt {M : rM} {k pc : Nat} {ls : List (Option Value)} {st : List Value} {σ τ : rS} {kc ks : Nat} {o : Option Value ⊕ String} {x y : Int32} {off : Int} (tgt : Nat) (d : decode M.2.1 pc = .ok (.if_icmp .lt off, 3)) (ht : (pc : Int) + off = (tgt : Int)) (kt : x < y → rE M k tgt ls st σ kc ks o τ) (kf : ¬ x < y → rE M k (pc + 3) ls st σ kc ks o τ) : rE M k pc ls (.int y :: .int x :: st) σ kc ks o τ := by
  intro l p e R s m args below meth c G ad0 n0 ad H locs cells slots la C h3 hn ha hc hs hW hS hl hw
  exact lv_icmp_lt C.2.1 C.2.2.1 d ht (fun q => kt q l p e R s m args below meth c G ad0 n0 ad H locs cells slots la C h3 hn ha hc hs hW hS hl (rSt_t (rSt_t hw))) (fun q => kf q l p e R s m args below meth c G ad0 n0 ad H locs cells slots la C h3 hn ha hc hs hW hS hl (rSt_t (rSt_t hw)))

theorem E_icmp_ge {M : rM} {k pc : Nat} {ls : List (Option Value)} {st : List Value} {σ τ : rS} {kc ks : Nat} {o : Option Value ⊕ String} {x y : Int32} {off : Int} (tgt : Nat) (d : decode M.2.1 pc = .ok (.if_icmp .ge off, 3)) (ht : (pc : Int) + off = (tgt : Int)) (kt : y ≤ x → rE M k tgt ls st σ kc ks o τ) (kf : ¬ y ≤ x → rE M k (pc + 3) ls st σ kc ks o τ) : rE M k pc ls (.int y :: .int x :: st) σ kc ks o τ := by
  intro l p e R s m args below meth c G ad0 n0 ad H locs cells slots la C h3 hn ha hc hs hW hS hl hw
  exact lv_icmp_ge C.2.1 C.2.2.1 d ht (fun q => kt q l p e R s m args below meth c G ad0 n0 ad H locs cells slots la C h3 hn ha hc hs hW hS hl (rSt_t (rSt_t hw))) (fun q => kf q l p e R s m args below meth c G ad0 n0 ad H locs cells slots la C h3 hn ha hc hs hW hS hl (rSt_t (rSt_t hw)))

theorem E_icmp_gt {M : rM} {k pc : Nat} {ls : List (Option Value)} {st : List Value} {σ τ : rS} {kc ks : Nat} {o : Option Value ⊕ String} {x y : Int32} {off : Int} (tgt : Nat) (d : decode M.2.1 pc = .ok (.if_icmp .gt off, 3)) (ht : (pc : Int) + off = (tgt : Int)) (kt : y < x → rE M k tgt ls st σ kc ks o τ) (kf : ¬ y < x → rE M k (pc + 3) ls st σ kc ks o τ) : rE M k pc ls (.int y :: .int x :: st) σ kc ks o τ := by
  intro l p e R s m args below meth c G ad0 n0 ad H locs cells slots la C h3 hn ha hc hs hW hS hl hw
  exact lv_icmp_gt C.2.1 C.2.2.1 d ht (fun q => kt q l p e R s m args below meth c G ad0 n0 ad H locs cells slots la C h3 hn ha hc hs hW hS hl (rSt_t (rSt_t hw))) (fun q => kf q l p e R s m args below meth c G ad0 n0 ad H locs cells slots la C h3 hn ha hc hs hW hS hl (rSt_t (rSt_t hw)))

theorem E_icmp_le {M : rM} {k pc : Nat} {ls : List (Option Value)} {st : List Value} {σ τ : rS} {kc ks : Nat} {o : Option Value ⊕ String} {x y : Int32} {off : Int} (tgt : Nat) (d : decode M.2.1 pc = .ok (.if_icmp .le off, 3)) (ht : (pc : Int) + off = (tgt : Int)) (kt : x ≤ y → rE M k tgt ls st σ kc ks o τ) (kf : ¬ x ≤ y → rE M k (pc + 3) ls st σ kc ks o τ) : rE M k pc ls (.int y :: .int x :: st) σ kc ks o τ := by
  intro l p e R s m args below meth c G ad0 n0 ad H locs cells slots la C h3 hn ha hc hs hW hS hl hw
  exact lv_icmp_le C.2.1 C.2.2.1 d ht (fun q => kt q l p e R s m args below meth c G ad0 n0 ad H locs cells slots la C h3 hn ha hc hs hW hS hl (rSt_t (rSt_t hw))) (fun q => kf q l p e R s m args below meth c G ad0 n0 ad H locs cells slots la C h3 hn ha hc hs hW hS hl (rSt_t (rSt_t hw)))

theorem E_goto {M : rM} {k pc : Nat} {ls : List (Option Value)} {st : List Value} {σ τ : rS} {kc ks : Nat} {o : Option Value ⊕ String} {off : Int} (tgt : Nat) (d : decode M.2.1 pc = .ok (.goto off, 3)) (ht : (pc : Int) + off = (tgt : Int)) (kk : rE M k tgt ls st σ kc ks o τ) : rE M k pc ls st σ kc ks o τ := by
  intro l p e R s m args below meth c G ad0 n0 ad H locs cells slots la C h3 hn ha hc hs hW hS hl hw
  exact lv_goto C.2.1 C.2.2.1 d ht (kk l p e R s m args below meth c G ad0 n0 ad H locs cells slots la C h3 hn ha hc hs hW hS hl hw)
theorem E_ldc {M : rM} {k pc : Nat} {ls : List (Option Value)} {st : List Value} {σ τ : rS} {kc ks : Nat} {o : Option Value ⊕ String} {i : Nat} {v : Int32} (d : decode M.2.1 pc = .ok (.ldc i, 2)) (hv : Jvm.Cond.constant M.1 i v ∈ rWd) (kk : rE M k (pc + 2) ls (.int v :: st) σ kc ks o τ) : rE M k pc ls st σ kc ks o τ := by
  intro l p e R s m args below meth c G ad0 n0 ad H locs cells slots la C h3 hn ha hc hs hW hS hl hw
  exact lv_ldc C.2.1 C.2.2.1 C.2.2.2.2.1 (C.2.2.2.2.2.1 _ hv) d (kk l p e R s m args below meth c G ad0 n0 ad H locs cells slots la C h3 hn ha hc hs hW hS hl (rSt_c trivial hw))
theorem E_ldc2 {M : rM} {k pc : Nat} {ls : List (Option Value)} {st : List Value} {σ τ : rS} {kc ks : Nat} {o : Option Value ⊕ String} {i : Nat} {v : Int64} (d : decode M.2.1 pc = .ok (.ldc2_w i, 3)) (hv : Jvm.Cond.constantLong M.1 i v ∈ rWd) (kk : rE M k (pc + 3) ls (.long v :: st) σ kc ks o τ) : rE M k pc ls st σ kc ks o τ := by
  intro l p e R s m args below meth c G ad0 n0 ad H locs cells slots la C h3 hn ha hc hs hW hS hl hw
  exact lv_ldc2 C.2.1 C.2.2.1 C.2.2.2.2.1 (C.2.2.2.2.2.1 _ hv) d (kk l p e R s m args below meth c G ad0 n0 ad H locs cells slots la C h3 hn ha hc hs hW hS hl (rSt_c trivial hw))

/-- a place is written: its list of places -/
def rput (ls : List (Option Value)) (i : Nat) (v : Value) : List (Option Value) :=
  let a := ls.set i (some v)
  let b := if v.category = 2 then a.set (i + 1) none else a
  match i with
  | 0 => b
  | j + 1 => match b[j]? with
    | some (some (.long _)) => b.set j none
    | _ => b
def rAs (ls : List (Option Value)) (ad : Nat → Nat) : List (Nat × Value) := (List.range ls.length).filterMap (fun i => match ls[i]? with
  | some (some v) => some (i, tv ad v)
  | _ => none)
theorem rAs_in {ls : List (Option Value)} {ad : Nat → Nat} {q : Nat × Value} : q ∈ rAs ls ad ↔ ∃ v, ls[q.1]? = some (some v) ∧ q.2 = tv ad v := by
  unfold rAs
  rw [List.mem_filterMap]
  constructor
  · rintro ⟨i, hi, h⟩
    split at h
    · rename_i v hv
      cases h
      exact ⟨v, hv, rfl⟩
    · cases h
  · rintro ⟨v, hv, h⟩
    refine ⟨q.1, List.mem_range.mpr ?_, ?_⟩
    · exact (List.getElem?_eq_some_iff.mp hv).1
    · rw [hv]
      exact congrArg some (Prod.ext rfl h.symm)
theorem rLv_has {la : Array Slot} {nL n : Nat} {ls : List (Option Value)} {ad : Nat → Nat} (h : rLv la nL ls ad n) : lv_has la nL (rAs ls ad) := ⟨h.1, h.2.1, fun q hq => by
  obtain ⟨v, h1, h2⟩ := rAs_in.mp hq
  rw [h2]
  exact (h.2.2 _ _ h1).2⟩
theorem rput_at {ls : List (Option Value)} {i j : Nat} {v w : Value} (h : (rput ls i v)[j]? = some (some w)) : (j = i ∧ w = v) ∨ (j ≠ i ∧ ls[j]? = some (some w) ∧ ¬ (j = i + 1 ∧ v.category = 2) ∧ ¬ (j + 1 = i ∧ w.category = 2 ∧ ∃ x, w = .long x)) := by
  unfold rput at h
  by_cases hc : v.category = 2
  · simp only [hc, if_true] at h
    cases i with
    | zero =>
      simp only [List.getElem?_set] at h
      grind
    | succ i =>
      simp only at h
      split at h
      · simp only [List.getElem?_set] at h
        grind
      · rename_i hn
        simp only [List.getElem?_set] at h hn
        grind
  · simp only [hc, if_false] at h
    cases i with
    | zero =>
      simp only [List.getElem?_set] at h
      grind
    | succ i =>
      simp only at h
      split at h
      · simp only [List.getElem?_set] at h
        grind
      · rename_i hn
        simp only [List.getElem?_set] at h hn
        grind

theorem E_istore_n {M : rM} {k pc : Nat} {ls ls2 : List (Option Value)} {st : List Value} {σ τ : rS} {kc ks : Nat} {o : Option Value ⊕ String} {j : Fin 4} {x : Int32} (d : decode M.2.1 pc = .ok (.istore_n j, 1)) (hj : (j : Nat) < M.2.2.1) (h2 : rput ls (j : Nat) (.int x) = ls2) (kk : rE M k (pc + 1) ls2 st σ kc ks o τ) : rE M k pc ls (.int x :: st) σ kc ks o τ := by
  intro l p e R s m args below meth c G ad0 n0 ad H locs cells slots la C h3 hn ha hc hs hW hS hl hw
  subst h2
  refine lv_istore_n (lv' := ((j : Nat), .int x) :: (rAs ls ad).filter (fun q => !(q.1 == (j : Nat)) && !(q.1 + 1 == (j : Nat) && q.2.category == 2))) C.2.1 C.2.2.1 d rfl (rLv_has hl) hj rfl (fun lb hb => ?_)
  refine kk l p e R s m args below meth c G ad0 n0 ad H locs cells slots lb C h3 hn ha hc hs hW hS ⟨hb.1, hb.2.1, fun i v hv => ?_⟩ (rSt_t hw)
  rcases rput_at hv with ⟨rfl, rfl⟩ | ⟨g1, g2, g3, g4⟩
  · exact ⟨rSt_h hw, hb.2.2 _ List.mem_cons_self⟩
  · refine ⟨(hl.2.2 _ _ g2).1, hb.2.2 (i, tv ad v) (List.mem_cons_of_mem _ (List.mem_filter.mpr ⟨rAs_in.mpr ⟨v, g2, rfl⟩, ?_⟩))⟩
    have hk : ¬ (i + 1 = (j : Nat) ∧ (tv ad v).category = 2) := fun q => g4 ⟨q.1, (tv_cat ad v).symm.trans q.2, by
      have z := (hl.2.2 _ _ g2).1
      cases v <;> first | exact ⟨_, rfl⟩ | exact absurd z id | exact absurd q.2 (by decide) | (exact absurd q.2 (by simp [tv, Value.category]))⟩
    have g5 : ¬ (i = (j : Nat) + 1 ∧ (Value.category (.int x)) = 2) := g3
    simp only [Bool.and_eq_true, Bool.not_eq_true', beq_eq_false_iff_ne, Bool.and_eq_false_iff, ne_eq]
    simp only [Value.category] at g5
    grind

theorem E_istore {M : rM} {k pc : Nat} {ls ls2 : List (Option Value)} {st : List Value} {σ τ : rS} {kc ks : Nat} {o : Option Value ⊕ String} {j : Nat} {x : Int32} (d : decode M.2.1 pc = .ok (.istore j, 2)) (hj : j < M.2.2.1) (h2 : rput ls j (.int x) = ls2) (kk : rE M k (pc + 2) ls2 st σ kc ks o τ) : rE M k pc ls (.int x :: st) σ kc ks o τ := by
  intro l p e R s m args below meth c G ad0 n0 ad H locs cells slots la C h3 hn ha hc hs hW hS hl hw
  subst h2
  refine lv_istore (lv' := (j, .int x) :: (rAs ls ad).filter (fun q => !(q.1 == j) && !(q.1 + 1 == j && q.2.category == 2))) C.2.1 C.2.2.1 d (rLv_has hl) hj rfl (fun lb hb => ?_)
  refine kk l p e R s m args below meth c G ad0 n0 ad H locs cells slots lb C h3 hn ha hc hs hW hS ⟨hb.1, hb.2.1, fun i v hv => ?_⟩ (rSt_t hw)
  rcases rput_at hv with ⟨rfl, rfl⟩ | ⟨g1, g2, g3, g4⟩
  · exact ⟨rSt_h hw, hb.2.2 _ List.mem_cons_self⟩
  · refine ⟨(hl.2.2 _ _ g2).1, hb.2.2 (i, tv ad v) (List.mem_cons_of_mem _ (List.mem_filter.mpr ⟨rAs_in.mpr ⟨v, g2, rfl⟩, ?_⟩))⟩
    have hk : ¬ (i + 1 = j ∧ (tv ad v).category = 2) := fun q => g4 ⟨q.1, (tv_cat ad v).symm.trans q.2, by
      have z := (hl.2.2 _ _ g2).1
      cases v <;> first | exact ⟨_, rfl⟩ | exact absurd z id | exact absurd q.2 (by decide) | (exact absurd q.2 (by simp [tv, Value.category]))⟩
    have g5 : ¬ (i = j + 1 ∧ (Value.category (.int x)) = 2) := g3
    simp only [Bool.and_eq_true, Bool.not_eq_true', beq_eq_false_iff_ne, Bool.and_eq_false_iff, ne_eq]
    simp only [Value.category] at g5
    grind

theorem E_lstore_n {M : rM} {k pc : Nat} {ls ls2 : List (Option Value)} {st : List Value} {σ τ : rS} {kc ks : Nat} {o : Option Value ⊕ String} {j : Fin 4} {x : Int64} (d : decode M.2.1 pc = .ok (.lstore_n j, 1)) (hj : (j : Nat) + 1 < M.2.2.1) (h2 : rput ls (j : Nat) (.long x) = ls2) (kk : rE M k (pc + 1) ls2 st σ kc ks o τ) : rE M k pc ls (.long x :: st) σ kc ks o τ := by
  intro l p e R s m args below meth c G ad0 n0 ad H locs cells slots la C h3 hn ha hc hs hW hS hl hw
  subst h2
  refine lv_lstore_n (lv' := ((j : Nat), .long x) :: (rAs ls ad).filter (fun q => !(q.1 == (j : Nat)) && (!(q.1 == (j : Nat) + 1) && !(q.1 + 1 == (j : Nat) && q.2.category == 2)))) C.2.1 C.2.2.1 d rfl (rLv_has hl) hj rfl (fun lb hb => ?_)
  refine kk l p e R s m args below meth c G ad0 n0 ad H locs cells slots lb C h3 hn ha hc hs hW hS ⟨hb.1, hb.2.1, fun i v hv => ?_⟩ (rSt_t hw)
  rcases rput_at hv with ⟨rfl, rfl⟩ | ⟨g1, g2, g3, g4⟩
  · exact ⟨rSt_h hw, hb.2.2 _ List.mem_cons_self⟩
  · refine ⟨(hl.2.2 _ _ g2).1, hb.2.2 (i, tv ad v) (List.mem_cons_of_mem _ (List.mem_filter.mpr ⟨rAs_in.mpr ⟨v, g2, rfl⟩, ?_⟩))⟩
    have hk : ¬ (i + 1 = (j : Nat) ∧ (tv ad v).category = 2) := fun q => g4 ⟨q.1, (tv_cat ad v).symm.trans q.2, by
      have z := (hl.2.2 _ _ g2).1
      cases v <;> first | exact ⟨_, rfl⟩ | exact absurd z id | exact absurd q.2 (by decide) | (exact absurd q.2 (by simp [tv, Value.category]))⟩
    have g5 : ¬ (i = (j : Nat) + 1 ∧ (Value.category (.long x)) = 2) := g3
    simp only [Bool.and_eq_true, Bool.not_eq_true', beq_eq_false_iff_ne, Bool.and_eq_false_iff, ne_eq]
    simp only [Value.category] at g5
    grind

theorem E_lstore {M : rM} {k pc : Nat} {ls ls2 : List (Option Value)} {st : List Value} {σ τ : rS} {kc ks : Nat} {o : Option Value ⊕ String} {j : Nat} {x : Int64} (d : decode M.2.1 pc = .ok (.lstore j, 2)) (hj : j + 1 < M.2.2.1) (h2 : rput ls j (.long x) = ls2) (kk : rE M k (pc + 2) ls2 st σ kc ks o τ) : rE M k pc ls (.long x :: st) σ kc ks o τ := by
  intro l p e R s m args below meth c G ad0 n0 ad H locs cells slots la C h3 hn ha hc hs hW hS hl hw
  subst h2
  refine lv_lstore (lv' := (j, .long x) :: (rAs ls ad).filter (fun q => !(q.1 == j) && (!(q.1 == j + 1) && !(q.1 + 1 == j && q.2.category == 2)))) C.2.1 C.2.2.1 d (rLv_has hl) hj rfl (fun lb hb => ?_)
  refine kk l p e R s m args below meth c G ad0 n0 ad H locs cells slots lb C h3 hn ha hc hs hW hS ⟨hb.1, hb.2.1, fun i v hv => ?_⟩ (rSt_t hw)
  rcases rput_at hv with ⟨rfl, rfl⟩ | ⟨g1, g2, g3, g4⟩
  · exact ⟨rSt_h hw, hb.2.2 _ List.mem_cons_self⟩
  · refine ⟨(hl.2.2 _ _ g2).1, hb.2.2 (i, tv ad v) (List.mem_cons_of_mem _ (List.mem_filter.mpr ⟨rAs_in.mpr ⟨v, g2, rfl⟩, ?_⟩))⟩
    have hk : ¬ (i + 1 = j ∧ (tv ad v).category = 2) := fun q => g4 ⟨q.1, (tv_cat ad v).symm.trans q.2, by
      have z := (hl.2.2 _ _ g2).1
      cases v <;> first | exact ⟨_, rfl⟩ | exact absurd z id | exact absurd q.2 (by decide) | (exact absurd q.2 (by simp [tv, Value.category]))⟩
    have g5 : ¬ (i = j + 1 ∧ (Value.category (.long x)) = 2) := g3
    simp only [Bool.and_eq_true, Bool.not_eq_true', beq_eq_false_iff_ne, Bool.and_eq_false_iff, ne_eq]
    simp only [Value.category] at g5
    grind

theorem E_astore_n {M : rM} {k pc : Nat} {ls ls2 : List (Option Value)} {st : List Value} {σ τ : rS} {kc ks : Nat} {o : Option Value ⊕ String} {j : Fin 4} {x : Nat} (d : decode M.2.1 pc = .ok (.astore_n j, 1)) (hj : (j : Nat) < M.2.2.1) (h2 : rput ls (j : Nat) (.ref x) = ls2) (kk : rE M k (pc + 1) ls2 st σ kc ks o τ) : rE M k pc ls (.ref x :: st) σ kc ks o τ := by
  intro l p e R s m args below meth c G ad0 n0 ad H locs cells slots la C h3 hn ha hc hs hW hS hl hw
  subst h2
  refine lv_astore_n (lv' := ((j : Nat), .ref (ad x)) :: (rAs ls ad).filter (fun q => !(q.1 == (j : Nat)) && !(q.1 + 1 == (j : Nat) && q.2.category == 2))) C.2.1 C.2.2.1 d rfl (rLv_has hl) hj rfl (fun lb hb => ?_)
  refine kk l p e R s m args below meth c G ad0 n0 ad H locs cells slots lb C h3 hn ha hc hs hW hS ⟨hb.1, hb.2.1, fun i v hv => ?_⟩ (rSt_t hw)
  rcases rput_at hv with ⟨rfl, rfl⟩ | ⟨g1, g2, g3, g4⟩
  · exact ⟨rSt_h hw, hb.2.2 _ List.mem_cons_self⟩
  · refine ⟨(hl.2.2 _ _ g2).1, hb.2.2 (i, tv ad v) (List.mem_cons_of_mem _ (List.mem_filter.mpr ⟨rAs_in.mpr ⟨v, g2, rfl⟩, ?_⟩))⟩
    have hk : ¬ (i + 1 = (j : Nat) ∧ (tv ad v).category = 2) := fun q => g4 ⟨q.1, (tv_cat ad v).symm.trans q.2, by
      have z := (hl.2.2 _ _ g2).1
      cases v <;> first | exact ⟨_, rfl⟩ | exact absurd z id | exact absurd q.2 (by decide) | (exact absurd q.2 (by simp [tv, Value.category]))⟩
    have g5 : ¬ (i = (j : Nat) + 1 ∧ (Value.category (.ref x)) = 2) := g3
    simp only [Bool.and_eq_true, Bool.not_eq_true', beq_eq_false_iff_ne, Bool.and_eq_false_iff, ne_eq]
    simp only [Value.category] at g5
    grind

theorem E_astore {M : rM} {k pc : Nat} {ls ls2 : List (Option Value)} {st : List Value} {σ τ : rS} {kc ks : Nat} {o : Option Value ⊕ String} {j : Nat} {x : Nat} (d : decode M.2.1 pc = .ok (.astore j, 2)) (hj : j < M.2.2.1) (h2 : rput ls j (.ref x) = ls2) (kk : rE M k (pc + 2) ls2 st σ kc ks o τ) : rE M k pc ls (.ref x :: st) σ kc ks o τ := by
  intro l p e R s m args below meth c G ad0 n0 ad H locs cells slots la C h3 hn ha hc hs hW hS hl hw
  subst h2
  refine lv_astore (lv' := (j, .ref (ad x)) :: (rAs ls ad).filter (fun q => !(q.1 == j) && !(q.1 + 1 == j && q.2.category == 2))) C.2.1 C.2.2.1 d (rLv_has hl) hj rfl (fun lb hb => ?_)
  refine kk l p e R s m args below meth c G ad0 n0 ad H locs cells slots lb C h3 hn ha hc hs hW hS ⟨hb.1, hb.2.1, fun i v hv => ?_⟩ (rSt_t hw)
  rcases rput_at hv with ⟨rfl, rfl⟩ | ⟨g1, g2, g3, g4⟩
  · exact ⟨rSt_h hw, hb.2.2 _ List.mem_cons_self⟩
  · refine ⟨(hl.2.2 _ _ g2).1, hb.2.2 (i, tv ad v) (List.mem_cons_of_mem _ (List.mem_filter.mpr ⟨rAs_in.mpr ⟨v, g2, rfl⟩, ?_⟩))⟩
    have hk : ¬ (i + 1 = j ∧ (tv ad v).category = 2) := fun q => g4 ⟨q.1, (tv_cat ad v).symm.trans q.2, by
      have z := (hl.2.2 _ _ g2).1
      cases v <;> first | exact ⟨_, rfl⟩ | exact absurd z id | exact absurd q.2 (by decide) | (exact absurd q.2 (by simp [tv, Value.category]))⟩
    have g5 : ¬ (i = j + 1 ∧ (Value.category (.ref x)) = 2) := g3
    simp only [Bool.and_eq_true, Bool.not_eq_true', beq_eq_false_iff_ne, Bool.and_eq_false_iff, ne_eq]
    simp only [Value.category] at g5
    grind

theorem E_iinc {M : rM} {k pc : Nat} {ls ls2 : List (Option Value)} {st : List Value} {σ τ : rS} {kc ks : Nat} {o : Option Value ⊕ String} {j : Nat} {n : Int} {x v : Int32} (d : decode M.2.1 pc = .ok (.iinc j n, 3)) (hx : ls[j]? = some (some (.int x))) (hv : Int32.ofInt n = v) (hj : j < M.2.2.1) (h2 : rput ls j (.int (x + v)) = ls2) (kk : rE M k (pc + 3) ls2 st σ kc ks o τ) : rE M k pc ls st σ kc ks o τ := by
  intro l p e R s m args below meth c G ad0 n0 ad H locs cells slots la C h3 hn ha hc hs hW hS hl hw
  subst h2
  obtain ⟨i0, hi0⟩ := List.getElem?_of_mem (rAs_in.mpr ⟨_, hx, rfl⟩ : (j, tv ad (.int x)) ∈ rAs ls ad)
  refine lv_iinc (v := x + v) (k := i0) (lv' := (j, .int (x + v)) :: (rAs ls ad).filter (fun q => !(q.1 == j) && !(q.1 + 1 == j && q.2.category == 2))) C.2.1 C.2.2.1 d (rLv_has hl) hi0 (by rw [hv]) hj rfl (fun lb hb => ?_)
  refine kk l p e R s m args below meth c G ad0 n0 ad H locs cells slots lb C h3 hn ha hc hs hW hS ⟨hb.1, hb.2.1, fun i v hv => ?_⟩ hw
  rcases rput_at hv with ⟨rfl, rfl⟩ | ⟨g1, g2, g3, g4⟩
  · exact ⟨trivial, hb.2.2 _ List.mem_cons_self⟩
  · refine ⟨(hl.2.2 _ _ g2).1, hb.2.2 (i, tv ad v) (List.mem_cons_of_mem _ (List.mem_filter.mpr ⟨rAs_in.mpr ⟨v, g2, rfl⟩, ?_⟩))⟩
    have hk : ¬ (i + 1 = j ∧ (tv ad v).category = 2) := fun q => g4 ⟨q.1, (tv_cat ad v).symm.trans q.2, by
      have z := (hl.2.2 _ _ g2).1
      cases v <;> first | exact ⟨_, rfl⟩ | exact absurd z id | exact absurd q.2 (by decide) | (exact absurd q.2 (by simp [tv, Value.category]))⟩
    simp only [Bool.and_eq_true, Bool.not_eq_true', beq_eq_false_iff_ne, Bool.and_eq_false_iff, ne_eq]
    grind

theorem E_iret {M : rM} {k pc : Nat} {ls : List (Option Value)} {σ : rS} {kc ks : Nat} {v : Int32} (hr : M.2.2.2.1 = some .int) (d : decode M.2.1 pc = .ok (.ireturn, 1)) : rE M k pc ls [.int v] σ kc ks (.inl (some (.int v))) σ := by
  intro l p e R s m args below meth c G ad0 n0 ad H locs cells slots la C h3 hn ha hc hs hW hS hl hw
  refine vx_ret (W.widen (k := R.cells) (n := R.slots) (by omega) (by omega) (W.iret (v := v) C.2.1 C.2.2.1 (C.2.2.2.2.2.2.2.1.trans hr) (fun t ht hWm => ?_) hS.2.2 d C.2.2.2.2.2.2.1))
  exact ⟨ad, some (.int v), rfl, ha, rfl, fun x h => (by cases h; trivial), by rw [ht]; exact hW, hS.F ht, hn⟩

theorem E_zret {M : rM} {k pc : Nat} {ls : List (Option Value)} {σ : rS} {kc ks : Nat} {v : Int32} (hr : M.2.2.2.1 = some .boolean) (hv : narrow .boolean (.int v) = .int v) (d : decode M.2.1 pc = .ok (.ireturn, 1)) : rE M k pc ls [.int v] σ kc ks (.inl (some (.int v))) σ := by
  intro l p e R s m args below meth c G ad0 n0 ad H locs cells slots la C h3 hn ha hc hs hW hS hl hw
  refine vx_ret (W.widen (k := R.cells) (n := R.slots) (by omega) (by omega) (W.zret (v := v) C.2.1 C.2.2.1 (C.2.2.2.2.2.2.2.1.trans hr) hv (fun t ht hWm => ?_) hS.2.2 d C.2.2.2.2.2.2.1))
  exact ⟨ad, some (.int v), rfl, ha, rfl, fun x h => (by cases h; trivial), by rw [ht]; exact hW, hS.F ht, hn⟩

theorem E_lret {M : rM} {k pc : Nat} {ls : List (Option Value)} {σ : rS} {kc ks : Nat} {v : Int64} (hr : M.2.2.2.1 = some .long) (d : decode M.2.1 pc = .ok (.lreturn, 1)) : rE M k pc ls [.long v] σ kc ks (.inl (some (.long v))) σ := by
  intro l p e R s m args below meth c G ad0 n0 ad H locs cells slots la C h3 hn ha hc hs hW hS hl hw
  refine vx_ret (W.widen (k := R.cells) (n := R.slots) (by omega) (by omega) (W.lret (v := v) C.2.1 C.2.2.1 (C.2.2.2.2.2.2.2.1.trans hr) (fun t ht hWm => ?_) hS.2.2 d C.2.2.2.2.2.2.1))
  exact ⟨ad, some (.long v), rfl, ha, rfl, fun x h => (by cases h; trivial), by rw [ht]; exact hW, hS.F ht, hn⟩

theorem E_vret {M : rM} {k pc : Nat} {ls : List (Option Value)} {σ : rS} {kc ks : Nat}  (hr : M.2.2.2.1 = none) (d : decode M.2.1 pc = .ok (.return_, 1)) : rE M k pc ls [] σ kc ks (.inl none) σ := by
  intro l p e R s m args below meth c G ad0 n0 ad H locs cells slots la C h3 hn ha hc hs hW hS hl hw
  refine vx_ret (W.widen (k := R.cells) (n := R.slots) (by omega) (by omega) (W.vret C.2.1 C.2.2.1 (C.2.2.2.2.2.2.2.1.trans hr) (fun t ht hWm => ?_) hS.2.2 d C.2.2.2.2.2.2.1))
  exact ⟨ad, none, rfl, ha, rfl, fun x h => (by cases h), by rw [ht]; exact hW, hS.F ht, hn⟩

theorem E_aret {M : rM} {k pc : Nat} {ls : List (Option Value)} {σ : rS} {kc ks : Nat} {v : Nat} {ty : FieldType} (hr : M.2.2.2.1 = some (.array ty)) (d : decode M.2.1 pc = .ok (.areturn, 1)) : rE M k pc ls [.ref v] σ kc ks (.inl (some (.ref v))) σ := by
  intro l p e R s m args below meth c G ad0 n0 ad H locs cells slots la C h3 hn ha hc hs hW hS hl hw
  refine vx_ret (W.widen (k := R.cells) (n := R.slots) (by omega) (by omega) (W.aret (v := .ref (ad v)) C.2.1 C.2.2.1 (C.2.2.2.2.2.2.2.1.trans hr) (Or.inr ⟨ty, rfl⟩) (Or.inr ⟨ad v, rfl⟩) (fun t ht hWm => ?_) hS.2.2 d C.2.2.2.2.2.2.1))
  exact ⟨ad, some (.ref v), rfl, ha, rfl, fun x h => (by cases h; exact rSt_h hw), by rw [ht]; exact hW, hS.F ht, hn⟩

