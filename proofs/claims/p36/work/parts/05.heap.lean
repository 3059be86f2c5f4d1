
theorem upd_up (f : Nat → Int32) (i : Nat) (x : Int32) : upd f i x = va_up f i x := rfl
theorem up_same {α : Type} (f : Nat → α) (i : Nat) (x : α) : va_up f i x i = x := by simp [va_up]
theorem up_other {α : Type} (f : Nat → α) {i j : Nat} (x : α) (h : j ≠ i) : va_up f i x j = f j := by simp [va_up, h]
theorem rI_wI (σ : rS) (a k : Nat) (v : Int32) : rI (wI σ a k v) = va_up (rI σ) a (va_up (rI σ a) k v) := rfl
theorem rL_wL (σ : rS) (a k : Nat) (v : Int64) : rL (wL σ a k v) = va_up (rL σ) a (va_up (rL σ a) k v) := rfl
theorem rR_wR (σ : rS) (a k : Nat) (v : Nat) : rR (wR σ a k v) = va_up (rR σ) a (va_up (rR σ a) k v) := rfl
theorem rI_s (σ : rS) (a k : Nat) (v : Int32) : rI (wI σ a k v) a k = v := by rw [rI_wI, up_same, up_same]
theorem rL_s (σ : rS) (a k : Nat) (v : Int64) : rL (wL σ a k v) a k = v := by rw [rL_wL, up_same, up_same]
theorem rR_s (σ : rS) (a k : Nat) (v : Nat) : rR (wR σ a k v) a k = v := by rw [rR_wR, up_same, up_same]
theorem rI_o (σ : rS) (a : Nat) {k i : Nat} (v : Int32) (h : i ≠ k) : rI (wI σ a k v) a i = rI σ a i := by rw [rI_wI, up_same, up_other _ _ h]
theorem rL_o (σ : rS) (a : Nat) {k i : Nat} (v : Int64) (h : i ≠ k) : rL (wL σ a k v) a i = rL σ a i := by rw [rL_wL, up_same, up_other _ _ h]
theorem rR_o (σ : rS) (a : Nat) {k i : Nat} (v : Nat) (h : i ≠ k) : rR (wR σ a k v) a i = rR σ a i := by rw [rR_wR, up_same, up_other _ _ h]
theorem rv_oI (σ : rS) (ad : Nat → Nat) (a : Nat) {k i : Nat} (v : Int32) (t : FieldType) (h : i ≠ k) : rv (wI σ a k v) ad a i t = rv σ ad a i t := by
  unfold rv; rw [rI_o _ _ _ h]; cases t <;> rfl
theorem rv_oL (σ : rS) (ad : Nat → Nat) (a : Nat) {k i : Nat} (v : Int64) (t : FieldType) (h : i ≠ k) : rv (wL σ a k v) ad a i t = rv σ ad a i t := by
  unfold rv; rw [rL_o _ _ _ h]; cases t <;> rfl
theorem rv_oR (σ : rS) (ad : Nat → Nat) (a : Nat) {k i : Nat} (v : Nat) (t : FieldType) (h : i ≠ k) : rv (wR σ a k v) ad a i t = rv σ ad a i t := by
  unfold rv; rw [rR_o _ _ _ h]; cases t <;> rfl
theorem rc_obj {G : rG} {σ : rS} {ad : Nat → Nat} {a c n : Nat} (h : rK σ a = (c + 3, n)) : rc G σ ad a = .inr (c, rfs σ ad a c) := by unfold rc; rw [h]
theorem rc_int {G : rG} {σ : rS} {ad : Nat → Nat} {a n : Nat} (h : rK σ a = (0, n)) : rc G σ ad a = .inl (gI G, n, .inl (rI σ a)) := by unfold rc; rw [h]
theorem rc_long {G : rG} {σ : rS} {ad : Nat → Nat} {a n : Nat} (h : rK σ a = (1, n)) : rc G σ ad a = .inl (gJ G, n, .inr (.inl (rL σ a))) := by unfold rc; rw [h]
theorem rc_bool {G : rG} {σ : rS} {ad : Nat → Nat} {a n : Nat} (h : rK σ a = (2, n)) : rc G σ ad a = .inl (gZ G, n, .inl (rI σ a)) := by unfold rc; rw [h]
theorem rfs_at {σ : rS} {ad : Nat → Nat} {a c j : Nat} (h : j < rF c) : (rfs σ ad a c)[j]? = some (rv σ ad a j (rTy c j)) := by
  unfold rfs
  rw [List.getElem?_map, List.getElem?_range h]
  rfl
theorem rfs_len {σ : rS} {ad : Nat → Nat} {a c : Nat} : (rfs σ ad a c).length = rF c := by simp [rfs]
/-- a cell depends on its own rows alone -/
theorem rc_cong {G : rG} {σ τ : rS} {ad : Nat → Nat} {b : Nat} (hk : rK τ b = rK σ b) (hi : rI τ b = rI σ b) (hl : rL τ b = rL σ b) (hr : rR τ b = rR σ b) : rc G τ ad b = rc G σ ad b := by
  unfold rc rfs rv
  rw [hk, hi, hl, hr]
theorem rfs_set {σ τ : rS} {ad : Nat → Nat} {a c j : Nat} {v : Value} (hj : j < rF c) (hv : rv τ ad a j (rTy c j) = v) (ho : ∀ i, i ≠ j → rv τ ad a i (rTy c i) = rv σ ad a i (rTy c i)) : (rfs σ ad a c).set j v = rfs τ ad a c := by
  apply List.ext_getElem?
  intro i
  rw [List.getElem?_set]
  by_cases hi : j = i
  · subst hi
    rw [if_pos rfl, if_pos (by rw [rfs_len]; exact hj), rfs_at hj, hv]
  · rw [if_neg hi]
    by_cases hl : i < rF c
    · rw [rfs_at hl, rfs_at hl, ho i (fun e => hi e.symm)]
    · rw [List.getElem?_eq_none (by rw [rfs_len]; omega), List.getElem?_eq_none (by rw [rfs_len]; omega)]
def rCl (c : Nat) (C : String) (T : u_T) (N : Nat) : Prop := vwCl[c]? = some (C, T, N) ∧ (∀ w ∈ u_ws C T N, w ∈ rWd) ∧ (∀ k, k < N → parseFieldDescriptor (T k).2.2.1 = some (rTy c k)) ∧ (∀ a, a < N → ∀ b, b < N → a ≠ b → (T a).2.1 ≠ (T b).2.1) ∧ rF c = N
theorem rW_three {G : rG} {ad : Nat → Nat} {σ : rS} {H : Heap} {a c n : Nat} (hW : rW G ad σ H) (hk : rK σ a = (c + 1, n)) (h0 : 0 < a) : 3 ≤ a := by
  obtain ⟨-, -, -, h1, -, h2, -⟩ := hW
  rcases Nat.lt_or_ge a 3 with q | q
  · have : a = 1 ∨ a = 2 := by omega
    rcases this with rfl | rfl
    · rw [h1] at hk; simp at hk
    · rw [h2] at hk; simp at hk
  · exact q
/-- one row of the world is another -/
theorem rW_put {G : rG} {ad : Nat → Nat} {σ τ : rS} {H H1 : Heap} {a : Nat} {ce : va_E} (hW : rW G ad σ H) (h3 : 3 ≤ a) (hN : rN τ = rN σ) (hK : rK τ = rK σ) (hI : ∀ b, b ≠ a → rI τ b = rI σ b) (hL : ∀ b, b ≠ a → rL τ b = rL σ b) (hR : ∀ b, b ≠ a → rR τ b = rR σ b) (hRa : ∀ j, rR τ a j < rN σ) (hce : rc G τ ad a = ce)
    (hP : va_P (gD G) vwCl ((rws G σ ad).set (a - 3) (ad a, ce)) H1) (hD : va_D (rA G) ((rws G σ ad).set (a - 3) (ad a, ce))) : rW G ad τ H1 := by
  subst hce
  have e := rws_set (G := G) (σ := σ) (τ := τ) (ad := ad) h3 hN (fun b hb => rc_cong (congrFun hK b) (hI b hb) (hL b hb) (hR b hb))
  rw [e] at hP hD
  obtain ⟨q0, -, -, q1, q2, q3, q4, q5⟩ := hW
  refine ⟨by rw [hN]; exact q0, hP, hD, by rw [hK]; exact q1, by rw [hI 1 (by omega)]; exact q2, by rw [hK]; exact q3, by rw [hI 2 (by omega)]; exact q4, fun b j => ?_⟩
  rw [hN]
  by_cases hb : b = a
  · subst hb; exact hRa j
  · rw [hR b hb]; exact q5 b j
theorem rW_ro {G : rG} {ad : Nat → Nat} {σ : rS} {H : Heap} {a n : Nat} (hW : rW G ad σ H) (h3a : 3 ≤ a) (hl : a < rN σ) (hk : rK σ a = (0, n)) : va_P (gD G) vwCl [(ad a, .inl (gI G, n, .inl (rI σ a)))] H := by
  obtain ⟨-, hP, -, -, -, -, -, -⟩ := hW
  intro i x hx
  have hi : i = 0 := by
    have := (List.getElem?_eq_some_iff.mp hx).1
    simp at this
    exact this
  subst hi
  cases hx
  have h := hP (a - 3) _ (rws_at h3a hl)
  rw [rc_int hk] at h
  exact h
/-- the two rows that are only read -/
theorem rW_x {G : rG} {ad : Nat → Nat} {σ : rS} {s : State} {H : Heap} {ad0 : Nat → Nat} {n0 a n : Nat} (hW : rW G ad σ H) (hC : rC G (ad0 1) (ad0 2) s) (h3 : 3 ≤ n0) (ha : ∀ i, i < n0 → ad i = ad0 i) (h0 : 0 < a) (hlt : a < 3) (hk : rK σ a = (0, n)) : va_T .int (ad a) n (fun j => .int (rI σ a j)) (rA G) s s.heap := by
  obtain ⟨-, -, -, -, hb, hb1, hb2, ⟨hro, -⟩, -⟩ := hC
  obtain ⟨-, -, -, q1, q2, q3, q4, -⟩ := hW
  have : a = 1 ∨ a = 2 := by omega
  rcases this with rfl | rfl
  · rw [q1] at hk
    cases hk
    rw [q2, ha 1 (by omega)]
    exact hro.1
  · rw [q3] at hk
    cases hk
    rw [q4, ha 2 (by omega)]
    exact hro.2

theorem E_getI {M : rM} {k pc : Nat} {ls : List (Option Value)} {st : List Value} {σ τ : rS} {kc ks : Nat} {o : Option Value ⊕ String} {c : Nat} {C0 : String} {T : u_T} {Nf : Nat} {idx a : Nat} (hcl : rCl c C0 T Nf) (j : Nat) (hj : j < Nf) (hln : Cond.fieldLink M.1 idx (T j).1 (T j).2.1 (T j).2.2.1 ∈ rWd) (hty : rTy c j = .int ∨ rTy c j = .boolean) (d : decode M.2.1 pc = .ok (.getfield idx, 3)) (hk : rK σ a = (c + 3, 0)) (kk : rE M k (pc + 3) ls (.int (rI σ a j) :: st) σ kc ks o τ) : rE M k pc ls (.ref a :: st) σ kc ks o τ := by
  intro l p e R s m args below meth c0 G ad0 n0 ad H locs cells slots la C h3 hn ha hc hs hW hS hl hw
  have hal := rSt_h hw
  have h3a := rW_three hW hk hal.1
  refine va_get (D := gD G) (cl := vwCl) (tys := rT G) (ci := c) (C := C0) (T := T) (N := Nf) (ws := rws G σ ad) (v := .int (rI σ a j)) C.2.1 C.2.2.1 C.2.2.2.2.2.1 hcl.2.1 C.2.2.2.2.1 C.2.2.2.2.2.2.2.2.2.2.2.2.1 hW.2.1 (a - 3) (fs := rfs σ ad a c) (by rw [rws_at h3a hal.2, rc_obj hk]) hcl.1 j hj (C.2.2.2.2.2.1 _ hln) (fun _ h => h) ?_ d ?_
  · rw [rfs_at (by rw [hcl.2.2.2.2]; exact hj)]
    exact congrArg some (by rcases hty with q | q <;> rw [q] <;> rfl)
  · exact kk l p e R s m args below meth c0 G ad0 n0 ad H locs cells slots la C h3 hn ha hc hs hW hS hl (rSt_c trivial (rSt_t hw))

theorem E_getL {M : rM} {k pc : Nat} {ls : List (Option Value)} {st : List Value} {σ τ : rS} {kc ks : Nat} {o : Option Value ⊕ String} {c : Nat} {C0 : String} {T : u_T} {Nf : Nat} {idx a : Nat} (hcl : rCl c C0 T Nf) (j : Nat) (hj : j < Nf) (hln : Cond.fieldLink M.1 idx (T j).1 (T j).2.1 (T j).2.2.1 ∈ rWd) (hty : rTy c j = .long) (d : decode M.2.1 pc = .ok (.getfield idx, 3)) (hk : rK σ a = (c + 3, 0)) (kk : rE M k (pc + 3) ls (.long (rL σ a j) :: st) σ kc ks o τ) : rE M k pc ls (.ref a :: st) σ kc ks o τ := by
  intro l p e R s m args below meth c0 G ad0 n0 ad H locs cells slots la C h3 hn ha hc hs hW hS hl hw
  have hal := rSt_h hw
  have h3a := rW_three hW hk hal.1
  refine va_get (D := gD G) (cl := vwCl) (tys := rT G) (ci := c) (C := C0) (T := T) (N := Nf) (ws := rws G σ ad) (v := .long (rL σ a j)) C.2.1 C.2.2.1 C.2.2.2.2.2.1 hcl.2.1 C.2.2.2.2.1 C.2.2.2.2.2.2.2.2.2.2.2.2.1 hW.2.1 (a - 3) (fs := rfs σ ad a c) (by rw [rws_at h3a hal.2, rc_obj hk]) hcl.1 j hj (C.2.2.2.2.2.1 _ hln) (fun _ h => h) ?_ d ?_
  · rw [rfs_at (by rw [hcl.2.2.2.2]; exact hj)]
    exact congrArg some (by rw [hty]; rfl)
  · exact kk l p e R s m args below meth c0 G ad0 n0 ad H locs cells slots la C h3 hn ha hc hs hW hS hl (rSt_c trivial (rSt_t hw))

theorem E_getR {M : rM} {k pc : Nat} {ls : List (Option Value)} {st : List Value} {σ τ : rS} {kc ks : Nat} {o : Option Value ⊕ String} {c : Nat} {C0 : String} {T : u_T} {Nf : Nat} {idx a : Nat} (hcl : rCl c C0 T Nf) (j : Nat) (hj : j < Nf) (hln : Cond.fieldLink M.1 idx (T j).1 (T j).2.1 (T j).2.2.1 ∈ rWd) (hty : (∃ n, rTy c j = .object n) ∨ ∃ t, rTy c j = .array t) (d : decode M.2.1 pc = .ok (.getfield idx, 3)) (hk : rK σ a = (c + 3, 0)) {b : Nat} (hb : rR σ a j = b) (hb0 : b ≠ 0) (kk : rE M k (pc + 3) ls (.ref b :: st) σ kc ks o τ) : rE M k pc ls (.ref a :: st) σ kc ks o τ := by
  intro l p e R s m args below meth c0 G ad0 n0 ad H locs cells slots la C h3 hn ha hc hs hW hS hl hw
  have hbb : b < rN σ := hb ▸ hW.2.2.2.2.2.2.2 a j
  have hal := rSt_h hw
  have h3a := rW_three hW hk hal.1
  refine va_get (D := gD G) (cl := vwCl) (tys := rT G) (ci := c) (C := C0) (T := T) (N := Nf) (ws := rws G σ ad) (v := .ref (ad b)) C.2.1 C.2.2.1 C.2.2.2.2.2.1 hcl.2.1 C.2.2.2.2.1 C.2.2.2.2.2.2.2.2.2.2.2.2.1 hW.2.1 (a - 3) (fs := rfs σ ad a c) (by rw [rws_at h3a hal.2, rc_obj hk]) hcl.1 j hj (C.2.2.2.2.2.1 _ hln) (fun _ h => h) ?_ d ?_
  · rw [rfs_at (by rw [hcl.2.2.2.2]; exact hj)]
    exact congrArg some (by rcases hty with ⟨n, q⟩ | ⟨t, q⟩ <;> rw [q] <;> simp [rv, va_rf, hb, hb0, tv])
  · exact kk l p e R s m args below meth c0 G ad0 n0 ad H locs cells slots la C h3 hn ha hc hs hW hS hl (rSt_c ⟨Nat.pos_of_ne_zero hb0, hbb⟩ (rSt_t hw))

theorem E_getIN {M : rM} {k pc : Nat} {ls : List (Option Value)} {st : List Value} {σ τ : rS} {kc ks : Nat} {o : Option Value ⊕ String} {c : Nat} {C0 : String} {T : u_T} {Nf : Nat} {idx a : Nat} {host : String} (hcl : rCl c C0 T Nf) (j : Nat) (hj : j < Nf) (hln : Cond.fieldLinkNest M.1 idx (T j).1 (T j).2.1 (T j).2.2.1 host ∈ rNw) (hty : rTy c j = .int ∨ rTy c j = .boolean) (d : decode M.2.1 pc = .ok (.getfield idx, 3)) (hk : rK σ a = (c + 3, 0)) (kk : rE M k (pc + 3) ls (.int (rI σ a j) :: st) σ kc ks o τ) : rE M k pc ls (.ref a :: st) σ kc ks o τ := by
  intro l p e R s m args below meth c0 G ad0 n0 ad H locs cells slots la C h3 hn ha hc hs hW hS hl hw
  have hal := rSt_h hw
  have h3a := rW_three hW hk hal.1
  refine va_getN (D := gD G) (cl := vwCl) (tys := rT G) (ci := c) (C := C0) (T := T) (N := Nf) (ws := rws G σ ad) (v := .int (rI σ a j)) C.2.1 C.2.2.1 C.2.2.2.2.2.1 hcl.2.1 C.2.2.2.2.1 C.2.2.2.2.2.2.2.2.2.2.2.2.1 hW.2.1 (a - 3) (fs := rfs σ ad a c) (by rw [rws_at h3a hal.2, rc_obj hk]) hcl.1 j hj (va_Nw.use rfl (C.2.2.2.2.2.2.2.2.2.2.2.2.2.2.2.2.2.2.2.2 _ hln)) (fun _ h => h) ?_ d ?_
  · rw [rfs_at (by rw [hcl.2.2.2.2]; exact hj)]
    exact congrArg some (by rcases hty with q | q <;> rw [q] <;> rfl)
  · exact kk l p e R s m args below meth c0 G ad0 n0 ad H locs cells slots la C h3 hn ha hc hs hW hS hl (rSt_c trivial (rSt_t hw))

theorem E_getLN {M : rM} {k pc : Nat} {ls : List (Option Value)} {st : List Value} {σ τ : rS} {kc ks : Nat} {o : Option Value ⊕ String} {c : Nat} {C0 : String} {T : u_T} {Nf : Nat} {idx a : Nat} {host : String} (hcl : rCl c C0 T Nf) (j : Nat) (hj : j < Nf) (hln : Cond.fieldLinkNest M.1 idx (T j).1 (T j).2.1 (T j).2.2.1 host ∈ rNw) (hty : rTy c j = .long) (d : decode M.2.1 pc = .ok (.getfield idx, 3)) (hk : rK σ a = (c + 3, 0)) (kk : rE M k (pc + 3) ls (.long (rL σ a j) :: st) σ kc ks o τ) : rE M k pc ls (.ref a :: st) σ kc ks o τ := by
  intro l p e R s m args below meth c0 G ad0 n0 ad H locs cells slots la C h3 hn ha hc hs hW hS hl hw
  have hal := rSt_h hw
  have h3a := rW_three hW hk hal.1
  refine va_getN (D := gD G) (cl := vwCl) (tys := rT G) (ci := c) (C := C0) (T := T) (N := Nf) (ws := rws G σ ad) (v := .long (rL σ a j)) C.2.1 C.2.2.1 C.2.2.2.2.2.1 hcl.2.1 C.2.2.2.2.1 C.2.2.2.2.2.2.2.2.2.2.2.2.1 hW.2.1 (a - 3) (fs := rfs σ ad a c) (by rw [rws_at h3a hal.2, rc_obj hk]) hcl.1 j hj (va_Nw.use rfl (C.2.2.2.2.2.2.2.2.2.2.2.2.2.2.2.2.2.2.2.2 _ hln)) (fun _ h => h) ?_ d ?_
  · rw [rfs_at (by rw [hcl.2.2.2.2]; exact hj)]
    exact congrArg some (by rw [hty]; rfl)
  · exact kk l p e R s m args below meth c0 G ad0 n0 ad H locs cells slots la C h3 hn ha hc hs hW hS hl (rSt_c trivial (rSt_t hw))

theorem E_getRN {M : rM} {k pc : Nat} {ls : List (Option Value)} {st : List Value} {σ τ : rS} {kc ks : Nat} {o : Option Value ⊕ String} {c : Nat} {C0 : String} {T : u_T} {Nf : Nat} {idx a : Nat} {host : String} (hcl : rCl c C0 T Nf) (j : Nat) (hj : j < Nf) (hln : Cond.fieldLinkNest M.1 idx (T j).1 (T j).2.1 (T j).2.2.1 host ∈ rNw) (hty : (∃ n, rTy c j = .object n) ∨ ∃ t, rTy c j = .array t) (d : decode M.2.1 pc = .ok (.getfield idx, 3)) (hk : rK σ a = (c + 3, 0)) {b : Nat} (hb : rR σ a j = b) (hb0 : b ≠ 0) (kk : rE M k (pc + 3) ls (.ref b :: st) σ kc ks o τ) : rE M k pc ls (.ref a :: st) σ kc ks o τ := by
  intro l p e R s m args below meth c0 G ad0 n0 ad H locs cells slots la C h3 hn ha hc hs hW hS hl hw
  have hbb : b < rN σ := hb ▸ hW.2.2.2.2.2.2.2 a j
  have hal := rSt_h hw
  have h3a := rW_three hW hk hal.1
  refine va_getN (D := gD G) (cl := vwCl) (tys := rT G) (ci := c) (C := C0) (T := T) (N := Nf) (ws := rws G σ ad) (v := .ref (ad b)) C.2.1 C.2.2.1 C.2.2.2.2.2.1 hcl.2.1 C.2.2.2.2.1 C.2.2.2.2.2.2.2.2.2.2.2.2.1 hW.2.1 (a - 3) (fs := rfs σ ad a c) (by rw [rws_at h3a hal.2, rc_obj hk]) hcl.1 j hj (va_Nw.use rfl (C.2.2.2.2.2.2.2.2.2.2.2.2.2.2.2.2.2.2.2.2 _ hln)) (fun _ h => h) ?_ d ?_
  · rw [rfs_at (by rw [hcl.2.2.2.2]; exact hj)]
    exact congrArg some (by rcases hty with ⟨n, q⟩ | ⟨t, q⟩ <;> rw [q] <;> simp [rv, va_rf, hb, hb0, tv])
  · exact kk l p e R s m args below meth c0 G ad0 n0 ad H locs cells slots la C h3 hn ha hc hs hW hS hl (rSt_c ⟨Nat.pos_of_ne_zero hb0, hbb⟩ (rSt_t hw))

theorem E_putI {M : rM} {k pc : Nat} {ls : List (Option Value)} {st : List Value} {σ τ : rS} {kc ks : Nat} {o : Option Value ⊕ String} {c : Nat} {C0 : String} {T : u_T} {Nf : Nat} {idx a : Nat} {v : Int32} (hcl : rCl c C0 T Nf) (j : Nat) (hj : j < Nf) (hln : Cond.fieldLink M.1 idx (T j).1 (T j).2.1 (T j).2.2.1 ∈ rWd) (hty : rTy c j = .int ∨ (rTy c j = .boolean ∧ (v = 0 ∨ v = 1))) (hfin : (T j).2.2.2 = false) (d : decode M.2.1 pc = .ok (.putfield idx, 3)) (hk : rK σ a = (c + 3, 0)) (kk : rE M k (pc + 3) ls st (wI σ a j v) kc ks o τ) : rE M k pc ls (.int v :: .ref a :: st) σ kc ks o τ := by
  intro l p e R s m args below meth c0 G ad0 n0 ad H locs cells slots la C h3 hn ha hc hs hW hS hl hw
  have hal := rSt_h (rSt_t hw)
  have h3a := rW_three hW hk hal.1
  have hjF : j < rF c := by rw [hcl.2.2.2.2]; exact hj
  refine va_put (D := gD G) (cl := vwCl) (tys := rT G) (ci := c) (C := C0) (T := T) (N := Nf) (ws := rws G σ ad) (v := .int v) (ty := rTy c j) C.2.1 C.2.2.1 C.2.2.2.2.2.1 hcl.2.1 (rTy c) hcl.2.2.1 hcl.2.2.2.1 C.2.2.2.2.1 C.2.2.2.2.2.2.2.2.2.2.2.2.1 hW.2.1 hW.2.2.1 hS (a - 3) (fs := rfs σ ad a c) (by rw [rws_at h3a hal.2, rc_obj hk]) hcl.1 j hj (C.2.2.2.2.2.1 _ hln) (fun _ h => h) hfin (hcl.2.2.1 j hj) ?_ ?_ (by rw [rfs_len]; exact hjF) d (fun H1 locs1 hP1 hD1 hS1 => ?_)
  · rcases hty with q | ⟨q, rfl | rfl⟩ <;> rw [q] <;> first | rfl | decide
  · rcases hty with q | ⟨q, rfl | rfl⟩ <;> rw [q] <;> first | rfl | decide
  have hW1 : rW G ad (wI σ a j v) H1 := rW_put hW h3a rfl rfl (fun b hb => by first | rfl | exact up_other _ _ hb) (fun b hb => by first | rfl | exact up_other _ _ hb) (fun b hb => by first | rfl | exact up_other _ _ hb) (fun j => hW.2.2.2.2.2.2.2 a j)
    (by rw [rc_obj (show rK (wI σ a j v) a = (c + 3, 0) from hk)]; exact congrArg (fun q => (Sum.inr (c, q) : va_E)) (rfs_set (σ := σ) hjF (by rcases hty with q | ⟨q, -⟩ <;> rw [q] <;> exact congrArg Value.int (rI_s _ _ _ _)) (fun i hi => rv_oI _ _ _ _ _ hi)).symm) hP1 hD1
  exact kk l p e R s m args below meth c0 G ad0 n0 ad H1 locs1 cells slots la C h3 hn ha hc hs hW1 hS1 hl (rSt_t (rSt_t hw))

theorem E_putL {M : rM} {k pc : Nat} {ls : List (Option Value)} {st : List Value} {σ τ : rS} {kc ks : Nat} {o : Option Value ⊕ String} {c : Nat} {C0 : String} {T : u_T} {Nf : Nat} {idx a : Nat} {v : Int64} (hcl : rCl c C0 T Nf) (j : Nat) (hj : j < Nf) (hln : Cond.fieldLink M.1 idx (T j).1 (T j).2.1 (T j).2.2.1 ∈ rWd) (hty : rTy c j = .long) (hfin : (T j).2.2.2 = false) (d : decode M.2.1 pc = .ok (.putfield idx, 3)) (hk : rK σ a = (c + 3, 0)) (kk : rE M k (pc + 3) ls st (wL σ a j v) kc ks o τ) : rE M k pc ls (.long v :: .ref a :: st) σ kc ks o τ := by
  intro l p e R s m args below meth c0 G ad0 n0 ad H locs cells slots la C h3 hn ha hc hs hW hS hl hw
  have hal := rSt_h (rSt_t hw)
  have h3a := rW_three hW hk hal.1
  have hjF : j < rF c := by rw [hcl.2.2.2.2]; exact hj
  refine va_put (D := gD G) (cl := vwCl) (tys := rT G) (ci := c) (C := C0) (T := T) (N := Nf) (ws := rws G σ ad) (v := .long v) (ty := rTy c j) C.2.1 C.2.2.1 C.2.2.2.2.2.1 hcl.2.1 (rTy c) hcl.2.2.1 hcl.2.2.2.1 C.2.2.2.2.1 C.2.2.2.2.2.2.2.2.2.2.2.2.1 hW.2.1 hW.2.2.1 hS (a - 3) (fs := rfs σ ad a c) (by rw [rws_at h3a hal.2, rc_obj hk]) hcl.1 j hj (C.2.2.2.2.2.1 _ hln) (fun _ h => h) hfin (hcl.2.2.1 j hj) ?_ ?_ (by rw [rfs_len]; exact hjF) d (fun H1 locs1 hP1 hD1 hS1 => ?_)
  · rw [hty]; rfl
  · rw [hty]; rfl
  have hW1 : rW G ad (wL σ a j v) H1 := rW_put hW h3a rfl rfl (fun b hb => by first | rfl | exact up_other _ _ hb) (fun b hb => by first | rfl | exact up_other _ _ hb) (fun b hb => by first | rfl | exact up_other _ _ hb) (fun j => hW.2.2.2.2.2.2.2 a j)
    (by rw [rc_obj (show rK (wL σ a j v) a = (c + 3, 0) from hk)]; exact congrArg (fun q => (Sum.inr (c, q) : va_E)) (rfs_set (σ := σ) hjF (by rw [hty]; exact congrArg Value.long (rL_s _ _ _ _)) (fun i hi => rv_oL _ _ _ _ _ hi)).symm) hP1 hD1
  exact kk l p e R s m args below meth c0 G ad0 n0 ad H1 locs1 cells slots la C h3 hn ha hc hs hW1 hS1 hl (rSt_t (rSt_t hw))

theorem E_putR {M : rM} {k pc : Nat} {ls : List (Option Value)} {st : List Value} {σ τ : rS} {kc ks : Nat} {o : Option Value ⊕ String} {c : Nat} {C0 : String} {T : u_T} {Nf : Nat} {idx a : Nat} {v : Nat} (hcl : rCl c C0 T Nf) (j : Nat) (hj : j < Nf) (hln : Cond.fieldLink M.1 idx (T j).1 (T j).2.1 (T j).2.2.1 ∈ rWd) (hty : (∃ n, rTy c j = .object n) ∨ ∃ t, rTy c j = .array t) (hfin : (T j).2.2.2 = false) (d : decode M.2.1 pc = .ok (.putfield idx, 3)) (hk : rK σ a = (c + 3, 0)) (kk : rE M k (pc + 3) ls st (wR σ a j v) kc ks o τ) : rE M k pc ls (.ref v :: .ref a :: st) σ kc ks o τ := by
  intro l p e R s m args below meth c0 G ad0 n0 ad H locs cells slots la C h3 hn ha hc hs hW hS hl hw
  have hal := rSt_h (rSt_t hw)
  have h3a := rW_three hW hk hal.1
  have hjF : j < rF c := by rw [hcl.2.2.2.2]; exact hj
  refine va_put (D := gD G) (cl := vwCl) (tys := rT G) (ci := c) (C := C0) (T := T) (N := Nf) (ws := rws G σ ad) (v := .ref (ad v)) (ty := rTy c j) C.2.1 C.2.2.1 C.2.2.2.2.2.1 hcl.2.1 (rTy c) hcl.2.2.1 hcl.2.2.2.1 C.2.2.2.2.1 C.2.2.2.2.2.2.2.2.2.2.2.2.1 hW.2.1 hW.2.2.1 hS (a - 3) (fs := rfs σ ad a c) (by rw [rws_at h3a hal.2, rc_obj hk]) hcl.1 j hj (C.2.2.2.2.2.1 _ hln) (fun _ h => h) hfin (hcl.2.2.1 j hj) ?_ ?_ (by rw [rfs_len]; exact hjF) d (fun H1 locs1 hP1 hD1 hS1 => ?_)
  · rcases hty with ⟨n, q⟩ | ⟨t, q⟩ <;> rw [q] <;> rfl
  · rcases hty with ⟨n, q⟩ | ⟨t, q⟩ <;> rw [q] <;> rfl
  have hW1 : rW G ad (wR σ a j v) H1 := rW_put hW h3a rfl rfl (fun b hb => by first | rfl | exact up_other _ _ hb) (fun b hb => by first | rfl | exact up_other _ _ hb) (fun b hb => by first | rfl | exact up_other _ _ hb) (fun i => by
    show va_up (rR σ) a (va_up (rR σ a) j v) a i < rN σ
    rw [up_same]
    by_cases hi : i = j
    · subst hi; rw [up_same]; exact (rSt_h hw).2
    · rw [up_other _ _ hi]; exact hW.2.2.2.2.2.2.2 a i)
    (by rw [rc_obj (show rK (wR σ a j v) a = (c + 3, 0) from hk)]; exact congrArg (fun q => (Sum.inr (c, q) : va_E)) (rfs_set (σ := σ) hjF (by rcases hty with ⟨n, q⟩ | ⟨t, q⟩ <;> rw [q] <;> simp only [rv, rR_s, if_neg (Nat.pos_iff_ne_zero.mp (rSt_h hw).1)] <;> rfl) (fun i hi => rv_oR _ _ _ _ _ hi)).symm) hP1 hD1
  exact kk l p e R s m args below meth c0 G ad0 n0 ad H1 locs1 cells slots la C h3 hn ha hc hs hW1 hS1 hl (rSt_t (rSt_t hw))

theorem E_putIN {M : rM} {k pc : Nat} {ls : List (Option Value)} {st : List Value} {σ τ : rS} {kc ks : Nat} {o : Option Value ⊕ String} {c : Nat} {C0 : String} {T : u_T} {Nf : Nat} {idx a : Nat} {host : String} {v : Int32} (hcl : rCl c C0 T Nf) (j : Nat) (hj : j < Nf) (hln : Cond.fieldLinkNest M.1 idx (T j).1 (T j).2.1 (T j).2.2.1 host ∈ rNw) (hty : rTy c j = .int ∨ (rTy c j = .boolean ∧ (v = 0 ∨ v = 1))) (hfin : (T j).2.2.2 = false) (d : decode M.2.1 pc = .ok (.putfield idx, 3)) (hk : rK σ a = (c + 3, 0)) (kk : rE M k (pc + 3) ls st (wI σ a j v) kc ks o τ) : rE M k pc ls (.int v :: .ref a :: st) σ kc ks o τ := by
  intro l p e R s m args below meth c0 G ad0 n0 ad H locs cells slots la C h3 hn ha hc hs hW hS hl hw
  have hal := rSt_h (rSt_t hw)
  have h3a := rW_three hW hk hal.1
  have hjF : j < rF c := by rw [hcl.2.2.2.2]; exact hj
  refine va_putN (D := gD G) (cl := vwCl) (tys := rT G) (ci := c) (C := C0) (T := T) (N := Nf) (ws := rws G σ ad) (v := .int v) (ty := rTy c j) C.2.1 C.2.2.1 C.2.2.2.2.2.1 hcl.2.1 (rTy c) hcl.2.2.1 hcl.2.2.2.1 C.2.2.2.2.1 C.2.2.2.2.2.2.2.2.2.2.2.2.1 hW.2.1 hW.2.2.1 hS (a - 3) (fs := rfs σ ad a c) (by rw [rws_at h3a hal.2, rc_obj hk]) hcl.1 j hj (va_Nw.use rfl (C.2.2.2.2.2.2.2.2.2.2.2.2.2.2.2.2.2.2.2.2 _ hln)) (fun _ h => h) hfin (hcl.2.2.1 j hj) ?_ ?_ (by rw [rfs_len]; exact hjF) d (fun H1 locs1 hP1 hD1 hS1 => ?_)
  · rcases hty with q | ⟨q, rfl | rfl⟩ <;> rw [q] <;> first | rfl | decide
  · rcases hty with q | ⟨q, rfl | rfl⟩ <;> rw [q] <;> first | rfl | decide
  have hW1 : rW G ad (wI σ a j v) H1 := rW_put hW h3a rfl rfl (fun b hb => by first | rfl | exact up_other _ _ hb) (fun b hb => by first | rfl | exact up_other _ _ hb) (fun b hb => by first | rfl | exact up_other _ _ hb) (fun j => hW.2.2.2.2.2.2.2 a j)
    (by rw [rc_obj (show rK (wI σ a j v) a = (c + 3, 0) from hk)]; exact congrArg (fun q => (Sum.inr (c, q) : va_E)) (rfs_set (σ := σ) hjF (by rcases hty with q | ⟨q, -⟩ <;> rw [q] <;> exact congrArg Value.int (rI_s _ _ _ _)) (fun i hi => rv_oI _ _ _ _ _ hi)).symm) hP1 hD1
  exact kk l p e R s m args below meth c0 G ad0 n0 ad H1 locs1 cells slots la C h3 hn ha hc hs hW1 hS1 hl (rSt_t (rSt_t hw))

theorem E_putLN {M : rM} {k pc : Nat} {ls : List (Option Value)} {st : List Value} {σ τ : rS} {kc ks : Nat} {o : Option Value ⊕ String} {c : Nat} {C0 : String} {T : u_T} {Nf : Nat} {idx a : Nat} {host : String} {v : Int64} (hcl : rCl c C0 T Nf) (j : Nat) (hj : j < Nf) (hln : Cond.fieldLinkNest M.1 idx (T j).1 (T j).2.1 (T j).2.2.1 host ∈ rNw) (hty : rTy c j = .long) (hfin : (T j).2.2.2 = false) (d : decode M.2.1 pc = .ok (.putfield idx, 3)) (hk : rK σ a = (c + 3, 0)) (kk : rE M k (pc + 3) ls st (wL σ a j v) kc ks o τ) : rE M k pc ls (.long v :: .ref a :: st) σ kc ks o τ := by
  intro l p e R s m args below meth c0 G ad0 n0 ad H locs cells slots la C h3 hn ha hc hs hW hS hl hw
  have hal := rSt_h (rSt_t hw)
  have h3a := rW_three hW hk hal.1
  have hjF : j < rF c := by rw [hcl.2.2.2.2]; exact hj
  refine va_putN (D := gD G) (cl := vwCl) (tys := rT G) (ci := c) (C := C0) (T := T) (N := Nf) (ws := rws G σ ad) (v := .long v) (ty := rTy c j) C.2.1 C.2.2.1 C.2.2.2.2.2.1 hcl.2.1 (rTy c) hcl.2.2.1 hcl.2.2.2.1 C.2.2.2.2.1 C.2.2.2.2.2.2.2.2.2.2.2.2.1 hW.2.1 hW.2.2.1 hS (a - 3) (fs := rfs σ ad a c) (by rw [rws_at h3a hal.2, rc_obj hk]) hcl.1 j hj (va_Nw.use rfl (C.2.2.2.2.2.2.2.2.2.2.2.2.2.2.2.2.2.2.2.2 _ hln)) (fun _ h => h) hfin (hcl.2.2.1 j hj) ?_ ?_ (by rw [rfs_len]; exact hjF) d (fun H1 locs1 hP1 hD1 hS1 => ?_)
  · rw [hty]; rfl
  · rw [hty]; rfl
  have hW1 : rW G ad (wL σ a j v) H1 := rW_put hW h3a rfl rfl (fun b hb => by first | rfl | exact up_other _ _ hb) (fun b hb => by first | rfl | exact up_other _ _ hb) (fun b hb => by first | rfl | exact up_other _ _ hb) (fun j => hW.2.2.2.2.2.2.2 a j)
    (by rw [rc_obj (show rK (wL σ a j v) a = (c + 3, 0) from hk)]; exact congrArg (fun q => (Sum.inr (c, q) : va_E)) (rfs_set (σ := σ) hjF (by rw [hty]; exact congrArg Value.long (rL_s _ _ _ _)) (fun i hi => rv_oL _ _ _ _ _ hi)).symm) hP1 hD1
  exact kk l p e R s m args below meth c0 G ad0 n0 ad H1 locs1 cells slots la C h3 hn ha hc hs hW1 hS1 hl (rSt_t (rSt_t hw))

theorem E_putRN {M : rM} {k pc : Nat} {ls : List (Option Value)} {st : List Value} {σ τ : rS} {kc ks : Nat} {o : Option Value ⊕ String} {c : Nat} {C0 : String} {T : u_T} {Nf : Nat} {idx a : Nat} {host : String} {v : Nat} (hcl : rCl c C0 T Nf) (j : Nat) (hj : j < Nf) (hln : Cond.fieldLinkNest M.1 idx (T j).1 (T j).2.1 (T j).2.2.1 host ∈ rNw) (hty : (∃ n, rTy c j = .object n) ∨ ∃ t, rTy c j = .array t) (hfin : (T j).2.2.2 = false) (d : decode M.2.1 pc = .ok (.putfield idx, 3)) (hk : rK σ a = (c + 3, 0)) (kk : rE M k (pc + 3) ls st (wR σ a j v) kc ks o τ) : rE M k pc ls (.ref v :: .ref a :: st) σ kc ks o τ := by
  intro l p e R s m args below meth c0 G ad0 n0 ad H locs cells slots la C h3 hn ha hc hs hW hS hl hw
  have hal := rSt_h (rSt_t hw)
  have h3a := rW_three hW hk hal.1
  have hjF : j < rF c := by rw [hcl.2.2.2.2]; exact hj
  refine va_putN (D := gD G) (cl := vwCl) (tys := rT G) (ci := c) (C := C0) (T := T) (N := Nf) (ws := rws G σ ad) (v := .ref (ad v)) (ty := rTy c j) C.2.1 C.2.2.1 C.2.2.2.2.2.1 hcl.2.1 (rTy c) hcl.2.2.1 hcl.2.2.2.1 C.2.2.2.2.1 C.2.2.2.2.2.2.2.2.2.2.2.2.1 hW.2.1 hW.2.2.1 hS (a - 3) (fs := rfs σ ad a c) (by rw [rws_at h3a hal.2, rc_obj hk]) hcl.1 j hj (va_Nw.use rfl (C.2.2.2.2.2.2.2.2.2.2.2.2.2.2.2.2.2.2.2.2 _ hln)) (fun _ h => h) hfin (hcl.2.2.1 j hj) ?_ ?_ (by rw [rfs_len]; exact hjF) d (fun H1 locs1 hP1 hD1 hS1 => ?_)
  · rcases hty with ⟨n, q⟩ | ⟨t, q⟩ <;> rw [q] <;> rfl
  · rcases hty with ⟨n, q⟩ | ⟨t, q⟩ <;> rw [q] <;> rfl
  have hW1 : rW G ad (wR σ a j v) H1 := rW_put hW h3a rfl rfl (fun b hb => by first | rfl | exact up_other _ _ hb) (fun b hb => by first | rfl | exact up_other _ _ hb) (fun b hb => by first | rfl | exact up_other _ _ hb) (fun i => by
    show va_up (rR σ) a (va_up (rR σ a) j v) a i < rN σ
    rw [up_same]
    by_cases hi : i = j
    · subst hi; rw [up_same]; exact (rSt_h hw).2
    · rw [up_other _ _ hi]; exact hW.2.2.2.2.2.2.2 a i)
    (by rw [rc_obj (show rK (wR σ a j v) a = (c + 3, 0) from hk)]; exact congrArg (fun q => (Sum.inr (c, q) : va_E)) (rfs_set (σ := σ) hjF (by rcases hty with ⟨n, q⟩ | ⟨t, q⟩ <;> rw [q] <;> simp only [rv, rR_s, if_neg (Nat.pos_iff_ne_zero.mp (rSt_h hw).1)] <;> rfl) (fun i hi => rv_oR _ _ _ _ _ hi)).symm) hP1 hD1
  exact kk l p e R s m args below meth c0 G ad0 n0 ad H1 locs1 cells slots la C h3 hn ha hc hs hW1 hS1 hl (rSt_t (rSt_t hw))

theorem E_putIF {M : rM} {k pc : Nat} {ls : List (Option Value)} {st : List Value} {σ τ : rS} {kc ks : Nat} {o : Option Value ⊕ String} {c : Nat} {C0 : String} {T : u_T} {Nf : Nat} {idx a : Nat} {v : Int32} (hcl : rCl c C0 T Nf) (j : Nat) (hj : j < Nf) (hln : Cond.fieldLink M.1 idx (T j).1 (T j).2.1 (T j).2.2.1 ∈ rWd) (hty : rTy c j = .int ∨ (rTy c j = .boolean ∧ (v = 0 ∨ v = 1))) (hfin : (T j).2.2.2 = true) (hinit : M.2.2.2.2.1 = true) (hdc : (T j).1 = M.1) (d : decode M.2.1 pc = .ok (.putfield idx, 3)) (hk : rK σ a = (c + 3, 0)) (kk : rE M k (pc + 3) ls st (wI σ a j v) kc ks o τ) : rE M k pc ls (.int v :: .ref a :: st) σ kc ks o τ := by
  intro l p e R s m args below meth c0 G ad0 n0 ad H locs cells slots la C h3 hn ha hc hs hW hS hl hw
  have hal := rSt_h (rSt_t hw)
  have h3a := rW_three hW hk hal.1
  have hjF : j < rF c := by rw [hcl.2.2.2.2]; exact hj
  refine va_putF (D := gD G) (cl := vwCl) (tys := rT G) (ci := c) (C := C0) (T := T) (N := Nf) (ws := rws G σ ad) (v := .int v) (ty := rTy c j) C.2.1 C.2.2.1 C.2.2.2.2.2.1 hcl.2.1 (rTy c) hcl.2.2.1 hcl.2.2.2.1 C.2.2.2.2.1 C.2.2.2.2.2.2.2.2.2.2.2.2.1 hW.2.1 hW.2.2.1 hS (a - 3) (fs := rfs σ ad a c) (by rw [rws_at h3a hal.2, rc_obj hk]) hcl.1 j hj (C.2.2.2.2.2.1 _ hln) (fun _ h => h) hfin (C.2.2.2.2.2.2.2.2.1 hinit) hdc (hcl.2.2.1 j hj) ?_ ?_ (by rw [rfs_len]; exact hjF) d (fun H1 locs1 hP1 hD1 hS1 => ?_)
  · rcases hty with q | ⟨q, rfl | rfl⟩ <;> rw [q] <;> first | rfl | decide
  · rcases hty with q | ⟨q, rfl | rfl⟩ <;> rw [q] <;> first | rfl | decide
  have hW1 : rW G ad (wI σ a j v) H1 := rW_put hW h3a rfl rfl (fun b hb => by first | rfl | exact up_other _ _ hb) (fun b hb => by first | rfl | exact up_other _ _ hb) (fun b hb => by first | rfl | exact up_other _ _ hb) (fun j => hW.2.2.2.2.2.2.2 a j)
    (by rw [rc_obj (show rK (wI σ a j v) a = (c + 3, 0) from hk)]; exact congrArg (fun q => (Sum.inr (c, q) : va_E)) (rfs_set (σ := σ) hjF (by rcases hty with q | ⟨q, -⟩ <;> rw [q] <;> exact congrArg Value.int (rI_s _ _ _ _)) (fun i hi => rv_oI _ _ _ _ _ hi)).symm) hP1 hD1
  exact kk l p e R s m args below meth c0 G ad0 n0 ad H1 locs1 cells slots la C h3 hn ha hc hs hW1 hS1 hl (rSt_t (rSt_t hw))

theorem E_putLF {M : rM} {k pc : Nat} {ls : List (Option Value)} {st : List Value} {σ τ : rS} {kc ks : Nat} {o : Option Value ⊕ String} {c : Nat} {C0 : String} {T : u_T} {Nf : Nat} {idx a : Nat} {v : Int64} (hcl : rCl c C0 T Nf) (j : Nat) (hj : j < Nf) (hln : Cond.fieldLink M.1 idx (T j).1 (T j).2.1 (T j).2.2.1 ∈ rWd) (hty : rTy c j = .long) (hfin : (T j).2.2.2 = true) (hinit : M.2.2.2.2.1 = true) (hdc : (T j).1 = M.1) (d : decode M.2.1 pc = .ok (.putfield idx, 3)) (hk : rK σ a = (c + 3, 0)) (kk : rE M k (pc + 3) ls st (wL σ a j v) kc ks o τ) : rE M k pc ls (.long v :: .ref a :: st) σ kc ks o τ := by
  intro l p e R s m args below meth c0 G ad0 n0 ad H locs cells slots la C h3 hn ha hc hs hW hS hl hw
  have hal := rSt_h (rSt_t hw)
  have h3a := rW_three hW hk hal.1
  have hjF : j < rF c := by rw [hcl.2.2.2.2]; exact hj
  refine va_putF (D := gD G) (cl := vwCl) (tys := rT G) (ci := c) (C := C0) (T := T) (N := Nf) (ws := rws G σ ad) (v := .long v) (ty := rTy c j) C.2.1 C.2.2.1 C.2.2.2.2.2.1 hcl.2.1 (rTy c) hcl.2.2.1 hcl.2.2.2.1 C.2.2.2.2.1 C.2.2.2.2.2.2.2.2.2.2.2.2.1 hW.2.1 hW.2.2.1 hS (a - 3) (fs := rfs σ ad a c) (by rw [rws_at h3a hal.2, rc_obj hk]) hcl.1 j hj (C.2.2.2.2.2.1 _ hln) (fun _ h => h) hfin (C.2.2.2.2.2.2.2.2.1 hinit) hdc (hcl.2.2.1 j hj) ?_ ?_ (by rw [rfs_len]; exact hjF) d (fun H1 locs1 hP1 hD1 hS1 => ?_)
  · rw [hty]; rfl
  · rw [hty]; rfl
  have hW1 : rW G ad (wL σ a j v) H1 := rW_put hW h3a rfl rfl (fun b hb => by first | rfl | exact up_other _ _ hb) (fun b hb => by first | rfl | exact up_other _ _ hb) (fun b hb => by first | rfl | exact up_other _ _ hb) (fun j => hW.2.2.2.2.2.2.2 a j)
    (by rw [rc_obj (show rK (wL σ a j v) a = (c + 3, 0) from hk)]; exact congrArg (fun q => (Sum.inr (c, q) : va_E)) (rfs_set (σ := σ) hjF (by rw [hty]; exact congrArg Value.long (rL_s _ _ _ _)) (fun i hi => rv_oL _ _ _ _ _ hi)).symm) hP1 hD1
  exact kk l p e R s m args below meth c0 G ad0 n0 ad H1 locs1 cells slots la C h3 hn ha hc hs hW1 hS1 hl (rSt_t (rSt_t hw))

theorem E_putRF {M : rM} {k pc : Nat} {ls : List (Option Value)} {st : List Value} {σ τ : rS} {kc ks : Nat} {o : Option Value ⊕ String} {c : Nat} {C0 : String} {T : u_T} {Nf : Nat} {idx a : Nat} {v : Nat} (hcl : rCl c C0 T Nf) (j : Nat) (hj : j < Nf) (hln : Cond.fieldLink M.1 idx (T j).1 (T j).2.1 (T j).2.2.1 ∈ rWd) (hty : (∃ n, rTy c j = .object n) ∨ ∃ t, rTy c j = .array t) (hfin : (T j).2.2.2 = true) (hinit : M.2.2.2.2.1 = true) (hdc : (T j).1 = M.1) (d : decode M.2.1 pc = .ok (.putfield idx, 3)) (hk : rK σ a = (c + 3, 0)) (kk : rE M k (pc + 3) ls st (wR σ a j v) kc ks o τ) : rE M k pc ls (.ref v :: .ref a :: st) σ kc ks o τ := by
  intro l p e R s m args below meth c0 G ad0 n0 ad H locs cells slots la C h3 hn ha hc hs hW hS hl hw
  have hal := rSt_h (rSt_t hw)
  have h3a := rW_three hW hk hal.1
  have hjF : j < rF c := by rw [hcl.2.2.2.2]; exact hj
  refine va_putF (D := gD G) (cl := vwCl) (tys := rT G) (ci := c) (C := C0) (T := T) (N := Nf) (ws := rws G σ ad) (v := .ref (ad v)) (ty := rTy c j) C.2.1 C.2.2.1 C.2.2.2.2.2.1 hcl.2.1 (rTy c) hcl.2.2.1 hcl.2.2.2.1 C.2.2.2.2.1 C.2.2.2.2.2.2.2.2.2.2.2.2.1 hW.2.1 hW.2.2.1 hS (a - 3) (fs := rfs σ ad a c) (by rw [rws_at h3a hal.2, rc_obj hk]) hcl.1 j hj (C.2.2.2.2.2.1 _ hln) (fun _ h => h) hfin (C.2.2.2.2.2.2.2.2.1 hinit) hdc (hcl.2.2.1 j hj) ?_ ?_ (by rw [rfs_len]; exact hjF) d (fun H1 locs1 hP1 hD1 hS1 => ?_)
  · rcases hty with ⟨n, q⟩ | ⟨t, q⟩ <;> rw [q] <;> rfl
  · rcases hty with ⟨n, q⟩ | ⟨t, q⟩ <;> rw [q] <;> rfl
  have hW1 : rW G ad (wR σ a j v) H1 := rW_put hW h3a rfl rfl (fun b hb => by first | rfl | exact up_other _ _ hb) (fun b hb => by first | rfl | exact up_other _ _ hb) (fun b hb => by first | rfl | exact up_other _ _ hb) (fun i => by
    show va_up (rR σ) a (va_up (rR σ a) j v) a i < rN σ
    rw [up_same]
    by_cases hi : i = j
    · subst hi; rw [up_same]; exact (rSt_h hw).2
    · rw [up_other _ _ hi]; exact hW.2.2.2.2.2.2.2 a i)
    (by rw [rc_obj (show rK (wR σ a j v) a = (c + 3, 0) from hk)]; exact congrArg (fun q => (Sum.inr (c, q) : va_E)) (rfs_set (σ := σ) hjF (by rcases hty with ⟨n, q⟩ | ⟨t, q⟩ <;> rw [q] <;> simp only [rv, rR_s, if_neg (Nat.pos_iff_ne_zero.mp (rSt_h hw).1)] <;> rfl) (fun i hi => rv_oR _ _ _ _ _ hi)).symm) hP1 hD1
  exact kk l p e R s m args below meth c0 G ad0 n0 ad H1 locs1 cells slots la C h3 hn ha hc hs hW1 hS1 hl (rSt_t (rSt_t hw))

theorem E_iald {M : rM} {k pc : Nat} {ls : List (Option Value)} {st : List Value} {σ τ : rS} {kc ks : Nat} {o : Option Value ⊕ String} {a n : Nat} {i : Int32} (d : decode M.2.1 pc = .ok (.iaload, 1)) (hk : rK σ a = (0, n)) (hin : vp_in i n) (kk : rE M k (pc + 1) ls (.int (rI σ a i.toNatClampNeg) :: st) σ kc ks o τ) : rE M k pc ls (.int i :: .ref a :: st) σ kc ks o τ := by
  intro l p e R s m args below meth c0 G ad0 n0 ad H locs cells slots la C h3 hn ha hc hs hW hS hl hw
  have hal := rSt_h (rSt_t hw)
  have kk1 := kk l p e R s m args below meth c0 G ad0 n0 ad H locs cells slots la C h3 hn ha hc hs hW hS hl (rSt_c trivial (rSt_t (rSt_t hw)))
  rcases Nat.lt_or_ge a 3 with q | q
  · exact va_ti C.2.1 C.2.2.1 (rW_x hW C.2.2.2.2.2.2.2.2.2.2.2.2 h3 ha hal.1 q hk) hS hin rfl d kk1
  · exact va_iald (tys := rT G) C.2.1 C.2.2.1 C.2.2.2.2.2.2.2.2.2.2.2.2.1 (rW_ro hW q hal.2 hk) 0 0 rfl rfl hin d kk1
theorem E_lald {M : rM} {k pc : Nat} {ls : List (Option Value)} {st : List Value} {σ τ : rS} {kc ks : Nat} {o : Option Value ⊕ String} {a n : Nat} {i : Int32} (d : decode M.2.1 pc = .ok (.laload, 1)) (hk : rK σ a = (1, n)) (hin : vp_in i n) (kk : rE M k (pc + 1) ls (.long (rL σ a i.toNatClampNeg) :: st) σ kc ks o τ) : rE M k pc ls (.int i :: .ref a :: st) σ kc ks o τ := by
  intro l p e R s m args below meth c0 G ad0 n0 ad H locs cells slots la C h3 hn ha hc hs hW hS hl hw
  have hal := rSt_h (rSt_t hw)
  have h3a := rW_three hW hk hal.1
  exact va_lald (tys := rT G) C.2.1 C.2.2.1 C.2.2.2.2.2.2.2.2.2.2.2.2.1 hW.2.1 (a - 3) 1 (by rw [rws_at h3a hal.2, rc_long hk]) rfl hin d (kk l p e R s m args below meth c0 G ad0 n0 ad H locs cells slots la C h3 hn ha hc hs hW hS hl (rSt_c trivial (rSt_t (rSt_t hw))))
theorem E_alen {M : rM} {k pc : Nat} {ls : List (Option Value)} {st : List Value} {σ τ : rS} {kc ks : Nat} {o : Option Value ⊕ String} {a n t : Nat} {v : Int32} (d : decode M.2.1 pc = .ok (.arraylength, 1)) (hk : rK σ a = (t, n)) (ht : t < 2) (hv : Int32.ofNat n = v) (kk : rE M k (pc + 1) ls (.int v :: st) σ kc ks o τ) : rE M k pc ls (.ref a :: st) σ kc ks o τ := by
  intro l p e R s m args below meth c0 G ad0 n0 ad H locs cells slots la C h3 hn ha hc hs hW hS hl hw
  have hal := rSt_h hw
  have kk1 := kk l p e R s m args below meth c0 G ad0 n0 ad H locs cells slots la C h3 hn ha hc hs hW hS hl (rSt_c trivial (rSt_t hw))
  match t, ht, hk with
  | 0, _, hk =>
    rcases Nat.lt_or_ge a 3 with q | q
    · exact va_tlen C.2.1 C.2.2.1 (rW_x hW C.2.2.2.2.2.2.2.2.2.2.2.2 h3 ha hal.1 q hk) hS hv d kk1
    · exact va_alen (tys := rT G) C.2.1 C.2.2.1 C.2.2.2.2.2.2.2.2.2.2.2.2.1 (rW_ro hW q hal.2 hk) 0 0 (x := (n, .inl (rI σ a))) rfl rfl hv d kk1
  | 1, _, hk => exact va_alen (tys := rT G) C.2.1 C.2.2.1 C.2.2.2.2.2.2.2.2.2.2.2.2.1 hW.2.1 (a - 3) 1 (x := (n, .inr (.inl (rL σ a)))) (by rw [rws_at (rW_three hW hk hal.1) hal.2, rc_long hk]) rfl hv d kk1
theorem E_iast {M : rM} {k pc : Nat} {ls : List (Option Value)} {st : List Value} {σ τ : rS} {kc ks : Nat} {o : Option Value ⊕ String} {a n : Nat} {i x : Int32} (d : decode M.2.1 pc = .ok (.iastore, 1)) (hk : rK σ a = (0, n)) (h3a : 3 ≤ a) (hin : vp_in i n) (kk : rE M k (pc + 1) ls st (wI σ a i.toNatClampNeg x) kc ks o τ) : rE M k pc ls (.int x :: .int i :: .ref a :: st) σ kc ks o τ := by
  intro l p e R s m args below meth c0 G ad0 n0 ad H locs cells slots la C h3 hn ha hc hs hW hS hl hw
  have hal := rSt_h (rSt_t (rSt_t hw))
  refine va_iast (tys := rT G) C.2.1 C.2.2.1 C.2.2.2.2.2.2.2.2.2.2.2.2.1 hW.2.1 hW.2.2.1 hS (a - 3) 0 (by rw [rws_at h3a hal.2, rc_int hk]) rfl hin d (fun H1 locs1 hP1 hD1 hS1 => ?_)
  have hW1 : rW G ad (wI σ a i.toNatClampNeg x) H1 := rW_put hW h3a rfl rfl (fun b hb => up_other _ _ hb) (fun b hb => rfl) (fun b hb => rfl) (fun j => hW.2.2.2.2.2.2.2 a j) (by rw [rc_int (show rK (wI σ a i.toNatClampNeg x) a = (0, n) from hk)]; rw [rI_wI, up_same, upd_up]) hP1 hD1
  exact kk l p e R s m args below meth c0 G ad0 n0 ad H1 locs1 cells slots la C h3 hn ha hc hs hW1 hS1 hl (rSt_t (rSt_t (rSt_t hw)))
theorem E_last {M : rM} {k pc : Nat} {ls : List (Option Value)} {st : List Value} {σ τ : rS} {kc ks : Nat} {o : Option Value ⊕ String} {a n : Nat} {i : Int32} {x : Int64} (d : decode M.2.1 pc = .ok (.lastore, 1)) (hk : rK σ a = (1, n)) (hin : vp_in i n) (kk : rE M k (pc + 1) ls st (wL σ a i.toNatClampNeg x) kc ks o τ) : rE M k pc ls (.long x :: .int i :: .ref a :: st) σ kc ks o τ := by
  intro l p e R s m args below meth c0 G ad0 n0 ad H locs cells slots la C h3 hn ha hc hs hW hS hl hw
  have hal := rSt_h (rSt_t (rSt_t hw))
  have h3a := rW_three hW hk hal.1
  refine va_last (tys := rT G) C.2.1 C.2.2.1 C.2.2.2.2.2.2.2.2.2.2.2.2.1 hW.2.1 hW.2.2.1 hS (a - 3) 1 (by rw [rws_at h3a hal.2, rc_long hk]) rfl hin d (fun H1 locs1 hP1 hD1 hS1 => ?_)
  have hW1 : rW G ad (wL σ a i.toNatClampNeg x) H1 := rW_put hW h3a rfl rfl (fun b hb => rfl) (fun b hb => up_other _ _ hb) (fun b hb => rfl) (fun j => hW.2.2.2.2.2.2.2 a j) (by rw [rc_long (show rK (wL σ a i.toNatClampNeg x) a = (1, n) from hk)]; rw [rL_wL, up_same]; rfl) hP1 hD1
  exact kk l p e R s m args below meth c0 G ad0 n0 ad H1 locs1 cells slots la C h3 hn ha hc hs hW1 hS1 hl (rSt_t (rSt_t (rSt_t hw)))
theorem E_getsN {M : rM} {k pc : Nat} {ls : List (Option Value)} {st : List Value} {σ τ : rS} {kc ks : Nat} {o : Option Value ⊕ String} {idx : Nat} {host : String} (hln : Cond.fieldLinkNest M.1 idx "Rackword" "GROUPS" "[I" host ∈ rNw) (d : decode M.2.1 pc = .ok (.getstatic idx, 3)) (kk : rE M k (pc + 3) ls (.ref 1 :: st) σ kc ks o τ) : rE M k pc ls st σ kc ks o τ := by
  intro l p e R s m args below meth c0 G ad0 n0 ad H locs cells slots la C h3 hn ha hc hs hW hS hl hw
  refine va_getsN C.2.1 C.2.2.1 C.2.2.2.2.2.2.2.2.2.2.2.2.2.1 hS C.2.2.2.2.1 (va_Nw.use rfl (C.2.2.2.2.2.2.2.2.2.2.2.2.2.2.2.2.2.2.2.2 _ hln)) (fun _ h => h) d ?_
  have e9 : (Value.ref (ad0 1)) = tv ad (.ref 1) := congrArg Value.ref (ha 1 (by omega)).symm
  rw [e9]
  exact kk l p e R s m args below meth c0 G ad0 n0 ad H locs cells slots la C h3 hn ha hc hs hW hS hl (rSt_c ⟨by decide, Nat.lt_of_lt_of_le (by decide) hW.1⟩ hw)
theorem E_objInit {M : rM} {k pc : Nat} {ls : List (Option Value)} {st : List Value} {σ τ : rS} {kc ks : Nat} {o : Option Value ⊕ String} {idx a : Nat} (hln : Cond.methodLink M.1 idx Lib.objectInit ∈ rWd) (hi : Cond.instanceMethod Lib.objectInit ∈ rWd) (hcd : Cond.code Lib.objectInit ⟨#[0xb1]⟩ 1 none ∈ rWd) (hk1 : 1 ≤ k) (hst : (st.map fun v => v.category).sum ≤ 8) (d : decode M.2.1 pc = .ok (.invokespecial idx, 3)) (kk : rE M k (pc + 3) ls st σ kc ks o τ) : rE M k pc ls (.ref a :: st) σ kc ks o τ := by
  intro l p e R s m args below meth c0 G ad0 n0 ad H locs cells slots la C h3 hn ha hc hs hW hS hl hw
  have hkf := C.2.2.2.2.2.2.2.2.2.2.1
  have hkl := C.2.2.2.2.2.2.2.2.2.2.2.1
  have e9 : ((st.map (tv ad)).map fun v => v.category).sum = (st.map fun v => v.category).sum := by
    rw [List.map_map]
    congr 1
    exact List.map_congr_left fun v _ => tv_cat ad v
  refine W.objInit C.2.1 C.2.2.1 C.2.2.2.2.1 (C.2.2.2.2.2.1 _ hln) (C.2.2.2.2.2.1 _ hi) (C.2.2.2.2.2.1 _ hcd) rfl (hl.1.trans C.2.2.2.1.symm) rfl d (by omega) ?_ ?_
  · have : 2 * (F0 m pc la (List.map (tv ad) (.ref a :: st))).monitorRoom = 0 := by simp [JFrame.monitorRoom]
    rw [this]
    omega
  · exact kk l p e R s m args below meth c0 G ad0 n0 ad H locs cells slots la C h3 hn ha hc hs hW hS hl (rSt_t hw)

/-- one cell more -/
theorem rws_new {G : rG} {σ : rS} {ad : Nat → Nat} {q : Nat × Nat} {x : Nat} {ce : va_E} (h3 : 3 ≤ rN σ) (hR : ∀ a k, rR σ a k < rN σ) (hce : rc G (wN σ q) (va_up ad (rN σ) x) (rN σ) = ce) : rws G (wN σ q) (va_up ad (rN σ) x) = rws G σ ad ++ [(x, ce)] := by
  subst hce
  have e : rN (wN σ q) - 3 = (rN σ - 3) + 1 := by show rN σ + 1 - 3 = _; omega
  unfold rws
  rw [e, List.range_succ, List.map_append]
  congr 1
  · refine List.map_congr_left fun i hi => ?_
    have hi := List.mem_range.mp hi
    have hne : i + 3 ≠ rN σ := by omega
    have e1 : rc G (wN σ q) (va_up ad (rN σ) x) (i + 3) = rc G σ (va_up ad (rN σ) x) (i + 3) := rc_cong (up_other _ _ hne) (up_other _ _ hne) (up_other _ _ hne) (up_other _ _ hne)
    rw [e1, up_other _ _ hne]
    congr 1
    unfold rc rfs rv
    have e2 : ∀ k, va_up ad (rN σ) x (rR σ (i + 3) k) = ad (rR σ (i + 3) k) := fun k => up_other _ _ (Nat.ne_of_lt (hR _ _))
    simp only [e2]
  · simp only [List.map_cons, List.map_nil]
    rw [show rN σ - 3 + 3 = rN σ by omega, up_same]
theorem rW_new {G : rG} {σ : rS} {ad : Nat → Nat} {q : Nat × Nat} {x : Nat} {ce : va_E} {H H1 : Heap} (hW : rW G ad σ H) (hce : rc G (wN σ q) (va_up ad (rN σ) x) (rN σ) = ce) (hP : va_P (gD G) vwCl (rws G σ ad ++ [(x, ce)]) H1) (hD : va_D (rA G) (rws G σ ad ++ [(x, ce)])) : rW G (va_up ad (rN σ) x) (wN σ q) H1 := by
  obtain ⟨q0, -, -, q1, q2, q3, q4, q5⟩ := hW
  rw [← rws_new q0 q5 hce] at hP hD
  have n1 : 1 ≠ rN σ := by omega
  have n2 : 2 ≠ rN σ := by omega
  refine ⟨Nat.le_succ_of_le q0, hP, hD, (up_other _ _ n1).trans q1, (up_other _ _ n1).trans q2, (up_other _ _ n2).trans q3, (up_other _ _ n2).trans q4, fun a j => ?_⟩
  show va_up (rR σ) (rN σ) (fun _ => 0) a j < rN σ + 1
  by_cases h : a = rN σ
  · subst h; rw [up_same]; omega
  · rw [up_other _ _ h]; exact Nat.lt_succ_of_lt (q5 a j)
def rOk (t : FieldType) : Bool := match t with
  | .float => false
  | .double => false
  | _ => true
theorem rv_new (σ : rS) (ad : Nat → Nat) {q : Nat × Nat} {j : Nat} {t : FieldType} (h : rOk t = true) : defaultValue t = rv (wN σ q) ad (rN σ) j t := by
  have e1 : rI (wN σ q) (rN σ) j = 0 := congrFun (up_same (rI σ) (rN σ) _) j
  have e2 : rL (wN σ q) (rN σ) j = 0 := congrFun (up_same (rL σ) (rN σ) _) j
  have e3 : rR (wN σ q) (rN σ) j = 0 := congrFun (up_same (rR σ) (rN σ) _) j
  unfold rv
  rw [e1, e2, e3]
  cases t <;> first | rfl | exact absurd h (by decide)
theorem rv_new2 (σ : rS) (ad ad' : Nat → Nat) {q : Nat × Nat} {j : Nat} {t : FieldType} : rv (wN σ q) ad' (rN σ) j t = rv (wN σ q) ad (rN σ) j t := by
  have e3 : rR (wN σ q) (rN σ) j = 0 := congrFun (up_same (rR σ) (rN σ) _) j
  unfold rv
  rw [e3]
  cases t <;> rfl
theorem E_new {M : rM} {k pc : Nat} {ls : List (Option Value)} {st : List Value} {σ τ : rS} {kc ks : Nat} {o : Option Value ⊕ String} {c : Nat} {C0 : String} {T : u_T} {Nf : Nat} {idx : Nat} (hcl : rCl c C0 T Nf) (hln : Cond.classLink M.1 idx C0 ∈ rWd) (hin : Cond.instantiable C0 Nf ∈ rWd) (hini : Cond.initialized C0 ∈ rWd) (hnf : ∀ j, j < Nf → rOk (rTy c j) = true) (d : decode M.2.1 pc = .ok (.new idx, 3)) (kk : rE M k (pc + 3) ls (.ref (rN σ) :: st) (wN σ (c + 3, 0)) kc ks o τ) : rE M k pc ls st σ (kc + 1) (ks + Nf) o τ := by
  intro l p e0 R s m args below meth c0 G ad0 n0 ad H locs cells slots la C h3 hn ha hc hs hW hS hl hw
  refine va_new (D := gD G) (cl := vwCl) (tys := rT G) (ci := c) (C := C0) (T := T) (N := Nf) (ws := rws G σ ad) (fs := rfs (wN σ (c + 3, 0)) ad (rN σ) c) C.2.1 C.2.2.1 C.2.2.2.2.2.1 hcl.2.1 (rTy c) hcl.2.2.1 C.2.2.2.2.1 (C.2.2.2.2.2.1 _ hln) (C.2.2.2.2.2.1 _ hin) (C.2.2.2.2.2.1 _ hini) C.2.2.2.2.2.2.2.2.2.2.2.2.1 hW.2.1 hW.2.2.1 hS (fun q h => C.2.2.2.2.2.2.2.2.2.2.2.2.2.2.2.2.1 q h) hcl.1 (fun j hj => ?_) (by omega) (by omega) d (fun q H1 hP1 hD1 hS1 => ?_)
  · unfold vp_V
    rw [List.getD_eq_getElem?_getD, rfs_at (by rw [hcl.2.2.2.2]; exact hj)]
    exact rv_new σ ad (hnf j hj)
  have hW1 : rW G (va_up ad (rN σ) q) (wN σ (c + 3, 0)) H1 := rW_new hW (by
    rw [rc_obj (show rK (wN σ (c + 3, 0)) (rN σ) = (c + 3, 0) from up_same _ _ _)]
    refine congrArg (fun q => (Sum.inr (c, q) : va_E)) ?_
    unfold rfs
    exact List.map_congr_left fun j _ => rv_new2 σ _ _) hP1 hD1
  have hag : ∀ i, i < rN σ → va_up ad (rN σ) q i = ad i := fun i hi => up_other _ _ (Nat.ne_of_lt hi)
  have e : (Value.ref q :: st.map (tv ad)) = (Value.ref (rN σ) :: st).map (tv (va_up ad (rN σ) q)) := by
    rw [List.map_cons, rSt_agree hag hw]
    exact congrArg (· :: _) (congrArg Value.ref (up_same ad (rN σ) q).symm)
  rw [e]
  refine kk l p e0 R s m args below meth c0 G ad0 n0 (va_up ad (rN σ) q) H1 locs (cells + 1) (slots + Nf) la C h3 (Nat.le_succ_of_le hn) (fun i hi => (hag i (Nat.lt_of_lt_of_le hi hn)).trans (ha i hi)) (by omega) (by omega) hW1 hS1 (rLv_agree hag (Nat.le_succ _) hl) (rSt_c ⟨Nat.lt_of_lt_of_le (show 0 < 3 by decide) hW.1, Nat.lt_succ_self _⟩ (fun v hv => wv_mono (Nat.le_succ _) (hw v hv)))

theorem E_newaI {M : rM} {k pc : Nat} {ls : List (Option Value)} {st : List Value} {σ τ : rS} {kc ks : Nat} {o : Option Value ⊕ String} {n : Nat} {x : Int32} (hw0 : Cond.arrayClass .int ∈ rWd) (d : decode M.2.1 pc = .ok (.newarray .int, 2)) (hx : x = nI n) (hn31 : n < 60000000) (kk : rE M k (pc + 2) ls (.ref (rN σ) :: st) (wN σ (0, n)) kc ks o τ) : rE M k pc ls (.int x :: st) σ (kc + 1) (ks + n) o τ := by
  intro l p e R s m args below meth c0 G ad0 n0 ad H locs cells slots la C h3 hn ha hc hs hW hS hl hw
  subst hx
  have hcl0 : (nI n).toNatClampNeg = n := nI_clamp (by omega)
  refine va_newa (atype := .int) (ty := .int) (N' := n) (a0 := (n, .inl (fun _ => 0))) C.2.1 C.2.2.1 (C.2.2.2.2.2.1 _ hw0) rfl C.2.2.2.2.2.2.2.2.2.2.2.2.1 hW.2.1 hW.2.2.1 hS (fun q h => C.2.2.2.2.2.2.2.2.2.2.2.2.2.2.2.2.1 q h) (fun _ => rfl) (nI_pos (by omega)) hcl0 (by simp only [componentBytes]; omega) (by omega) (by omega) d (fun q cA H1 hK1 hP1 hD1 hS1 => ?_)
  have ecA : cA = gI G := by
    have h1 := (C.2.2.2.2.2.2.2.2.2.2.2.2.1.2 0 _ rfl).2
    have h2 := (hK1.2 2 _ rfl).2
    exact Option.some.inj (h2.symm.trans h1)
  subst ecA
  have hW1 : rW G (va_up ad (rN σ) q) (wN σ (0, n)) H1 := rW_new hW (by
    unfold rc
    rw [show rK (wN σ (0, n)) (rN σ) = (0, n) from up_same _ _ _]
    rw [show rI (wN σ (0, n)) (rN σ) = fun _ => 0 from up_same _ _ _, show rL (wN σ (0, n)) (rN σ) = fun _ => 0 from up_same _ _ _]) hP1 hD1
  have hag : ∀ i, i < rN σ → va_up ad (rN σ) q i = ad i := fun i hi => up_other _ _ (Nat.ne_of_lt hi)
  have e9 : (Value.ref q :: st.map (tv ad)) = (Value.ref (rN σ) :: st).map (tv (va_up ad (rN σ) q)) := by
    rw [List.map_cons, rSt_agree hag (rSt_t hw)]
    exact congrArg (· :: _) (congrArg Value.ref (up_same ad (rN σ) q).symm)
  rw [e9]
  refine kk l p e R s m args below meth c0 G ad0 n0 (va_up ad (rN σ) q) H1 locs (cells + 1) (slots + n) la C h3 (Nat.le_succ_of_le hn) (fun i hi => (hag i (Nat.lt_of_lt_of_le hi hn)).trans (ha i hi)) (by omega) (by omega) hW1 hS1 (rLv_agree hag (Nat.le_succ _) hl) (rSt_c ⟨Nat.lt_of_lt_of_le (show 0 < 3 by decide) hW.1, Nat.lt_succ_self _⟩ (fun v hv => wv_mono (Nat.le_succ _) (rSt_t hw v hv)))

theorem E_newaJ {M : rM} {k pc : Nat} {ls : List (Option Value)} {st : List Value} {σ τ : rS} {kc ks : Nat} {o : Option Value ⊕ String} {n : Nat} {x : Int32} (hw0 : Cond.arrayClass .long ∈ rWd) (d : decode M.2.1 pc = .ok (.newarray .long, 2)) (hx : x = nI n) (hn31 : n < 60000000) (kk : rE M k (pc + 2) ls (.ref (rN σ) :: st) (wN σ (1, n)) kc ks o τ) : rE M k pc ls (.int x :: st) σ (kc + 1) (ks + n) o τ := by
  intro l p e R s m args below meth c0 G ad0 n0 ad H locs cells slots la C h3 hn ha hc hs hW hS hl hw
  subst hx
  have hcl0 : (nI n).toNatClampNeg = n := nI_clamp (by omega)
  refine va_newa (atype := .long) (ty := .long) (N' := n) (a0 := (n, .inr (.inl (fun _ => 0)))) C.2.1 C.2.2.1 (C.2.2.2.2.2.1 _ hw0) rfl C.2.2.2.2.2.2.2.2.2.2.2.2.1 hW.2.1 hW.2.2.1 hS (fun q h => C.2.2.2.2.2.2.2.2.2.2.2.2.2.2.2.2.1 q h) (fun _ => rfl) (nI_pos (by omega)) hcl0 (by simp only [componentBytes]; omega) (by omega) (by omega) d (fun q cA H1 hK1 hP1 hD1 hS1 => ?_)
  have ecA : cA = gJ G := by
    have h1 := (C.2.2.2.2.2.2.2.2.2.2.2.2.1.2 1 _ rfl).2
    have h2 := (hK1.2 2 _ rfl).2
    exact Option.some.inj (h2.symm.trans h1)
  subst ecA
  have hW1 : rW G (va_up ad (rN σ) q) (wN σ (1, n)) H1 := rW_new hW (by
    unfold rc
    rw [show rK (wN σ (1, n)) (rN σ) = (1, n) from up_same _ _ _]
    rw [show rI (wN σ (1, n)) (rN σ) = fun _ => 0 from up_same _ _ _, show rL (wN σ (1, n)) (rN σ) = fun _ => 0 from up_same _ _ _]) hP1 hD1
  have hag : ∀ i, i < rN σ → va_up ad (rN σ) q i = ad i := fun i hi => up_other _ _ (Nat.ne_of_lt hi)
  have e9 : (Value.ref q :: st.map (tv ad)) = (Value.ref (rN σ) :: st).map (tv (va_up ad (rN σ) q)) := by
    rw [List.map_cons, rSt_agree hag (rSt_t hw)]
    exact congrArg (· :: _) (congrArg Value.ref (up_same ad (rN σ) q).symm)
  rw [e9]
  refine kk l p e R s m args below meth c0 G ad0 n0 (va_up ad (rN σ) q) H1 locs (cells + 1) (slots + n) la C h3 (Nat.le_succ_of_le hn) (fun i hi => (hag i (Nat.lt_of_lt_of_le hi hn)).trans (ha i hi)) (by omega) (by omega) hW1 hS1 (rLv_agree hag (Nat.le_succ _) hl) (rSt_c ⟨Nat.lt_of_lt_of_le (show 0 < 3 by decide) hW.1, Nat.lt_succ_self _⟩ (fun v hv => wv_mono (Nat.le_succ _) (rSt_t hw v hv)))

