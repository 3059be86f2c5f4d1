theorem mm_max : Cond.code Lib.Math.max.name Lib.Math.max.code 2 (some .int) ∈ rWd := rWd4 225 (by decide +kernel) (by decide +kernel)
theorem mm_min : Cond.code Lib.Math.min.name Lib.Math.min.code 2 (some .int) ∈ rWd := rWd2 15 (by decide +kernel) (by decide +kernel)
/-! ends that say what is answered up to equality; Math.min, Math.max; the joining of two roads; loops that count -/
theorem E_iretE {M : rM} {k pc : Nat} {ls : List (Option Value)} {σ τ : rS} {kc ks : Nat} {v w : Int32} (hr : M.2.2.2.1 = some .int) (d : decode M.2.1 pc = .ok (.ireturn, 1)) (hv : v = w) (hσ : σ = τ) : rE M k pc ls [.int v] σ kc ks (.inl (some (.int w))) τ := by
  subst hv; subst hσ; exact E_iret hr d
theorem E_zretE {M : rM} {k pc : Nat} {ls : List (Option Value)} {σ τ : rS} {kc ks : Nat} {v w : Int32} (hr : M.2.2.2.1 = some .boolean) (d : decode M.2.1 pc = .ok (.ireturn, 1)) (h01 : v = 0 ∨ v = 1) (hv : v = w) (hσ : σ = τ) : rE M k pc ls [.int v] σ kc ks (.inl (some (.int w))) τ := by
  subst hv; subst hσ
  exact E_zret hr (by rcases h01 with rfl | rfl <;> decide) d
theorem E_lretE {M : rM} {k pc : Nat} {ls : List (Option Value)} {σ τ : rS} {kc ks : Nat} {v w : Int64} (hr : M.2.2.2.1 = some .long) (d : decode M.2.1 pc = .ok (.lreturn, 1)) (hv : v = w) (hσ : σ = τ) : rE M k pc ls [.long v] σ kc ks (.inl (some (.long w))) τ := by
  subst hv; subst hσ; exact E_lret hr d
theorem E_vretE {M : rM} {k pc : Nat} {ls : List (Option Value)} {σ τ : rS} {kc ks : Nat} (hr : M.2.2.2.1 = none) (d : decode M.2.1 pc = .ok (.return_, 1)) (hσ : σ = τ) : rE M k pc ls [] σ kc ks (.inl none) τ := by
  subst hσ; exact E_vret hr d
theorem mmCls : Cond.initialized "java/lang/Math" ∈ rWd := iniJ9
theorem mmS : Cond.static Lib.Math.max.name ∈ rWd := stJ9_max_7cf53
theorem mnS : Cond.static Lib.Math.min.name ∈ rWd := stJ9_min_7cf53

theorem E_mmax {M : rM} {k pc : Nat} {ls : List (Option Value)} {st : List Value} {σ τ : rS} {kc ks : Nat} {o : Option Value ⊕ String} {idx : Nat} {x y : Int32} (hln : Cond.methodLink M.1 idx Lib.Math.max.name ∈ rWd) (hkk : 1 ≤ k) (hst : (st.map fun v => v.category).sum ≤ 8) (d : decode M.2.1 pc = .ok (.invokestatic idx, 3)) (kk : rE M k (pc + 3) ls (.int (if x < y then y else x) :: st) σ kc ks o τ) : rE M k pc ls (.int y :: .int x :: st) σ kc ks o τ := by
  intro l p e R s m args below meth c0 G ad0 n0 ad H locs cells slots la C h3 hn ha hc hs hW hS hl hw
  have hkf := C.2.2.2.2.2.2.2.2.2.2.1
  have hkl := C.2.2.2.2.2.2.2.2.2.2.2.1
  have hts := C.2.2.2.2.2.1
  refine va_mmax (ls := la) C.2.1 C.2.2.1 (C.2.2.2.1.trans hl.1.symm) C.2.2.2.2.1 (hts _ hln) (hts _ mmS) (hts _ mmCls) (hts _ mm_max) (by omega) (by rw [rcats]; omega) (by omega) (by omega) d ?_
  exact kk l p e R s m args below meth c0 G ad0 n0 ad H locs cells slots la C h3 hn ha hc hs hW hS hl (rSt_c trivial (rSt_t (rSt_t hw)))

theorem E_mmin {M : rM} {k pc : Nat} {ls : List (Option Value)} {st : List Value} {σ τ : rS} {kc ks : Nat} {o : Option Value ⊕ String} {idx : Nat} {x y : Int32} (hln : Cond.methodLink M.1 idx Lib.Math.min.name ∈ rWd) (hkk : 1 ≤ k) (hst : (st.map fun v => v.category).sum ≤ 8) (d : decode M.2.1 pc = .ok (.invokestatic idx, 3)) (kk : rE M k (pc + 3) ls (.int (if y < x then y else x) :: st) σ kc ks o τ) : rE M k pc ls (.int y :: .int x :: st) σ kc ks o τ := by
  intro l p e R s m args below meth c0 G ad0 n0 ad H locs cells slots la C h3 hn ha hc hs hW hS hl hw
  have hkf := C.2.2.2.2.2.2.2.2.2.2.1
  have hkl := C.2.2.2.2.2.2.2.2.2.2.2.1
  have hts := C.2.2.2.2.2.1
  refine va_mmin (ls := la) C.2.1 C.2.2.1 (C.2.2.2.1.trans hl.1.symm) C.2.2.2.2.1 (hts _ hln) (hts _ mnS) (hts _ mmCls) (hts _ mm_min) (by omega) (by rw [rcats]; omega) (by omega) (by omega) d ?_
  exact kk l p e R s m args below meth c0 G ad0 n0 ad H locs cells slots la C h3 hn ha hc hs hW hS hl (rSt_c trivial (rSt_t (rSt_t hw)))

/-- a number on the stack said otherwise -/
theorem E_topI {M : rM} {k pc : Nat} {ls : List (Option Value)} {st : List Value} {σ τ : rS} {kc ks : Nat} {o : Option Value ⊕ String} {x v : Int32} (h : x = v) (kk : rE M k pc ls (.int v :: st) σ kc ks o τ) : rE M k pc ls (.int x :: st) σ kc ks o τ := by subst h; exact kk
theorem E_topL {M : rM} {k pc : Nat} {ls : List (Option Value)} {st : List Value} {σ τ : rS} {kc ks : Nat} {o : Option Value ⊕ String} {x v : Int64} (h : x = v) (kk : rE M k pc ls (.long v :: st) σ kc ks o τ) : rE M k pc ls (.long x :: st) σ kc ks o τ := by subst h; exact kk
theorem rI_wIn {σ : rS} {a b k j : Nat} {v : Int32} (h : b ≠ a) : rI (wI σ a k v) b j = rI σ b j := congrFun (up_other (rI σ) _ h) j
theorem rI_rowIn {σ : rS} {a b j : Nat} {f : Nat → Int32} (h : b ≠ a) : rI (rowI σ a f) b j = rI σ b j := congrFun (up_other (rI σ) _ h) j
theorem rI_wInf {σ : rS} {a b k : Nat} {v : Int32} (h : b ≠ a) : rI (wI σ a k v) b = rI σ b := up_other (rI σ) _ h
theorem rI_rowInf {σ : rS} {a b : Nat} {f : Nat → Int32} (h : b ≠ a) : rI (rowI σ a f) b = rI σ b := up_other (rI σ) _ h
theorem rI_rowk (σ : rS) (a : Nat) (f : Nat → Int32) (k : Nat) : rI (rowI σ a f) a k = f k := congrFun (rI_row σ a f) k
theorem rI_wL (σ : rS) (a k : Nat) (v : Int64) (b j : Nat) : rI (wL σ a k v) b j = rI σ b j := rfl
theorem rI_rowL (σ : rS) (a : Nat) (f : Nat → Int64) (b j : Nat) : rI (rowL σ a f) b j = rI σ b j := rfl
theorem rI_wR (σ : rS) (a k : Nat) (v : Nat) (b j : Nat) : rI (wR σ a k v) b j = rI σ b j := rfl
theorem rI_wLf (σ : rS) (a k : Nat) (v : Int64) (b : Nat) : rI (wL σ a k v) b = rI σ b := rfl
theorem rI_rowLf (σ : rS) (a : Nat) (f : Nat → Int64) (b : Nat) : rI (rowL σ a f) b = rI σ b := rfl
theorem rI_wRf (σ : rS) (a k : Nat) (v : Nat) (b : Nat) : rI (wR σ a k v) b = rI σ b := rfl
theorem rL_wLn {σ : rS} {a b k j : Nat} {v : Int64} (h : b ≠ a) : rL (wL σ a k v) b j = rL σ b j := congrFun (up_other (rL σ) _ h) j
theorem rL_rowLn {σ : rS} {a b j : Nat} {f : Nat → Int64} (h : b ≠ a) : rL (rowL σ a f) b j = rL σ b j := congrFun (up_other (rL σ) _ h) j
theorem rL_wLnf {σ : rS} {a b k : Nat} {v : Int64} (h : b ≠ a) : rL (wL σ a k v) b = rL σ b := up_other (rL σ) _ h
theorem rL_rowLnf {σ : rS} {a b : Nat} {f : Nat → Int64} (h : b ≠ a) : rL (rowL σ a f) b = rL σ b := up_other (rL σ) _ h
theorem rL_rowk (σ : rS) (a : Nat) (f : Nat → Int64) (k : Nat) : rL (rowL σ a f) a k = f k := congrFun (rL_row σ a f) k
theorem rL_wI (σ : rS) (a k : Nat) (v : Int32) (b j : Nat) : rL (wI σ a k v) b j = rL σ b j := rfl
theorem rL_rowI (σ : rS) (a : Nat) (f : Nat → Int32) (b j : Nat) : rL (rowI σ a f) b j = rL σ b j := rfl
theorem rL_wR (σ : rS) (a k : Nat) (v : Nat) (b j : Nat) : rL (wR σ a k v) b j = rL σ b j := rfl
theorem rL_wIf (σ : rS) (a k : Nat) (v : Int32) (b : Nat) : rL (wI σ a k v) b = rL σ b := rfl
theorem rL_rowIf (σ : rS) (a : Nat) (f : Nat → Int32) (b : Nat) : rL (rowI σ a f) b = rL σ b := rfl
theorem rL_wRf (σ : rS) (a k : Nat) (v : Nat) (b : Nat) : rL (wR σ a k v) b = rL σ b := rfl

/-- the branch's two roads bring two ints to one place -/
theorem E_joinI {M : rM} {k pc : Nat} {ls : List (Option Value)} {st : List Value} {σ τ : rS} {kc ks : Nat} {o : Option Value ⊕ String} {c : Prop} {inst : Decidable c} {a b : Int32} (hj : rE M k pc ls (.int (@ite _ c inst a b) :: st) σ kc ks o τ) : (c → rE M k pc ls (.int a :: st) σ kc ks o τ) ∧ (¬ c → rE M k pc ls (.int b :: st) σ kc ks o τ) :=
  ⟨fun h => by rw [if_pos h] at hj; exact hj, fun h => by rw [if_neg h] at hj; exact hj⟩
theorem E_joinL {M : rM} {k pc : Nat} {ls : List (Option Value)} {st : List Value} {σ τ : rS} {kc ks : Nat} {o : Option Value ⊕ String} {c : Prop} {inst : Decidable c} {a b : Int64} (hj : rE M k pc ls (.long (@ite _ c inst a b) :: st) σ kc ks o τ) : (c → rE M k pc ls (.long a :: st) σ kc ks o τ) ∧ (¬ c → rE M k pc ls (.long b :: st) σ kc ks o τ) :=
  ⟨fun h => by rw [if_pos h] at hj; exact hj, fun h => by rw [if_neg h] at hj; exact hj⟩
/-- a loop that counts up to N -/
theorem loop_up (P : Nat → Prop) (N : Nat) (h0 : P N) (hs : ∀ i, i < N → P (i + 1) → P i) : ∀ i, i ≤ N → P i := by
  intro i hi
  obtain ⟨n, rfl⟩ : ∃ n, N = i + n := ⟨N - i, by omega⟩
  clear hi
  induction n generalizing i with
  | zero => exact h0
  | succ n ih =>
    refine hs i (by omega) (ih (i + 1) ?_ ?_)
    · rw [show i + 1 + n = i + (n + 1) by omega]; exact h0
    · intro j hj hp
      exact hs j (by omega) hp
/-- a loop with a measure -/
theorem loop_mu {α : Type} (P : α → Prop) (μ : α → Nat) (hs : ∀ a, (∀ b, μ b < μ a → P b) → P a) : ∀ a, P a := by
  intro a
  obtain ⟨n, hn⟩ : ∃ n, μ a < n := ⟨_, Nat.lt_succ_self _⟩
  induction n generalizing a with
  | zero => omega
  | succ n ih => exact hs a (fun b hb => ih b (by omega))
/-- the same point of a method, its world and places said otherwise -/
theorem E_eq {M : rM} {k pc : Nat} {ls ls2 : List (Option Value)} {st st2 : List Value} {σ σ2 τ : rS} {kc ks : Nat} {o : Option Value ⊕ String} (h : rE M k pc ls2 st2 σ2 kc ks o τ) (h1 : ls = ls2) (h2 : st = st2) (h3 : σ = σ2) : rE M k pc ls st σ kc ks o τ := by
  subst h1; subst h2; subst h3; exact h

