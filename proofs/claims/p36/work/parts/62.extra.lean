/-! rows of longs that the law keeps beside the class's world -/
/-- as rE, of a method at whose beginning at most B cells were there -/
def rEb (B : Nat) (M : rM) (k pc : Nat) (ls : List (Option Value)) (st : List Value) (σ : rS) (kc ks : Nat) (o : Option Value ⊕ String) (τ : rS) : Prop :=
  ∀ (l : Launch) (p : Program) (e : Env) (R : Room) (s : State) (m : MethodId) (args : Array Value) (below : List Frame) (meth : Method) (c : Code) (G : rG) (ad0 : Nat → Nat) (n0 : Nat) (ad : Nat → Nat) (H : Heap) (locs : List Loc) (cells slots : Nat) (la : Array Slot),
    rCx M k l p R s m args meth c G (ad0 1) (ad0 2) → 3 ≤ n0 ∧ n0 ≤ B → n0 ≤ rN σ → (∀ i, i < n0 → ad i = ad0 i) → cells + kc ≤ R.cells → slots + ks ≤ R.slots → rW G ad σ H → va_S (rA G) s.heap H locs → rLv la M.2.2.1 ls ad (rN σ) → rSt st (rN σ) →
    W p l e R s m args below meth c H locs cells slots (vx_MQ below (rQ G ad0 n0 o τ) (rX G ad0 n0 o τ) args s R.cells R.slots (rA G)) (F0 m pc la (st.map (tv ad)))
theorem rE_b {M : rM} {k pc : Nat} {ls : List (Option Value)} {st : List Value} {σ τ : rS} {kc ks : Nat} {o : Option Value ⊕ String} (h : rEb (rN σ) M k pc ls st σ kc ks o τ) : rE M k pc ls st σ kc ks o τ := by
  intro l p e R s m args below meth c G ad0 n0 ad H locs cells slots la C h3 hn ha hc hs hW hS hl hw
  exact h l p e R s m args below meth c G ad0 n0 ad H locs cells slots la C ⟨h3, hn⟩ hn ha hc hs hW hS hl hw
theorem rEb_of {B : Nat} {M : rM} {k pc : Nat} {ls : List (Option Value)} {st : List Value} {σ τ : rS} {kc ks : Nat} {o : Option Value ⊕ String} (h : rE M k pc ls st σ kc ks o τ) : rEb B M k pc ls st σ kc ks o τ := by
  intro l p e R s m args below meth c G ad0 n0 ad H locs cells slots la C h3 hn ha hc hs hW hS hl hw
  exact h l p e R s m args below meth c G ad0 n0 ad H locs cells slots la C h3.1 hn ha hc hs hW hS hl hw
theorem B_iconst {B : Nat} {M : rM} {k pc : Nat} {ls : List (Option Value)} {st : List Value} {σ τ : rS} {kc ks : Nat} {o : Option Value ⊕ String} {n : Int} {v : Int32} (d : decode M.2.1 pc = .ok (.iconst n, 1)) (hv : Int32.ofInt n = v) (kk : rEb B M k (pc + 1) ls (.int v :: st) σ kc ks o τ) : rEb B M k pc ls (st) σ kc ks o τ := by
  intro l p e R s m args below meth c G ad0 n0 ad H locs cells slots la C h3 hn ha hc hs hW hS hl hw
  refine lv_iconst C.2.1 C.2.2.1 d hv ?_
  exact kk l p e R s m args below meth c G ad0 n0 ad H locs cells slots la C h3 hn ha hc hs hW hS hl (rSt_c trivial (hw))
theorem B_bipush {B : Nat} {M : rM} {k pc : Nat} {ls : List (Option Value)} {st : List Value} {σ τ : rS} {kc ks : Nat} {o : Option Value ⊕ String} {n : Int} {v : Int32} (d : decode M.2.1 pc = .ok (.bipush n, 2)) (hv : (Int8.ofInt n).toInt32 = v) (kk : rEb B M k (pc + 2) ls (.int v :: st) σ kc ks o τ) : rEb B M k pc ls (st) σ kc ks o τ := by
  intro l p e R s m args below meth c G ad0 n0 ad H locs cells slots la C h3 hn ha hc hs hW hS hl hw
  refine lv_bipush C.2.1 C.2.2.1 d hv ?_
  exact kk l p e R s m args below meth c G ad0 n0 ad H locs cells slots la C h3 hn ha hc hs hW hS hl (rSt_c trivial (hw))
theorem B_sipush {B : Nat} {M : rM} {k pc : Nat} {ls : List (Option Value)} {st : List Value} {σ τ : rS} {kc ks : Nat} {o : Option Value ⊕ String} {n : Int} {v : Int32} (d : decode M.2.1 pc = .ok (.sipush n, 3)) (hv : (Int16.ofInt n).toInt32 = v) (kk : rEb B M k (pc + 3) ls (.int v :: st) σ kc ks o τ) : rEb B M k pc ls (st) σ kc ks o τ := by
  intro l p e R s m args below meth c G ad0 n0 ad H locs cells slots la C h3 hn ha hc hs hW hS hl hw
  refine lv_sipush C.2.1 C.2.2.1 d hv ?_
  exact kk l p e R s m args below meth c G ad0 n0 ad H locs cells slots la C h3 hn ha hc hs hW hS hl (rSt_c trivial (hw))
theorem B_lconst {B : Nat} {M : rM} {k pc : Nat} {ls : List (Option Value)} {st : List Value} {σ τ : rS} {kc ks : Nat} {o : Option Value ⊕ String} {n : Fin 2} {v : Int64} (d : decode M.2.1 pc = .ok (.lconst n, 1)) (hv : Int64.ofNat (n : Nat) = v) (kk : rEb B M k (pc + 1) ls (.long v :: st) σ kc ks o τ) : rEb B M k pc ls (st) σ kc ks o τ := by
  intro l p e R s m args below meth c G ad0 n0 ad H locs cells slots la C h3 hn ha hc hs hW hS hl hw
  refine lv_lconst C.2.1 C.2.2.1 d hv ?_
  exact kk l p e R s m args below meth c G ad0 n0 ad H locs cells slots la C h3 hn ha hc hs hW hS hl (rSt_c trivial (hw))
theorem B_ldc2 {B : Nat} {M : rM} {k pc : Nat} {ls : List (Option Value)} {st : List Value} {σ τ : rS} {kc ks : Nat} {o : Option Value ⊕ String} {i : Nat} {v : Int64} (d : decode M.2.1 pc = .ok (.ldc2_w i, 3)) (hv : Jvm.Cond.constantLong M.1 i v ∈ rWd) (kk : rEb B M k (pc + 3) ls (.long v :: st) σ kc ks o τ) : rEb B M k pc ls st σ kc ks o τ := by
  intro l p e R s m args below meth c G ad0 n0 ad H locs cells slots la C h3 hn ha hc hs hW hS hl hw
  exact lv_ldc2 C.2.1 C.2.2.1 C.2.2.2.2.1 (C.2.2.2.2.2.1 _ hv) d (kk l p e R s m args below meth c G ad0 n0 ad H locs cells slots la C h3 hn ha hc hs hW hS hl (rSt_c trivial hw))

/-- a place is written: its list of places -/
theorem B_iload_n {B : Nat} {M : rM} {k pc : Nat} {ls : List (Option Value)} {st : List Value} {σ τ : rS} {kc ks : Nat} {o : Option Value ⊕ String} {j : Fin 4} {x : Int32} (d : decode M.2.1 pc = .ok (.iload_n j, 1)) (hj : ls[(j : Nat)]? = some (some (.int x))) (kk : rEb B M k (pc + 1) ls (.int x :: st) σ kc ks o τ) : rEb B M k pc ls st σ kc ks o τ := by
  intro l p e R s m args below meth c G ad0 n0 ad H locs cells slots la C h3 hn ha hc hs hW hS hl hw
  refine lv_iload_n C.2.1 C.2.2.1 d rfl (hl.2.2 _ _ hj).2 ?_
  exact kk l p e R s m args below meth c G ad0 n0 ad H locs cells slots la C h3 hn ha hc hs hW hS hl (rSt_c (hl.2.2 _ _ hj).1 hw)
theorem B_iload {B : Nat} {M : rM} {k pc : Nat} {ls : List (Option Value)} {st : List Value} {σ τ : rS} {kc ks : Nat} {o : Option Value ⊕ String} {j : Nat} {x : Int32} (d : decode M.2.1 pc = .ok (.iload j, 2)) (hj : ls[j]? = some (some (.int x))) (kk : rEb B M k (pc + 2) ls (.int x :: st) σ kc ks o τ) : rEb B M k pc ls st σ kc ks o τ := by
  intro l p e R s m args below meth c G ad0 n0 ad H locs cells slots la C h3 hn ha hc hs hW hS hl hw
  refine lv_iload C.2.1 C.2.2.1 d (hl.2.2 _ _ hj).2 ?_
  exact kk l p e R s m args below meth c G ad0 n0 ad H locs cells slots la C h3 hn ha hc hs hW hS hl (rSt_c (hl.2.2 _ _ hj).1 hw)
theorem B_istore_n {B : Nat} {M : rM} {k pc : Nat} {ls ls2 : List (Option Value)} {st : List Value} {σ τ : rS} {kc ks : Nat} {o : Option Value ⊕ String} {j : Fin 4} {x : Int32} (d : decode M.2.1 pc = .ok (.istore_n j, 1)) (hj : (j : Nat) < M.2.2.1) (h2 : rput ls (j : Nat) (.int x) = ls2) (kk : rEb B M k (pc + 1) ls2 st σ kc ks o τ) : rEb B M k pc ls (.int x :: st) σ kc ks o τ := by
  intro l p e R s m args below meth c G ad0 n0 ad H locs cells slots la C h3 hn ha hc hs hW hS hl hw
  subst h2
  refine lv_istore_n (lv' := ((j : Nat), .int x) :: (rAs ls ad).filter (fun q => !(q.1 == (j : Nat)) && !(q.1 + 1 == (j : Nat) && q.2.category == 2))) C.2.1 C.2.2.1 d rfl (rLv_has hl) hj rfl (fun lb hb => ?_)
  refine kk l p e R s m args below meth c G ad0 n0 ad H locs cells slots lb C h3 hn ha hc hs hW hS ⟨hb.1, hb.2.1, fun i v hv => ?_⟩ (rSt_t hw)
  rcases rput_at hv with ⟨rfl, rfl⟩ | ⟨g1, g2, g3, g4⟩
  · exact ⟨rSt_h hw, hb.2.2 _ List.mem_cons_self⟩
  · refine ⟨(hl.2.2 _ _ g2).1, hb.2.2 (i, tv ad v) (List.mem_cons_of_mem _ (List.mem_filter.mpr ⟨rAs_in.mpr ⟨v, g2, rfl⟩, ?_⟩))⟩
    have hk : ¬ (i + 1 = (j : Nat) ∧ (tv ad v).category = 2) := fun q => g4 ⟨q.1, (tv_cat ad v).symm.trans q.2, by
      have z := (hl.2.2 _ _ g2).1
      cases v <;> first | exact ⟨_, rfl⟩ | exact absurd z id | exact absurd q.2 (by decide) | (exact absurd q.2 (by simp [tv, Value.category]))⟩
    have g5 : ¬ (i = (j : Nat) + 1 ∧ (Value.category (.int x)) = 2) := g3
    simp only [Bool.and_eq_true, Bool.not_eq_true', beq_eq_false_iff_ne, Bool.and_eq_false_iff, ne_eq]
    simp only [Value.category] at g5
    grind
theorem B_istore {B : Nat} {M : rM} {k pc : Nat} {ls ls2 : List (Option Value)} {st : List Value} {σ τ : rS} {kc ks : Nat} {o : Option Value ⊕ String} {j : Nat} {x : Int32} (d : decode M.2.1 pc = .ok (.istore j, 2)) (hj : j < M.2.2.1) (h2 : rput ls j (.int x) = ls2) (kk : rEb B M k (pc + 2) ls2 st σ kc ks o τ) : rEb B M k pc ls (.int x :: st) σ kc ks o τ := by
  intro l p e R s m args below meth c G ad0 n0 ad H locs cells slots la C h3 hn ha hc hs hW hS hl hw
  subst h2
  refine lv_istore (lv' := (j, .int x) :: (rAs ls ad).filter (fun q => !(q.1 == j) && !(q.1 + 1 == j && q.2.category == 2))) C.2.1 C.2.2.1 d (rLv_has hl) hj rfl (fun lb hb => ?_)
  refine kk l p e R s m args below meth c G ad0 n0 ad H locs cells slots lb C h3 hn ha hc hs hW hS ⟨hb.1, hb.2.1, fun i v hv => ?_⟩ (rSt_t hw)
  rcases rput_at hv with ⟨rfl, rfl⟩ | ⟨g1, g2, g3, g4⟩
  · exact ⟨rSt_h hw, hb.2.2 _ List.mem_cons_self⟩
  · refine ⟨(hl.2.2 _ _ g2).1, hb.2.2 (i, tv ad v) (List.mem_cons_of_mem _ (List.mem_filter.mpr ⟨rAs_in.mpr ⟨v, g2, rfl⟩, ?_⟩))⟩
    have hk : ¬ (i + 1 = j ∧ (tv ad v).category = 2) := fun q => g4 ⟨q.1, (tv_cat ad v).symm.trans q.2, by
      have z := (hl.2.2 _ _ g2).1
      cases v <;> first | exact ⟨_, rfl⟩ | exact absurd z id | exact absurd q.2 (by decide) | (exact absurd q.2 (by simp [tv, Value.category]))⟩
    have g5 : ¬ (i = j + 1 ∧ (Value.category (.int x)) = 2) := g3
    simp only [Bool.and_eq_true, Bool.not_eq_true', beq_eq_false_iff_ne, Bool.and_eq_false_iff, ne_eq]
    simp only [Value.category] at g5
    grind
theorem B_aload_n {B : Nat} {M : rM} {k pc : Nat} {ls : List (Option Value)} {st : List Value} {σ τ : rS} {kc ks : Nat} {o : Option Value ⊕ String} {j : Fin 4} {x : Nat} (d : decode M.2.1 pc = .ok (.aload_n j, 1)) (hj : ls[(j : Nat)]? = some (some (.ref x))) (kk : rEb B M k (pc + 1) ls (.ref x :: st) σ kc ks o τ) : rEb B M k pc ls st σ kc ks o τ := by
  intro l p e R s m args below meth c G ad0 n0 ad H locs cells slots la C h3 hn ha hc hs hW hS hl hw
  refine lv_aload_n C.2.1 C.2.2.1 d rfl (hl.2.2 _ _ hj).2 ?_
  exact kk l p e R s m args below meth c G ad0 n0 ad H locs cells slots la C h3 hn ha hc hs hW hS hl (rSt_c (hl.2.2 _ _ hj).1 hw)
theorem B_aload {B : Nat} {M : rM} {k pc : Nat} {ls : List (Option Value)} {st : List Value} {σ τ : rS} {kc ks : Nat} {o : Option Value ⊕ String} {j : Nat} {x : Nat} (d : decode M.2.1 pc = .ok (.aload j, 2)) (hj : ls[j]? = some (some (.ref x))) (kk : rEb B M k (pc + 2) ls (.ref x :: st) σ kc ks o τ) : rEb B M k pc ls st σ kc ks o τ := by
  intro l p e R s m args below meth c G ad0 n0 ad H locs cells slots la C h3 hn ha hc hs hW hS hl hw
  refine lv_aload C.2.1 C.2.2.1 d (hl.2.2 _ _ hj).2 ?_
  exact kk l p e R s m args below meth c G ad0 n0 ad H locs cells slots la C h3 hn ha hc hs hW hS hl (rSt_c (hl.2.2 _ _ hj).1 hw)
theorem B_astore_n {B : Nat} {M : rM} {k pc : Nat} {ls ls2 : List (Option Value)} {st : List Value} {σ τ : rS} {kc ks : Nat} {o : Option Value ⊕ String} {j : Fin 4} {x : Nat} (d : decode M.2.1 pc = .ok (.astore_n j, 1)) (hj : (j : Nat) < M.2.2.1) (h2 : rput ls (j : Nat) (.ref x) = ls2) (kk : rEb B M k (pc + 1) ls2 st σ kc ks o τ) : rEb B M k pc ls (.ref x :: st) σ kc ks o τ := by
  intro l p e R s m args below meth c G ad0 n0 ad H locs cells slots la C h3 hn ha hc hs hW hS hl hw
  subst h2
  refine lv_astore_n (lv' := ((j : Nat), .ref (ad x)) :: (rAs ls ad).filter (fun q => !(q.1 == (j : Nat)) && !(q.1 + 1 == (j : Nat) && q.2.category == 2))) C.2.1 C.2.2.1 d rfl (rLv_has hl) hj rfl (fun lb hb => ?_)
  refine kk l p e R s m args below meth c G ad0 n0 ad H locs cells slots lb C h3 hn ha hc hs hW hS ⟨hb.1, hb.2.1, fun i v hv => ?_⟩ (rSt_t hw)
  rcases rput_at hv with ⟨rfl, rfl⟩ | ⟨g1, g2, g3, g4⟩
  · exact ⟨rSt_h hw, hb.2.2 _ List.mem_cons_self⟩
  · refine ⟨(hl.2.2 _ _ g2).1, hb.2.2 (i, tv ad v) (List.mem_cons_of_mem _ (List.mem_filter.mpr ⟨rAs_in.mpr ⟨v, g2, rfl⟩, ?_⟩))⟩
    have hk : ¬ (i + 1 = (j : Nat) ∧ (tv ad v).category = 2) := fun q => g4 ⟨q.1, (tv_cat ad v).symm.trans q.2, by
      have z := (hl.2.2 _ _ g2).1
      cases v <;> first | exact ⟨_, rfl⟩ | exact absurd z id | exact absurd q.2 (by decide) | (exact absurd q.2 (by simp [tv, Value.category]))⟩
    have g5 : ¬ (i = (j : Nat) + 1 ∧ (Value.category (.ref x)) = 2) := g3
    simp only [Bool.and_eq_true, Bool.not_eq_true', beq_eq_false_iff_ne, Bool.and_eq_false_iff, ne_eq]
    simp only [Value.category] at g5
    grind
theorem B_astore {B : Nat} {M : rM} {k pc : Nat} {ls ls2 : List (Option Value)} {st : List Value} {σ τ : rS} {kc ks : Nat} {o : Option Value ⊕ String} {j : Nat} {x : Nat} (d : decode M.2.1 pc = .ok (.astore j, 2)) (hj : j < M.2.2.1) (h2 : rput ls j (.ref x) = ls2) (kk : rEb B M k (pc + 2) ls2 st σ kc ks o τ) : rEb B M k pc ls (.ref x :: st) σ kc ks o τ := by
  intro l p e R s m args below meth c G ad0 n0 ad H locs cells slots la C h3 hn ha hc hs hW hS hl hw
  subst h2
  refine lv_astore (lv' := (j, .ref (ad x)) :: (rAs ls ad).filter (fun q => !(q.1 == j) && !(q.1 + 1 == j && q.2.category == 2))) C.2.1 C.2.2.1 d (rLv_has hl) hj rfl (fun lb hb => ?_)
  refine kk l p e R s m args below meth c G ad0 n0 ad H locs cells slots lb C h3 hn ha hc hs hW hS ⟨hb.1, hb.2.1, fun i v hv => ?_⟩ (rSt_t hw)
  rcases rput_at hv with ⟨rfl, rfl⟩ | ⟨g1, g2, g3, g4⟩
  · exact ⟨rSt_h hw, hb.2.2 _ List.mem_cons_self⟩
  · refine ⟨(hl.2.2 _ _ g2).1, hb.2.2 (i, tv ad v) (List.mem_cons_of_mem _ (List.mem_filter.mpr ⟨rAs_in.mpr ⟨v, g2, rfl⟩, ?_⟩))⟩
    have hk : ¬ (i + 1 = j ∧ (tv ad v).category = 2) := fun q => g4 ⟨q.1, (tv_cat ad v).symm.trans q.2, by
      have z := (hl.2.2 _ _ g2).1
      cases v <;> first | exact ⟨_, rfl⟩ | exact absurd z id | exact absurd q.2 (by decide) | (exact absurd q.2 (by simp [tv, Value.category]))⟩
    have g5 : ¬ (i = j + 1 ∧ (Value.category (.ref x)) = 2) := g3
    simp only [Bool.and_eq_true, Bool.not_eq_true', beq_eq_false_iff_ne, Bool.and_eq_false_iff, ne_eq]
    simp only [Value.category] at g5
    grind
theorem B_iadd {B : Nat} {M : rM} {k pc : Nat} {ls : List (Option Value)} {st : List Value} {σ τ : rS} {kc ks : Nat} {o : Option Value ⊕ String} {x y : Int32} (d : decode M.2.1 pc = .ok (.iadd, 1)) (kk : rEb B M k (pc + 1) ls (.int (x + y) :: st) σ kc ks o τ) : rEb B M k pc ls (.int y :: .int x :: st) σ kc ks o τ := by
  intro l p e R s m args below meth c G ad0 n0 ad H locs cells slots la C h3 hn ha hc hs hW hS hl hw
  refine lv_iadd C.2.1 C.2.2.1 d ?_
  exact kk l p e R s m args below meth c G ad0 n0 ad H locs cells slots la C h3 hn ha hc hs hW hS hl (rSt_c trivial (rSt_t (rSt_t (hw))))
theorem B_imul {B : Nat} {M : rM} {k pc : Nat} {ls : List (Option Value)} {st : List Value} {σ τ : rS} {kc ks : Nat} {o : Option Value ⊕ String} {x y : Int32} (d : decode M.2.1 pc = .ok (.imul, 1)) (kk : rEb B M k (pc + 1) ls (.int (x * y) :: st) σ kc ks o τ) : rEb B M k pc ls (.int y :: .int x :: st) σ kc ks o τ := by
  intro l p e R s m args below meth c G ad0 n0 ad H locs cells slots la C h3 hn ha hc hs hW hS hl hw
  refine lv_imul C.2.1 C.2.2.1 d ?_
  exact kk l p e R s m args below meth c G ad0 n0 ad H locs cells slots la C h3 hn ha hc hs hW hS hl (rSt_c trivial (rSt_t (rSt_t (hw))))
theorem B_idiv {B : Nat} {M : rM} {k pc : Nat} {ls : List (Option Value)} {st : List Value} {σ τ : rS} {kc ks : Nat} {o : Option Value ⊕ String} {x y : Int32} (d : decode M.2.1 pc = .ok (.idiv, 1)) (h0 : ¬ y = 0) (kk : rEb B M k (pc + 1) ls (.int (x / y) :: st) σ kc ks o τ) : rEb B M k pc ls (.int y :: .int x :: st) σ kc ks o τ := by
  intro l p e R s m args below meth c G ad0 n0 ad H locs cells slots la C h3 hn ha hc hs hW hS hl hw
  refine lv_idiv C.2.1 C.2.2.1 d h0 ?_
  exact kk l p e R s m args below meth c G ad0 n0 ad H locs cells slots la C h3 hn ha hc hs hW hS hl (rSt_c trivial (rSt_t (rSt_t (hw))))
theorem B_irem {B : Nat} {M : rM} {k pc : Nat} {ls : List (Option Value)} {st : List Value} {σ τ : rS} {kc ks : Nat} {o : Option Value ⊕ String} {x y : Int32} (d : decode M.2.1 pc = .ok (.irem, 1)) (h0 : ¬ y = 0) (kk : rEb B M k (pc + 1) ls (.int (x - x / y * y) :: st) σ kc ks o τ) : rEb B M k pc ls (.int y :: .int x :: st) σ kc ks o τ := by
  intro l p e R s m args below meth c G ad0 n0 ad H locs cells slots la C h3 hn ha hc hs hW hS hl hw
  refine lv_irem C.2.1 C.2.2.1 d h0 ?_
  exact kk l p e R s m args below meth c G ad0 n0 ad H locs cells slots la C h3 hn ha hc hs hW hS hl (rSt_c trivial (rSt_t (rSt_t (hw))))
theorem B_ishr {B : Nat} {M : rM} {k pc : Nat} {ls : List (Option Value)} {st : List Value} {σ τ : rS} {kc ks : Nat} {o : Option Value ⊕ String} {x y : Int32} (d : decode M.2.1 pc = .ok (.ishr, 1)) (kk : rEb B M k (pc + 1) ls (.int (x >>> (y &&& 31)) :: st) σ kc ks o τ) : rEb B M k pc ls (.int y :: .int x :: st) σ kc ks o τ := by
  intro l p e R s m args below meth c G ad0 n0 ad H locs cells slots la C h3 hn ha hc hs hW hS hl hw
  refine lv_ishr C.2.1 C.2.2.1 d ?_
  exact kk l p e R s m args below meth c G ad0 n0 ad H locs cells slots la C h3 hn ha hc hs hW hS hl (rSt_c trivial (rSt_t (rSt_t (hw))))
theorem B_lcmp {B : Nat} {M : rM} {k pc : Nat} {ls : List (Option Value)} {st : List Value} {σ τ : rS} {kc ks : Nat} {o : Option Value ⊕ String} {x y : Int64} (d : decode M.2.1 pc = .ok (.lcmp, 1)) (kk : rEb B M k (pc + 1) ls (.int (lg_cmp x y) :: st) σ kc ks o τ) : rEb B M k pc ls (.long y :: .long x :: st) σ kc ks o τ := by
  intro l p e R s m args below meth c0 G ad0 n0 ad H locs cells slots la C h3 hn ha hc hs hW hS hl hw
  exact W.lcmp C.2.1 C.2.2.1 d (kk l p e R s m args below meth c0 G ad0 n0 ad H locs cells slots la C h3 hn ha hc hs hW hS hl (rSt_c trivial (rSt_t (rSt_t hw))))
theorem B_iinc {B : Nat} {M : rM} {k pc : Nat} {ls ls2 : List (Option Value)} {st : List Value} {σ τ : rS} {kc ks : Nat} {o : Option Value ⊕ String} {j : Nat} {n : Int} {x v : Int32} (d : decode M.2.1 pc = .ok (.iinc j n, 3)) (hx : ls[j]? = some (some (.int x))) (hv : Int32.ofInt n = v) (hj : j < M.2.2.1) (h2 : rput ls j (.int (x + v)) = ls2) (kk : rEb B M k (pc + 3) ls2 st σ kc ks o τ) : rEb B M k pc ls st σ kc ks o τ := by
  intro l p e R s m args below meth c G ad0 n0 ad H locs cells slots la C h3 hn ha hc hs hW hS hl hw
  subst h2
  obtain ⟨i0, hi0⟩ := List.getElem?_of_mem (rAs_in.mpr ⟨_, hx, rfl⟩ : (j, tv ad (.int x)) ∈ rAs ls ad)
  refine lv_iinc (v := x + v) (k := i0) (lv' := (j, .int (x + v)) :: (rAs ls ad).filter (fun q => !(q.1 == j) && !(q.1 + 1 == j && q.2.category == 2))) C.2.1 C.2.2.1 d (rLv_has hl) hi0 (by rw [hv]) hj rfl (fun lb hb => ?_)
  refine kk l p e R s m args below meth c G ad0 n0 ad H locs cells slots lb C h3 hn ha hc hs hW hS ⟨hb.1, hb.2.1, fun i v hv => ?_⟩ hw
  rcases rput_at hv with ⟨rfl, rfl⟩ | ⟨g1, g2, g3, g4⟩
  · exact ⟨trivial, hb.2.2 _ List.mem_cons_self⟩
  · refine ⟨(hl.2.2 _ _ g2).1, hb.2.2 (i, tv ad v) (List.mem_cons_of_mem _ (List.mem_filter.mpr ⟨rAs_in.mpr ⟨v, g2, rfl⟩, ?_⟩))⟩
    have hk : ¬ (i + 1 = j ∧ (tv ad v).category = 2) := fun q => g4 ⟨q.1, (tv_cat ad v).symm.trans q.2, by
      have z := (hl.2.2 _ _ g2).1
      cases v <;> first | exact ⟨_, rfl⟩ | exact absurd z id | exact absurd q.2 (by decide) | (exact absurd q.2 (by simp [tv, Value.category]))⟩
    simp only [Bool.and_eq_true, Bool.not_eq_true', beq_eq_false_iff_ne, Bool.and_eq_false_iff, ne_eq]
    grind
theorem B_goto {B : Nat} {M : rM} {k pc : Nat} {ls : List (Option Value)} {st : List Value} {σ τ : rS} {kc ks : Nat} {o : Option Value ⊕ String} {off : Int} (tgt : Nat) (d : decode M.2.1 pc = .ok (.goto off, 3)) (ht : (pc : Int) + off = (tgt : Int)) (kk : rEb B M k tgt ls st σ kc ks o τ) : rEb B M k pc ls st σ kc ks o τ := by
  intro l p e R s m args below meth c G ad0 n0 ad H locs cells slots la C h3 hn ha hc hs hW hS hl hw
  exact lv_goto C.2.1 C.2.2.1 d ht (kk l p e R s m args below meth c G ad0 n0 ad H locs cells slots la C h3 hn ha hc hs hW hS hl hw)
theorem B_icmp_ge {B : Nat} {M : rM} {k pc : Nat} {ls : List (Option Value)} {st : List Value} {σ τ : rS} {kc ks : Nat} {o : Option Value ⊕ String} {x y : Int32} {off : Int} (tgt : Nat) (d : decode M.2.1 pc = .ok (.if_icmp .ge off, 3)) (ht : (pc : Int) + off = (tgt : Int)) (kt : y ≤ x → rEb B M k tgt ls st σ kc ks o τ) (kf : ¬ y ≤ x → rEb B M k (pc + 3) ls st σ kc ks o τ) : rEb B M k pc ls (.int y :: .int x :: st) σ kc ks o τ := by
  intro l p e R s m args below meth c G ad0 n0 ad H locs cells slots la C h3 hn ha hc hs hW hS hl hw
  exact lv_icmp_ge C.2.1 C.2.2.1 d ht (fun q => kt q l p e R s m args below meth c G ad0 n0 ad H locs cells slots la C h3 hn ha hc hs hW hS hl (rSt_t (rSt_t hw))) (fun q => kf q l p e R s m args below meth c G ad0 n0 ad H locs cells slots la C h3 hn ha hc hs hW hS hl (rSt_t (rSt_t hw)))
theorem B_icmp_le {B : Nat} {M : rM} {k pc : Nat} {ls : List (Option Value)} {st : List Value} {σ τ : rS} {kc ks : Nat} {o : Option Value ⊕ String} {x y : Int32} {off : Int} (tgt : Nat) (d : decode M.2.1 pc = .ok (.if_icmp .le off, 3)) (ht : (pc : Int) + off = (tgt : Int)) (kt : x ≤ y → rEb B M k tgt ls st σ kc ks o τ) (kf : ¬ x ≤ y → rEb B M k (pc + 3) ls st σ kc ks o τ) : rEb B M k pc ls (.int y :: .int x :: st) σ kc ks o τ := by
  intro l p e R s m args below meth c G ad0 n0 ad H locs cells slots la C h3 hn ha hc hs hW hS hl hw
  exact lv_icmp_le C.2.1 C.2.2.1 d ht (fun q => kt q l p e R s m args below meth c G ad0 n0 ad H locs cells slots la C h3 hn ha hc hs hW hS hl (rSt_t (rSt_t hw))) (fun q => kf q l p e R s m args below meth c G ad0 n0 ad H locs cells slots la C h3 hn ha hc hs hW hS hl (rSt_t (rSt_t hw)))
theorem B_icmp_lt {B : Nat} {M : rM} {k pc : Nat} {ls : List (Option Value)} {st : List Value} {σ τ : rS} {kc ks : Nat} {o : Option Value ⊕ String} {x y : Int32} {off : Int} (tgt : Nat) (d : decode M.2.1 pc = .ok (.if_icmp .lt off, 3)) (ht : (pc : Int) + off = (tgt : Int)) (kt : x < y → rEb B M k tgt ls st σ kc ks o τ) (kf : ¬ x < y → rEb B M k (pc + 3) ls st σ kc ks o τ) : rEb B M k pc ls (.int y :: .int x :: st) σ kc ks o τ := by
  intro l p e R s m args below meth c G ad0 n0 ad H locs cells slots la C h3 hn ha hc hs hW hS hl hw
  exact lv_icmp_lt C.2.1 C.2.2.1 d ht (fun q => kt q l p e R s m args below meth c G ad0 n0 ad H locs cells slots la C h3 hn ha hc hs hW hS hl (rSt_t (rSt_t hw))) (fun q => kf q l p e R s m args below meth c G ad0 n0 ad H locs cells slots la C h3 hn ha hc hs hW hS hl (rSt_t (rSt_t hw)))
theorem B_icmp_gt {B : Nat} {M : rM} {k pc : Nat} {ls : List (Option Value)} {st : List Value} {σ τ : rS} {kc ks : Nat} {o : Option Value ⊕ String} {x y : Int32} {off : Int} (tgt : Nat) (d : decode M.2.1 pc = .ok (.if_icmp .gt off, 3)) (ht : (pc : Int) + off = (tgt : Int)) (kt : y < x → rEb B M k tgt ls st σ kc ks o τ) (kf : ¬ y < x → rEb B M k (pc + 3) ls st σ kc ks o τ) : rEb B M k pc ls (.int y :: .int x :: st) σ kc ks o τ := by
  intro l p e R s m args below meth c G ad0 n0 ad H locs cells slots la C h3 hn ha hc hs hW hS hl hw
  exact lv_icmp_gt C.2.1 C.2.2.1 d ht (fun q => kt q l p e R s m args below meth c G ad0 n0 ad H locs cells slots la C h3 hn ha hc hs hW hS hl (rSt_t (rSt_t hw))) (fun q => kf q l p e R s m args below meth c G ad0 n0 ad H locs cells slots la C h3 hn ha hc hs hW hS hl (rSt_t (rSt_t hw)))
theorem B_if_ge {B : Nat} {M : rM} {k pc : Nat} {ls : List (Option Value)} {st : List Value} {σ τ : rS} {kc ks : Nat} {o : Option Value ⊕ String} {x : Int32} {off : Int} (tgt : Nat) (d : decode M.2.1 pc = .ok (.ifCond .ge off, 3)) (ht : (pc : Int) + off = (tgt : Int)) (kt : 0 ≤ x → rEb B M k tgt ls st σ kc ks o τ) (kf : ¬ 0 ≤ x → rEb B M k (pc + 3) ls st σ kc ks o τ) : rEb B M k pc ls (.int x :: st) σ kc ks o τ := by
  intro l p e R s m args below meth c G ad0 n0 ad H locs cells slots la C h3 hn ha hc hs hW hS hl hw
  exact lv_if_ge C.2.1 C.2.2.1 d ht (fun q => kt q l p e R s m args below meth c G ad0 n0 ad H locs cells slots la C h3 hn ha hc hs hW hS hl (rSt_t hw)) (fun q => kf q l p e R s m args below meth c G ad0 n0 ad H locs cells slots la C h3 hn ha hc hs hW hS hl (rSt_t hw))
theorem B_if_lt {B : Nat} {M : rM} {k pc : Nat} {ls : List (Option Value)} {st : List Value} {σ τ : rS} {kc ks : Nat} {o : Option Value ⊕ String} {x : Int32} {off : Int} (tgt : Nat) (d : decode M.2.1 pc = .ok (.ifCond .lt off, 3)) (ht : (pc : Int) + off = (tgt : Int)) (kt : x < 0 → rEb B M k tgt ls st σ kc ks o τ) (kf : ¬ x < 0 → rEb B M k (pc + 3) ls st σ kc ks o τ) : rEb B M k pc ls (.int x :: st) σ kc ks o τ := by
  intro l p e R s m args below meth c G ad0 n0 ad H locs cells slots la C h3 hn ha hc hs hW hS hl hw
  exact lv_if_lt C.2.1 C.2.2.1 d ht (fun q => kt q l p e R s m args below meth c G ad0 n0 ad H locs cells slots la C h3 hn ha hc hs hW hS hl (rSt_t hw)) (fun q => kf q l p e R s m args below meth c G ad0 n0 ad H locs cells slots la C h3 hn ha hc hs hW hS hl (rSt_t hw))
theorem B_if_gt {B : Nat} {M : rM} {k pc : Nat} {ls : List (Option Value)} {st : List Value} {σ τ : rS} {kc ks : Nat} {o : Option Value ⊕ String} {x : Int32} {off : Int} (tgt : Nat) (d : decode M.2.1 pc = .ok (.ifCond .gt off, 3)) (ht : (pc : Int) + off = (tgt : Int)) (kt : 0 < x → rEb B M k tgt ls st σ kc ks o τ) (kf : ¬ 0 < x → rEb B M k (pc + 3) ls st σ kc ks o τ) : rEb B M k pc ls (.int x :: st) σ kc ks o τ := by
  intro l p e R s m args below meth c G ad0 n0 ad H locs cells slots la C h3 hn ha hc hs hW hS hl hw
  exact lv_if_gt C.2.1 C.2.2.1 d ht (fun q => kt q l p e R s m args below meth c G ad0 n0 ad H locs cells slots la C h3 hn ha hc hs hW hS hl (rSt_t hw)) (fun q => kf q l p e R s m args below meth c G ad0 n0 ad H locs cells slots la C h3 hn ha hc hs hW hS hl (rSt_t hw))
theorem B_if_le {B : Nat} {M : rM} {k pc : Nat} {ls : List (Option Value)} {st : List Value} {σ τ : rS} {kc ks : Nat} {o : Option Value ⊕ String} {x : Int32} {off : Int} (tgt : Nat) (d : decode M.2.1 pc = .ok (.ifCond .le off, 3)) (ht : (pc : Int) + off = (tgt : Int)) (kt : x ≤ 0 → rEb B M k tgt ls st σ kc ks o τ) (kf : ¬ x ≤ 0 → rEb B M k (pc + 3) ls st σ kc ks o τ) : rEb B M k pc ls (.int x :: st) σ kc ks o τ := by
  intro l p e R s m args below meth c G ad0 n0 ad H locs cells slots la C h3 hn ha hc hs hW hS hl hw
  exact lv_if_le C.2.1 C.2.2.1 d ht (fun q => kt q l p e R s m args below meth c G ad0 n0 ad H locs cells slots la C h3 hn ha hc hs hW hS hl (rSt_t hw)) (fun q => kf q l p e R s m args below meth c G ad0 n0 ad H locs cells slots la C h3 hn ha hc hs hW hS hl (rSt_t hw))
theorem B_if_eq {B : Nat} {M : rM} {k pc : Nat} {ls : List (Option Value)} {st : List Value} {σ τ : rS} {kc ks : Nat} {o : Option Value ⊕ String} {x : Int32} {off : Int} (tgt : Nat) (d : decode M.2.1 pc = .ok (.ifCond .eq off, 3)) (ht : (pc : Int) + off = (tgt : Int)) (kt : x = 0 → rEb B M k tgt ls st σ kc ks o τ) (kf : ¬ x = 0 → rEb B M k (pc + 3) ls st σ kc ks o τ) : rEb B M k pc ls (.int x :: st) σ kc ks o τ := by
  intro l p e R s m args below meth c G ad0 n0 ad H locs cells slots la C h3 hn ha hc hs hW hS hl hw
  exact lv_if_eq C.2.1 C.2.2.1 d ht (fun q => kt q l p e R s m args below meth c G ad0 n0 ad H locs cells slots la C h3 hn ha hc hs hW hS hl (rSt_t hw)) (fun q => kf q l p e R s m args below meth c G ad0 n0 ad H locs cells slots la C h3 hn ha hc hs hW hS hl (rSt_t hw))
theorem B_if_ne {B : Nat} {M : rM} {k pc : Nat} {ls : List (Option Value)} {st : List Value} {σ τ : rS} {kc ks : Nat} {o : Option Value ⊕ String} {x : Int32} {off : Int} (tgt : Nat) (d : decode M.2.1 pc = .ok (.ifCond .ne off, 3)) (ht : (pc : Int) + off = (tgt : Int)) (kt : ¬ x = 0 → rEb B M k tgt ls st σ kc ks o τ) (kf : x = 0 → rEb B M k (pc + 3) ls st σ kc ks o τ) : rEb B M k pc ls (.int x :: st) σ kc ks o τ := by
  intro l p e R s m args below meth c G ad0 n0 ad H locs cells slots la C h3 hn ha hc hs hW hS hl hw
  exact lv_if_ne C.2.1 C.2.2.1 d ht (fun q => kt q l p e R s m args below meth c G ad0 n0 ad H locs cells slots la C h3 hn ha hc hs hW hS hl (rSt_t hw)) (fun q => kf q l p e R s m args below meth c G ad0 n0 ad H locs cells slots la C h3 hn ha hc hs hW hS hl (rSt_t hw))
theorem B_lald {B : Nat} {M : rM} {k pc : Nat} {ls : List (Option Value)} {st : List Value} {σ τ : rS} {kc ks : Nat} {o : Option Value ⊕ String} {a n : Nat} {i : Int32} (d : decode M.2.1 pc = .ok (.laload, 1)) (hk : rK σ a = (1, n)) (hin : vp_in i n) (kk : rEb B M k (pc + 1) ls (.long (rL σ a i.toNatClampNeg) :: st) σ kc ks o τ) : rEb B M k pc ls (.int i :: .ref a :: st) σ kc ks o τ := by
  intro l p e R s m args below meth c0 G ad0 n0 ad H locs cells slots la C h3 hn ha hc hs hW hS hl hw
  have hal := rSt_h (rSt_t hw)
  have h3a := rW_three hW hk hal.1
  exact va_lald (tys := rT G) C.2.1 C.2.2.1 C.2.2.2.2.2.2.2.2.2.2.2.2.1 hW.2.1 (a - 3) 1 (by rw [rws_at h3a hal.2, rc_long hk]) rfl hin d (kk l p e R s m args below meth c0 G ad0 n0 ad H locs cells slots la C h3 hn ha hc hs hW hS hl (rSt_c trivial (rSt_t (rSt_t hw))))
theorem B_last {B : Nat} {M : rM} {k pc : Nat} {ls : List (Option Value)} {st : List Value} {σ τ : rS} {kc ks : Nat} {o : Option Value ⊕ String} {a n : Nat} {i : Int32} {x : Int64} (d : decode M.2.1 pc = .ok (.lastore, 1)) (hk : rK σ a = (1, n)) (hin : vp_in i n) (kk : rEb B M k (pc + 1) ls st (wL σ a i.toNatClampNeg x) kc ks o τ) : rEb B M k pc ls (.long x :: .int i :: .ref a :: st) σ kc ks o τ := by
  intro l p e R s m args below meth c0 G ad0 n0 ad H locs cells slots la C h3 hn ha hc hs hW hS hl hw
  have hal := rSt_h (rSt_t (rSt_t hw))
  have h3a := rW_three hW hk hal.1
  refine va_last (tys := rT G) C.2.1 C.2.2.1 C.2.2.2.2.2.2.2.2.2.2.2.2.1 hW.2.1 hW.2.2.1 hS (a - 3) 1 (by rw [rws_at h3a hal.2, rc_long hk]) rfl hin d (fun H1 locs1 hP1 hD1 hS1 => ?_)
  have hW1 : rW G ad (wL σ a i.toNatClampNeg x) H1 := rW_put hW h3a rfl rfl (fun b hb => rfl) (fun b hb => up_other _ _ hb) (fun b hb => rfl) (fun j => hW.2.2.2.2.2.2.2 a j) (by rw [rc_long (show rK (wL σ a i.toNatClampNeg x) a = (1, n) from hk)]; rw [rL_wL, up_same]; rfl) hP1 hD1
  exact kk l p e R s m args below meth c0 G ad0 n0 ad H1 locs1 cells slots la C h3 hn ha hc hs hW1 hS1 hl (rSt_t (rSt_t (rSt_t hw)))
theorem B_newaJ {B : Nat} {M : rM} {k pc : Nat} {ls : List (Option Value)} {st : List Value} {σ τ : rS} {kc ks : Nat} {o : Option Value ⊕ String} {n : Nat} {x : Int32} (hw0 : Cond.arrayClass .long ∈ rWd) (d : decode M.2.1 pc = .ok (.newarray .long, 2)) (hx : x = nI n) (hn31 : n < 60000000) (kk : rEb B M k (pc + 2) ls (.ref (rN σ) :: st) (wN σ (1, n)) kc ks o τ) : rEb B M k pc ls (.int x :: st) σ (kc + 1) (ks + n) o τ := by
  intro l p e R s m args below meth c0 G ad0 n0 ad H locs cells slots la C h3 hn ha hc hs hW hS hl hw
  subst hx
  have hcl0 : (nI n).toNatClampNeg = n := nI_clamp (by omega)
  refine va_newa (atype := .long) (ty := .long) (N' := n) (a0 := (n, .inr (.inl (fun _ => 0)))) C.2.1 C.2.2.1 (C.2.2.2.2.2.1 _ hw0) rfl C.2.2.2.2.2.2.2.2.2.2.2.2.1 hW.2.1 hW.2.2.1 hS (fun q h => C.2.2.2.2.2.2.2.2.2.2.2.2.2.2.2.2.1 q h) (fun _ => rfl) (nI_pos (by omega)) hcl0 (by simp only [componentBytes]; omega) (by omega) (by omega) d (fun q cA H1 hK1 hP1 hD1 hS1 => ?_)
  have ecA : cA = gJ G := by
    have h1 := (C.2.2.2.2.2.2.2.2.2.2.2.2.1.2 1 _ rfl).2
    have h2 := (hK1.2 2 _ rfl).2
    exact Option.some.inj (h2.symm.trans h1)
  subst ecA
  have hW1 : rW G (va_up ad (rN σ) q) (wN σ (1, n)) H1 := rW_new hW (by
    unfold rc
    rw [show rK (wN σ (1, n)) (rN σ) = (1, n) from up_same _ _ _]
    rw [show rI (wN σ (1, n)) (rN σ) = fun _ => 0 from up_same _ _ _, show rL (wN σ (1, n)) (rN σ) = fun _ => 0 from up_same _ _ _]) hP1 hD1
  have hag : ∀ i, i < rN σ → va_up ad (rN σ) q i = ad i := fun i hi => up_other _ _ (Nat.ne_of_lt hi)
  have e9 : (Value.ref q :: st.map (tv ad)) = (Value.ref (rN σ) :: st).map (tv (va_up ad (rN σ) q)) := by
    rw [List.map_cons, rSt_agree hag (rSt_t hw)]
    exact congrArg (· :: _) (congrArg Value.ref (up_same ad (rN σ) q).symm)
  rw [e9]
  refine kk l p e R s m args below meth c0 G ad0 n0 (va_up ad (rN σ) q) H1 locs (cells + 1) (slots + n) la C h3 (Nat.le_succ_of_le hn) (fun i hi => (hag i (Nat.lt_of_lt_of_le hi hn)).trans (ha i hi)) (by omega) (by omega) hW1 hS1 (rLv_agree hag (Nat.le_succ _) hl) (rSt_c ⟨Nat.lt_of_lt_of_le (show 0 < 3 by decide) hW.1, Nat.lt_succ_self _⟩ (fun v hv => wv_mono (Nat.le_succ _) (rSt_t hw v hv)))
theorem B_callS {B : Nat} {M : rM} {k pc : Nat} {ls : List (Option Value)} {st stk : List Value} {σ τ τ1 : rS} {kc ks : Nat} {o : Option Value ⊕ String} {idx : Nat} {y : MethodName} {M2 : rM} {k2 n mc ms : Nat} {as : List Value} {v : Option Value} (hM : rMet y M2 k2 as σ mc ms v τ1) (hk2 : k2 < k) (hy : rYn y M2 n) (hln : Cond.methodLink M.1 idx y ∈ rWd) (hi : Cond.static y ∈ rWd) (hn9 : as.length = n) (hcat : (st.map fun v => v.category).sum ≤ 8) (hrev : stk = as.reverse ++ st) (d : decode M.2.1 pc = .ok (.invokestatic idx, 3)) (kk : rEb B M k (pc + 3) ls (v.toList ++ st) τ1 kc ks o τ) : rEb B M k pc ls stk σ (kc + mc) (ks + ms) o τ := by
  intro l p e R s m args below meth c0 G ad0 n0 ad H locs cells slots la C h3 hn ha hc hs hW hS hl hw
  subst hrev
  have hkf := C.2.2.2.2.2.2.2.2.2.2.1
  have hkl := C.2.2.2.2.2.2.2.2.2.2.2.1
  have hts := C.2.2.2.2.2.1
  have hmx := hy.2.2.2.2.2.2.2.1
  have e1 : ad 1 = ad0 1 := ha 1 (by omega)
  have e2 : ad 2 = ad0 2 := ha 2 (by omega)
  have hall : rSt as (rN σ) ∧ rSt st (rN σ) := by
    refine ⟨fun v hv => hw v ?_, fun v hv => hw v ?_⟩
    · exact List.mem_append_left _ (List.mem_reverse.mpr hv)
    · exact List.mem_append_right _ hv
  have hst' := hall.2
  have hG : GoodIn rWd (rHd y M2) := rGood fun w hw => (List.mem_cons.mp hw).elim (fun q => by rw [q]; exact hy.2.2.1) id
  have hd : y.cls ≠ "java/lang/invoke/MethodHandle" ∧ y.cls ≠ "java/lang/invoke/VarHandle" ∧ (parseMethodDescriptor y.desc).map (fun d => d.parameters.length) = some n := ⟨hy.2.2.2.2.1, hy.2.2.2.2.2.1, hy.2.2.2.2.2.2.1⟩
  have hroom : k2 + 1 ≤ R.frames ∧ 8 + (M2.2.2.1 + 11) + 100 * k2 ≤ R.locals := ⟨by omega, by omega⟩
  have hpre : ∀ U : State, U.heap = H → s.WarmedH U.vm → rPc G ad σ as (as.map (tv ad)).toArray U := fun U hU hWm => ⟨rfl, rC_go (by rw [e1, e2]; exact C.2.2.2.2.2.2.2.2.2.2.2.2) hU hS hWm, by rw [hU]; exact hW, hall.1⟩
  have hr := va_runS (cells := cells) (slots := slots) (locs := locs) (meth := meth) (below := below) (e := e) (As := (as.map (tv ad))) (rest := st.map (tv ad)) (g := F0 m pc la ((as.reverse ++ st).map (tv ad))) (own := M.1) ⟨C.2.1, C.2.2.1, C.2.2.2.1, C.2.2.2.2.1, hts⟩ (hM l G ad C.1) ⟨(callB_of n hts hG rfl rfl rfl (hts _ hy.2.2.2.1) (hts _ hln) hd hroom), hts _ hi⟩ ⟨rPc_blind, hpre⟩ rfl (by rw [List.length_map]; exact hn9) hl.1 (by rw [List.map_append, List.map_reverse] <;> rfl) (lv_room (by rw [rcats]; exact hcat)) d ⟨by omega, by omega⟩
  refine r_after hr hS (fun ad' H1 locs1 hag hwf hW1 hS1 hnn => ?_)
  have e9 : (v.map (tv ad')).toList ++ st.map (tv ad) = (v.toList ++ st).map (tv ad') := by
    rw [List.map_append, rSt_agree hag hst']
    cases v <;> rfl
  rw [e9]
  refine kk l p e R s m args below meth c0 G ad0 n0 ad' H1 locs1 (cells + mc) (slots + ms) la C h3 (Nat.le_trans hn hnn) (fun i hi => (hag i (Nat.lt_of_lt_of_le hi hn)).trans (ha i hi)) (by omega) (by omega) hW1 hS1 (rLv_agree hag hnn hl) (fun x hx => ?_)
  rcases List.mem_append.mp hx with q | q
  · cases v with
    | none => exact absurd q List.not_mem_nil
    | some v0 =>
      have : x = v0 := List.mem_singleton.mp q
      subst this
      exact hwf _ rfl
  · exact wv_mono hnn (hst' x q)
theorem B_aret {B : Nat} {M : rM} {k pc : Nat} {ls : List (Option Value)} {σ : rS} {kc ks : Nat} {v : Nat} {ty : FieldType} (hr : M.2.2.2.1 = some (.array ty)) (d : decode M.2.1 pc = .ok (.areturn, 1)) : rEb B M k pc ls [.ref v] σ kc ks (.inl (some (.ref v))) σ := by
  intro l p e R s m args below meth c G ad0 n0 ad H locs cells slots la C h3 hn ha hc hs hW hS hl hw
  refine vx_ret (W.widen (k := R.cells) (n := R.slots) (by omega) (by omega) (W.aret (v := .ref (ad v)) C.2.1 C.2.2.1 (C.2.2.2.2.2.2.2.1.trans hr) (Or.inr ⟨ty, rfl⟩) (Or.inr ⟨ad v, rfl⟩) (fun t ht hWm => ?_) hS.2.2 d C.2.2.2.2.2.2.1))
  exact ⟨ad, some (.ref v), rfl, ha, rfl, fun x h => (by cases h; exact rSt_h hw), by rw [ht]; exact hW, hS.F ht, hn⟩
theorem B_room {B : Nat} {M : rM} {k pc : Nat} {ls : List (Option Value)} {st : List Value} {σ τ : rS} {kc ks kc2 ks2 : Nat} {o : Option Value ⊕ String} (h : rEb B M k pc ls st σ kc ks o τ) (h1 : kc ≤ kc2) (h2 : ks ≤ ks2) : rEb B M k pc ls st σ kc2 ks2 o τ := by
  intro l p e R s m args below meth c0 G ad0 n0 ad H locs cells slots la C h3 hn ha hc hs hW hS hl hw
  exact h l p e R s m args below meth c0 G ad0 n0 ad H locs cells slots la C h3 hn ha (by omega) (by omega) hW hS hl hw
/-- deeper than is wanted -/
theorem B_less {B : Nat} {M : rM} {k pc : Nat} {ls ls2 : List (Option Value)} {st : List Value} {σ τ : rS} {kc ks : Nat} {o : Option Value ⊕ String} (h : rEb B M k pc ls2 st σ kc ks o τ) (h1 : ∀ (i : Nat) (v : Value), ls2[i]? = some (some v) → ls[i]? = some (some v)) : rEb B M k pc ls st σ kc ks o τ := by
  intro l p e R s m args below meth c0 G ad0 n0 ad H locs cells slots la C h3 hn ha hc hs hW hS hl hw
  exact h l p e R s m args below meth c0 G ad0 n0 ad H locs cells slots la C h3 hn ha hc hs hW hS ⟨hl.1, hl.2.1, fun i v q => hl.2.2 i v (h1 i v q)⟩ hw
/-- the class's world, and a row of 62 longs beside it -/
def xR (σ : rS) (f : Nat → Int64) : rS := rowL (wN σ (1, 62)) (rN σ) f
/-- all references are of cells that are there -/
def Wf (σ : rS) : Prop := ∀ a k, rR σ a k < rN σ
theorem xR_N (σ : rS) (f : Nat → Int64) : rN (xR σ f) = rN σ + 1 := rfl
theorem xR_K (σ : rS) (f : Nat → Int64) : rK (xR σ f) (rN σ) = (1, 62) := up_same _ _ _
theorem xR_Ko {σ : rS} {f : Nat → Int64} {a : Nat} (h : a ≠ rN σ) : rK (xR σ f) a = rK σ a := up_other _ _ h
theorem xR_I {σ : rS} {f : Nat → Int64} {a : Nat} (h : a ≠ rN σ) : rI (xR σ f) a = rI σ a := up_other _ _ h
theorem xR_L (σ : rS) (f : Nat → Int64) : rL (xR σ f) (rN σ) = f := up_same _ _ _
theorem xR_Lo {σ : rS} {f : Nat → Int64} {a : Nat} (h : a ≠ rN σ) : rL (xR σ f) a = rL σ a := by
  show va_up (va_up (rL σ) (rN σ) (fun _ => 0)) (rN σ) f a = _
  rw [up_other _ _ h, up_other _ _ h]
theorem xR_R {σ : rS} {f : Nat → Int64} {a : Nat} (h : a ≠ rN σ) : rR (xR σ f) a = rR σ a := up_other _ _ h
theorem xR_Rs (σ : rS) (f : Nat → Int64) : rR (xR σ f) (rN σ) = fun _ => 0 := up_same _ _ _
theorem xR_0 (σ : rS) : wN σ (1, 62) = xR σ (fun _ => 0) := by
  show (va_up (rK σ) (rN σ) (1, 62), va_up (rI σ) (rN σ) (fun _ => 0), va_up (rL σ) (rN σ) (fun _ => 0), va_up (rR σ) (rN σ) (fun _ => 0), rN σ + 1) = (va_up (rK σ) (rN σ) (1, 62), va_up (rI σ) (rN σ) (fun _ => 0), va_up (va_up (rL σ) (rN σ) (fun _ => 0)) (rN σ) (fun _ => 0), va_up (rR σ) (rN σ) (fun _ => 0), rN σ + 1)
  rw [up_twice]
theorem xR_w (σ : rS) (f : Nat → Int64) (k : Nat) (v : Int64) : wL (xR σ f) (rN σ) k v = xR σ (va_up f k v) := by
  rw [wL_row, xR_L]
  exact rowL_twice _ _ _ _
theorem xR_wf {σ : rS} {f : Nat → Int64} (h : Wf σ) : Wf (xR σ f) := fun a k => by
  rw [xR_N]
  by_cases e : a = rN σ
  · subst e; rw [xR_Rs]; exact Nat.succ_pos _
  · rw [xR_R e]; exact Nat.lt_succ_of_lt (h a k)
/-- a cell's picture depends on the addresses of what it refers to alone -/
theorem rfs_ad {σ : rS} {ad ad' : Nat → Nat} {a c n : Nat} (h : ∀ i, i < n → ad' i = ad i) (hR : ∀ k, rR σ a k < n) : rfs σ ad' a c = rfs σ ad a c := by
  unfold rfs
  refine List.map_congr_left fun k _ => ?_
  unfold rv
  rw [h _ (hR k)]
theorem rc_ad {G : rG} {σ : rS} {ad ad' : Nat → Nat} {a n : Nat} (h : ∀ i, i < n → ad' i = ad i) (hR : ∀ k, rR σ a k < n) : rc G σ ad' a = rc G σ ad a := by
  unfold rc
  split <;> first | rfl | rw [rfs_ad h hR]
theorem rws_x {G : rG} {σ : rS} {f : Nat → Int64} {ad : Nat → Nat} (h3 : 3 ≤ rN σ) : rws G (xR σ f) ad = rws G σ ad ++ [(ad (rN σ), .inl (gJ G, 62, .inr (.inl f)))] := by
  unfold rws
  rw [xR_N, show rN σ + 1 - 3 = (rN σ - 3) + 1 by omega, List.range_succ, List.map_append]
  congr 1
  · refine List.map_congr_left fun i hi => ?_
    have := List.mem_range.mp hi
    rw [rc_cong (xR_Ko (by omega)) (xR_I (by omega)) (xR_Lo (by omega)) (xR_R (by omega))]
  · rw [List.map_cons, List.map_nil, show rN σ - 3 + 3 = rN σ by omega, rc_long (xR_K σ f), xR_L]
theorem rws_len {G : rG} {σ : rS} {ad : Nat → Nat} : (rws G σ ad).length = rN σ - 3 := by
  unfold rws
  rw [List.length_map, List.length_range]
/-- the world without the row -/
theorem rW_sub {G : rG} {σ : rS} {f : Nat → Int64} {ad : Nat → Nat} {H : Heap} (h3 : 3 ≤ rN σ) (wf : Wf σ) (hW : rW G ad (xR σ f) H) : rW G ad σ H := by
  obtain ⟨-, p, ⟨d1, d2⟩, q1, q2, q3, q4, -⟩ := hW
  rw [rws_x h3] at p d1 d2
  have ap : ∀ (k : Nat) (q : Nat × va_E), (rws G σ ad)[k]? = some q → (rws G σ ad ++ [(ad (rN σ), .inl (gJ G, 62, .inr (.inl f)))])[k]? = some q := fun k q hk => by
    rw [List.getElem?_append_left (List.getElem?_eq_some_iff.mp hk).1]
    exact hk
  refine ⟨h3, fun k q hk => p k q (ap k q hk), ⟨fun i j x y hi hj => d1 i j x y (ap i x hi) (ap j y hj), fun k q hk => d2 k q (ap k q hk)⟩, ?_, ?_, ?_, ?_, wf⟩
  · rw [← q1, xR_Ko (by omega)]
  · rw [← q2, xR_I (by omega)]
  · rw [← q3, xR_Ko (by omega)]
  · rw [← q4, xR_I (by omega)]
theorem rW_last {G : rG} {σ : rS} {f : Nat → Int64} {ad : Nat → Nat} {H : Heap} (h3 : 3 ≤ rN σ) (hW : rW G ad (xR σ f) H) : va_at (gD G) vwCl (ad (rN σ), .inl (gJ G, 62, .inr (.inl f))) H ∧ rA G (ad (rN σ)) ∧ ∀ (k : Nat) (q : Nat × va_E), (rws G σ ad)[k]? = some q → q.1 ≠ ad (rN σ) := by
  obtain ⟨-, p, ⟨d1, d2⟩, -⟩ := hW
  rw [rws_x h3] at p d1 d2
  have hl : (rws G σ ad ++ [(ad (rN σ), .inl (gJ G, 62, .inr (.inl f)))])[rN σ - 3]? = some (ad (rN σ), .inl (gJ G, 62, .inr (.inl f))) := by
    rw [List.getElem?_append_right (by rw [rws_len]; exact Nat.le_refl _), rws_len, Nat.sub_self]
    rfl
  refine ⟨p _ _ hl, d2 _ _ hl, fun k q hk e => ?_⟩
  have hlt := (List.getElem?_eq_some_iff.mp hk).1
  have := d1 k (rN σ - 3) q _ (by rw [List.getElem?_append_left hlt]; exact hk) hl e
  rw [rws_len] at hlt
  omega
/-- the constants of a run, but a cell is not the class's own -/
def gX (G : rG) (x : Nat) : rG := (gD G, gI G, gJ G, gZ G, (fun q => rA G q ∧ q ≠ x), g1 G, g2 G)
theorem rc_gX {G : rG} {x : Nat} {σ : rS} {ad : Nat → Nat} (a : Nat) : rc (gX G x) σ ad a = rc G σ ad a := rfl
theorem rws_gX {G : rG} {x : Nat} {σ : rS} {ad : Nat → Nat} : rws (gX G x) σ ad = rws G σ ad := rfl
theorem rA_gX {G : rG} {x q : Nat} (h : rA (gX G x) q) : rA G q ∧ q ≠ x := h
theorem rW_gX {G : rG} {σ : rS} {f : Nat → Int64} {ad : Nat → Nat} {H : Heap} (h3 : 3 ≤ rN σ) (wf : Wf σ) (hW : rW G ad (xR σ f) H) : rW (gX G (ad (rN σ))) ad σ H := by
  obtain ⟨-, -, hx⟩ := rW_last h3 hW
  obtain ⟨a, b, ⟨c1, c2⟩, d⟩ := rW_sub h3 wf hW
  exact ⟨a, b, ⟨c1, fun k q hk => ⟨c2 k q hk, hx k q hk⟩⟩, d⟩
theorem va_Z_mono {C n d : String} {v : Value} {A A' : Nat → Prop} {U : State} {H : Heap} (hA : ∀ q, A' q → A q) (h : va_Z C n d v A U H) : va_Z C n d v A' U H := by
  obtain ⟨cf, kf, fi, f, a, cell, h1, h2, h3, h4, h5, h6, h7, h8⟩ := h
  exact ⟨cf, kf, fi, f, a, cell, h1, h2, h3, h4, h5, h6, h7, fun z => h8 (hA _ z)⟩
theorem vx_Zq_mono {C n d : String} {A A' : Nat → Prop} {U : State} {H : Heap} (hA : ∀ q, A' q → A q) (h : vx_Zq C n d A U H) : vx_Zq C n d A' U H := by
  obtain ⟨h1, c, k, i, f, a, cell, g1, g2, g3, g4, g5, g6, g7, g8, g9, g10⟩ := h
  refine ⟨?_, c, k, i, f, a, cell, g1, g2, g3, g4, g5, g6, g7, g8, g9, fun z => g10 (hA _ z)⟩
  rcases h1 with h1 | ⟨t, h1⟩
  · exact Or.inl (va_Z_mono hA h1)
  · exact Or.inr ⟨t, va_Z_mono hA h1⟩
theorem va_T_mono {ty : FieldType} {t N : Nat} {f : Nat → Value} {A A' : Nat → Prop} {U : State} {H : Heap} (hA : ∀ q, A' q → A q) (h : va_T ty t N f A U H) : va_T ty t N f A' U H := by
  obtain ⟨cell, h1, h2, h3, h4, h5, h6, h7⟩ := h
  exact ⟨cell, h1, h2, h3, h4, h5, h6, fun z => h7 (hA _ z)⟩
theorem rC_gX {G : rG} {a1 a2 x : Nat} {U : State} (h : rC G a1 a2 U) (hx : x < U.heap.size) : rC (gX G x) a1 a2 U := by
  obtain ⟨h1, h2, h3, h4, h5, h6, h7, ⟨⟨h8, h9⟩, h10⟩, h11⟩ := h
  have hA : ∀ q, rA (gX G x) q → rA G q := fun q z => z.1
  exact ⟨h1, va_Z_mono hA h2, vx_Zq_mono hA h3, vx_Zq_mono hA h4, fun q hq => ⟨h5 q hq, fun e => by omega⟩, fun z => h6 (hA _ z), fun z => h7 (hA _ z), ⟨⟨va_T_mono hA h8, va_T_mono hA h9⟩, h10⟩, h11⟩
/-- what a number is called behind a call -/
def mv (a b : Nat) (v : Value) : Value := match v with
  | .ref i => if i = a then .ref b else .ref i
  | v => v
theorem mv_tv {ad ad' ad2 : Nat → Nat} {a b : Nat} {v : Value} (hab : a ≤ b) (hag : ∀ i, i < a → ad' i = ad i) (h2 : ad2 = va_up ad' b (ad a)) (hv : wv (a + 1) v) : tv ad2 (mv a b v) = tv ad v ∧ wv (b + 1) (mv a b v) := by
  cases v with
  | ref i =>
    unfold mv
    by_cases e : i = a
    · subst e
      dsimp only
      rw [if_pos rfl]
      refine ⟨?_, Nat.lt_of_lt_of_le hv.1 hab, Nat.lt_succ_self _⟩
      show Value.ref (ad2 b) = Value.ref (ad i)
      rw [h2, up_same]
    · dsimp only
      rw [if_neg e]
      have hia : i < a := Nat.lt_of_le_of_ne (Nat.le_of_lt_succ hv.2) e
      refine ⟨?_, hv.1, Nat.lt_succ_of_lt (Nat.lt_of_lt_of_le hia hab)⟩
      show Value.ref (ad2 i) = Value.ref (ad i)
      rw [h2, up_other _ _ (Nat.ne_of_lt (Nat.lt_of_lt_of_le hia hab)), hag i hia]
  | _ => exact ⟨rfl, hv⟩
theorem rW_join {G : rG} {τ1 : rS} {f : Nat → Int64} {ad' : Nat → Nat} {x : Nat} {H1 : Heap} (hW1 : rW (gX G x) ad' τ1 H1) (hx : rA G x) (hc : va_at (gD G) vwCl (x, .inl (gJ G, 62, .inr (.inl f))) H1) : rW G (va_up ad' (rN τ1) x) (xR τ1 f) H1 := by
  obtain ⟨h3, p, ⟨d1, d2⟩, q1, q2, q3, q4, wf⟩ := hW1
  have e : rws G τ1 (va_up ad' (rN τ1) x) = rws G τ1 ad' := by
    unfold rws
    refine List.map_congr_left fun i hi => ?_
    have := List.mem_range.mp hi
    rw [up_other _ _ (by omega : i + 3 ≠ rN τ1), rc_ad (n := rN τ1) (fun i hi => up_other _ _ (Nat.ne_of_lt hi)) (fun k => wf _ k)]
  rw [rws_gX] at p d1 d2
  have hlast : ∀ (k : Nat) (q : Nat × va_E), (rws G τ1 ad' ++ [(x, .inl (gJ G, 62, .inr (.inl f)))])[k]? = some q → ((rws G τ1 ad')[k]? = some q ∧ q.1 ≠ x) ∨ (k = rN τ1 - 3 ∧ q = (x, .inl (gJ G, 62, .inr (.inl f)))) := fun k q hk => by
    by_cases hlt : k < (rws G τ1 ad').length
    · rw [List.getElem?_append_left hlt] at hk
      exact Or.inl ⟨hk, (rA_gX (d2 k q hk)).2⟩
    · rw [List.getElem?_append_right (by omega)] at hk
      have hk0 : k - (rws G τ1 ad').length = 0 := by
        have := (List.getElem?_eq_some_iff.mp hk).1
        simp at this
        omega
      rw [hk0] at hk
      cases hk
      rw [rws_len] at hlt hk0
      exact Or.inr ⟨by omega, rfl⟩
  refine ⟨by rw [xR_N]; omega, ?_, ?_, ?_, ?_, ?_, ?_, xR_wf wf⟩
  · rw [rws_x h3, e, up_same]
    intro k q hk
    rcases hlast k q hk with ⟨h, -⟩ | ⟨-, rfl⟩
    · exact p k q h
    · exact hc
  · rw [rws_x h3, e, up_same]
    refine ⟨fun i j a b hi hj hab => ?_, fun k q hk => ?_⟩
    · rcases hlast i a hi with ⟨h, ne⟩ | ⟨hi', rfl⟩
      · rcases hlast j b hj with ⟨g, ne2⟩ | ⟨hj', rfl⟩
        · exact d1 i j a b h g hab
        · exact absurd hab ne
      · rcases hlast j b hj with ⟨g, ne2⟩ | ⟨hj', rfl⟩
        · exact absurd hab.symm ne2
        · omega
    · rcases hlast k q hk with ⟨h, -⟩ | ⟨-, rfl⟩
      · exact (rA_gX (d2 k q h)).1
      · exact hx
  · rw [xR_Ko (by omega)]; exact q1
  · rw [xR_I (by omega)]; exact q2
  · rw [xR_Ko (by omega)]; exact q3
  · rw [xR_I (by omega)]; exact q4
theorem r_afterY {p : Program} {l : Launch} {e : Env} {R : Room} {s : State} {m : MethodId} {args : Array Value} {below : List Frame} {meth : Method} {c : Code} {H : Heap} {locs : List Loc} {cells slots : Nat} {Q : State → Prop} {G G' : rG} {ad : Nat → Nat} {n : Nat} {v : Option Value} {τ1 : rS} {mc ms pc : Nat} {la : Array Slot} {st0 rest : List Value} {a : Array Value} (hr : va_Run p l e R s m args below meth c H locs cells slots mc ms (F0 m pc la st0) rest (rQ G' ad n (.inl v) τ1 a) (rA G')) (hsub : ∀ q, rA G' q → rA G q) (hS : va_S (rA G) s.heap H locs)
    (kk : ∀ (ad' : Nat → Nat) (H1 : Heap) (locs1 : List Loc), (∀ i, i < n → ad' i = ad i) → (∀ x, v = some x → wv (rN τ1) x) → rW G' ad' τ1 H1 → va_S (rA G) s.heap H1 locs1 → n ≤ rN τ1 → (∀ q : Nat, q < H.size → ¬ rA G' q → H1[q]? = H[q]?) → W p l e R s m args below meth c H1 locs1 (cells + mc) (slots + ms) Q (F0 m (pc + 3) la ((v.map (tv ad')).toList ++ rest))) : W p l e R s m args below meth c H locs cells slots Q (F0 m pc la st0) := by
  intro T hT X
  obtain ⟨v1, st₀, t, T', L, h0, X', hL, e1, e2, ⟨ad', v2, ho, hag, hv, hwf, hW1, hF, hnn⟩, st⟩ := hr T hT X
  cases hv
  cases ho
  have hF1 : H.size ≤ t.heap.size ∧ ∀ q : Nat, q < H.size → ¬ rA G' q → t.heap[q]? = H[q]? := by rw [← h0]; exact hF
  obtain ⟨t2, a1, b1⟩ := kk ad' T'.heap (locs ++ L) hag hwf (by rw [e1]; exact hW1)
    ⟨Nat.le_trans hS.1 (by rw [e1]; exact hF1.1), fun q h1 h2 => by rw [e1, hF1.2 q (Nat.lt_of_lt_of_le h1 hS.1) (fun z => h2 (hsub q z))]; exact hS.2.1 q h1 h2, fun q hq => by
      rcases List.mem_append.mp hq with h | h
      · exact hS.2.2 q h
      · exact hsub _ (hL q h)⟩ hnn (fun q h1 h2 => by rw [e1]; exact hF1.2 q h1 h2) T' rfl X'
  exact ⟨t2, st t2 a1, b1⟩
/-- a call in the class's world; the row beside it stays -/
theorem B_callSx {B : Nat} {M : rM} {k pc : Nat} {ls : List (Option Value)} {st stk : List Value} {σ τ τ1 : rS} {f : Nat → Int64} {kc ks : Nat} {o : Option Value ⊕ String} {idx : Nat} {y : MethodName} {M2 : rM} {k2 n mc ms : Nat} {as : List Value} {v : Option Value} (hM : rMet y M2 k2 as σ mc ms v τ1) (hB : B ≤ rN σ) (wf : Wf σ) (has : rSt as (rN σ)) (hk2 : k2 < k) (hy : rYn y M2 n) (hln : Cond.methodLink M.1 idx y ∈ rWd) (hi : Cond.static y ∈ rWd) (hn9 : as.length = n) (hcat : (st.map fun v => v.category).sum ≤ 8) (hrev : stk = as.reverse ++ st) (d : decode M.2.1 pc = .ok (.invokestatic idx, 3)) (kk : Wf τ1 → rN σ ≤ rN τ1 → rEb B M k (pc + 3) (ls.map (Option.map (mv (rN σ) (rN τ1)))) (v.toList ++ st.map (mv (rN σ) (rN τ1))) (xR τ1 f) kc ks o τ) : rEb B M k pc ls stk (xR σ f) (kc + mc) (ks + ms) o τ := by
  intro l p e R s m args below meth c0 G ad0 n0 ad H locs cells slots la C h3 hn ha hc hs hW hS hl hw
  subst hrev
  have h3N : 3 ≤ rN σ := by omega
  have hkf := C.2.2.2.2.2.2.2.2.2.2.1
  have hkl := C.2.2.2.2.2.2.2.2.2.2.2.1
  have hts := C.2.2.2.2.2.1
  have hmx := hy.2.2.2.2.2.2.2.1
  have e1 : ad 1 = ad0 1 := ha 1 (by omega)
  have e2 : ad 2 = ad0 2 := ha 2 (by omega)
  have hst' : rSt st (rN σ + 1) := fun v hv => hw v (List.mem_append_right _ hv)
  have hG : GoodIn rWd (rHd y M2) := rGood fun w hw => (List.mem_cons.mp hw).elim (fun q => by rw [q]; exact hy.2.2.1) id
  have hd : y.cls ≠ "java/lang/invoke/MethodHandle" ∧ y.cls ≠ "java/lang/invoke/VarHandle" ∧ (parseMethodDescriptor y.desc).map (fun d => d.parameters.length) = some n := ⟨hy.2.2.2.2.1, hy.2.2.2.2.2.1, hy.2.2.2.2.2.2.1⟩
  have hroom : k2 + 1 ≤ R.frames ∧ 8 + (M2.2.2.1 + 11) + 100 * k2 ≤ R.locals := ⟨by omega, by omega⟩
  obtain ⟨hx1, hx2, hx3⟩ := rW_last h3N hW
  have hxl : ad (rN σ) < H.size := hx1.lt
  have hWx := rW_gX h3N wf hW
  have hpre : ∀ U : State, U.heap = H → s.WarmedH U.vm → rPc (gX G (ad (rN σ))) ad σ as (as.map (tv ad)).toArray U := fun U hU hWm => ⟨rfl, rC_gX (rC_go (by rw [e1, e2]; exact C.2.2.2.2.2.2.2.2.2.2.2.2) hU hS hWm) (by rw [hU]; exact hxl), by rw [hU]; exact hWx, has⟩
  have hr := va_runS (cells := cells) (slots := slots) (locs := locs) (meth := meth) (below := below) (e := e) (As := (as.map (tv ad))) (rest := st.map (tv ad)) (g := F0 m pc la ((as.reverse ++ st).map (tv ad))) (own := M.1) ⟨C.2.1, C.2.2.1, C.2.2.2.1, C.2.2.2.2.1, hts⟩ (hM l (gX G (ad (rN σ))) ad C.1) ⟨(callB_of n hts hG rfl rfl rfl (hts _ hy.2.2.2.1) (hts _ hln) hd hroom), hts _ hi⟩ ⟨rPc_blind, hpre⟩ rfl (by rw [List.length_map]; exact hn9) hl.1 (by rw [List.map_append, List.map_reverse] <;> rfl) (lv_room (by rw [rcats]; exact hcat)) d ⟨by omega, by omega⟩
  refine r_afterY hr (fun q z => z.1) hS (fun ad' H1 locs1 hag hwf hW1 hS1 hnn hun => ?_)
  have hWj : rW G (va_up ad' (rN τ1) (ad (rN σ))) (xR τ1 f) H1 := rW_join hW1 hx2 (hx1.kept (hun _ hxl (fun z => z.2 rfl)))
  have wf1 : Wf τ1 := hW1.2.2.2.2.2.2.2
  have mvs : ∀ v, wv (rN σ + 1) v → tv (va_up ad' (rN τ1) (ad (rN σ))) (mv (rN σ) (rN τ1) v) = tv ad v ∧ wv (rN τ1 + 1) (mv (rN σ) (rN τ1) v) := fun v hv => mv_tv hnn hag rfl hv
  have e9 : (v.map (tv ad')).toList ++ st.map (tv ad) = (v.toList ++ st.map (mv (rN σ) (rN τ1))).map (tv (va_up ad' (rN τ1) (ad (rN σ)))) := by
    rw [List.map_append, List.map_map]
    congr 1
    · cases v with
      | none => rfl
      | some v0 =>
        show [tv ad' v0] = [tv _ v0]
        rw [tv_agree (ad := ad') (n := rN τ1) (fun i hi => up_other _ _ (Nat.ne_of_lt hi)) (hwf v0 rfl)]
    · exact List.map_congr_left fun v hv => (mvs v (hst' v hv)).1.symm
  rw [e9]
  refine kk wf1 hnn l p e R s m args below meth c0 G ad0 n0 (va_up ad' (rN τ1) (ad (rN σ))) H1 locs1 (cells + mc) (slots + ms) la C h3 (by rw [xR_N]; omega) (fun i hi => ?_) (by omega) (by omega) hWj hS1 ⟨hl.1, hl.2.1, fun i v hv => ?_⟩ (fun x hx => ?_)
  · rw [up_other _ _ (by omega), hag i (by omega)]
    exact ha i hi
  · rw [List.getElem?_map] at hv
    obtain ⟨ov, h1, h2⟩ := Option.map_eq_some_iff.mp hv
    cases ov with
    | none => cases h2
    | some v0 =>
      cases h2
      have h4 := hl.2.2 i v0 h1
      have h5 := mvs v0 h4.1
      exact ⟨h5.2, by rw [h5.1]; exact h4.2⟩
  · rcases List.mem_append.mp hx with q | q
    · cases v with
      | none => exact absurd q List.not_mem_nil
      | some v0 =>
        have : x = v0 := List.mem_singleton.mp q
        subst this
        exact wv_mono (Nat.le_succ _) (hwf _ rfl)
    · obtain ⟨v0, h1, rfl⟩ := List.mem_map.mp q
      exact (mvs v0 (hst' v0 h1)).2
/-- the row is not wanted any more -/
theorem B_drop {B : Nat} {M : rM} {k pc : Nat} {ls : List (Option Value)} {st : List Value} {σ τ : rS} {f : Nat → Int64} {kc ks : Nat} {o : Option Value ⊕ String} (hB : B ≤ rN σ) (wf : Wf σ) (hls : ∀ (i : Nat) (v : Value), ls[i]? = some (some v) → wv (rN σ) v) (hst : rSt st (rN σ)) (h : rEb B M k pc ls st σ kc ks o τ) : rEb B M k pc ls st (xR σ f) kc ks o τ := by
  intro l p e R s m args below meth c0 G ad0 n0 ad H locs cells slots la C h3 hn ha hc hs hW hS hl hw
  have h3N : 3 ≤ rN σ := by omega
  exact h l p e R s m args below meth c0 G ad0 n0 ad H locs cells slots la C h3 (by omega) ha hc hs (rW_sub h3N wf hW) hS ⟨hl.1, hl.2.1, fun i v hv => ⟨hls i v hv, (hl.2.2 i v hv).2⟩⟩ hst
/-- all references are of cells that are there: the machine's world says so -/
theorem B_wf {B : Nat} {M : rM} {k pc : Nat} {ls : List (Option Value)} {st : List Value} {σ τ : rS} {kc ks : Nat} {o : Option Value ⊕ String} (h : Wf σ → rEb B M k pc ls st σ kc ks o τ) : rEb B M k pc ls st σ kc ks o τ := by
  intro l p e R s m args below meth c0 G ad0 n0 ad H locs cells slots la C h3 hn ha hc hs hW hS hl hw
  exact h hW.2.2.2.2.2.2.2 l p e R s m args below meth c0 G ad0 n0 ad H locs cells slots la C h3 hn ha hc hs hW hS hl hw

