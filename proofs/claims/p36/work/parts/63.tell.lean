/-! the law's tell: 62 questions, their answers in a row -/
/-- the question that is asked for the place k -/
def tq (k : Nat) : Int32 × Int32 × Int32 := if k < 12 then (32, nI k, 0) else if k < 42 then (28, nI (k - 12) / 10, nI (k - 12) - nI (k - 12) / 10 * 10) else if k = 42 then (24, 0, 0) else if k = 43 then (15, 0, 0) else if k < 53 then (26, 13 * (nI (k - 44) - nI (k - 44) / 4 * 4) + nI (k - 44) / 4, 0) else (25, nI (k - 44) - nI (k - 44) / 3 * 3, 5 * nI (k - 44))
def tG : Nat → Nat → (Nat → Int64) → rS → Option ((Nat → Int64) × rS)
  | 0, _, f, σ => some (f, σ)
  | n + 1, k, f, σ => (f_L_ask σ (tq k).1 (tq k).2.1 (tq k).2.2).bind fun r => tG n (k + 1) (va_up f k r.1) r.2
def f_tell (σ : rS) : Option ((Nat → Int64) × rS) := tG 62 0 (fun _ => 0) σ
/-- where the machine stands ahead of the place k -/
def hpT (k : Nat) : Nat × Int32 := if k < 12 then (7, nI k) else if k < 42 then (32, nI (k - 12)) else if k = 42 then (64, 30) else if k = 43 then (76, 30) else (90, nI (k - 44))
abbrev lsT (σ : rS) (i : Int32) : List (Option Value) := [some (.ref 3), some (.ref (rN σ)), some (.int i)]
theorem mv_s (a b : Nat) : mv a b (.ref a) = .ref b := by unfold mv; dsimp only; rw [if_pos rfl]
theorem mv_o {a b i : Nat} (h : i ≠ a) : mv a b (.ref i) = .ref i := by unfold mv; dsimp only; rw [if_neg h]
theorem lsT_mv {σ τ : rS} {i : Int32} (h : 3 < rN σ) : (lsT σ i).map (Option.map (mv (rN σ) (rN τ))) = lsT τ i := by
  show [some (mv _ _ (.ref 3)), some (mv _ _ (.ref (rN σ))), some (.int i)] = _
  rw [mv_s, mv_o (by omega)]
theorem Sy_67 {σ : rS} (h : J Sy σ) : 67 ≤ rN σ := h.1.1.2.2
theorem T_call {B pc : Nat} {σ τ1 τ : rS} {f : Nat → Int64} {i ix q1 q2 q3 : Int32} {v : Int64} {kc ks : Nat} {o : Option Value ⊕ String} (hJ : J Sy σ) (hB : B ≤ rN σ) (wf : Wf σ) (hf : f_L_ask σ q1 q2 q3 = some (v, τ1)) (d : decode mL_tell.2.1 pc = .ok (.invokestatic 139, 3)) (kk : Wf τ1 → rN σ ≤ rN τ1 → rEb B mL_tell 26 (pc + 3) (lsT τ1 i) [.long v, .int ix, .ref (rN τ1)] (xR τ1 f) kc ks o τ) : rEb B mL_tell 26 pc (lsT σ i) [.int q3, .int q2, .int q1, .ref 3, .int ix, .ref (rN σ)] (xR σ f) (kc + (4 + (uC τ1 - uC σ))) (ks + (24 + (uS τ1 - uS σ))) o τ := by
  have h67 := Sy_67 hJ
  obtain ⟨-, hM⟩ := ok_L_ask (p1 := q1) (p2 := q2) (p3 := q3) hJ v τ1 hf
  refine B_callSx (as := [.ref 3, .int q1, .int q2, .int q3]) (st := [.int ix, .ref (rN σ)]) hM hB wf ?_ (by decide) yfL_ask mlL_139 stL_ask rfl (Nat.le_of_ble_eq_true rfl) rfl d (fun w1 w2 => ?_)
  · intro x hx
    simp only [List.mem_cons, List.not_mem_nil, or_false] at hx
    rcases hx with rfl | rfl | rfl | rfl
    · exact ⟨by decide, Nat.lt_of_lt_of_le (by decide) h67⟩
    all_goals exact trivial
  · rw [lsT_mv (by omega)]
    show rEb B mL_tell 26 (pc + 3) (lsT τ1 i) [.long v, .int ix, mv (rN σ) (rN τ1) (.ref (rN σ))] (xR τ1 f) kc ks o τ
    rw [mv_s]
    exact kk w1 w2
theorem T_put {B pc : Nat} {σ τ : rS} {f : Nat → Int64} {i ix : Int32} {v : Int64} {kc ks j : Nat} {o : Option Value ⊕ String} (hix : inB ix 62) (hj : ix.toNatClampNeg = j) (d : decode mL_tell.2.1 pc = .ok (.lastore, 1)) (kk : rEb B mL_tell 26 (pc + 1) (lsT σ i) [] (xR σ (va_up f j v)) kc ks o τ) : rEb B mL_tell 26 pc (lsT σ i) [.long v, .int ix, .ref (rN σ)] (xR σ f) kc ks o τ := by
  refine B_last d (xR_K σ f) (inB_vp hix) ?_
  rw [xR_w, hj]
  exact kk
theorem tkA : ∀ k, k < 12 → ¬ (12 : Int32) ≤ nI k ∧ inB (nI k) 62 ∧ (nI k).toNatClampNeg = k ∧ nI k + 1 = nI (k + 1) := by decide +kernel
theorem tkB : ∀ k, k < 30 → ¬ (30 : Int32) ≤ nI k ∧ inB (12 + nI k) 62 ∧ (12 + nI k).toNatClampNeg = k + 12 ∧ nI k + 1 = nI (k + 1) := by decide +kernel
theorem tkC : ∀ k, k < 18 → ¬ (18 : Int32) ≤ nI k ∧ inB (44 + nI k) 62 ∧ (44 + nI k).toNatClampNeg = k + 44 ∧ nI k + 1 = nI (k + 1) ∧ ((9 : Int32) ≤ nI k ↔ 9 ≤ k) := by decide +kernel
theorem T_A {B k : Nat} {σ τ1 τ : rS} {f : Nat → Int64} {v : Int64} {kc ks : Nat} {o : Option Value ⊕ String} (hk : k < 12) (hJ : J Sy σ) (hB : B ≤ rN σ) (wf : Wf σ) (hf : f_L_ask σ 32 (nI k) 0 = some (v, τ1)) (kk : Wf τ1 → rN σ ≤ rN τ1 → rEb B mL_tell 26 7 (lsT τ1 (nI (k + 1))) [] (xR τ1 (va_up f k v)) kc ks o τ) : rEb B mL_tell 26 7 (lsT σ (nI k)) [] (xR σ f) (kc + (4 + (uC τ1 - uC σ))) (ks + (24 + (uS τ1 - uS σ))) o τ := by
  obtain ⟨t1, t2, t3, t4⟩ := tkA k hk
  refine B_iload_n (x := nI k) dL_tell_7 rfl ?_
  refine B_bipush (v := 12) dL_tell_8 (by decide) ?_
  refine B_icmp_ge 30 dL_tell_10 (by decide) (fun h => absurd h t1) (fun _ => ?_)
  refine B_aload_n (x := rN σ) dL_tell_13 rfl ?_
  refine B_iload_n (x := nI k) dL_tell_14 rfl ?_
  refine B_aload_n (x := 3) dL_tell_15 rfl ?_
  refine B_bipush (v := 32) dL_tell_16 (by decide) ?_
  refine B_iload_n (x := nI k) dL_tell_18 rfl ?_
  refine B_iconst (v := 0) dL_tell_19 (by decide) ?_
  refine T_call hJ hB wf hf dL_tell_20 (fun w1 w2 => ?_)
  refine T_put t2 t3 dL_tell_23 ?_
  refine B_iinc (x := nI k) (v := 1) (ls2 := lsT τ1 (nI (k + 1))) dL_tell_24 rfl (by decide) (by decide) (by rw [t4]; rfl) ?_
  exact B_goto 7 dL_tell_27 (by decide) (kk w1 w2)
theorem T_B {B k : Nat} {σ τ1 τ : rS} {f : Nat → Int64} {v : Int64} {kc ks : Nat} {o : Option Value ⊕ String} (hk : k < 30) (hJ : J Sy σ) (hB : B ≤ rN σ) (wf : Wf σ) (hf : f_L_ask σ 28 (nI k / 10) (nI k - nI k / 10 * 10) = some (v, τ1)) (kk : Wf τ1 → rN σ ≤ rN τ1 → rEb B mL_tell 26 32 (lsT τ1 (nI (k + 1))) [] (xR τ1 (va_up f (k + 12) v)) kc ks o τ) : rEb B mL_tell 26 32 (lsT σ (nI k)) [] (xR σ f) (kc + (4 + (uC τ1 - uC σ))) (ks + (24 + (uS τ1 - uS σ))) o τ := by
  obtain ⟨t1, t2, t3, t4⟩ := tkB k hk
  refine B_iload_n (x := nI k) dL_tell_32 rfl ?_
  refine B_bipush (v := 30) dL_tell_33 (by decide) ?_
  refine B_icmp_ge 64 dL_tell_35 (by decide) (fun h => absurd h t1) (fun _ => ?_)
  refine B_aload_n (x := rN σ) dL_tell_38 rfl ?_
  refine B_bipush (v := 12) dL_tell_39 (by decide) ?_
  refine B_iload_n (x := nI k) dL_tell_41 rfl ?_
  refine B_iadd dL_tell_42 ?_
  refine B_aload_n (x := 3) dL_tell_43 rfl ?_
  refine B_bipush (v := 28) dL_tell_44 (by decide) ?_
  refine B_iload_n (x := nI k) dL_tell_46 rfl ?_
  refine B_bipush (v := 10) dL_tell_47 (by decide) ?_
  refine B_idiv dL_tell_49 (by decide) ?_
  refine B_iload_n (x := nI k) dL_tell_50 rfl ?_
  refine B_bipush (v := 10) dL_tell_51 (by decide) ?_
  refine B_irem dL_tell_53 (by decide) ?_
  refine T_call hJ hB wf hf dL_tell_54 (fun w1 w2 => ?_)
  refine T_put t2 t3 dL_tell_57 ?_
  refine B_iinc (x := nI k) (v := 1) (ls2 := lsT τ1 (nI (k + 1))) dL_tell_58 rfl (by decide) (by decide) (by rw [t4]; rfl) ?_
  exact B_goto 32 dL_tell_61 (by decide) (kk w1 w2)
theorem T_C {B k : Nat} {σ τ1 τ : rS} {f : Nat → Int64} {v : Int64} {kc ks : Nat} {o : Option Value ⊕ String} (hJ : J Sy σ) (hB : B ≤ rN σ) (wf : Wf σ) (hf : f_L_ask σ 24 0 0 = some (v, τ1)) (kk : Wf τ1 → rN σ ≤ rN τ1 → rEb B mL_tell 26 76 (lsT τ1 30) [] (xR τ1 (va_up f 42 v)) kc ks o τ) : rEb B mL_tell 26 64 (lsT σ 30) [] (xR σ f) (kc + (4 + (uC τ1 - uC σ))) (ks + (24 + (uS τ1 - uS σ))) o τ := by
  refine B_aload_n (x := rN σ) dL_tell_64 rfl ?_
  refine B_bipush (v := 42) dL_tell_65 (by decide) ?_
  refine B_aload_n (x := 3) dL_tell_67 rfl ?_
  refine B_bipush (v := 24) dL_tell_68 (by decide) ?_
  refine B_iconst (v := 0) dL_tell_70 (by decide) ?_
  refine B_iconst (v := 0) dL_tell_71 (by decide) ?_
  refine T_call hJ hB wf hf dL_tell_72 (fun w1 w2 => ?_)
  exact T_put (by decide) (by decide) dL_tell_75 (kk w1 w2)
theorem T_D {B k : Nat} {σ τ1 τ : rS} {f : Nat → Int64} {v : Int64} {kc ks : Nat} {o : Option Value ⊕ String} (hJ : J Sy σ) (hB : B ≤ rN σ) (wf : Wf σ) (hf : f_L_ask σ 15 0 0 = some (v, τ1)) (kk : Wf τ1 → rN σ ≤ rN τ1 → rEb B mL_tell 26 90 (lsT τ1 (nI 0)) [] (xR τ1 (va_up f 43 v)) kc ks o τ) : rEb B mL_tell 26 76 (lsT σ 30) [] (xR σ f) (kc + (4 + (uC τ1 - uC σ))) (ks + (24 + (uS τ1 - uS σ))) o τ := by
  refine B_aload_n (x := rN σ) dL_tell_76 rfl ?_
  refine B_bipush (v := 43) dL_tell_77 (by decide) ?_
  refine B_aload_n (x := 3) dL_tell_79 rfl ?_
  refine B_bipush (v := 15) dL_tell_80 (by decide) ?_
  refine B_iconst (v := 0) dL_tell_82 (by decide) ?_
  refine B_iconst (v := 0) dL_tell_83 (by decide) ?_
  refine T_call hJ hB wf hf dL_tell_84 (fun w1 w2 => ?_)
  refine T_put (j := 43) (by decide) (by decide) dL_tell_87 ?_
  refine B_iconst (v := 0) dL_tell_88 (by decide) ?_
  exact B_istore_n (ls2 := lsT τ1 (nI 0)) dL_tell_89 (by decide) rfl (kk w1 w2)
theorem T_E1 {B k : Nat} {σ τ1 τ : rS} {f : Nat → Int64} {v : Int64} {kc ks : Nat} {o : Option Value ⊕ String} (hk : k < 9) (hJ : J Sy σ) (hB : B ≤ rN σ) (wf : Wf σ) (hf : f_L_ask σ 26 (13 * (nI k - nI k / 4 * 4) + nI k / 4) 0 = some (v, τ1)) (kk : Wf τ1 → rN σ ≤ rN τ1 → rEb B mL_tell 26 90 (lsT τ1 (nI (k + 1))) [] (xR τ1 (va_up f (k + 44) v)) kc ks o τ) : rEb B mL_tell 26 90 (lsT σ (nI k)) [] (xR σ f) (kc + (4 + (uC τ1 - uC σ))) (ks + (24 + (uS τ1 - uS σ))) o τ := by
  obtain ⟨t1, t2, t3, t4, t5⟩ := tkC k (by omega)
  refine B_iload_n (x := nI k) dL_tell_90 rfl ?_
  refine B_bipush (v := 18) dL_tell_91 (by decide) ?_
  refine B_icmp_ge 146 dL_tell_93 (by decide) (fun h => absurd h t1) (fun _ => ?_)
  refine B_aload_n (x := rN σ) dL_tell_96 rfl ?_
  refine B_bipush (v := 44) dL_tell_97 (by decide) ?_
  refine B_iload_n (x := nI k) dL_tell_99 rfl ?_
  refine B_iadd dL_tell_100 ?_
  refine B_iload_n (x := nI k) dL_tell_101 rfl ?_
  refine B_bipush (v := 9) dL_tell_102 (by decide) ?_
  refine B_icmp_ge 127 dL_tell_104 (by decide) (fun h => absurd (t5.mp h) (by omega)) (fun _ => ?_)
  refine B_aload_n (x := 3) dL_tell_107 rfl ?_
  refine B_bipush (v := 26) dL_tell_108 (by decide) ?_
  refine B_bipush (v := 13) dL_tell_110 (by decide) ?_
  refine B_iload_n (x := nI k) dL_tell_112 rfl ?_
  refine B_iconst (v := 4) dL_tell_113 (by decide) ?_
  refine B_irem dL_tell_114 (by decide) ?_
  refine B_imul dL_tell_115 ?_
  refine B_iload_n (x := nI k) dL_tell_116 rfl ?_
  refine B_iconst (v := 4) dL_tell_117 (by decide) ?_
  refine B_idiv dL_tell_118 (by decide) ?_
  refine B_iadd dL_tell_119 ?_
  refine B_iconst (v := 0) dL_tell_120 (by decide) ?_
  refine T_call hJ hB wf hf dL_tell_121 (fun w1 w2 => ?_)
  refine B_goto 139 dL_tell_124 (by decide) ?_
  refine T_put t2 t3 dL_tell_139 ?_
  refine B_iinc (x := nI k) (v := 1) (ls2 := lsT τ1 (nI (k + 1))) dL_tell_140 rfl (by decide) (by decide) (by rw [t4]; rfl) ?_
  exact B_goto 90 dL_tell_143 (by decide) (kk w1 w2)
theorem T_E2 {B k : Nat} {σ τ1 τ : rS} {f : Nat → Int64} {v : Int64} {kc ks : Nat} {o : Option Value ⊕ String} (hk : 9 ≤ k ∧ k < 18) (hJ : J Sy σ) (hB : B ≤ rN σ) (wf : Wf σ) (hf : f_L_ask σ 25 (nI k - nI k / 3 * 3) (5 * nI k) = some (v, τ1)) (kk : Wf τ1 → rN σ ≤ rN τ1 → rEb B mL_tell 26 90 (lsT τ1 (nI (k + 1))) [] (xR τ1 (va_up f (k + 44) v)) kc ks o τ) : rEb B mL_tell 26 90 (lsT σ (nI k)) [] (xR σ f) (kc + (4 + (uC τ1 - uC σ))) (ks + (24 + (uS τ1 - uS σ))) o τ := by
  obtain ⟨t1, t2, t3, t4, t5⟩ := tkC k (by omega)
  refine B_iload_n (x := nI k) dL_tell_90 rfl ?_
  refine B_bipush (v := 18) dL_tell_91 (by decide) ?_
  refine B_icmp_ge 146 dL_tell_93 (by decide) (fun h => absurd h t1) (fun _ => ?_)
  refine B_aload_n (x := rN σ) dL_tell_96 rfl ?_
  refine B_bipush (v := 44) dL_tell_97 (by decide) ?_
  refine B_iload_n (x := nI k) dL_tell_99 rfl ?_
  refine B_iadd dL_tell_100 ?_
  refine B_iload_n (x := nI k) dL_tell_101 rfl ?_
  refine B_bipush (v := 9) dL_tell_102 (by decide) ?_
  refine B_icmp_ge 127 dL_tell_104 (by decide) (fun _ => ?_) (fun h => absurd (t5.mpr hk.1) h)
  refine B_aload_n (x := 3) dL_tell_127 rfl ?_
  refine B_bipush (v := 25) dL_tell_128 (by decide) ?_
  refine B_iload_n (x := nI k) dL_tell_130 rfl ?_
  refine B_iconst (v := 3) dL_tell_131 (by decide) ?_
  refine B_irem dL_tell_132 (by decide) ?_
  refine B_iconst (v := 5) dL_tell_133 (by decide) ?_
  refine B_iload_n (x := nI k) dL_tell_134 rfl ?_
  refine B_imul dL_tell_135 ?_
  refine T_call hJ hB wf hf dL_tell_136 (fun w1 w2 => ?_)
  refine T_put t2 t3 dL_tell_139 ?_
  refine B_iinc (x := nI k) (v := 1) (ls2 := lsT τ1 (nI (k + 1))) dL_tell_140 rfl (by decide) (by decide) (by rw [t4]; rfl) ?_
  exact B_goto 90 dL_tell_143 (by decide) (kk w1 w2)
/-- from the place k to the next -/
theorem T_step {B k : Nat} {σ τ1 τ : rS} {f : Nat → Int64} {v : Int64} {kc ks : Nat} {o : Option Value ⊕ String} (hk : k < 62) (hJ : J Sy σ) (hB : B ≤ rN σ) (wf : Wf σ) (hf : f_L_ask σ (tq k).1 (tq k).2.1 (tq k).2.2 = some (v, τ1)) (kk : Wf τ1 → rN σ ≤ rN τ1 → rEb B mL_tell 26 (hpT (k + 1)).1 (lsT τ1 (hpT (k + 1)).2) [] (xR τ1 (va_up f k v)) kc ks o τ) : rEb B mL_tell 26 (hpT k).1 (lsT σ (hpT k).2) [] (xR σ f) (kc + (4 + (uC τ1 - uC σ))) (ks + (24 + (uS τ1 - uS σ))) o τ := by
  by_cases h1 : k < 12
  · have e : hpT k = (7, nI k) := if_pos h1
    have eq : tq k = (32, nI k, 0) := if_pos h1
    rw [eq] at hf
    rw [e]
    refine T_A h1 hJ hB wf hf (fun w1 w2 => ?_)
    by_cases h2 : k + 1 < 12
    · have e2 : hpT (k + 1) = (7, nI (k + 1)) := if_pos h2
      rw [e2] at kk
      exact kk w1 w2
    · have h3 : k = 11 := by omega
      subst h3
      have K := kk w1 w2
      refine B_iload_n (x := nI 12) dL_tell_7 rfl ?_
      refine B_bipush (v := 12) dL_tell_8 (by decide) ?_
      refine B_icmp_ge 30 dL_tell_10 (by decide) (fun _ => ?_) (fun h => absurd (by decide) h)
      refine B_iconst (v := 0) dL_tell_30 (by decide) ?_
      exact B_istore_n (ls2 := lsT τ1 (nI 0)) dL_tell_31 (by decide) rfl K
  · by_cases h2 : k < 42
    · have e : hpT k = (32, nI (k - 12)) := (if_neg h1).trans (if_pos h2)
      have eq : tq k = (28, nI (k - 12) / 10, nI (k - 12) - nI (k - 12) / 10 * 10) := (if_neg h1).trans (if_pos h2)
      rw [eq] at hf
      rw [e]
      refine T_B (k := k - 12) (by omega) hJ hB wf hf (fun w1 w2 => ?_)
      rw [show k - 12 + 12 = k by omega]
      by_cases h3 : k + 1 < 42
      · have e2 : hpT (k + 1) = (32, nI (k - 12 + 1)) := (if_neg (by omega)).trans ((if_pos h3).trans (by rw [show k + 1 - 12 = k - 12 + 1 by omega]))
        rw [e2] at kk
        exact kk w1 w2
      · have h4 : k = 41 := by omega
        subst h4
        have K := kk w1 w2
        refine B_iload_n (x := nI 30) dL_tell_32 rfl ?_
        refine B_bipush (v := 30) dL_tell_33 (by decide) ?_
        exact B_icmp_ge 64 dL_tell_35 (by decide) (fun _ => K) (fun h => absurd (by decide) h)
    · by_cases h3 : k = 42
      · subst h3
        exact T_C (k := 0) hJ hB wf hf kk
      · by_cases h4 : k = 43
        · subst h4
          exact T_D (k := 0) hJ hB wf hf kk
        · have e : hpT k = (90, nI (k - 44)) := (if_neg h1).trans ((if_neg h2).trans ((if_neg h3).trans (if_neg h4)))
          have e2 : hpT (k + 1) = (90, nI (k - 44 + 1)) := (if_neg (by omega)).trans ((if_neg (by omega)).trans ((if_neg (by omega)).trans ((if_neg (by omega)).trans (by rw [show k + 1 - 44 = k - 44 + 1 by omega]))))
          rw [e2] at kk
          rw [e]
          have ek : k - 44 + 44 = k := by omega
          by_cases h5 : k < 53
          · have eq : tq k = (26, 13 * (nI (k - 44) - nI (k - 44) / 4 * 4) + nI (k - 44) / 4, 0) := (if_neg h1).trans ((if_neg h2).trans ((if_neg h3).trans ((if_neg h4).trans (if_pos h5))))
            rw [eq] at hf
            refine T_E1 (k := k - 44) (by omega) hJ hB wf hf (fun w1 w2 => ?_)
            rw [ek]
            exact kk w1 w2
          · have eq : tq k = (25, nI (k - 44) - nI (k - 44) / 3 * 3, 5 * nI (k - 44)) := (if_neg h1).trans ((if_neg h2).trans ((if_neg h3).trans ((if_neg h4).trans (if_neg h5))))
            rw [eq] at hf
            refine T_E2 (k := k - 44) (by omega) hJ hB wf hf (fun w1 w2 => ?_)
            rw [ek]
            exact kk w1 w2
theorem T_go : ∀ (n k : Nat) (f : Nat → Int64) (σ : rS), k + n = 62 → J Sy σ → ∀ g τ, tG n k f σ = some (g, τ) → (J Sy τ ∧ uC σ ≤ uC τ ∧ uS σ ≤ uS τ) ∧ ∀ (B kc ks : Nat) (o : Option Value ⊕ String) (τ' : rS), B ≤ rN σ → Wf σ → (Wf τ → rEb B mL_tell 26 90 (lsT τ (nI 18)) [] (xR τ g) kc ks o τ') → rEb B mL_tell 26 (hpT k).1 (lsT σ (hpT k).2) [] (xR σ f) (kc + (4 * n + (uC τ - uC σ))) (ks + (24 * n + (uS τ - uS σ))) o τ' := by
  intro n
  induction n with
  | zero =>
    intro k f σ hk hJ g τ h
    cases h
    refine ⟨⟨hJ, Nat.le_refl _, Nat.le_refl _⟩, fun B kc ks o τ' hB wf K => ?_⟩
    have hk2 : k = 62 := by omega
    subst hk2
    exact B_room (K wf) (by omega) (by omega)
  | succ n ih =>
    intro k f σ hk hJ g τ h
    obtain ⟨⟨v, σ1⟩, hf, h2⟩ := Option.bind_eq_some_iff.mp h
    obtain ⟨⟨J1, c1, s1⟩, -⟩ := ok_L_ask hJ v σ1 hf
    obtain ⟨⟨J2, c2, s2⟩, K⟩ := ih (k + 1) _ σ1 (by omega) J1 g τ h2
    refine ⟨⟨J2, Nat.le_trans c1 c2, Nat.le_trans s1 s2⟩, fun B kc ks o τ' hB wf K9 => ?_⟩
    refine B_room (T_step (by omega) hJ hB wf hf (fun w1 w2 => K B kc ks o τ' (Nat.le_trans hB w2) w1 K9)) ?_ ?_
    · rw [Nat.mul_succ]; omega
    · rw [Nat.mul_succ]; omega
theorem T_all {σ τ τ' : rS} {g : Nat → Int64} {o : Option Value ⊕ String} (hJ : J Sy σ) (wf : Wf σ) (h : f_tell σ = some (g, τ)) (K : Wf τ → rEb (rN σ) mL_tell 26 90 (lsT τ (nI 18)) [] (xR τ g) 0 0 o τ') : rE mL_tell 26 0 [some (.ref 3), none, none] [] σ (249 + (uC τ - uC σ)) (1550 + (uS τ - uS σ)) o τ' := by
  obtain ⟨h1, h2⟩ := T_go 62 0 _ σ rfl hJ g τ h
  have K := h2 (rN σ) 0 0 o τ' (Nat.le_refl _) wf K
  refine rE_b ?_
  refine B_room (kc := (0 + (4 * 62 + (uC τ - uC σ))) + 1) (ks := (0 + (24 * 62 + (uS τ - uS σ))) + 62) ?_ (by omega) (by omega)
  refine B_bipush (v := 62) dL_tell_0 (by decide) ?_
  refine B_newaJ (n := 62) ac_long dL_tell_2 rfl (by decide) ?_
  rw [xR_0]
  refine B_astore_n (ls2 := [some (.ref 3), some (.ref (rN σ)), none]) dL_tell_4 (by decide) rfl ?_
  refine B_iconst (v := 0) dL_tell_5 (by decide) ?_
  exact B_istore_n (ls2 := lsT σ (nI 0)) dL_tell_6 (by decide) rfl K
/-- a world that no machine has -/
def σbad : rS := (fun _ => (0, 0), fun _ _ => 0, fun _ _ => 0, fun _ _ => 0, 0)
theorem B_bad {B : Nat} {M : rM} {k pc : Nat} {ls : List (Option Value)} {st : List Value} {τ : rS} {kc ks : Nat} {o : Option Value ⊕ String} : rEb B M k pc ls st σbad kc ks o τ := by
  intro l p e R s m args below meth c G ad0 n0 ad H locs cells slots la C h3 hn ha hc hs hW hS hl hw
  exact absurd hW.1 (by decide)
/-- tell, called in the class's world -/
theorem ok_tell {σ τ : rS} {g : Nat → Int64} (hJ : J Sy σ) (wf : Wf σ) (h : f_tell σ = some (g, τ)) : (J Sy τ ∧ uC σ ≤ uC τ ∧ uS σ ≤ uS τ) ∧ ((Wf τ ∧ rMet yL_tell mL_tell 26 [.ref 3] σ (249 + (uC τ - uC σ)) (1550 + (uS τ - uS σ)) (some (.ref (rN τ))) (xR τ g)) ∨ rMet yL_tell mL_tell 26 [.ref 3] σ (249 + (uC τ - uC σ)) (1550 + (uS τ - uS σ)) (some (.ref (rN τ))) σbad) := by
  refine ⟨(T_go 62 0 _ σ rfl hJ g τ h).1, ?_⟩
  by_cases w : Wf τ
  · refine Or.inl ⟨w, rMet_of (ls := [some (.ref 3), none, none]) yfL_tell rfl (Nat.le_of_ble_eq_true rfl) (T_all hJ wf h (fun _ => ?_))⟩
    refine B_iload_n (x := nI 18) dL_tell_90 rfl ?_
    refine B_bipush (v := 18) dL_tell_91 (by decide) ?_
    refine B_icmp_ge 146 dL_tell_93 (by decide) (fun _ => ?_) (fun h => absurd (by decide) h)
    refine B_aload_n (x := rN τ) dL_tell_146 rfl ?_
    exact B_aret rfl dL_tell_147
  · exact Or.inr (rMet_of (ls := [some (.ref 3), none, none]) yfL_tell rfl (Nat.le_of_ble_eq_true rfl) (T_all hJ wf h (fun w2 => absurd w2 w)))
