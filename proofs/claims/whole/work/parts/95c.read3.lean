/-! the reference reads one move -/
abbrev WRm (x j : Nat) : Prop := (x = 67 ∧ j = 37) ∨ x = 87 ∨ x = 88
def mmU (m : Mem) (τ : rS) : Mem := fun x k => if x = 87 ∨ x = 88 ∨ (x = 67 ∧ k = 37) then rI τ x k else m x k
theorem mmU_tw (m : Mem) (σ τ : rS) : mmU (mmU m σ) τ = mmU m τ := by
  funext x k
  unfold mmU
  by_cases h1 : x = 87 ∨ x = 88 ∨ (x = 67 ∧ k = 37)
  · rw [if_pos h1, if_pos h1]
  · rw [if_neg h1, if_neg h1, if_neg h1]
theorem mmU_at (m : Mem) (τ : rS) {x k : Nat} (h : ¬ (x = 87 ∨ x = 88 ∨ (x = 67 ∧ k = 37))) : mmU m τ x k = m x k := by
  unfold mmU
  rw [if_neg h]
theorem MI_Rm {σ τ : rS} {B : Bd} {E : List Ent} {m : Mem} {l : Nat → Int64} (H : MI σ B E m l) (f : FrX WRm σ τ) : MI τ B E (mmU m τ) l := by
  obtain ⟨b, g, p, pl, ⟨u1, u2, u3⟩, s, z⟩ := H
  have q := f.2.2.2.2
  refine ⟨MbQ_fr b f (fun x j w => by omega), MeR_fr g f (fun x j w => by omega), fun x j a => ?_, fun j hj => by rw [f.2.2.2.1]; exact pl j hj, ⟨(q _ _ (by omega)).trans u1, fun p hp c hc => (q _ _ (by omega)).trans (u2 p hp c hc), fun p hp => (q _ _ (by omega)).trans (u3 p hp)⟩, fun i hi => ⟨(q _ _ (by omega)).trans (s i hi).1, (q _ _ (by omega)).trans (s i hi).2⟩, fun k hk => (q _ _ (by omega)).trans (z.1 k hk), fun k hk => (q _ _ (by omega)).trans (z.2 k hk)⟩
  unfold mmU
  by_cases h : x = 87 ∨ x = 88 ∨ (x = 67 ∧ j = 37)
  · rw [if_pos h]
  · rw [if_neg h, q x j (by omega)]
    exact p x j a
def leS (c : Nat) : Int32 := if c = 1 then 108 else if c = 2 then 106 else if c = 3 then 115 else if c = 4 then 116 else if c = 5 then 101 else 119
def RdR (σ : rS) (ms : List (Nat × Nat)) : Prop := rI σ 67 37 = nI ms.length ∧ ∀ i d, ms[i]? = some d → rI σ 87 i = leS d.1 ∧ (d.1 ≤ 3 → rI σ 88 i = nI d.2)
theorem sign_eq {σ : rS} {B : Bd} {E : List Ent} {m : Mem} {l : Nat → Int64} {wr i : Nat} (M : MI σ B E m l) (hw : m 67 34 = nI wr) (h40 : wr ≤ 40) (hi : i < 2 ^ 30) : f_X11_sign σ (nI i) = some (if wr ≤ i then 0 else m 86 i) := by
  unfold f_X11_sign
  have c0 : (nI wr ≤ nI i) = (wr ≤ i) := propext (nI_leI (by omega) (by omega))
  rw [(M.2.2.1 67 34 (by omega)).trans hw]
  simp only [c0]
  by_cases h : wr ≤ i
  · rw [if_pos h, if_pos h]
  · rw [if_neg h, if_neg h, if_pos (inB_nI (by decide) (by omega)), nI_clamp (by omega), M.2.2.1 86 i (by omega)]
theorem leS_so {c : Int32} (h : c = 108 ∨ c = 106 ∨ c = 115) : leS (soC c) = c := by
  rcases h with rfl | rfl | rfl <;> rfl
theorem mRead_step {σ : rS} {B : Bd} {E : List Ent} {m : Mem} {l : Nat → Int64} {hh L jk ml pn n wr i : Nat} {ms : List (Nat × Nat)} (M : MI σ B E m l) (r : RuM m hh L jk ml pn n) (hw : m 67 34 = nI wr) (h40 : wr ≤ 40) (hi : i < wr) (hms : ms.length ≤ i) (R : RdR σ ms) : (psS m wr hh i = none → ∃ τ, b_X11_reads_7 (nI i, σ) = some (.inl (0, τ)) ∧ FrX WRm σ τ) ∧ ∀ c k i', psS m wr hh i = some (c, k, i') → ∃ τ, b_X11_reads_7 (nI i, σ) = some (.inr (nI i', τ)) ∧ RdR τ (ms ++ [(c, k)]) ∧ FrX WRm σ τ := by
  have q1 : rI σ 67 34 = nI wr := (M.2.2.1 67 34 (by omega)).trans hw
  have h13 := r.2.2.1
  have ciw : ¬ nI wr ≤ nI i := fun z => by have := (nI_leI (by omega) (by omega)).mp z; omega
  obtain ⟨σ5, d5⟩ : ∃ z, z = wI σ 87 ms.length (m 86 i) := ⟨_, rfl⟩
  have F5 : FrX WRm σ σ5 := by rw [d5]; exact FrX.w _ _ (by omega)
  have M5' := MI_Rm M F5
  have e86 : ∀ j, mmU m σ5 86 j = m 86 j := fun j => mmU_at m σ5 (by omega)
  have e34 : mmU m σ5 67 34 = m 67 34 := mmU_at m σ5 (by omega)
  have e1' : mmU m σ5 67 1 = m 67 1 := mmU_at m σ5 (by omega)
  have sg5 : ∀ j, j < 2 ^ 30 → f_X11_sign σ5 (nI j) = some (if wr ≤ j then 0 else m 86 j) := fun j hj => by rw [sign_eq M5' (e34.trans hw) h40 hj, e86]
  have h5 : rI σ5 67 1 = nI hh := (M5'.2.2.1 67 1 (by omega)).trans (e1'.trans r.1.1)
  have r37 : rI σ5 67 37 = nI ms.length := by rw [d5, fld_eq, if_neg (by omega)]; exact R.1
  have hin : inB (nI ms.length) 40 := inB_nI (by decide) (by omega)
  have hcl : (nI ms.length).toNatClampNeg = ms.length := nI_clamp (by omega)
  have e12 : nI (i + 1) + 1 = nI (i + 2) := nI_1 (i + 1)
  have e13 : nI (i + 1) + 2 = nI (i + 3) := by rw [show (2 : Int32) = nI 2 from rfl, nI_add]
  have e14 : nI (i + 3) + 1 = nI (i + 4) := nI_1 (i + 3)
  -- what is written
  have fin : ∀ (σ6 : rS) (c k : Nat), leS c = m 86 i → (σ6 = σ5 ∧ 4 ≤ c ∨ σ6 = wI σ5 88 ms.length (nI k)) → RdR (wI σ6 67 37 (nI (ms.length + 1))) (ms ++ [(c, k)]) ∧ FrX WRm σ (wI σ6 67 37 (nI (ms.length + 1))) := fun σ6 c k hc h6 => by
    have F6 : FrX WRm σ σ6 := by
      rcases h6 with ⟨e, -⟩ | e
      · rw [e]; exact F5
      · rw [e]; exact F5.tr (FrX.w _ _ (by omega))
    have v87 : ∀ j, rI σ6 87 j = if j = ms.length then m 86 i else rI σ 87 j := fun j => by
      have e0 : rI σ6 87 j = rI σ5 87 j := by
        rcases h6 with ⟨e, -⟩ | e
        · rw [e]
        · rw [e, fld_eq, if_neg (by omega)]
      rw [e0, d5, fld_eq]
      by_cases z : j = ms.length
      · rw [if_pos ⟨rfl, z⟩, if_pos z]
      · rw [if_neg (fun y => z y.2), if_neg z]
    refine ⟨⟨?_, fun j d hj => ?_⟩, F6.tr (FrX.w _ _ (by omega))⟩
    · rw [fld_eq, if_pos ⟨rfl, rfl⟩, List.length_append]
      rfl
    · rw [fld_eq, if_neg (by omega), fld_eq, if_neg (by omega), v87]
      by_cases cj : j < ms.length
      · rw [List.getElem?_append_left cj] at hj
        obtain ⟨g1, g2⟩ := R.2 j d hj
        rw [if_neg (by omega)]
        refine ⟨g1, fun h3 => ?_⟩
        have e0 : rI σ6 88 j = rI σ 88 j := by
          rcases h6 with ⟨e, -⟩ | e
          · rw [e, d5, fld_eq, if_neg (by omega)]
          · rw [e, fld_eq, if_neg (by omega), d5, fld_eq, if_neg (by omega)]
        rw [e0]
        exact g2 h3
      · have hj2 : j = ms.length := by
          have := (List.getElem?_eq_some_iff.mp hj).1
          rw [List.length_append, List.length_singleton] at this
          omega
        rw [hj2, List.getElem?_append_right (Nat.le_refl _), Nat.sub_self] at hj
        cases hj
        rw [if_pos hj2]
        refine ⟨hc.symm, fun h3 => ?_⟩
        dsimp only at h3
        rcases h6 with ⟨-, e⟩ | e
        · omega
        · rw [e, fld_eq, if_pos ⟨rfl, hj2⟩]
  by_cases cA : m 86 i = 108 ∨ m 86 i = 106 ∨ m 86 i = 115
  · have cAe : (if m 86 i = 108 then true else (if m 86 i = 106 then true else (if m 86 i = 115 then true else false))) = true := by
      rcases cA with h | h | h
      · rw [if_pos h]
      · rw [h]; rfl
      · rw [h]; rfl
    have pre : b_X11_reads_7 (nI i, σ) = (if (if vIn ((if wr ≤ i + 1 then 0 else m 86 (i + 1)) - 97) 0 3 = 0 then true else (if vIn ((if wr ≤ i + 2 then 0 else m 86 (i + 2)) - 48) 1 9 = 0 then true else false)) = true then some (.inl (0, σ5)) else (oJoin (if vIn (if wr ≤ i + 3 then 0 else m 86 (i + 3)) 48 57 = 0 then (some (.inr ((nI (i + 3), (if wr ≤ i + 2 then 0 else m 86 (i + 2)) - 48))) : Option (((Int32 × rS) ⊕ (Int32 × rS)) ⊕ (Int32 × Int32))) else (some (.inr ((nI (i + 4), ((10 * ((if wr ≤ i + 2 then 0 else m 86 (i + 2)) - 48)) + (if wr ≤ i + 3 then 0 else m 86 (i + 3))) - 48))))) fun j9 => if j9.2 ≤ nI hh then (oLet (wI σ5 88 ms.length (((13 * ((if wr ≤ i + 1 then 0 else m 86 (i + 1)) - 97)) + j9.2) - 1)) fun σ13 => oLet (wI σ13 67 37 ((rI σ13 67 37) + 1)) fun σ14 => some (.inr ((j9.1, σ14)))) else (some (.inl ((0, σ5)))))) := by
      unfold b_X11_reads_7
      dsimp only
      rw [q1, if_neg ciw, sign_eq M hw h40 (by omega), Option.bind_some, if_neg (show ¬ wr ≤ i by omega), R.1, if_pos (inB_nI (by decide) (by omega)), nI_clamp (by omega), ← d5, oLet_eq, if_pos cAe, nI_1, sg5 _ (by omega), Option.bind_some, e12, sg5 _ (by omega), Option.bind_some, e13, sg5 _ (by omega), Option.bind_some, in_eq, in_eq, in_eq, h5, r37, Option.bind_some, oLet_eq, e14]
      simp only [if_pos hin, hcl]
    by_cases h2 : i + 2 < wr
    · rw [if_neg (show ¬ wr ≤ i + 1 by omega), if_neg (show ¬ wr ≤ i + 2 by omega)] at pre
      by_cases a : vIn (m 86 (i + 1) - 97) 0 3 = 0
      · have hn : psS m wr hh i = none := by
          unfold psS
          rw [if_pos cA, if_neg (fun z => z.2.1 a)]
        rw [hn]
        refine ⟨fun _ => ⟨σ5, ?_, F5⟩, fun c k i' h => by cases h⟩
        rw [pre, if_pos a, if_pos rfl]
      by_cases b : vIn (m 86 (i + 2) - 48) 1 9 = 0
      · have hn : psS m wr hh i = none := by
          unfold psS
          rw [if_pos cA, if_neg (fun z => z.2.2 b)]
        rw [hn]
        refine ⟨fun _ => ⟨σ5, ?_, F5⟩, fun c k i' h => by cases h⟩
        rw [pre, if_neg a, if_pos b, if_pos rfl]
      obtain ⟨q, -, hq, eq⟩ := vIn_of (a := 0) (b := 3) (by decide) a (by decide)
      obtain ⟨d, hd1, hd, ed2, ed⟩ := vIn_19 b
      rw [if_neg a, if_neg b, if_neg (by decide), ed2, eq] at pre
      by_cases d3 : i + 3 < wr ∧ ¬ vIn (m 86 (i + 3)) 48 57 = 0
      · obtain ⟨e, he, ee, ee2⟩ := vIn_dg d3.2
        have num : 10 * nI d + m 86 (i + 3) - 48 = nI (10 * d + e) := by
          rw [ee, show (10 : Int32) = nI 10 from rfl, show (48 : Int32) = nI 48 from rfl, nI_mul, nI_add, nI_sub (by omega), show 10 * d + (e + 48) - 48 = 10 * d + e by omega]
        rw [if_neg (show ¬ wr ≤ i + 3 by omega), if_neg d3.2, oJ_inr, num] at pre
        have ch : (nI (10 * d + e) ≤ nI hh) = (10 * d + e ≤ hh) := propext (nI_leI (by omega) (by omega))
        dsimp only at pre
        simp only [ch] at pre
        have hps : psS m wr hh i = if 10 * d + e ≤ hh then some (soC (m 86 i), 13 * q + (10 * d + e) - 1, i + 4) else none := by
          unfold psS
          rw [if_pos cA, if_pos ⟨h2, a, b⟩, if_pos d3, ed2, eq, ee, nI_clamp (by omega), nI_clamp (by omega), nI_clamp (by omega), show e + 48 - 48 = e by omega]
        by_cases ok : 10 * d + e ≤ hh
        · rw [hps, if_pos ok]
          refine ⟨fun h => (by cases h), fun c k i' h => ?_⟩
          cases h
          obtain ⟨g1, g2⟩ := fin _ (soC (m 86 i)) (13 * q + (10 * d + e) - 1) (leS_so cA) (Or.inr rfl)
          refine ⟨_, ?_, g1, g2⟩
          rw [pre, if_pos ok, show (13 : Int32) = nI 13 from rfl, nI_mul, nI_add, nI_s1 (by omega), oLet_eq, fld_eq, if_neg (by omega), r37, nI_1, oLet_eq]
        · rw [hps, if_neg ok]
          refine ⟨fun _ => ⟨σ5, ?_, F5⟩, fun c k i' h => by cases h⟩
          rw [pre, if_neg ok]
      · have hno : vIn (if wr ≤ i + 3 then 0 else m 86 (i + 3)) 48 57 = 0 := by
          by_cases z : wr ≤ i + 3
          · rw [if_pos z]; decide
          · rw [if_neg z]
            exact Classical.byContradiction fun y => d3 ⟨by omega, y⟩
        rw [if_pos hno, oJ_inr] at pre
        have ch : (nI d ≤ nI hh) = (d ≤ hh) := propext (nI_leI (by omega) (by omega))
        dsimp only at pre
        simp only [ch] at pre
        have hps : psS m wr hh i = if d ≤ hh then some (soC (m 86 i), 13 * q + d - 1, i + 3) else none := by
          unfold psS
          rw [if_pos cA, if_pos ⟨h2, a, b⟩, if_neg d3, ed2, eq, nI_clamp (by omega), nI_clamp (by omega)]
        by_cases ok : d ≤ hh
        · rw [hps, if_pos ok]
          refine ⟨fun h => (by cases h), fun c k i' h => ?_⟩
          cases h
          obtain ⟨g1, g2⟩ := fin _ (soC (m 86 i)) (13 * q + d - 1) (leS_so cA) (Or.inr rfl)
          refine ⟨_, ?_, g1, g2⟩
          rw [pre, if_pos ok, show (13 : Int32) = nI 13 from rfl, nI_mul, nI_add, nI_s1 (by omega), oLet_eq, fld_eq, if_neg (by omega), r37, nI_1, oLet_eq]
        · rw [hps, if_neg ok]
          refine ⟨fun _ => ⟨σ5, ?_, F5⟩, fun c k i' h => by cases h⟩
          rw [pre, if_neg ok]
    · have hn : psS m wr hh i = none := by
        unfold psS
        rw [if_pos cA, if_neg (fun z => h2 z.1)]
      rw [hn]
      refine ⟨fun _ => ⟨σ5, ?_, F5⟩, fun c k i' h => by cases h⟩
      have hb : vIn ((if wr ≤ i + 2 then 0 else m 86 (i + 2)) - 48) 1 9 = 0 := by
        rw [if_pos (by omega)]
        decide
      rw [pre, if_pos hb]
      by_cases a : vIn ((if wr ≤ i + 1 then 0 else m 86 (i + 1)) - 97) 0 3 = 0
      · rw [if_pos a, if_pos rfl]
      · rw [if_neg a, if_pos rfl]
  · have cAe : ¬ (if m 86 i = 108 then true else (if m 86 i = 106 then true else (if m 86 i = 115 then true else false))) = true := by
      rw [if_neg (fun z => cA (Or.inl z)), if_neg (fun z => cA (Or.inr (Or.inl z))), if_neg (fun z => cA (Or.inr (Or.inr z)))]
      decide
    have pre : b_X11_reads_7 (nI i, σ) = (if (if m 86 i = 116 then true else (if m 86 i = 101 then true else (if m 86 i = 119 then true else false))) = true then some (.inr (nI (i + 1), wI σ5 67 37 (nI (ms.length + 1)))) else some (.inl (0, σ5))) := by
      unfold b_X11_reads_7
      dsimp only
      rw [q1, if_neg ciw, sign_eq M hw h40 (by omega), Option.bind_some, if_neg (show ¬ wr ≤ i by omega), R.1, if_pos (inB_nI (by decide) (by omega)), nI_clamp (by omega), ← d5, oLet_eq, if_neg cAe, r37, nI_1, oLet_eq, nI_1]
    have one : ∀ c, 4 ≤ c → leS c = m 86 i → (if m 86 i = 116 then true else (if m 86 i = 101 then true else (if m 86 i = 119 then true else false))) = true → ∃ τ, b_X11_reads_7 (nI i, σ) = some (.inr (nI (i + 1), τ)) ∧ RdR τ (ms ++ [(c, 0)]) ∧ FrX WRm σ τ := fun c h4 hc ht => by
      obtain ⟨g1, g2⟩ := fin σ5 c 0 hc (Or.inl ⟨rfl, h4⟩)
      exact ⟨_, by rw [pre, if_pos ht], g1, g2⟩
    by_cases cT : m 86 i = 116
    · have hps : psS m wr hh i = some (4, 0, i + 1) := by unfold psS; rw [if_neg cA, if_pos cT]
      rw [hps]
      exact ⟨fun h => (by cases h), fun c k i' h => by cases h; exact one 4 (by omega) cT.symm (by rw [if_pos cT])⟩
    by_cases cE : m 86 i = 101
    · have hps : psS m wr hh i = some (5, 0, i + 1) := by unfold psS; rw [if_neg cA, if_neg cT, if_pos cE]
      rw [hps]
      exact ⟨fun h => (by cases h), fun c k i' h => by cases h; exact one 5 (by omega) cE.symm (by rw [if_neg cT, if_pos cE])⟩
    by_cases cW : m 86 i = 119
    · have hps : psS m wr hh i = some (6, 0, i + 1) := by unfold psS; rw [if_neg cA, if_neg cT, if_neg cE, if_pos cW]
      rw [hps]
      exact ⟨fun h => (by cases h), fun c k i' h => by cases h; exact one 6 (by omega) cW.symm (by rw [if_neg cT, if_neg cE, if_pos cW])⟩
    · have hps : psS m wr hh i = none := by unfold psS; rw [if_neg cA, if_neg cT, if_neg cE, if_neg cW]
      rw [hps]
      refine ⟨fun _ => ⟨σ5, ?_, F5⟩, fun c k i' h => by cases h⟩
      rw [pre, if_neg cT, if_neg cE, if_neg cW, if_neg (by decide)]
