/-! the class reads one move -/
theorem vIn_19 {x : Int32} (h : ¬ vIn (x - 48) 1 9 = 0) : ∃ d, 1 ≤ d ∧ d ≤ 9 ∧ x - 48 = nI d ∧ x = nI (d + 48) := by
  obtain ⟨d, h1, h2, e⟩ := vIn_of (a := 1) (b := 9) (by decide) h (by decide)
  refine ⟨d, h1, h2, e, ?_⟩
  have : x = (x - 48) + 48 := (Int32.sub_add_cancel x 48).symm
  rw [this, e, show (48 : Int32) = nI 48 from rfl, nI_add]
theorem vIn_dg {x : Int32} (h : ¬ vIn x 48 57 = 0) : ∃ d, d ≤ 9 ∧ x = nI (d + 48) ∧ x - 48 = nI d := by
  obtain ⟨q, h1, h2, e⟩ := vIn_of (a := 48) (b := 57) (by decide) h (by decide)
  refine ⟨q - 48, by omega, by rw [e, Nat.sub_add_cancel h1], ?_⟩
  rw [e, show (48 : Int32) = nI 48 from rfl, nI_sub h1]
theorem dg_of19 {x : Int32} (h : ¬ vIn (x - 48) 1 9 = 0) : ¬ vIn x 48 57 = 0 := by
  obtain ⟨d, h1, h2, -, e⟩ := vIn_19 h
  rw [e, show (48 : Int32) = nI 48 from rfl, show (57 : Int32) = nI 57 from rfl, vIn_in (by decide) (by omega) (by omega)]
  decide
theorem f19_dg {x : Int32} (h : ¬ vIn x 48 57 = 0) (h0 : ¬ x = 48) : ¬ vIn (x - 48) 1 9 = 0 := by
  obtain ⟨d, h1, e, e2⟩ := vIn_dg h
  have : 1 ≤ d := Nat.one_le_iff_ne_zero.mpr fun z => h0 (by rw [e, z]; rfl)
  rw [e2, show (1 : Int32) = nI 1 from rfl, show (9 : Int32) = nI 9 from rfl, vIn_in (by decide) this h1]
  decide
theorem isKind_m1 (σ : rS) : v_X5_isKind σ (-1) = 0 := by
  unfold v_X5_isKind
  rw [if_pos (by decide)]
/-- the kind that the class reads -/
theorem kdA {σ : rS} {B : Bd} {E : List Ent} {dl : Option (Nat × Nat × Nat)} {m : Mem} {l : Nat → Int64} {ch wr i : Nat} (C : CI σ B E dl m l ch) (hw : m 67 34 = nI wr) (h40 : wr ≤ 40) (h2 : i + 2 < wr) (p2 : Int32) (s3 : Int32) (h3 : vAt (rI σ 32) 40 (nI (i + 3)) = s3) : v_X7_kindAt σ (nI (i + 1)) p2 = if vIn (m 86 (i + 1) - 97) 0 3 = 0 then -1 else if vIn (m 86 (i + 2)) 48 57 = 0 then -1 else if m 86 (i + 2) = 48 then -1 else if p2 = 2 then (if 13 < 10 * (m 86 (i + 2) - 48) + s3 - 48 then -1 else 13 * (m 86 (i + 1) - 97) + (10 * (m 86 (i + 2) - 48) + s3 - 48) - 1) else (if 13 < m 86 (i + 2) - 48 then -1 else 13 * (m 86 (i + 1) - 97) + (m 86 (i + 2) - 48) - 1) := by
  have r1 : vAt (rI σ 32) 40 (nI (i + 1)) = m 86 (i + 1) := by
    rw [vAt_nI (by decide) (by omega)]
    exact CI_4 C (x := 32) (j := i + 1) (by omega)
  have r2 : vAt (rI σ 32) 40 (nI (i + 2)) = m 86 (i + 2) := by
    rw [vAt_nI (by decide) (by omega)]
    exact CI_4 C (x := 32) (j := i + 2) (by omega)
  have e1 : nI (i + 1) + 1 = nI (i + 2) := nI_1 (i + 1)
  have e2 : nI (i + 1) + 2 = nI (i + 3) := by rw [show (2 : Int32) = nI 2 from rfl, nI_add]
  have d : (v_X7_isDigit σ (nI (i + 2)) = 0) = (vIn (m 86 (i + 2)) 48 57 = 0) := by
    rw [isDig_eq C hw h40 (by omega)]
    by_cases z : vIn (m 86 (i + 2)) 48 57 = 0
    · rw [if_neg (fun y => y.2 z), z]
    · rw [if_pos ⟨h2, z⟩]
      exact propext ⟨fun y => absurd y (by decide), fun y => absurd y z⟩
  unfold v_X7_kindAt
  rw [e1, e2, r1, r2, h3]
  simp only [d]
theorem cRead_step {σ : rS} {B : Bd} {E : List Ent} {dl : Option (Nat × Nat × Nat)} {m : Mem} {l : Nat → Int64} {ch hh L jk ml pn n wr i : Nat} {ms : List (Nat × Nat)} (C : CI σ B E dl m l ch) (r : RuM m hh L jk ml pn n) (hw : m 67 34 = nI wr) (h40 : wr ≤ 40) (hi : i < wr) (hms : ms.length ≤ i) (R : RdC σ ms) : (psS m wr hh i = none → b_X7_read_7 (nI i, σ) = some (.inl (0, σ))) ∧ ∀ c k i', psS m wr hh i = some (c, k, i') → ∃ τ, b_X7_read_7 (nI i, σ) = some (.inr (nI i', τ)) ∧ RdC τ (ms ++ [(c, k)]) ∧ FrX WRd σ τ := by
  have q1 : rI σ 31 1 = nI wr := (CI_4 C (x := 31) (j := 1) (by omega)).trans hw
  have q32 : vAt (rI σ 32) 40 (nI i) = m 86 i := by
    rw [vAt_nI (by decide) (by omega)]
    exact CI_4 C (x := 32) (j := i) (by omega)
  have h13 := r.2.2.1
  have ciw : ¬ nI wr ≤ nI i := fun z => by have := (nI_leI (by omega) (by omega)).mp z; omega
  have e2 : nI i + 2 = nI (i + 2) := by rw [show (2 : Int32) = nI 2 from rfl, nI_add]
  -- the tail: a move is written down
  have wr1 : ∀ (v3 x4 x5 : Int32) (c k i' : Nat), v3 = nI c → nI i + x4 = nI i' → (c ≤ 3 → x5 = nI k) → ∃ τ, (oLet (rowI σ 33 (vSet (rI σ 33) 40 (rI σ 31 4) v3)) fun σ6 => oLet (rowI σ6 34 (vSet (rI σ6 34) 40 (rI σ6 31 4) x5)) fun σ7 => oLet (wI σ7 31 4 ((rI σ7 31 4) + 1)) fun σ8 => (some (.inr ((nI i + x4, σ8))) : Option ((Int32 × rS) ⊕ (Int32 × rS)))) = some (.inr (nI i', τ)) ∧ RdC τ (ms ++ [(c, k)]) ∧ FrX WRd σ τ := fun v3 x4 x5 c k i' h1 h2 h3 => by
    have r4 : ∀ v, rI (wI σ 33 ms.length v) 31 4 = nI ms.length := fun v => by rw [fld_eq, if_neg (by omega)]; exact R.1
    have r5 : ∀ v w, rI (wI (wI σ 33 ms.length v) 34 ms.length w) 31 4 = nI ms.length := fun v w => by rw [fld_eq, if_neg (by omega), r4]
    refine ⟨wI (wI (wI σ 33 ms.length v3) 34 ms.length x5) 31 4 (nI (ms.length + 1)), ?_, ⟨?_, fun j d hj => ?_⟩, ((FrX.w _ _ (by omega)).tr (FrX.w _ _ (by omega))).tr (FrX.w _ _ (by omega))⟩
    · rw [R.1, vSet_nI (by decide) (by omega), row_w, oLet_eq, r4, vSet_nI (by decide) (by omega), row_w, oLet_eq, r5, nI_1, oLet_eq, h2]
    · rw [fld_eq, if_pos ⟨rfl, rfl⟩, List.length_append]
      rfl
    · have v33 : rI (wI (wI (wI σ 33 ms.length v3) 34 ms.length x5) 31 4 (nI (ms.length + 1))) 33 j = if j = ms.length then v3 else rI σ 33 j := by
        rw [fld_eq, if_neg (by omega), fld_eq, if_neg (by omega), fld_eq]
        by_cases z : j = ms.length
        · rw [if_pos ⟨rfl, z⟩, if_pos z]
        · rw [if_neg (fun y => z y.2), if_neg z]
      have v34 : rI (wI (wI (wI σ 33 ms.length v3) 34 ms.length x5) 31 4 (nI (ms.length + 1))) 34 j = if j = ms.length then x5 else rI σ 34 j := by
        rw [fld_eq, if_neg (by omega), fld_eq]
        by_cases z : j = ms.length
        · rw [if_pos ⟨rfl, z⟩, if_pos z]
        · rw [if_neg (fun y => z y.2), if_neg z, fld_eq, if_neg (by omega)]
      rw [v33, v34]
      by_cases cj : j < ms.length
      · rw [List.getElem?_append_left cj] at hj
        rw [if_neg (by omega), if_neg (by omega)]
        exact R.2 j d hj
      · have hj2 : j = ms.length := by
          have := (List.getElem?_eq_some_iff.mp hj).1
          rw [List.length_append, List.length_singleton] at this
          omega
        rw [hj2, List.getElem?_append_right (Nat.le_refl _), Nat.sub_self] at hj
        cases hj
        rw [if_pos hj2, if_pos hj2]
        exact ⟨h1, h3⟩
  by_cases cA : m 86 i = 108 ∨ m 86 i = 106 ∨ m 86 i = 115
  · have hs : 1 ≤ soC (m 86 i) ∧ soC (m 86 i) ≤ 3 := by
      unfold soC
      split
      · omega
      · split <;> omega
    have c3 : (nI (soC (m 86 i)) ≤ 3) = True := eq_true ((nI_leI (b := 3) (by omega) (by omega)).mpr hs.2)
    have c3' : ((3 : Int32) < nI (soC (m 86 i))) = False := eq_false fun z => by have := (nI_lt' (a := 3) (by omega) (by omega)).mp z; omega
    have cm : (nI (soC (m 86 i)) = -1) = False := eq_false (n_m1 (by omega))
    -- what is read, once the length of the number is known
    have pre : ∀ (dg : Nat) (x5 : Int32), (dg = 1 ∨ dg = 2) → v_X7_digits σ (nI (i + 2)) = nI dg → v_X7_kindAt σ (nI (i + 1)) (nI dg) = x5 → b_X7_read_7 (nI i, σ) = if wr < i + 2 + dg then some (.inl (0, σ)) else (if v_X5_isKind σ x5 = 0 then some (.inl (0, σ)) else (oLet (rowI σ 33 (vSet (rI σ 33) 40 (rI σ 31 4) (nI (soC (m 86 i))))) fun σ6 => oLet (rowI σ6 34 (vSet (rI σ6 34) 40 (rI σ6 31 4) x5)) fun σ7 => oLet (wI σ7 31 4 ((rI σ7 31 4) + 1)) fun σ8 => some (.inr ((nI i + nI (2 + dg), σ8))))) := fun dg x5 hdg e1 e3 => by
      have x4 : (2 : Int32) + nI dg = nI (2 + dg) := by rw [show (2 : Int32) = nI 2 from rfl, nI_add]
      have x4' : nI (2 + dg) - 2 = nI dg := by rw [show (2 : Int32) = nI 2 from rfl, nI_sub (by omega), show 2 + dg - 2 = dg by omega]
      have cw : (nI i + nI (2 + dg) ≤ nI wr) = (i + 2 + dg ≤ wr) := by
        rw [nI_add]
        exact propext (by rw [nI_leI (by omega) (by omega), Nat.add_assoc])
      unfold b_X7_read_7
      dsimp only
      rw [q1, if_neg ciw, q32, sortOf_3 σ cA, Option.bind_some]
      simp only [c3, c3', cm, if_true, if_false]
      rw [e2, e1, x4, oLet_eq]
      simp only [cw]
      by_cases z : wr < i + 2 + dg
      · rw [if_neg (show ¬ i + 2 + dg ≤ wr by omega), if_pos rfl, if_pos z]
      · rw [if_pos (show i + 2 + dg ≤ wr by omega), if_neg (by decide), if_neg z, x4', nI_1, e3, oLet_eq]
        by_cases y : v_X5_isKind σ x5 = 0
        · rw [if_pos y, if_neg (by decide), if_pos y]
        · rw [if_neg y, if_pos rfl, if_neg y]
    have dgv : v_X7_digits σ (nI (i + 2)) = if i + 2 < wr ∧ ¬ vIn (m 86 (i + 2)) 48 57 = 0 then (if i + 3 < wr ∧ ¬ vIn (m 86 (i + 3)) 48 57 = 0 then nI 2 else nI 1) else nI 1 := by
      unfold v_X7_digits
      rw [isDig_eq C hw h40 (by omega), nI_1, isDig_eq C hw h40 (by omega)]
      by_cases z : i + 2 < wr ∧ ¬ vIn (m 86 (i + 2)) 48 57 = 0
      · rw [if_pos z, if_neg (by decide), if_pos z]
        by_cases y : i + 2 + 1 < wr ∧ ¬ vIn (m 86 (i + 2 + 1)) 48 57 = 0
        · rw [if_pos y, if_neg (by decide), if_pos y]; rfl
        · rw [if_neg y, if_pos rfl, if_neg y]; rfl
      · rw [if_neg z, if_pos rfl, if_neg z]; rfl
    by_cases h2 : i + 2 < wr
    · by_cases dA : vIn (m 86 (i + 2)) 48 57 = 0
      · -- no digit
        rw [if_neg (fun z => z.2 dA)] at dgv
        have ek : v_X7_kindAt σ (nI (i + 1)) (nI 1) = -1 := by
          rw [kdA C hw h40 h2 (nI 1) _ rfl]
          by_cases a : vIn (m 86 (i + 1) - 97) 0 3 = 0
          · rw [if_pos a]
          · rw [if_neg a, if_pos dA]
        have hn : psS m wr hh i = none := by
          unfold psS
          rw [if_pos cA, if_neg (fun z => (dg_of19 z.2.2) dA)]
        rw [hn]
        refine ⟨fun _ => ?_, fun c k i' h => by cases h⟩
        rw [pre 1 (-1) (Or.inl rfl) dgv ek, if_neg (by omega), isKind_m1, if_pos rfl]
      · rw [if_pos ⟨h2, dA⟩] at dgv
        obtain ⟨d, hd, ed, ed2⟩ := vIn_dg dA
        by_cases d3 : i + 3 < wr ∧ ¬ vIn (m 86 (i + 3)) 48 57 = 0
        · rw [if_pos d3] at dgv
          obtain ⟨e, he, ee, ee2⟩ := vIn_dg d3.2
          have r3 : vAt (rI σ 32) 40 (nI (i + 3)) = m 86 (i + 3) := by
            rw [vAt_nI (by decide) (by omega)]
            exact CI_4 C (x := 32) (j := i + 3) (by omega)
          have num : 10 * (m 86 (i + 2) - 48) + m 86 (i + 3) - 48 = nI (10 * d + e) := by
            rw [ed2, ee, show (10 : Int32) = nI 10 from rfl, show (48 : Int32) = nI 48 from rfl, nI_mul, nI_add, nI_sub (by omega), show 10 * d + (e + 48) - 48 = 10 * d + e by omega]
          have ek := kdA C hw h40 h2 (nI 2) _ r3
          rw [if_neg dA, if_pos (show nI 2 = (2 : Int32) from rfl), num] at ek
          by_cases a : vIn (m 86 (i + 1) - 97) 0 3 = 0
          · rw [if_pos a] at ek
            have hn : psS m wr hh i = none := by
              unfold psS
              rw [if_pos cA, if_neg (fun z => z.2.1 a)]
            rw [hn]
            refine ⟨fun _ => ?_, fun c k i' h => by cases h⟩
            rw [pre 2 (-1) (Or.inr rfl) dgv ek, if_neg (by omega), isKind_m1, if_pos rfl]
          · rw [if_neg a] at ek
            obtain ⟨q, -, hq, eq⟩ := vIn_of (a := 0) (b := 3) (by decide) a (by decide)
            by_cases z48 : m 86 (i + 2) = 48
            · rw [if_pos z48] at ek
              have hn : psS m wr hh i = none := by
                unfold psS
                rw [if_pos cA, if_neg (fun z => by
                  obtain ⟨d', g1, g2, g3, g4⟩ := vIn_19 z.2.2
                  rw [z48] at g4
                  have := (nI_eq (a := 48) (by omega) (by omega)).mp g4
                  omega)]
              rw [hn]
              refine ⟨fun _ => ?_, fun c k i' h => by cases h⟩
              rw [pre 2 (-1) (Or.inr rfl) dgv ek, if_neg (by omega), isKind_m1, if_pos rfl]
            · rw [if_neg z48] at ek
              have hd1 : 1 ≤ d := Nat.one_le_iff_ne_zero.mpr fun z => z48 (by rw [ed, z]; rfl)
              have hps : psS m wr hh i = if 10 * d + e ≤ hh then some (soC (m 86 i), 13 * q + (10 * d + e) - 1, i + 4) else none := by
                unfold psS
                rw [if_pos cA, if_pos ⟨h2, a, f19_dg dA z48⟩, if_pos d3, ed2, eq, ee, nI_clamp (by omega), nI_clamp (by omega), nI_clamp (by omega), show e + 48 - 48 = e by omega]
              have c13 : ((13 : Int32) < nI (10 * d + e)) = (13 < 10 * d + e) := propext (nI_lt' (a := 13) (by omega) (by omega))
              simp only [c13] at ek
              by_cases big : 13 < 10 * d + e
              · rw [if_pos big] at ek
                rw [hps, if_neg (by omega)]
                refine ⟨fun _ => ?_, fun c k i' h => by cases h⟩
                rw [pre 2 (-1) (Or.inr rfl) dgv ek, if_neg (by omega), isKind_m1, if_pos rfl]
              · rw [if_neg big, eq, show (13 : Int32) = nI 13 from rfl, nI_mul, nI_add, nI_s1 (by omega)] at ek
                have ik : v_X5_isKind σ (nI (13 * q + (10 * d + e) - 1)) = if hh ≤ (13 * q + (10 * d + e) - 1) % 13 then 0 else 1 := isKind_k (CI_h C r) h13 (by omega)
                by_cases ok : 10 * d + e ≤ hh
                · rw [hps, if_pos ok]
                  refine ⟨fun h => (by cases h), fun c k i' h => ?_⟩
                  cases h
                  rw [pre 2 _ (Or.inr rfl) dgv ek, if_neg (by omega), ik, if_neg (show ¬ hh ≤ (13 * q + (10 * d + e) - 1) % 13 by omega), if_neg (by decide)]
                  exact wr1 _ _ _ _ _ _ rfl (by rw [nI_add]) (fun _ => rfl)
                · rw [hps, if_neg ok]
                  refine ⟨fun _ => ?_, fun c k i' h => by cases h⟩
                  rw [pre 2 _ (Or.inr rfl) dgv ek, if_neg (by omega), ik, if_pos (show hh ≤ (13 * q + (10 * d + e) - 1) % 13 by omega), if_pos rfl]
        · rw [if_neg d3] at dgv
          have ek := kdA C hw h40 h2 (nI 1) _ rfl
          rw [if_neg dA, if_neg (show ¬ nI 1 = (2 : Int32) by decide), ed2] at ek
          by_cases a : vIn (m 86 (i + 1) - 97) 0 3 = 0
          · rw [if_pos a] at ek
            have hn : psS m wr hh i = none := by
              unfold psS
              rw [if_pos cA, if_neg (fun z => z.2.1 a)]
            rw [hn]
            refine ⟨fun _ => ?_, fun c k i' h => by cases h⟩
            rw [pre 1 (-1) (Or.inl rfl) dgv ek, if_neg (by omega), isKind_m1, if_pos rfl]
          · rw [if_neg a] at ek
            obtain ⟨q, -, hq, eq⟩ := vIn_of (a := 0) (b := 3) (by decide) a (by decide)
            by_cases z48 : m 86 (i + 2) = 48
            · rw [if_pos z48] at ek
              have hn : psS m wr hh i = none := by
                unfold psS
                rw [if_pos cA, if_neg (fun z => by
                  obtain ⟨d', g1, g2, g3, g4⟩ := vIn_19 z.2.2
                  rw [z48] at g4
                  have := (nI_eq (a := 48) (by omega) (by omega)).mp g4
                  omega)]
              rw [hn]
              refine ⟨fun _ => ?_, fun c k i' h => by cases h⟩
              rw [pre 1 (-1) (Or.inl rfl) dgv ek, if_neg (by omega), isKind_m1, if_pos rfl]
            · rw [if_neg z48] at ek
              have hd1 : 1 ≤ d := Nat.one_le_iff_ne_zero.mpr fun z => z48 (by rw [ed, z]; rfl)
              have hps : psS m wr hh i = if d ≤ hh then some (soC (m 86 i), 13 * q + d - 1, i + 3) else none := by
                unfold psS
                rw [if_pos cA, if_pos ⟨h2, a, f19_dg dA z48⟩, if_neg d3, ed2, eq, nI_clamp (by omega), nI_clamp (by omega)]
              have c13 : ((13 : Int32) < nI d) = (13 < d) := propext (nI_lt' (a := 13) (by omega) (by omega))
              simp only [c13] at ek
              rw [if_neg (by omega), eq, show (13 : Int32) = nI 13 from rfl, nI_mul, nI_add, nI_s1 (by omega)] at ek
              have ik : v_X5_isKind σ (nI (13 * q + d - 1)) = if hh ≤ (13 * q + d - 1) % 13 then 0 else 1 := isKind_k (CI_h C r) h13 (by omega)
              by_cases ok : d ≤ hh
              · rw [hps, if_pos ok]
                refine ⟨fun h => (by cases h), fun c k i' h => ?_⟩
                cases h
                rw [pre 1 _ (Or.inl rfl) dgv ek, if_neg (by omega), ik, if_neg (show ¬ hh ≤ (13 * q + d - 1) % 13 by omega), if_neg (by decide)]
                exact wr1 _ _ _ _ _ _ rfl (by rw [nI_add]) (fun _ => rfl)
              · rw [hps, if_neg ok]
                refine ⟨fun _ => ?_, fun c k i' h => by cases h⟩
                rw [pre 1 _ (Or.inl rfl) dgv ek, if_neg (by omega), ik, if_pos (show hh ≤ (13 * q + d - 1) % 13 by omega), if_pos rfl]
    · rw [if_neg (fun z => h2 z.1)] at dgv
      have hn : psS m wr hh i = none := by
        unfold psS
        rw [if_pos cA, if_neg (fun z => h2 z.1)]
      rw [hn]
      refine ⟨fun _ => ?_, fun c k i' h => by cases h⟩
      rw [pre 1 _ (Or.inl rfl) dgv rfl, if_pos (by omega)]
  · -- a move of one sign
    have one : ∀ c, 4 ≤ c → c ≤ 6 → f_X7_sortOf σ (m 86 i) = some (nI c) → ∃ τ, b_X7_read_7 (nI i, σ) = some (.inr (nI (i + 1), τ)) ∧ RdC τ (ms ++ [(c, 0)]) ∧ FrX WRd σ τ := fun c h4 h6 hs => by
      have c3 : (nI c ≤ 3) = False := eq_false fun z => by have := (nI_leI (b := 3) (by omega) (by omega)).mp z; omega
      have c3' : ((3 : Int32) < nI c) = True := eq_true ((nI_lt' (a := 3) (by omega) (by omega)).mpr (by omega))
      have cm : (nI c = -1) = False := eq_false fun z => by
        have e : (-1 : Int32) = iI (-1) := rfl
        rw [← iI_nat, e] at z
        have := (iI_eq ⟨by omega, by omega⟩ ⟨by omega, by omega⟩).mp z
        omega
      have cw : (nI (i + 1) ≤ nI wr) = True := eq_true ((nI_leI (by omega) (by omega)).mpr (by omega))
      obtain ⟨τ, g1, g2, g3⟩ := wr1 (nI c) 1 (-1) c 0 (i + 1) rfl (nI_1 i) (fun h => by omega)
      refine ⟨τ, ?_, g2, g3⟩
      unfold b_X7_read_7
      dsimp only
      rw [q1, if_neg ciw, q32, hs, Option.bind_some]
      simp only [c3, c3', cm, if_true, if_false]
      rw [oLet_eq, nI_1]
      simp only [cw, if_true]
      rw [if_neg (by decide), oLet_eq]
      rw [nI_1] at g1
      exact g1
    by_cases cT : m 86 i = 116
    · have hps : psS m wr hh i = some (4, 0, i + 1) := by unfold psS; rw [if_neg cA, if_pos cT]
      rw [hps]
      exact ⟨fun h => (by cases h), fun c k i' h => by cases h; exact one 4 (by omega) (by omega) (by rw [cT]; rfl)⟩
    by_cases cE : m 86 i = 101
    · have hps : psS m wr hh i = some (5, 0, i + 1) := by unfold psS; rw [if_neg cA, if_neg cT, if_pos cE]
      rw [hps]
      exact ⟨fun h => (by cases h), fun c k i' h => by cases h; exact one 5 (by omega) (by omega) (by rw [cE]; rfl)⟩
    by_cases cW : m 86 i = 119
    · have hps : psS m wr hh i = some (6, 0, i + 1) := by unfold psS; rw [if_neg cA, if_neg cT, if_neg cE, if_pos cW]
      rw [hps]
      exact ⟨fun h => (by cases h), fun c k i' h => by cases h; exact one 6 (by omega) (by omega) (by rw [cW]; rfl)⟩
    · have hps : psS m wr hh i = none := by unfold psS; rw [if_neg cA, if_neg cT, if_neg cE, if_neg cW]
      rw [hps]
      refine ⟨fun _ => ?_, fun c k i' h => by cases h⟩
      unfold b_X7_read_7
      dsimp only
      rw [q1, if_neg ciw, q32, sortOf_no σ cA cT cE cW, Option.bind_some, oLet_eq, if_pos (show (-1 : Int32) = -1 from rfl), if_pos rfl]
