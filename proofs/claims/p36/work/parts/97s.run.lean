/-! the law as a whole -/
theorem cell_some (σ : rS) {k : Nat} (hk : k < 2 ^ 31) : ∃ v, f_L_cell σ (nI k) = some v := by
  unfold f_L_cell
  by_cases c : nI (rK σ 2).2 ≤ nI k
  · exact ⟨_, if_pos c⟩
  · have h : k < (rK σ 2).2 := by
      by_cases b : (rK σ 2).2 < 2 ^ 31
      · exact Nat.lt_of_not_le fun z => c ((nI_leI (by omega) (by omega)).mpr z)
      · omega
    have i : inB (nI k) (rK σ 2).2 := by
      unfold inB
      rw [nI_toInt (by omega)]
      omega
    exact ⟨_, by rw [if_neg c, if_pos i]⟩
theorem bal_arg {hh jk : Nat} (h13 : hh ≤ 13) (h3 : jk ≤ 3) {v2 v3 : Int32} (h2 : 5 + v2 = nI hh) (hj : v3 = nI jk) : (((8 * (5 + v2)) + v3 : Int32)).toInt64 = lN (8 * hh + jk) := by
  rw [h2, hj, show (8 : Int32) = nI 8 from rfl, nI_mul, nI_add, nI_64 (by omega)]
theorem GA_num {t : Nat} {σ : rS} {hh jk : Nat} (G : GA t σ hh jk) : 5 ≤ hh ∧ hh ≤ 13 ∧ jk ≤ 3 := by
  obtain ⟨B, E, dl, m, l, ch, B0, D, L, ml, pn, wr, G⟩ := G
  have r := G.2.2.2.1.1
  exact ⟨r.2.1, r.2.2.1, r.2.2.2.2.1⟩
theorem law_step {t : Nat} {σ : rS} {hh jk : Nat} (G : GA t σ hh jk) (ht : t ≤ 512) {v2 v3 : Int32} (h2 : 5 + v2 = nI hh) (hj : v3 = nI jk) {e : Nat} (he : e < 24) : ∃ τ t', b_L_law_204 v2 v3 (1, nI e, σ) = some (.inr (1, nI (e + 1), τ)) ∧ GA t' τ hh jk ∧ t' ≤ t + 1 := by
  obtain ⟨n5, n13, n3⟩ := GA_num G
  have ba := bal_arg n13 n3 h2 hj
  obtain ⟨B, E, dl, m, l, ch, B0, D, L, ml, pn, wr, G⟩ := G
  obtain ⟨x, ex⟩ := cell_some σ (k := 2 * e + 2) (by omega)
  obtain ⟨y, ey⟩ := cell_some σ (k := 2 * e + 3) (by omega)
  have ax : ((2 : Int32) * nI e) + 2 = nI (2 * e + 2) := by rw [show (2 : Int32) = nI 2 from rfl, nI_mul, nI_add]
  have ay : ((2 : Int32) * nI e) + 3 = nI (2 * e + 3) := by rw [show (2 : Int32) = nI 2 from rfl, show (3 : Int32) = nI 3 from rfl, nI_mul, nI_add]
  obtain ⟨k, hk, ek⟩ := low_nat σ (x >>> ((4 : Int32) &&& 31)) (N := 27) (by decide) (by decide)
  have ek : f_L_low σ (x >>> ((4 : Int32) &&& 31)) 27 = some (nI k) := ek
  have c0 : ¬ (if 24 ≤ nI e then true else (if (1 : Int32) = 0 then true else false)) = true := by
    rw [if_neg (show ¬ (24 : Int32) ≤ nI e from fun z => by have := (nI_leI (a := 24) (by omega) (by omega)).mp z; omega)]
    decide
  have c21 : ((21 : Int32) ≤ nI k) = (21 ≤ k) := propext (nI_leI (a := 21) (by omega) (by omega))
  have c23 : ((23 : Int32) ≤ nI k) = (23 ≤ k) := propext (nI_leI (a := 23) (by omega) (by omega))
  have c25 : ((25 : Int32) ≤ nI k) = (25 ≤ k) := propext (nI_leI (a := 25) (by omega) (by omega))
  have fin : ∀ τ, (1, nI e + 1, τ) = ((1, nI (e + 1), τ) : Int32 × Int32 × rS) := fun τ => by rw [nI_1]
  by_cases k21 : 21 ≤ k
  · by_cases k23 : 23 ≤ k
    · by_cases k25 : 25 ≤ k
      · obtain ⟨τ, b1, b2⟩ := bal_ok G ht ba
        refine ⟨τ, t, ?_, ⟨B, E, dl, m, l, ch, B0, D, L, ml, pn, wr, b2⟩, Nat.le_succ _⟩
        unfold b_L_law_204
        dsimp only
        rw [if_neg c0, ax, ay, ex, Option.bind_some, ey, Option.bind_some, ek, Option.bind_some]
        simp only [c21, c23, c25]
        rw [if_pos k21, if_pos k23, if_pos k25, b1, oB_some, fin]
      · obtain ⟨τ, b1, b2⟩ := looks_ok G ht y
        refine ⟨τ, t, ?_, ⟨B, E, dl, m, l, ch, B0, D, L, ml, pn, wr, b2⟩, Nat.le_succ _⟩
        unfold b_L_law_204
        dsimp only
        rw [if_neg c0, ax, ay, ex, Option.bind_some, ey, Option.bind_some, ek, Option.bind_some]
        simp only [c21, c23, c25]
        rw [if_pos k21, if_pos k23, if_neg k25, h2, b1, oB_some, fin]
    · obtain ⟨q, hq, eq⟩ := low_nat σ y (N := 3) (by decide) (by decide)
      have eq : f_L_low σ y 3 = some (nI q) := eq
      obtain ⟨τ, b1, b2⟩ := plans_ok G ht hq
      refine ⟨τ, t, ?_, ⟨B, E, dl, m, l, ch, B0, D, L, ml, pn, wr, b2⟩, Nat.le_succ _⟩
      unfold b_L_law_204
      dsimp only
      rw [if_neg c0, ax, ay, ex, Option.bind_some, ey, Option.bind_some, ek, Option.bind_some]
      simp only [c21, c23, c25]
      rw [if_pos k21, if_neg k23, eq, Option.bind_some, b1, oB_some, fin]
  · obtain ⟨τ, b1, b2⟩ := seg_ok G ht x y (k := k) (by omega)
    refine ⟨τ, t + 1, ?_, b2, Nat.le_refl _⟩
    unfold b_L_law_204
    dsimp only
    rw [if_neg c0, ax, ay, ex, Option.bind_some, ey, Option.bind_some, ek, Option.bind_some]
    simp only [c21, c23, c25]
    rw [if_neg k21, h2, b1, oB_some, fin]
theorem law_go {hh jk : Nat} {v2 v3 : Int32} (h2 : 5 + v2 = nI hh) (hj : v3 = nI jk) : ∀ d e t N (σ : rS), e + d = 24 → t ≤ e + 1 → d < N → GA t σ hh jk → ∃ τ t', oLoop (b_L_law_204 v2 v3) N (1, nI e, σ) = some (.inr (1, τ)) ∧ GA t' τ hh jk ∧ t' ≤ 25
  | 0, e, t, N, σ, he, ht, hN, G => by
    obtain ⟨N, rfl⟩ : ∃ k, N = k + 1 := ⟨N - 1, by omega⟩
    have e24 : e = 24 := by omega
    subst e24
    refine ⟨σ, t, oLoop_l ?_, G, ht⟩
    unfold b_L_law_204
    dsimp only
    rw [if_pos (show (if (24 : Int32) ≤ nI 24 then true else (if (1 : Int32) = 0 then true else false)) = true by decide)]
  | d + 1, e, t, N, σ, he, ht, hN, G => by
    obtain ⟨N, rfl⟩ : ∃ k, N = k + 1 := ⟨N - 1, by omega⟩
    obtain ⟨τ, t1, a1, a2, a3⟩ := law_step G (by omega) h2 hj (e := e) (by omega)
    obtain ⟨υ, t2, b1, b2, b3⟩ := law_go h2 hj d (e + 1) t1 N τ (by omega) (by omega) (by omega) a2
    exact ⟨υ, t2, (oLoop_r a1).trans b1, b2, b3⟩
theorem pl_step {n : Nat} {σ : rS} {m : Mem} {l : Nat → Int64} {hh L jk ml pn : Nat} (S : S1 n σ m l hh L jk ml pn) (hn : n < 3) (v1 : Int32) : ∃ τ m', b_L_law_92 v1 (1, nI n, σ) = some (.inr (1, nI (n + 1), τ)) ∧ S1 (n + 1) τ m' l hh L jk ml pn := by
  have m2 : iRem (nI n) 2 = nI (n % 2) := by rw [show (2 : Int32) = nI 2 from rfl, nI_rem (by omega) (by omega)]
  have ha : nI (n % 2) = 0 ∨ nI (n % 2) = 1 := by
    rcases (by omega : n % 2 = 0 ∨ n % 2 = 1) with e | e <;> rw [e]
    · exact Or.inl rfl
    · exact Or.inr rfl
  obtain ⟨q, hq, eq⟩ := low_nat σ (v1 >>> ((nI n + 3) &&& 31)) (N := 3) (by decide) (by decide)
  have eq : f_L_low σ (v1 >>> ((nI n + 3) &&& 31)) 3 = some (nI q) := eq
  have c3 : ¬ (3 : Int32) ≤ nI n := fun z => by
    have := (nI_leI (a := 3) (by omega) (by omega)).mp z
    omega
  have c0 : (nI n = 0) = (n = 0) := propext (nI_eq (b := 0) (by omega) (by omega))
  by_cases z : n = 0
  · obtain ⟨τ, m', a1, a2⟩ := be_player S hn (a := nI (n % 2)) (b := 1) ha (by decide)
    refine ⟨τ, m', ?_, a2⟩
    unfold b_L_law_92
    dsimp only
    simp only [c0]
    have a1 : f_L_ask σ 1 (nI (n % 2)) 1 = some ((nI n).toInt64, τ) := a1
    rw [if_neg c3, if_pos z, oJ_inr, m2, a1, oB_some, if_pos ((lg_0 _ _).mpr rfl), oLet_eq, nI_1]
    rfl
  · obtain ⟨τ, m', a1, a2⟩ := be_player S hn (a := nI (n % 2)) (b := 1 + q) ha (by omega)
    refine ⟨τ, m', ?_, a2⟩
    unfold b_L_law_92
    dsimp only
    simp only [c0]
    rw [if_neg c3, if_neg z, eq, Option.bind_some, oJ_inr, m2, show (1 : Int32) + nI q = nI (1 + q) by rw [show (1 : Int32) = nI 1 from rfl, nI_add], a1, oB_some, if_pos ((lg_0 _ _).mpr rfl), oLet_eq, nI_1]
    rfl
theorem run_ok {σ : rS} {m : Mem} {l : Nat → Int64} (S : S0 σ m l) : ∃ τ, f_L_run σ = some (1, τ) := by
  obtain ⟨x, ex⟩ := cell_some σ (k := 0) (by decide)
  have ex : f_L_cell σ 0 = some x := ex
  obtain ⟨a, ha, e1⟩ := low_nat σ x (N := 9) (by decide) (by decide)
  obtain ⟨jk, hjk, e2⟩ := low_nat σ (x >>> ((4 : Int32) &&& 31)) (N := 4) (by decide) (by decide)
  obtain ⟨b, hb, e3⟩ := low_nat σ (x >>> ((6 : Int32) &&& 31)) (N := 2) (by decide) (by decide)
  obtain ⟨ml, hml, e4⟩ := low_nat σ (x >>> ((8 : Int32) &&& 31)) (N := 31) (by decide) (by decide)
  obtain ⟨c, hc, e5⟩ := low_nat σ (x >>> ((13 : Int32) &&& 31)) (N := 9) (by decide) (by decide)
  have e1 : f_L_low σ x 9 = some (nI a) := e1
  have e2 : f_L_low σ (x >>> ((4 : Int32) &&& 31)) 4 = some (nI jk) := e2
  have e3 : f_L_low σ (x >>> ((6 : Int32) &&& 31)) 2 = some (nI b) := e3
  have e4 : f_L_low σ (x >>> ((8 : Int32) &&& 31)) 31 = some (nI ml) := e4
  have e5 : f_L_low σ (x >>> ((13 : Int32) &&& 31)) 9 = some (nI c) := e5
  have h5 : (5 : Int32) + nI a = nI (5 + a) := by rw [show (5 : Int32) = nI 5 from rfl, nI_add]
  have h3 : (3 : Int32) + nI b = nI (3 + b) := by rw [show (3 : Int32) = nI 3 from rfl, nI_add]
  have h1 : (1 : Int32) + nI c = nI (1 + c) := by rw [show (1 : Int32) = nI 1 from rfl, nI_add]
  obtain ⟨s1, f1, S1'⟩ := be_rules (hh := 5 + a) (L := 3 + b) (jk := jk) (ml := ml) (pn := 1 + c) S (by omega) (by omega) (by omega) (by omega) (by omega) (by omega) (by omega)
  obtain ⟨s2, m2, f2, S2⟩ := pl_step S1' (by decide) x
  obtain ⟨s3, m3, f3, S3⟩ := pl_step S2 (by decide) x
  obtain ⟨s4, m4, f4, S4⟩ := pl_step S3 (by decide) x
  have lp : oLoop (b_L_law_92 x) 4 ((1 : Int32), 0, s1) = some (.inr ((1 : Int32), s4)) := (oLoop_r (n := 3) f2).trans ((oLoop_r (n := 2) f3).trans ((oLoop_r (n := 1) f4).trans (oLoop_l (by
    unfold b_L_law_92
    dsimp only
    rw [if_pos (show (3 : Int32) ≤ nI (0 + 1 + 1 + 1) by decide)]))))
  have G := be_game S4
  obtain ⟨y, ey⟩ := cell_some s4 (k := 1) (by decide)
  have ey : f_L_cell s4 1 = some y := ey
  obtain ⟨sd, hsd, e6⟩ := low_nat s4 y (N := 65536) (by decide) (by decide)
  obtain ⟨q, hq, e7⟩ := low_nat s4 (y >>> ((5 : Int32) &&& 31)) (N := 8) (by decide) (by decide)
  have e6 : f_L_low s4 y 65536 = some (nI sd) := e6
  have e7 : f_L_low s4 (y >>> ((5 : Int32) &&& 31)) 8 = some (nI q) := e7
  have h6 : (6 : Int32) + nI q = nI (6 + q) := by rw [show (6 : Int32) = nI 6 from rfl, nI_add]
  obtain ⟨v, s5, hv, f5, G5⟩ := deal_ok G (by decide) S4.2.2.2.1.1 (sd := sd) (each := 6 + q) (ck := 500) (by omega) (by omega) (by omega) (by decide) (by decide) (by omega)
  have f5 : f_L_does s4 2 (nI sd) (nI (6 + q)) 500 0 0 = some ((nI v).toInt64, s5) := f5
  obtain ⟨s6, t6, f6, G6, ht6⟩ := law_go (v2 := nI a) (v3 := nI jk) h5 rfl 24 0 1 25 s5 (by decide) (by decide) (by decide) G5
  have f6 : oLoop (b_L_law_204 (nI a) (nI jk)) 25 ((1 : Int32), 0, s5) = some (.inr ((1 : Int32), s6)) := f6
  obtain ⟨n5, n13, n3⟩ := GA_num G6
  have ba := bal_arg n13 n3 h5 (rfl : nI jk = nI jk)
  obtain ⟨B, E, dl, m', l', ch, B0, D, L, ml', pn', wr, G6⟩ := G6
  obtain ⟨s7, f7, G7⟩ := bal_ok G6 (by omega) ba
  obtain ⟨s8, f8, -⟩ := plans_ok G7 (by omega) (p := 0) (by decide)
  have f8 : f_L_plans s7 0 = some (1, s8) := f8
  have l0 : ¬ lg_cmp (lN v) (0 : Int64) < 0 := Int32.not_lt.mpr ((lN_cmp (b := 0) (by omega) (by omega)).2.2.1.mpr (Nat.zero_le _))
  have x9 : (if (lg_cmp (nI (8 * (5 + a) + jk)).toInt64 ((((8 * (5 + nI a)) + nI jk : Int32)).toInt64)) = 0 then 1 else 0 : Int32) = 1 := by
    rw [if_pos ((lg_0 _ _).mpr (by rw [h5, show (8 : Int32) = nI 8 from rfl, nI_mul, nI_add]))]
  have f1' : f_L_rules σ (5 + nI a) (nI (3 + b)) (nI jk) (nI ml) (nI (1 + c)) = some ((nI (8 * (5 + a) + jk)).toInt64, s1) := by
    rw [h5]
    exact f1
  refine ⟨s8, ?_⟩
  unfold f_L_run
  rw [ex, Option.bind_some, e1, Option.bind_some, e2, Option.bind_some, e3, Option.bind_some, e4, Option.bind_some, e5, Option.bind_some, does_0, h3, h1]
  rw [f1', oB_some, x9, oLet_eq, lp, oJ_inr]
  dsimp only
  rw [ey, Option.bind_some, e6, Option.bind_some, Option.bind_some, e7, Option.bind_some, h6, f5, oB_some, nI_64 hv, if_neg l0, oLet_eq, show (1 : Int32) &&& 1 = 1 by decide, f6, oJ_inr]
  dsimp only
  rw [if_neg (show ¬ (1 : Int32) = 0 by decide), f7, oB_some, if_neg (show ¬ (1 : Int32) = 0 by decide), f8, oB_some, if_neg (show ¬ (1 : Int32) = 0 by decide)]
/-- the law is true of every script -/
theorem law_true (L : Nat) (xs : Nat → Int32) : ∃ τ, f_law (σ00 L xs) = some (1, τ) := by
  obtain ⟨τ, h, -⟩ := za_sh L xs 0
  obtain ⟨S, -⟩ := start_ok h
  obtain ⟨υ, hυ⟩ := run_ok S
  exact ⟨υ, by rw [f_law_zt, h]; exact hυ⟩
