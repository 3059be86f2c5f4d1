/-! balances: the answer is one -/
section
variable {t : Nat} {σ : rS} {B : Bd} {E : List Ent} {dl : Option (Nat × Nat × Nat)} {m : Mem} {l : Nat → Int64} {ch : Nat} {B0 : Bd} {D : List (Nat × Nat)} {hh L jk ml pn wr : Nat}
theorem bal_step (G : GAx t σ B E dl m l ch B0 D hh L jk ml pn wr) {p : Nat} (hp : p < 3) (a b c d : Int64) : ∃ τ, b_L_balances_41 (a, b, c, d, nI p, σ) = some (.inr (a + (nI (rsz (bR B) p)).toInt64, b + (m 70 p).toInt64, c + (m 73 p).toInt64, d ||| ((1 : Int64) <<< (((((nI (adJ m p)).toInt64 : Int64)).toInt32 : Int32).toInt64 &&& 63)), nI (p + 1), τ)) ∧ GAx t τ B E dl m l ch B0 D hh L jk ml pn wr := by
  obtain ⟨s1, e1, G1⟩ := k_player G hp (q := 5) (by omega)
  have e1 : f_L_ask σ 28 (nI p) 5 = some ((nI (rsz (bR B) p)).toInt64, s1) := e1
  obtain ⟨s2, e2, G2⟩ := k_player G1 hp (q := 2) (by omega)
  have e2 : f_L_ask s1 28 (nI p) 2 = some ((m 70 p).toInt64, s2) := e2
  obtain ⟨s3, e3, G3⟩ := k_player G2 hp (q := 9) (by omega)
  have e3 : f_L_ask s2 28 (nI p) 9 = some ((m 73 p).toInt64, s3) := e3
  obtain ⟨s4, e4, G4⟩ := k_player G3 hp (q := 7) (by omega)
  have e4 : f_L_ask s3 28 (nI p) 7 = some ((nI (adJ m p)).toInt64, s4) := e4
  refine ⟨s4, ?_, G4⟩
  unfold b_L_balances_41
  dsimp only
  rw [if_neg (show ¬ (3 : Int32) ≤ nI p from fun z => by have := (nI_leI (a := 3) (by omega) (by omega)).mp z; omega), e1, oB_some, e2, oB_some, e3, oB_some, e4, oB_some, oLet_eq, nI_1]
theorem bal_loop (G : GAx t σ B E dl m l ch B0 D hh L jk ml pn wr) (a : Int64) : ∃ τ, oLoop b_L_balances_41 4 (a, (0 : Int64), (0 : Int64), (0 : Int64), 0, σ) = some (.inr (a + (nI (rsz (bR B) 0)).toInt64 + (nI (rsz (bR B) 1)).toInt64 + (nI (rsz (bR B) 2)).toInt64, (0 : Int64) + (m 70 0).toInt64 + (m 70 1).toInt64 + (m 70 2).toInt64, (0 : Int64) + (m 73 0).toInt64 + (m 73 1).toInt64 + (m 73 2).toInt64, ((((0 : Int64) ||| ((1 : Int64) <<< (((((nI (adJ m 0)).toInt64 : Int64)).toInt32 : Int32).toInt64 &&& 63))) ||| ((1 : Int64) <<< (((((nI (adJ m 1)).toInt64 : Int64)).toInt32 : Int32).toInt64 &&& 63))) ||| ((1 : Int64) <<< (((((nI (adJ m 2)).toInt64 : Int64)).toInt32 : Int32).toInt64 &&& 63))), τ)) ∧ GAx t τ B E dl m l ch B0 D hh L jk ml pn wr := by
  obtain ⟨s1, e1, G1⟩ := bal_step G (p := 0) (by omega) a 0 0 0
  obtain ⟨s2, e2, G2⟩ := bal_step G1 (p := 1) (by omega) (a + (nI (rsz (bR B) 0)).toInt64) (0 + (m 70 0).toInt64) (0 + (m 73 0).toInt64) ((0 : Int64) ||| ((1 : Int64) <<< (((((nI (adJ m 0)).toInt64 : Int64)).toInt32 : Int32).toInt64 &&& 63)))
  obtain ⟨s3, e3, G3⟩ := bal_step G2 (p := 2) (by omega) (a + (nI (rsz (bR B) 0)).toInt64 + (nI (rsz (bR B) 1)).toInt64) (0 + (m 70 0).toInt64 + (m 70 1).toInt64) (0 + (m 73 0).toInt64 + (m 73 1).toInt64) (((0 : Int64) ||| ((1 : Int64) <<< (((((nI (adJ m 0)).toInt64 : Int64)).toInt32 : Int32).toInt64 &&& 63))) ||| ((1 : Int64) <<< (((((nI (adJ m 1)).toInt64 : Int64)).toInt32 : Int32).toInt64 &&& 63)))
  refine ⟨s3, ?_, G3⟩
  refine (oLoop_r (n := 3) e1).trans ((oLoop_r (n := 2) e2).trans ((oLoop_r (n := 1) e3).trans (oLoop_l ?_)))
  unfold b_L_balances_41
  dsimp only
  rw [if_pos (show (3 : Int32) ≤ nI (2 + 1) by decide)]
theorem on_0 (G : GmS t B E dl m B0 D hh L jk ml pn 3 wr) (ht : t ≤ 800) (h : (bD B).length = 0) : accB L hh (tN (tjB B) xZ) = true ∧ bF B = 0 := by
  have F := G_facts G ht
  have hD : D = [] := List.length_eq_zero_iff.mp (by rw [← F.2.2.2.1]; exact h)
  have hB : B = B0 := by
    rcases G.2.1.2 with ⟨-, -, e⟩ | ⟨p, on⟩
    · exact e
    · have e := on.2.2.2.1
      rw [hD] at e
      exact e
  rw [hB]
  exact ⟨G.2.1.1.2.2, G.2.1.1.1.2.2⟩
theorem bal_ok (G : GAx t σ B E dl m l ch B0 D hh L jk ml pn wr) (ht : t ≤ 512) {p1 : Int32} (hp1 : p1.toInt64 = lN (8 * hh + jk)) : ∃ τ, f_L_balances σ p1 = some (1, τ) ∧ GAx t τ B E dl m l ch B0 D hh L jk ml pn wr := by
  have r := G.2.2.2.1.1
  have F := G_facts G.2.2.2.1 (by omega)
  have h5 := r.2.1
  have h13 := r.2.2.1
  have j3 := r.2.2.2.2.1
  have TT := tot_all F.2.2.2.2.2.1 h5 h13
  have X := G.2.2.2.2
  obtain ⟨n1, dn1⟩ : ∃ x, x = natSum (bP B) 53 := ⟨_, rfl⟩
  obtain ⟨n2, dn2⟩ : ∃ x, x = natSum (bT B) 52 + natSum (bJ B) 52 := ⟨_, rfl⟩
  rw [← dn1, ← dn2] at TT
  obtain ⟨s1, e1, G1⟩ := k_sum G (q := 1) (by omega) 0
  have e1 : f_L_ask σ 32 1 0 = some ((nI n1).toInt64, s1) := by rw [dn1]; exact e1
  obtain ⟨s2, e2, G2⟩ := k_sum G1 (q := 2) (by omega) 0
  have e2 : f_L_ask s1 32 2 0 = some ((nI n2).toInt64, s2) := by rw [dn2]; exact e2
  obtain ⟨s3, e3, G3⟩ := k_sum G2 (q := 4) (by omega) 0
  have e3 : f_L_ask s2 32 4 0 = some ((nI (bF B)).toInt64, s3) := e3
  obtain ⟨s4, e4, G4⟩ := bal_loop G3 (((nI n1).toInt64 + (nI n2).toInt64) + (nI (bF B)).toInt64)
  obtain ⟨s5, e5, G5⟩ := k_sum G4 (q := 8) (by omega) 0
  have e5 : f_L_ask s4 32 8 0 = some ((m 67 26).toInt64, s5) := e5
  obtain ⟨s6, e6, G6⟩ := k_team G5 (q := 0) (by omega) 0
  have e6 : f_L_ask s5 29 0 0 = some ((tmP m (nI 0) 3).toInt64, s6) := e6
  obtain ⟨s7, e7, G7⟩ := k_team G6 (q := 1) (by omega) 0
  have e7 : f_L_ask s6 29 1 0 = some ((tmP m (nI 1) 3).toInt64, s7) := e7
  obtain ⟨s8, e8, G8⟩ := k_rep G7 (by omega) 0 0
  have e8 : f_L_ask s7 31 0 0 = some (1, s8) := e8
  obtain ⟨s9, e9, G9⟩ := k_sum G8 (q := 5) (by omega) 0
  have e9 : f_L_ask s8 32 5 0 = some ((nI (bD B).length).toInt64, s9) := e9
  have hA : ((nI n1).toInt64 + (nI n2).toInt64) + (nI (bF B)).toInt64 + (nI (rsz (bR B) 0)).toInt64 + (nI (rsz (bR B) 1)).toInt64 + (nI (rsz (bR B) 2)).toInt64 = lN (n1 + n2 + bF B + rsz (bR B) 0 + rsz (bR B) 1 + rsz (bR B) 2) := by
    rw [nI_64 (by omega), nI_64 (by omega), nI_64 (by omega), nI_64 (by omega), nI_64 (by omega), nI_64 (by omega), lN_add, lN_add, lN_add, lN_add, lN_add]
  have hlen : (bD B).length ≤ 48 := by rw [F.2.2.2.1]; exact F.2.2.2.2.1
  rw [hA, pts_0 X (by omega), win_r X (by omega), pla_7 G.2.2.2.1.2.2.1.1] at e4
  -- the first half
  have half : ∀ q : Int32 × rS → Option (Int32 × rS), (oJoin (if (if (lg_cmp (lN (n1 + n2 + bF B + rsz (bR B) 0 + rsz (bR B) 1 + rsz (bR B) 2)) (((p1 : Int32)).toInt64)) = 0 then (if (lg_cmp (0 : Int64) (0 : Int64)) = 0 then (if (lg_cmp (7 : Int64) (7 : Int64)) = 0 then false else true) else true) else (if (lg_cmp (lN (n1 + n2 + bF B + rsz (bR B) 0 + rsz (bR B) 1 + rsz (bR B) 2)) (0 : Int64)) = 0 then (if (lg_cmp (0 : Int64) (0 : Int64)) = 0 then (if (lg_cmp (7 : Int64) (7 : Int64)) = 0 then false else true) else true) else true)) = true then (some (.inr (((0 : Int32), s4)))) else (oB (f_L_ask s4 32 8 0) fun v20 σ21 => if (lg_cmp (m 67 26).toInt64 v20) = 0 then (oB (f_L_ask σ21 29 0 0) fun v22 σ23 => oB (f_L_ask σ23 29 1 0) fun v24 σ25 => if (lg_cmp (v22 + v24) (0 : Int64)) = 0 then (oB (f_L_ask σ25 31 0 0) fun v26 σ27 => if (lg_cmp v26 (1 : Int64)) = 0 then (some (.inr (((1 : Int32), σ27)))) else (some (.inr (((0 : Int32), σ27))))) else (some (.inr (((0 : Int32), σ25))))) else (some (.inr (((0 : Int32), σ21)))))) q) = q (1, s8) := fun q => by
    have c0 : (if (lg_cmp (0 : Int64) (0 : Int64)) = 0 then (if (lg_cmp (7 : Int64) (7 : Int64)) = 0 then false else true) else true) = false := by decide
    rw [c0, if_neg, e5, oB_some, if_pos ((lg_0 _ _).mpr rfl), e6, oB_some, e7, oB_some, if_pos ((lg_0 _ _).mpr (team_0 X (by omega))), e8, oB_some, if_pos (by decide), oJ_inr]
    rw [hp1]
    rcases TT with e | e
    · rw [if_pos ((lg_0 _ _).mpr (by rw [show n1 + n2 + bF B + rsz (bR B) 0 + rsz (bR B) 1 + rsz (bR B) 2 = 8 * hh + jk by omega]))]
      decide
    · rw [if_pos (c := lg_cmp _ (0 : Int64) = 0) ((lg_0 _ _).mpr (by rw [show n1 + n2 + bF B + rsz (bR B) 0 + rsz (bR B) 1 + rsz (bR B) 2 = 0 by omega]; rfl))]
      split <;> decide
  -- the table is whole as a turn begins
  have mid : ∃ s12, GAx t s12 B E dl m l ch B0 D hh L jk ml pn wr ∧ ∀ q : Int32 × rS → Option (Int32 × rS), (oJoin (if 0 < (lg_cmp (nI (bD B).length).toInt64 (0 : Int64)) then (some (.inr (((1 : Int32), s9)))) else (oB (f_L_ask s9 14 0 0) fun v31 σ32 => if (lg_cmp v31 (1 : Int64)) = 0 then (oB (f_L_ask σ32 32 4 0) fun v33 σ34 => if (lg_cmp v33 (0 : Int64)) = 0 then (some (.inr (((1 : Int32), σ34)))) else (some (.inr (((0 : Int32), σ34))))) else (some (.inr (((0 : Int32), σ32)))))) q) = q (1, s12) := by
    rw [nI_64 (by omega)]
    by_cases c : 0 < lg_cmp (lN (bD B).length) (0 : Int64)
    · exact ⟨s9, G9, fun q => by rw [if_pos c, oJ_inr]⟩
    · have z : (bD B).length = 0 := Nat.eq_zero_of_not_pos fun h => c ((lN_cmp (b := 0) (by omega) (by omega)).1.mpr h)
      obtain ⟨o1, o2⟩ := on_0 G.2.2.2.1 (by omega) z
      obtain ⟨s10, e10, G10⟩ := k_whole G9 (by omega) 0 0
      have e10 : f_L_ask s9 14 0 0 = some (b2l (accB L hh (tN (tjB B) xZ)), s10) := e10
      obtain ⟨s11, e11, G11⟩ := k_sum G10 (q := 4) (by omega) 0
      have e11 : f_L_ask s10 32 4 0 = some ((nI (bF B)).toInt64, s11) := e11
      rw [o1] at e10
      rw [o2] at e11
      exact ⟨s11, G11, fun q => by rw [if_neg c, e10, oB_some, if_pos (by decide), e11, oB_some, if_pos (by decide), oJ_inr]⟩
  obtain ⟨s12, G12, mid⟩ := mid
  obtain ⟨s13, e13, G13⟩ := k_whole G12 (by omega) 0 0
  have e13 : f_L_ask s12 14 0 0 = some (b2l (accB L hh (tN (tjB B) xZ)), s13) := e13
  obtain ⟨s14, e14, G14⟩ := k_cuts G13 (by omega) (q := 1) (by omega) 0
  have e14 : f_L_ask s13 15 1 0 = some ((cuS 1 (cuV (cntR L hh (tjB B)))).toInt64, s14) := e14
  obtain ⟨s15, e15, G15⟩ := k_cuts G14 (by omega) (q := 1) (by omega) 0
  have e15 : f_L_ask s14 15 1 0 = some ((cuS 1 (cuV (cntR L hh (tjB B)))).toInt64, s15) := e15
  obtain ⟨s16, e16, G16⟩ := k_cuts G15 (by omega) (q := 2) (by omega) 0
  have e16 : f_L_ask s15 15 2 0 = some ((cuS 2 (cuV (cntR L hh (tjB B)))).toInt64, s16) := e16
  obtain ⟨s17, e17, G17⟩ := k_cuts G16 (by omega) (q := 2) (by omega) 0
  have e17 : f_L_ask s16 15 2 0 = some ((cuS 2 (cuV (cntR L hh (tjB B)))).toInt64, s17) := e17
  obtain ⟨s18, e18, G18⟩ := k_sum G17 (q := 2) (by omega) 0
  have e18 : f_L_ask s17 32 2 0 = some ((nI n2).toInt64, s18) := by rw [dn2]; exact e18
  refine ⟨s18, ?_, G18⟩
  unfold f_L_balances
  rw [e1, oB_some, e2, oB_some, e3, oB_some, e4, oJ_inr]
  dsimp only
  rw [half]
  dsimp only
  rw [e9, oB_some, mid]
  dsimp only
  rw [if_neg (show ¬ ((1 : Int32) &&& 1) = 0 by decide), e13, oB_some, e14, oB_some]
  have h2 : ∀ k, tjB B k ≤ 2 := fun k => tjB_le F.1 k
  have acc := cnt_acc r.2.2.2.1 h2 h13
  cases hc : cntR L hh (tjB B) with
  | none =>
    have a0 : accB L hh (tN (tjB B) xZ) = false := by
      cases y : accB L hh (tN (tjB B) xZ) with
      | false => rfl
      | true =>
        have := acc.mpr (accB_iff.mp y)
        rw [hc] at this
        exact absurd this (by decide)
    rw [hc] at e15 e16 e17
    rw [a0, if_pos (by decide), e15, oB_some, e16, oB_some, if_neg (by decide), e17, oB_some, e18, oB_some, nI_64 (by omega)]
    have e3 : (3 : Int64) * (cuS 2 (cuV none)).toInt64 = -3 := by decide
    rw [e3, if_neg]
    intro z
    have z1 := (lg_pos _ _).1.mp z
    rw [lN_toInt' (by omega)] at z1
    have : ((-3 : Int64)).toInt = -3 := by decide
    omega
  | some v =>
    have a1 : accB L hh (tN (tjB B) xZ) = true := accB_iff.mpr (acc.mp (by rw [hc]; rfl))
    obtain ⟨w1, w2, w3⟩ := cnt_3 r.2.2.2.1 h2 h13 hc
    have w4 : natSum (tjB B) 52 = n2 := by
      rw [dn2]
      exact tot_tjB B
    rw [hc] at e15 e16 e17
    have q1 : (cuS 1 (cuV (some v))).toInt64 = lN v.2.1 := nI_64 (by omega)
    have q2 : (cuS 2 (cuV (some v))).toInt64 = lN v.2.2 := nI_64 (by omega)
    rw [q1] at e15
    rw [q2] at e16 e17
    have l0 : ¬ lg_cmp (lN v.2.1) (0 : Int64) < 0 := Int32.not_lt.mpr ((lN_cmp (b := 0) (by omega) (by omega)).2.2.1.mpr (Nat.zero_le _))
    rw [q1, a1, if_neg l0, if_pos (by decide), e15, oB_some, e16, oB_some, if_neg (fun z => by have := (lN_cmp (by omega) (by omega)).1.mp z; omega), e17, oB_some, e18, oB_some, nI_64 (by omega), show (3 : Int64) = lN 3 from rfl, lN_mul, if_neg (fun z => by have := (lN_cmp (by omega) (by omega)).1.mp z; omega)]
end
