/-! looks: the answer is one -/
theorem chF_n {V i : Nat} (hV : V ≤ 2000) (hi : i ≤ 3) : chF (nI V) i = nI (V - i) := by
  unfold chF
  rw [← iI_nat, ← iI_nat, iI_sub]
  have e : ((iI ((V : Int) - (i : Int)) : Int32) ≤ 0) = ((V : Int) - (i : Int) ≤ 0) := propext (iI_le (b := 0) ⟨by omega, by omega⟩ ⟨by omega, by omega⟩)
  simp only [e]
  by_cases c : (V : Int) - (i : Int) ≤ 0
  · rw [if_pos c, show V - i = 0 by omega]
    rfl
  · rw [if_neg c, ← iI_nat]
    congr 1
    omega
theorem ch_ab {N V : Nat} (hV : V ≤ N) (h2 : N ≤ 2000) : ∀ i, i ≤ 3 → i ≤ N → ∃ a b, chA N i = lN a ∧ chB (nI V) i = lN b ∧ b ≤ a ∧ 1 ≤ a ∧ a ≤ 2000 ^ i ∧ (V = N → b = a)
  | 0, _, _ => ⟨1, 1, rfl, rfl, Nat.le_refl _, Nat.le_refl _, Nat.le_refl _, fun _ => rfl⟩
  | i + 1, h3, hN => by
    obtain ⟨a, b, e1, e2, ba, a1, a2, eq⟩ := ch_ab hV h2 i (by omega) (by omega)
    refine ⟨a * (N - i), b * (V - i), ?_, ?_, Nat.mul_le_mul ba (by omega), Nat.mul_pos a1 (by omega), ?_, fun e => by rw [eq e, e]⟩
    · rw [chA, e1, nI_64 (by omega), lN_mul]
    · rw [chB, e2, chF_n (by omega) (by omega), nI_64 (by omega), lN_mul]
    · rw [Nat.pow_succ]
      exact Nat.mul_le_mul a2 (by omega)
theorem nI_ofx (x : Int32) : ∃ n, x = nI n := ⟨x.toBitVec.toNat, by
  apply Int32.toBitVec_inj.mp
  show x.toBitVec = BitVec.ofNat 32 x.toBitVec.toNat
  simp⟩
theorem low_nat (σ : rS) (x : Int32) {N : Nat} (h1 : 0 < N) (h2 : N < 2 ^ 31) : ∃ q, q < N ∧ f_L_low σ x (nI N) = some (nI q) := by
  obtain ⟨n, rfl⟩ := nI_ofx x
  refine ⟨n % 2 ^ 31 % N, Nat.mod_lt _ h1, ?_⟩
  rw [low_some _ _ (fun z => by have := (nI_eq (b := 0) h2 (by omega)).mp z; omega), show (2147483647 : Int32) = nI (2 ^ 31 - 1) from rfl, nI_mod, nI_rem (Nat.mod_lt _ (by decide)) h2]
section
variable {t : Nat} {σ : rS} {B : Bd} {E : List Ent} {dl : Option (Nat × Nat × Nat)} {m : Mem} {l : Nat → Int64} {ch : Nat} {B0 : Bd} {D : List (Nat × Nat)} {hh L jk ml pn wr : Nat}
theorem ad_ch (G : GAx t σ B E dl m l ch B0 D hh L jk ml pn wr) (ht : t ≤ 512) {p q j : Nat} (hp : p < 3) (hq : q < 3) (hpq : p ≠ q) (hj : j < 52) : ∃ c, adC B m l p q j = nI c ∧ c ≤ 1000 ∧ (hiB B p j = 0 → c = 0) ∧ (rsz (bR B) q = 0 → c = 0) := by
  have F := G_facts G.2.2.2.1 (by omega)
  have r := G.2.2.2.1.1
  have hA := hi_ah B p (k := j) (by omega)
  have hA2 := ah_le F.1.1 p
  have hH := Bo2_hi F.2.2.2.2.2.1 r.2.2.2.2.1 p (k := j) (by omega)
  have hz : rsz (bR B) q ≤ ahB B p := by
    have h := natSum_ge (f := fun i => if i = p then 0 else rsz (bR B) i) (i := q) (n := 4) (by omega)
    rw [if_neg (fun e => hpq e.symm)] at h
    unfold ahB
    omega
  obtain ⟨T, hT, hT2⟩ : ∃ T, T ≤ rsz (bR B) q ∧ chT B m l q j = nI T := by
    obtain ⟨f, f1, f2⟩ := G.2.2.2.2.1 q (by omega)
    unfold chT
    split
    · exact ⟨_, Nat.le_refl _, rfl⟩
    · split
      · rename_i w
        rw [f2] at w
        exact ⟨f, Nat.le_of_lt ((nI_lt' (by omega) (by omega)).mp w), f2⟩
      · exact ⟨_, Nat.le_refl _, rfl⟩
  obtain ⟨a, b, e1, e2, ba, a1, a2, eq⟩ := ch_ab (N := ahB B p) (V := ahB B p - T) (by omega) hA2 (hiB B p j) hH hA
  have p3 : a ≤ 2000 ^ 3 := Nat.le_trans a2 (Nat.pow_le_pow_right (by decide) hH)
  have e3 : (2000 : Nat) ^ 3 = 8000000000 := by decide
  rw [e3] at p3
  have dl : 1000 * (a - b) / a ≤ 1000 := Nat.div_le_of_le_mul (by rw [Nat.mul_comm a]; exact Nat.mul_le_mul (Nat.le_refl _) (Nat.sub_le _ _))
  refine ⟨1000 * (a - b) / a, ?_, dl, fun z => ?_, fun z => ?_⟩
  · unfold adC
    rw [hT2, nI_sub (by omega), e1, e2, lN_sub ba, show (1000 : Int64) = lN 1000 from rfl, lN_mul, lN_div (by omega) (by omega), lN_32 (by omega)]
  · have q1 : a = 1 := by
      rw [z] at e1
      exact (lN_inj (b := 1) (by omega) (by omega) (e1.symm.trans rfl))
    have q2 : b = 1 := by
      rw [z] at e2
      exact (lN_inj (b := 1) (by omega) (by omega) (e2.symm.trans rfl))
    rw [q1, q2]
  · rw [eq (by omega), Nat.sub_self, Nat.mul_zero, Nat.zero_div]
theorem hi_3 {p j : Nat} (rk : RkI B 3) (hp : p < 3) (hj : j < 53) : hiB B p j = bP B j + bR B (53 * ((p + 1) % 3) + j) + bR B (53 * ((p + 2) % 3) + j) := by
  have z := rk 3 (by omega) (by omega) j hj
  unfold hiB
  rw [nS_4]
  rcases (by omega : p = 0 ∨ p = 1 ∨ p = 2) with rfl | rfl | rfl <;> simp only [z] <;> simp <;> omega
theorem look_step (G : GAx t σ B E dl m l ch B0 D hh L jk ml pn wr) (ht : t ≤ 512) {c a p : Nat} (hc : c < 4) (ha : a < hh) (hp : p < 3) : ∃ τ, b_L_looks_136 (nI c) (nI a) (1, nI p, σ) = some (.inr (1, nI (p + 1), τ)) ∧ GAx t τ B E dl m l ch B0 D hh L jk ml pn wr := by
  have F := G_facts G.2.2.2.1 (by omega)
  have r := G.2.2.2.1.1
  have h13 := r.2.2.1
  have hk : 13 * c + a < 52 := by omega
  have hk13 : (13 * c + a) % 13 < hh := by omega
  have ak : adK hh (13 * c + a) = true := by unfold adK; simp only [decide_eq_true_eq]; exact ⟨hk, hk13⟩
  have kk : ((13 : Int32) * nI c) + nI a = nI (13 * c + a) := by rw [show (13 : Int32) = nI 13 from rfl, nI_mul, nI_add]
  have m1 : iRem (nI p + 1) 3 = nI ((p + 1) % 3) := by rw [nI_1, show (3 : Int32) = nI 3 from rfl, nI_rem (by omega) (by omega)]
  have m2 : iRem (nI p + 2) 3 = nI ((p + 2) % 3) := by rw [show (2 : Int32) = nI 2 from rfl, nI_add, show (3 : Int32) = nI 3 from rfl, nI_rem (by omega) (by omega)]
  obtain ⟨x, x1, x2, x3, x4⟩ := ad_ch G ht (p := p) (q := (p + 1) % 3) (j := 13 * c + a) hp (by omega) (by omega) hk
  have rz : ∀ q, q < 4 → rsz (bR B) q ≤ 24 := F.1.1.2.1
  have rb : ∀ q, q < 3 → bR B (53 * q + (13 * c + a)) ≤ 24 := fun q hq => Nat.le_trans (rsz_ge (by omega)) (rz q (by omega))
  have rb1 := rb ((p + 1) % 3) (by omega)
  have rb2 := rb ((p + 2) % 3) (by omega)
  have pb : bP B (13 * c + a) ≤ 3 := by
    have := Bo2_hi F.2.2.2.2.2.1 r.2.2.2.2.1 p (k := 13 * c + a) (by omega)
    unfold hiB at this
    omega
  have rz1 := rz ((p + 1) % 3) (by omega)
  have hi := hi_3 F.2.2.2.2.2.1.1 hp (j := 13 * c + a) (by omega)
  obtain ⟨s1, e1, G1⟩ := k_chance G (by omega) hp (q := (p + 1) % 3) (by omega) (by omega) hk hk13
  have e1 : f_L_does σ 21 (nI p) (nI ((p + 1) % 3)) (nI (13 * c + a)) 0 0 = some (lN x, s1) := by rw [← nI_64 (by omega), ← x1]; exact e1
  have q2 : adQ B hh (13 * c + a) = lN (bP B (13 * c + a)) := (if_pos ak).trans (nI_64 (by omega))
  have q3 : adR B hh ((p + 1) % 3) (13 * c + a) = lN (bR B (53 * ((p + 1) % 3) + (13 * c + a))) := (if_pos ak).trans (nI_64 (by omega))
  have q4 : adR B hh ((p + 2) % 3) (13 * c + a) = lN (bR B (53 * ((p + 2) % 3) + (13 * c + a))) := (if_pos ak).trans (nI_64 (by omega))
  obtain ⟨s2, e2, G2⟩ := k_pool G1 (j := 13 * c + a) (by omega) 0
  have e2 : f_L_ask s1 27 (nI (13 * c + a)) 0 = some (lN (bP B (13 * c + a)), s2) := by rw [← q2]; exact e2
  obtain ⟨s3, e3, G3⟩ := k_rack G2 (p := (p + 1) % 3) (by omega) (j := 13 * c + a) (by omega)
  have e3 : f_L_ask s2 25 (nI ((p + 1) % 3)) (nI (13 * c + a)) = some (lN (bR B (53 * ((p + 1) % 3) + (13 * c + a))), s3) := by rw [← q3]; exact e3
  obtain ⟨s4, e4, G4⟩ := k_rack G3 (p := (p + 2) % 3) (by omega) (j := 13 * c + a) (by omega)
  have e4 : f_L_ask s3 25 (nI ((p + 2) % 3)) (nI (13 * c + a)) = some (lN (bR B (53 * ((p + 2) % 3) + (13 * c + a))), s4) := by rw [← q4]; exact e4
  obtain ⟨s5, e5, G5⟩ := k_player G4 (p := (p + 1) % 3) (by omega) (q := 5) (by omega)
  have e5 : f_L_ask s4 28 (nI ((p + 1) % 3)) 5 = some (lN (rsz (bR B) ((p + 1) % 3)), s5) := by rw [← nI_64 (by omega)]; exact e5
  refine ⟨s5, ?_, G5⟩
  have l1 : ¬ lg_cmp (lN x) (0 : Int64) < 0 := Int32.not_lt.mpr ((lN_cmp (b := 0) (by omega) (by omega)).2.2.1.mpr (Nat.zero_le _))
  have l2 : ¬ 0 < lg_cmp (lN x) (1000 : Int64) := fun z => by have := (lN_cmp (b := 1000) (by omega) (by omega)).1.mp z; omega
  unfold b_L_looks_136
  dsimp only
  rw [if_neg (show ¬ (3 : Int32) ≤ nI p from fun z => by have := (nI_leI (a := 3) (by omega) (by omega)).mp z; omega), kk, m1, m2, e1, oB_some, e2, oB_some, e3, oB_some, e4, oB_some, if_neg l1, if_neg l2, if_neg (by decide), lN_add, lN_add, if_pos, e5, oB_some, oLet_eq, nI_1]
  · have y : (if 0 < (lg_cmp (lN (rsz (bR B) ((p + 1) % 3))) (0 : Int64)) then 1 else (if (lg_cmp (lN x) (0 : Int64)) = 0 then 1 else 0) : Int32) = 1 := by
      by_cases z : rsz (bR B) ((p + 1) % 3) = 0
      · have x0 := x4 z
        subst x0
        split <;> rfl
      · rw [if_pos (show 0 < lg_cmp (lN (rsz (bR B) ((p + 1) % 3))) (0 : Int64) from (lN_cmp (b := 0) (by omega) (by omega)).1.mpr (by omega))]
    rw [y]
    rfl
  · by_cases z : hiB B p (13 * c + a) = 0
    · have x0 := x3 z
      subst x0
      split <;> rfl
    · rw [if_pos (show 0 < lg_cmp (lN (bP B (13 * c + a) + bR B (53 * ((p + 1) % 3) + (13 * c + a)) + bR B (53 * ((p + 2) % 3) + (13 * c + a)))) (0 : Int64) from (lN_cmp (b := 0) (by omega) (by omega)).1.mpr (by omega))]
theorem looks_ok (G : GAx t σ B E dl m l ch B0 D hh L jk ml pn wr) (ht : t ≤ 512) (p1 : Int32) : ∃ τ, f_L_looks σ p1 (nI hh) = some (1, τ) ∧ GAx t τ B E dl m l ch B0 D hh L jk ml pn wr := by
  have F := G_facts G.2.2.2.1 (by omega)
  have r := G.2.2.2.1.1
  have h5 := r.2.1
  have h13 := r.2.2.1
  have h2 : ∀ k, tjB B k ≤ 2 := fun k => tjB_le F.1 k
  have TT := tot_all F.2.2.2.2.2.1 h5 h13
  have j3 := r.2.2.2.2.1
  obtain ⟨n2, dn2⟩ : ∃ x, x = natSum (bT B) 52 + natSum (bJ B) 52 := ⟨_, rfl⟩
  rw [← dn2] at TT
  obtain ⟨c, hc, f1⟩ := low_nat σ p1 (N := 4) (by decide) (by decide)
  obtain ⟨a, ha, f2⟩ := low_nat σ (p1 >>> ((3 : Int32) &&& 31)) (N := hh) (by omega) (by omega)
  have f1 : f_L_low σ p1 4 = some (nI c) := f1
  have hk : 13 * c + a < 52 := by omega
  have hk13 : (13 * c + a) % 13 < hh := by omega
  have ak : adK hh (13 * c + a) = true := by unfold adK; simp only [decide_eq_true_eq]; exact ⟨hk, hk13⟩
  have kk : ((13 : Int32) * nI c) + nI a = nI (13 * c + a) := by rw [show (13 : Int32) = nI 13 from rfl, nI_mul, nI_add]
  have tj : tjB B (13 * c + a) = bT B (13 * c + a) + bJ B (13 * c + a) := if_pos hk
  have t2 := h2 (13 * c + a)
  obtain ⟨s1, e1, G1⟩ := k_sum G (q := 2) (by omega) 0
  have e1 : f_L_ask σ 32 2 0 = some (lN n2, s1) := by rw [← nI_64 (by omega), dn2]; exact e1
  -- cuts in both ways
  have first : ∃ s4, GAx t s4 B E dl m l ch B0 D hh L jk ml pn wr ∧ (if (lg_cmp (lN n2) (14 : Int64)) ≤ 0 then (oB (f_L_ask s1 16 0 0) fun v6 σ7 => oB (f_L_ask σ7 15 0 0) fun v8 σ9 => if (lg_cmp v6 v8) = 0 then (some (.inr (((1 : Int32), σ9)))) else (some (.inr (((0 : Int32), σ9))))) else (oB (f_L_ask s1 16 0 0) fun v10 σ11 => if (lg_cmp v10 (((-10004) : Int64))) = 0 then (some (.inr (((1 : Int32), σ11)))) else (some (.inr (((0 : Int32), σ11)))))) = (some (.inr ((1 : Int32), s4)) : Option ((Int32 × rS) ⊕ (Int32 × rS))) := by
    obtain ⟨s2, e2, G2⟩ := k_anew G1 (by omega) 0 0
    have e2 : f_L_ask s1 16 0 0 = some (if n2 ≤ 14 then (cuS 0 (cuV (cntR L hh (tjB B)))).toInt64 else -10004, s2) := by rw [dn2]; exact e2
    by_cases z : n2 ≤ 14
    · rw [if_pos z] at e2
      obtain ⟨s3, e3, G3⟩ := k_cuts G2 (by omega) (q := 0) (by omega) 0
      have e3 : f_L_ask s2 15 0 0 = some ((cuS 0 (cuV (cntR L hh (tjB B)))).toInt64, s3) := e3
      exact ⟨s3, G3, by rw [if_pos (show lg_cmp (lN n2) (14 : Int64) ≤ 0 from (lN_cmp (b := 14) (by omega) (by omega)).2.2.2.mpr z), e2, oB_some, e3, oB_some, if_pos ((lg_0 _ _).mpr rfl)]⟩
    · rw [if_neg z] at e2
      exact ⟨s2, G2, by rw [if_neg (show ¬ lg_cmp (lN n2) (14 : Int64) ≤ 0 from fun w => z ((lN_cmp (b := 14) (by omega) (by omega)).2.2.2.mp w)), e2, oB_some, if_pos (by decide)]⟩
  obtain ⟨s4, G4, first⟩ := first
  have q5 : adT B hh (13 * c + a) 0 = lN (bT B (13 * c + a)) := (if_pos ak).trans (nI_64 (by omega))
  have q6 : adT B hh (13 * c + a) 1 = lN (bJ B (13 * c + a)) := (if_pos ak).trans (nI_64 (by omega))
  obtain ⟨s5, e5, G5⟩ := k_table G4 (j := 13 * c + a) (by omega) 0
  have e5 : f_L_ask s4 26 (nI (13 * c + a)) 0 = some (lN (bT B (13 * c + a)), s5) := by rw [← q5]; exact e5
  obtain ⟨s6, e6, G6⟩ := k_table G5 (j := 13 * c + a) (by omega) 1
  have e6 : f_L_ask s5 26 (nI (13 * c + a)) 1 = some (lN (bJ B (13 * c + a)), s6) := by rw [← q6]; exact e6
  -- one more that may lie alone
  have second : ∃ s8, GAx t s8 B E dl m l ch B0 D hh L jk ml pn wr ∧ (if (lg_cmp (lN (bT B (13 * c + a) + bJ B (13 * c + a))) (2 : Int64)) < 0 then (some (.inr (((1 : Int32), s6)))) else (oB (f_L_ask s6 20 (nI (13 * c + a)) 0) fun v17 σ18 => if (lg_cmp v17 (0 : Int64)) = 0 then (some (.inr (((1 : Int32), σ18)))) else (some (.inr (((0 : Int32), σ18)))))) = (some (.inr ((1 : Int32), s8)) : Option ((Int32 × rS) ⊕ (Int32 × rS))) := by
    by_cases z : lg_cmp (lN (bT B (13 * c + a) + bJ B (13 * c + a))) (2 : Int64) < 0
    · exact ⟨s6, G6, by rw [if_pos z]⟩
    · have z2 := (lN_cmp (b := 2) (by omega) (by omega)).2.2.1.mp (Int32.not_lt.mp z)
      have al : aloB B hh L (13 * c + a) = false := by
        cases y : aloB B hh L (13 * c + a) with
        | false => rfl
        | true =>
          have := (aloB_iff.mp y).2.1
          omega
      obtain ⟨s7, e7, G7⟩ := k_alone G6 (by omega) hk hk13 0
      have e7 : f_L_ask s6 20 (nI (13 * c + a)) 0 = some (0, s7) := by rw [al] at e7; exact e7
      exact ⟨s7, G7, by rw [if_neg z, e7, oB_some, if_pos (by decide)]⟩
  obtain ⟨s8, G8, second⟩ := second
  -- chances
  obtain ⟨s9, e9, G9⟩ := look_step G8 ht hc ha (p := 0) (by omega)
  obtain ⟨s10, e10, G10⟩ := look_step G9 ht hc ha (p := 1) (by omega)
  obtain ⟨s11, e11, G11⟩ := look_step G10 ht hc ha (p := 2) (by omega)
  have lp : oLoop (b_L_looks_136 (nI c) (nI a)) 4 ((1 : Int32) &&& 1, 0, s8) = some (.inr ((1 : Int32), s11)) := (oLoop_r (n := 3) e9).trans ((oLoop_r (n := 2) e10).trans ((oLoop_r (n := 1) e11).trans (oLoop_l (by
    unfold b_L_looks_136
    dsimp only
    rw [if_pos (show (3 : Int32) ≤ nI (2 + 1) by decide)]))))
  -- states
  obtain ⟨b, hb, f3⟩ := low_nat s11 (p1 >>> ((7 : Int32) &&& 31)) (N := hh) (by omega) (by omega)
  have lt := sta_lt (q := b + 1) r.2.2.2.1 h2 h13 (by omega)
  have pos : accB L hh (tN (tjB B) xZ) = true → 0 < (ddL ((reL false false L (tjB B) (fun _ => 0) (b + 1)).map fun q => imgM L q.1)).length := fun y => sta_pos r.2.2.2.1 h13 (by omega) (accB_iff.mp y)
  obtain ⟨n, dn⟩ : ∃ n, n = (ddL ((reL false false L (tjB B) (fun _ => 0) (b + 1)).map fun q => imgM L q.1)).length := ⟨_, rfl⟩
  rw [← dn] at lt pos
  obtain ⟨s12, e12, G12⟩ := k_states G11 (by omega) (q := b + 1) (by omega) (by omega) 0
  have e12 : f_L_ask s11 17 (1 + nI b) 0 = some (lN n, s12) := by rw [← nI_64 lt, dn, show (1 : Int32) + nI b = nI (b + 1) by rw [show (1 : Int32) = nI 1 from rfl, nI_add, Nat.add_comm]]; exact e12
  obtain ⟨s13, e13, G13⟩ := k_whole G12 (by omega) 0 0
  have e13 : f_L_ask s12 14 0 0 = some (b2l (accB L hh (tN (tjB B) xZ)), s13) := e13
  obtain ⟨s14, e14, G14⟩ := k_states_x G13 0
  have e14 : f_L_ask s13 17 (nI hh + 1) 0 = some (-10003, s14) := by rw [nI_1]; exact e14
  refine ⟨s14, ?_, G14⟩
  have l0 : ¬ lg_cmp (lN n) (0 : Int64) < 0 := Int32.not_lt.mpr ((lN_cmp (b := 0) (by omega) (by omega)).2.2.1.mpr (Nat.zero_le _))
  unfold f_L_looks
  rw [f1, Option.bind_some, f2, Option.bind_some, e1, oB_some, first, oJ_inr]
  dsimp only
  rw [kk, e5, oB_some, e6, oB_some, lN_add, second, oJ_inr]
  dsimp only
  rw [lp, oJ_inr]
  dsimp only
  rw [f3, Option.bind_some, e12, oB_some, if_neg (show ¬ (1 : Int32) = 0 by decide), if_neg l0, if_neg (by decide), e13, oB_some]
  have w : (if (lg_cmp (b2l (accB L hh (tN (tjB B) xZ))) (0 : Int64)) = 0 then true else (if (lg_cmp (lN n) (0 : Int64)) ≤ 0 then false else true)) = true := by
    cases y : accB L hh (tN (tjB B) xZ) with
    | false => rfl
    | true =>
      rw [if_neg (show ¬ lg_cmp (b2l true) (0 : Int64) = 0 by decide), if_neg (fun z => by have := (lN_cmp (b := 0) (by omega) (by omega)).2.2.2.mp z; have := pos y; omega)]
  rw [w, if_pos rfl, e14, oB_some, if_pos (by decide)]
end
