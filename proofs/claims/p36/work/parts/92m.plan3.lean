/-! the plan: the class finds it -/
theorem ClI_18 {σ : rS} (I : ClI σ) (b : Bool) : ClI (wI σ 37 18 (if b then 1 else 0)) := by
  have qI : ∀ x j, ¬ (x = 37 ∧ j = 18) → rI (wI σ 37 18 (if b then 1 else 0)) x j = rI σ x j := fun x j a => by rw [fld_eq, if_neg a]
  obtain ⟨⟨⟨t, a, b', c, n, h, a', b2, c', n', f1, f2⟩, hz, W, ⟨w1, w2, w3, w4, w5⟩, wk⟩, T, g, bw, hb⟩ := I
  refine ⟨⟨⟨t, a, b', c, n, h, a', b2, c', n', LyF_cg rfl rfl rfl f1, RmS_cg rfl rfl f2⟩, fun x hx => (qI _ _ (by omega)).trans (hz x hx), W, ⟨(qI _ _ (by omega)).trans w1, w2, w3, fun i p hi => ⟨(qI _ _ (by omega)).trans (w4 i p hi).1, (w4 i p hi).2.1, (w4 i p hi).2.2.1, (qI _ _ (by omega)).trans (w4 i p hi).2.2.2⟩, fun t ht hm => (qI _ _ (by omega)).trans (w5 t ht hm)⟩, wk⟩, fun L hL => ?_, fun k hk => (qI _ _ (by omega)).trans (g k hk), b, by rw [fld_eq, if_pos ⟨rfl, rfl⟩]⟩
  obtain ⟨t1, t2, t3, t4⟩ := T L hL
  have hs : (if L = 4 then 43 else 38 : Nat) = 43 ∨ (if L = 4 then 43 else 38 : Nat) = 38 := by split <;> simp
  exact ⟨fun x hx => (qI _ x (by omega)).trans (t1 x hx), fun x hx => (qI _ x (by omega)).trans (t2 x hx), fun x hx => (qI _ x (by omega)).trans (t3 x hx), fun x hx => (qI _ x (by omega)).trans (t4 x hx)⟩
theorem CI_18 {σ : rS} {B : Bd} {E : List Ent} {dl : Option (Nat × Nat × Nat)} {m : Mem} {l : Nat → Int64} {ch : Nat} (H : CI σ B E dl m l ch) (b : Bool) : CI (wI σ 37 18 (if b then 1 else 0)) B E dl m l ch := by
  obtain ⟨h1, h2, h3, h4, h5, h6, B', ch', h7⟩ := H
  have q : ∀ x j, ¬ (x = 37 ∧ j = 18) → rI (wI σ 37 18 (if b then 1 else 0)) x j = rI σ x j := fun x j a => by rw [fld_eq, if_neg a]
  exact ⟨BQ_fr h1 fun x j a b => q x j (by omega), CeR_fr h2 fun x j a => q x j (by omega), CdR_fr h3 fun x j a => q x j (by omega), fun x j a => (q x j (by omega)).trans (h4 x j a), h5, ClI_18 h6 b, B', ch', BQ_fr h7 fun x j a b => q x j (by omega)⟩
theorem sallow_eq {σ : rS} {f g : Nat → Nat} (H : LoF σ f g) {k x : Nat} (hk : k < 52) (hx : f k + x ≤ 2) : ∃ τ, f_X9_allow σ (nI k) (nI x) = some ((), τ) ∧ LoF τ f (up1 g k (f k + x)) ∧ FrX W48 σ τ := by
  have e0 : (if 0 < nI x then nI x else 0) = nI x := by
    have c : (0 < nI x) = (0 < x) := propext (nI_lt' (a := 0) (by omega) (by omega))
    simp only [c]
    by_cases h : 0 < x
    · rw [if_pos h]
    · rw [if_neg h, show x = 0 by omega]; rfl
  have ev : (if nI (f k) + nI x < 2 then nI (f k) + nI x else 2) = nI (f k + x) := by
    rw [nI_add]
    have c : (nI (f k + x) < 2) = (f k + x < 2) := propext (nI_lt' (b := 2) (by omega) (by omega))
    simp only [c]
    by_cases h : f k + x < 2
    · rw [if_pos h]
    · rw [if_neg h, show f k + x = 2 by omega]; rfl
  refine ⟨wI σ 49 k (nI (f k + x)), ?_, ⟨fun j hj => ?_, fun j hj => ?_⟩, FrX.w _ _ (by omega)⟩
  · unfold f_X9_allow
    rw [e0, vAt_nI (by decide) hk, H.1 k hk, ev, vSet_nI (by decide) hk, row_w, oLet_eq]
  · rw [fld_eq, if_neg (by omega)]; exact H.1 j hj
  · rw [fld_eq, up1_at]
    by_cases e : j = k
    · rw [if_pos ⟨rfl, e⟩, if_pos e]
    · rw [if_neg (fun z => e z.2), if_neg e]; exact H.2 j hj
theorem hasM_v {σ : rS} {B : Bd} {E : List Ent} {dl : Option (Nat × Nat × Nat)} {m : Mem} {l : Nat → Int64} {ch p : Nat} (C : CI σ B E dl m l ch) (hp : p < 4) (hm : m 72 p = 0 ∨ m 72 p = 1) : v_X10_hasMelded σ (nI p) = m 72 p := by
  unfold v_X10_hasMelded
  rw [vAt_nI (by decide) hp, CI_4 C (x := 24) (j := p) (by omega)]
  show (if m 72 p = 1 then (1 : Int32) else 0) = _
  rcases hm with e | e
  · rw [e, if_neg (by decide)]
  · rw [e, if_pos rfl]
theorem tellPlan_eq {σ : rS} {B : Bd} {E : List Ent} {dl : Option (Nat × Nat × Nat)} {m : Mem} {l : Nat → Int64} {ch p : Nat} (C : CI σ B E dl m l ch) (o : OkT B) (hp : p < 4) (hm : m 72 p = 0 ∨ m 72 p = 1) : ∃ σ1 τ, f_X9_clear σ = some ((), σ1) ∧ oLoop (b_X10_findPlan_44 σ (nI p)) oFuel (0, σ1) = some (.inr τ) ∧ CI τ B E dl m l ch ∧ LoS τ (plLo B m p) (plHi B m p) ∧ FrX W48 σ τ := by
  obtain ⟨σ1, a1, a2, a3⟩ := sclear_eq σ
  have hM := hasM_v C hp hm
  obtain ⟨x, b1, b2⟩ := oL_ix (body := b_X10_findPlan_44 σ (nI p)) (fun k s => s.1 = nI k ∧ LoF s.2 (fun i => if i < k then plLo B m p i else 0) (fun i => if i < k then plHi B m p i else 0) ∧ FrX W48 σ s.2) (N := 52) (fun x => ∃ τ, x = .inr τ ∧ LoF τ (plLo B m p) (plHi B m p) ∧ FrX W48 σ τ) (by
      intro k s hk ⟨e, A, Fr⟩
      obtain ⟨s1, σ'⟩ := s
      dsimp only at e A Fr
      subst e
      have C' := CI_48 C Fr
      have hS := plS_le o m p k
      have hO := o.2.1 k hk
      have hR := o.1.2.1 p hp
      have hRk := rsz_ge (R := bR B) (p := p) (k := k) (by omega)
      have etj : tjB B k = bT B k + bJ B k := if_pos hk
      have e1 : (if v_X10_hasMelded σ (nI p) = 0 then 0 else v_X1_lies σ' 5 (nI k)) = nI (plLo B m p k) := by
        rw [hM, lies_eq C'.1 hk, ← etj]
        unfold plLo
        split
        · rfl
        · rfl
      obtain ⟨τ, c1, c2, c3⟩ := sadd_eq A (k := k) (x := plLo B m p k) hk (by
        show (if k < k then plLo B m p k else 0) + _ ≤ 2
        rw [if_neg (Nat.lt_irrefl k)]
        omega)
      have C2 := CI_48 C' c3
      have e2 : (if 2 - v_X1_lies σ' 5 (nI k) < v_X1_rackOf τ 5 (nI p) (nI k) then 2 - v_X1_lies σ' 5 (nI k) else v_X1_rackOf τ 5 (nI p) (nI k)) = nI (plEx B p k) := by
        rw [lies_eq C'.1 hk, ← etj, rackOf_eq C2.1 hp (by omega), show (2 : Int32) = nI 2 from rfl, nI_sub (tjB_le o k)]
        have c : (nI (2 - tjB B k) < nI (bR B (53 * p + k))) = (2 - tjB B k < bR B (53 * p + k)) := propext (nI_lt' (by omega) (by omega))
        simp only [c]
        unfold plEx
        rw [if_pos hk]
        by_cases h : 2 - tjB B k < bR B (53 * p + k)
        · rw [if_pos h, Nat.min_eq_left (by omega)]
        · rw [if_neg h, Nat.min_eq_right (by omega)]
      have fk : (up1 (fun i => if i < k then plLo B m p i else 0) k ((if k < k then plLo B m p k else 0) + plLo B m p k)) k = plLo B m p k := by
        rw [up1_at, if_pos rfl, if_neg (Nat.lt_irrefl k), Nat.zero_add]
      obtain ⟨υ, d1, d2, d3⟩ := sallow_eq c2 (k := k) (x := plEx B p k) hk (by
        exact Nat.le_trans (Nat.le_of_eq (congrArg (fun z => z + plEx B p k) fk)) hS)
      refine ⟨(nI (k + 1), υ), ?_, rfl, ⟨fun i hi => ?_, fun i hi => ?_⟩, (Fr.tr c3).tr d3⟩
      · unfold b_X10_findPlan_44
        dsimp only
        rw [if_neg (show ¬ (52 : Int32) ≤ nI k from fun z => by have := (nI_leI (a := 52) (by omega) (by omega)).mp z; omega), e1, c1, oB_some, e2, d1, oB_some, nI_1]
      · rw [d2.1 i hi]
        refine congrArg nI ?_
        show up1 (fun i => if i < k then plLo B m p i else 0) k ((if k < k then plLo B m p k else 0) + plLo B m p k) i = if i < k + 1 then plLo B m p i else 0
        rw [up1_at]
        by_cases c : i = k
        · rw [if_pos c, if_neg (Nat.lt_irrefl k), if_pos (by omega), c, Nat.zero_add]
        · rw [if_neg c]
          by_cases c2 : i < k
          · rw [if_pos c2, if_pos (by omega)]
          · rw [if_neg c2, if_neg (by omega)]
      · rw [d2.2 i hi]
        have key : ∀ (G : Nat → Nat) (X : Nat), X = plHi B m p k → (∀ j, j ≠ k → G j = if j < k then plHi B m p j else 0) → up1 G k X i = if i < k + 1 then plHi B m p i else 0 := fun G X h1 h2 => by
          rw [up1_at]
          by_cases c : i = k
          · rw [if_pos c, if_pos (by omega), c, h1]
          · rw [if_neg c, h2 i c]
            by_cases c2 : i < k
            · rw [if_pos c2, if_pos (by omega)]
            · rw [if_neg c2, if_neg (by omega)]
        exact congrArg nI (key _ _ (congrArg (fun z => z + plEx B p k) fk) fun j hj => by rw [up1_at, if_neg hj]))
    (by
      intro s ⟨e, A, Fr⟩
      obtain ⟨s1, σ'⟩ := s
      dsimp only at e A Fr
      subst e
      exact ⟨_, by unfold b_X10_findPlan_44; rw [if_pos (show (52 : Int32) ≤ nI 52 by decide)], σ', rfl, ⟨fun i hi => (A.1 i hi).trans (congrArg nI (if_pos hi)), fun i hi => (A.2 i hi).trans (congrArg nI (if_pos hi))⟩, Fr⟩)
    (n := oFuel) (by rw [oFuel_eq]; decide) (s := (0, σ1)) ⟨rfl, ⟨fun i hi => (a2.1 i hi).trans (congrArg nI (if_neg (Nat.not_lt_zero i)).symm), fun i hi => (a2.2 i hi).trans (congrArg nI (if_neg (Nat.not_lt_zero i)).symm)⟩, a3⟩
  obtain ⟨τ, rfl, A, Fr⟩ := b2
  exact ⟨σ1, τ, a1, b1, CI_48 C Fr, ⟨A.1, A.2, pl_Lh o m p⟩, Fr⟩
theorem cPlan_eq {σ : rS} {B : Bd} {E : List Ent} {dl : Option (Nat × Nat × Nat)} {m : Mem} {l : Nat → Int64} {ch hh L jk ml pn n p : Nat} (C : CI σ B E dl m l ch) (o : OkT B) (r : RuM m hh L jk ml pn n) (K : KcI σ B m hh L ch) (hp : p < 4) (hm : m 72 p = 0 ∨ m 72 p = 1) : ∃ τ, f_X10_findPlan σ (nI p) = some ((), τ) ∧ CI τ B E dl m l ch ∧ FrCl σ τ ∧ KcI τ B m hh L ch ∧ PlG τ (plF B m hh L p) := by
  unfold f_X10_findPlan
  rw [CI_ch C]
  by_cases c : rI σ 65 1 = nI p ∧ rI σ 65 2 = nI ch
  · rw [if_pos c.1, if_pos c.2, if_neg (by decide)]
    exact ⟨σ, rfl, C, FrCl.rf σ, K, K.2.2.2 c.2 p hp c.1⟩
  · have ce : (if rI σ 65 1 = nI p then (if rI σ 65 2 = nI ch then false else true) else true) = true := by
      by_cases c1 : rI σ 65 1 = nI p
      · rw [if_pos c1, if_neg (fun z => c ⟨c1, z⟩)]
      · rw [if_neg c1]
    rw [ce, if_pos rfl]
    obtain ⟨σ1, σ2, a1, a2, a3, a4, a5⟩ := tellPlan_eq C o hp hm
    have h13 := r.2.2.1
    have hL := r.2.2.2.1
    have ew : (if v_X10_hasMelded σ (nI p) = 0 then (1 : Int32) else 0) = if plW m p then 1 else 0 := by
      rw [hasM_v C hp hm]
      unfold plW
      by_cases z : m 72 p = 0
      · rw [if_pos z, decide_eq_true z]; rfl
      · rw [if_neg z, decide_eq_false z]; rfl
    have C3 := CI_18 a3 (plW m p)
    have hbw : rI (wI σ2 37 18 (if plW m p then 1 else 0)) 37 18 = if plW m p then 1 else 0 := by rw [fld_eq, if_pos ⟨rfl, rfl⟩]
    have S3 : LoS (wI σ2 37 18 (if plW m p then 1 else 0)) (plLo B m p) (plHi B m p) := ⟨fun k hk => by rw [fld_eq, if_neg (by omega)]; exact a4.1 k hk, fun k hk => by rw [fld_eq, if_neg (by omega)]; exact a4.2.1 k hk, a4.2.2⟩
    obtain ⟨σ4, b, g1, g2, g3, g4, g5⟩ := go_plan C3.2.2.2.2.2.1 (CI_Ru C3 r) S3 hbw (pl_xs o.1 hp)
    have D := CI_O C3 g2 g3
    have F0 : FrCl σ σ4 := ((FrCl_48 a5).tr (FrCl_w (by omega) _)).tr (FrCl_O C3.2.2.2.2.2.1 g3)
    have k0 : FrK σ σ4 := ((FrK_48 a5).tr (FrK_w (by omega) _)).tr (FrK_O g3)
    rw [a1, oB_some, a2, oJ_inr, ew, oLet_eq, CI_h C3 r, g1, oB_some]
    have gi : ∀ σ' : rS, rK σ' = rK σ4 → rR σ' = rR σ4 → inB 0 ((rK σ' (rR σ' (rR σ' 37 5) 0)).2) := fun σ' h1 h2 => by rw [h1, h2]; exact g4
    have fin : ∀ v : Int32, (∃ τ, f_X4_unpack (wI (wI (wI σ4 65 3 v) 65 1 (nI p)) 65 2 (nI ch)) (rL σ4 (rR σ4 (rR σ4 37 5) 1) 0) (rL σ4 (rR σ4 (rR σ4 37 5) 2) 0) = some ((), τ) ∧ FrX W66 (wI (wI (wI σ4 65 3 v) 65 1 (nI p)) 65 2 (nI ch)) τ ∧ PlG τ (plF B m hh L p)) → (if b2i b ≤ 0 then (0 : Int32) else 1) = v → ∃ τ, (oLet (wI σ4 65 3 ((if b2i b ≤ 0 then 0 else 1 : Int32))) fun σ13 => oLet (wI σ13 65 1 (nI p)) fun σ14 => oLet (wI σ14 65 2 (rI σ14 5 12)) fun σ15 => if inB 0 ((rK σ15 (rR σ15 (rR σ15 37 5) 0)).2) then (oB (f_X4_unpack σ15 (rL σ15 (rR σ15 (rR σ15 37 5) 1) (0 : Int32).toNatClampNeg) (rL σ15 (rR σ15 (rR σ15 37 5) 2) (0 : Int32).toNatClampNeg)) fun _ σ18 => some (((), σ18))) else none) = some ((), τ) ∧ CI τ B E dl m l ch ∧ FrCl σ τ ∧ KcI τ B m hh L ch ∧ PlG τ (plF B m hh L p) := fun v ⟨τ, u1, u2, u3⟩ hv => by
      have W : FrX WKc σ4 τ := ((((FrX.w (W := WKc) σ4 v (by omega)).tr (FrX.w _ (nI p) (by omega))).tr (FrX.w _ (nI ch) (by omega))).tr (u2.mono fun x j w => by omega))
      have q12 : rI (wI (wI σ4 65 3 v) 65 1 (nI p)) 5 12 = nI ch := by rw [fld_eq, if_neg (by omega), fld_eq, if_neg (by omega), CI_ch D]
      have t1 : rI τ 65 1 = nI p := by rw [u2.2.2.2.2 65 1 (by omega), fld_eq, if_neg (by omega), fld_eq, if_pos ⟨rfl, rfl⟩]
      have t2 : rI τ 65 2 = nI ch := by rw [u2.2.2.2.2 65 2 (by omega), fld_eq, if_pos ⟨rfl, rfl⟩]
      have s3 : ∀ j, rI τ 3 j = rI σ4 3 j := fun j => by rw [u2.2.2.2.2 3 j (by omega), fld_eq, if_neg (by omega), fld_eq, if_neg (by omega), fld_eq, if_neg (by omega)]
      have sl : rL τ 3 17 = rL σ 3 17 := by rw [u2.2.2.2.1]; exact k0.2.1
      refine ⟨τ, ?_, CI_Kc D W, F0.tr (FrCl_X W fun x j w => by omega), ⟨?_, ?_, by rw [t2]; exact StI_now ch, fun _ q hq e => ?_⟩, u3⟩
      · have cl : (0 : Int32).toNatClampNeg = 0 := rfl
        rw [hv, oLet_eq, oLet_eq, q12, oLet_eq, if_pos (gi (wI (wI (wI σ4 65 3 v) 65 1 (nI p)) 65 2 (nI ch)) rfl rfl), cl]
        have u1 : f_X4_unpack (wI (wI (wI σ4 65 3 v) 65 1 (nI p)) 65 2 (nI ch)) (rL (wI (wI (wI σ4 65 3 v) 65 1 (nI p)) 65 2 (nI ch)) (rR (wI (wI (wI σ4 65 3 v) 65 1 (nI p)) 65 2 (nI ch)) (rR (wI (wI (wI σ4 65 3 v) 65 1 (nI p)) 65 2 (nI ch)) 37 5) 1) 0) (rL (wI (wI (wI σ4 65 3 v) 65 1 (nI p)) 65 2 (nI ch)) (rR (wI (wI (wI σ4 65 3 v) 65 1 (nI p)) 65 2 (nI ch)) (rR (wI (wI (wI σ4 65 3 v) 65 1 (nI p)) 65 2 (nI ch)) 37 5) 2) 0) = some ((), τ) := u1
        rw [u1, oB_some]
      · have := K.1
        unfold KuI at *
        rw [s3, s3, s3, s3, k0.1 12 (by decide) (by decide), k0.1 13 (by decide) (by decide), k0.1 14 (by decide) (by decide), k0.1 15 (by decide) (by decide)]
        exact this
      · have := K.2.1
        unfold KaI at *
        rw [s3, sl, k0.1 16 (by decide) (by decide)]
        exact this
      · rw [t1] at e
        have := (nI_eq (by omega) (by omega)).mp e
        subst this
        exact u3
    rcases g5 with ⟨rfl, hno⟩ | ⟨rfl, x, hx, hacc, v1, v2, hmx⟩
    · have hnone : plF B m hh L p = none := by
        cases hr : rsM true (plW m p) L hh (plLo B m p) (plEx B p) with
        | none => exact plF_none hr
        | some v =>
          obtain ⟨y, -, e2, e3, -⟩ := plF_some hL h13 hr
          exact absurd e3 (hno y fun a h c hc => by rw [pl_mo, if_pos h]; exact e2 a h c hc)
      refine fin 0 ?_ rfl
      have h3 : rI (wI (wI (wI σ4 65 3 0) 65 1 (nI p)) 65 2 (nI ch)) 65 3 = 0 := by rw [fld_eq, if_neg (by omega), fld_eq, if_neg (by omega), fld_eq, if_pos ⟨rfl, rfl⟩]
      refine ⟨_, unpack_0 h3, (FrX.w _ _ (by omega)).tr (FrX.w _ _ (by omega)), ?_⟩
      rw [hnone]
      show rI _ 65 3 = 0
      rw [fld_eq, if_neg (by omega), fld_eq, if_neg (by omega), h3]
    · obtain ⟨g, e1, e2, e3⟩ := plan_cls o hp hL h13 hx hacc hmx
      obtain ⟨⟨pk1, pk2⟩, -⟩ := plF_ok o.1 hp hL h13 e1
      have hg2 : ∀ j, j < 52 → g j ≤ 2 := fun j hj => Nat.le_trans (pk1 j hj).1 (plEx_2 B p j)
      refine fin 1 ?_ rfl
      have h3 : rI (wI (wI (wI σ4 65 3 1) 65 1 (nI p)) 65 2 (nI ch)) 65 3 = 1 := by rw [fld_eq, if_neg (by omega), fld_eq, if_neg (by omega), fld_eq, if_pos ⟨rfl, rfl⟩]
      obtain ⟨τ, u1, u2, u3, u4, u5⟩ := unpack_eq (bw := plW m p) hg2 pk2 h3
      rw [v1, v2, e2, e3]
      refine ⟨τ, u1, u5, ?_⟩
      rw [e1]
      exact ⟨by rw [u5.2.2.2.2 65 3 (by omega), h3], u2, u3, u4⟩
