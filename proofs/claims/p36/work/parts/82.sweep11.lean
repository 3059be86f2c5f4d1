/-! spread, way by way -/
theorem nI_mod (k : Nat) (m : Nat) : nI k &&& nI (2 ^ m - 1) = nI (k % 2 ^ m) := by rw [nI_and, Nat.and_two_pow_sub_one_eq_mod]
theorem nI_shrG {k : Nat} (hk : k < 2 ^ 31) (b : Int32) (m : Nat) (hb : b.toBitVec.smod 32 = BitVec.ofNat 32 m) (hm : m < 32) : nI k >>> b = nI (k / 2 ^ m) := by
  apply Int32.toBitVec_inj.mp
  show BitVec.sshiftRight' (nI k).toBitVec (b.toBitVec.smod 32) = (nI (k / 2 ^ m)).toBitVec
  rw [hb]
  apply BitVec.eq_of_toInt_eq
  have hq : k / 2 ^ m < 2 ^ 31 := Nat.lt_of_le_of_lt (Nat.div_le_self _ _) hk
  have e1 : (nI k).toBitVec.toInt = (k : Int) := nI_toInt hk
  have e2 : (nI (k / 2 ^ m)).toBitVec.toInt = ((k / 2 ^ m : Nat) : Int) := nI_toInt hq
  rw [e2]
  show (BitVec.sshiftRight (nI k).toBitVec (BitVec.ofNat 32 m).toNat).toInt = _
  rw [BitVec.toInt_sshiftRight, e1, BitVec.toNat_ofNat, Nat.mod_eq_of_lt (by omega), Int.shiftRight_eq_div_pow]
  exact (Int.natCast_ediv k (2 ^ m)).symm
theorem nI_shr {k : Nat} (hk : k < 2 ^ 31) : nI k >>> ((4 : Int32) &&& 31) = nI (k / 16) ∧ nI k >>> ((8 : Int32) &&& 31) = nI (k / 256) ∧ nI k >>> ((12 : Int32) &&& 31) = nI (k / 4096) :=
  ⟨nI_shrG hk _ 4 (by decide) (by decide), nI_shrG hk _ 8 (by decide) (by decide), nI_shrG hk _ 12 (by decide) (by decide)⟩
/-- where the steps of a colour begin -/
def aT (s u : Nat) : Nat := 16 * (s % 16) + 4 * (u % 4)
theorem aT_lt (s u : Nat) : aT s u + 2 < 256 := by unfold aT; omega
theorem aT_or {s u : Nat} (hs : s < 16) (hu : u < 4) : (nI s <<< ((4 : Int32) &&& 31)) ||| (nI u <<< ((2 : Int32) &&& 31)) = nI (16 * s + 4 * u) := by
  have h : ∀ s ∈ List.range 16, ∀ u ∈ List.range 4, (nI s <<< ((4 : Int32) &&& 31)) ||| (nI u <<< ((2 : Int32) &&& 31)) = nI (16 * s + 4 * u) := by decide +kernel
  exact h s (List.mem_range.mpr hs) u (List.mem_range.mpr hu)
theorem aT_eq (s u : Nat) : ((nI s &&& 15) <<< ((4 : Int32) &&& 31)) ||| ((nI u &&& 3) <<< ((2 : Int32) &&& 31)) = nI (aT s u) := by
  rw [show (15 : Int32) = nI (2 ^ 4 - 1) from rfl, show (3 : Int32) = nI (2 ^ 2 - 1) from rfl, nI_mod, nI_mod]
  exact aT_or (Nat.mod_lt _ (by decide)) (Nat.mod_lt _ (by decide))
/-- the states that a way of tiles u comes to from a state s -/
def emW (tb op : Nat → Int32) (s u : Nat) : List (Nat × Int32) := em0 tb op (aT s u) (aT (s / 16) (u / 16)) (aT (s / 256) (u / 256)) (aT (s / 4096) (u / 4096))
theorem stL_nil {tb : Nat → Int32} {i : Nat} (h : tb i = 0) : stL tb i = [] := by unfold stL; rw [if_pos h]
theorem fm_nil {α β : Type} {f : α → List β} (h : ∀ a, f a = []) (l : List α) : l.flatMap f = [] := by
  induction l with
  | nil => rfl
  | cons a l ih => rw [List.flatMap_cons, h, ih]; rfl
theorem em0_nil {tb op : Nat → Int32} {x0 x1 x2 x3 : Nat} (h : tb x0 = 0 ∨ tb x1 = 0 ∨ tb x2 = 0 ∨ tb x3 = 0) : em0 tb op x0 x1 x2 x3 = [] := by
  unfold em0
  rcases h with h | h | h | h
  · rw [stL_nil h]; rfl
  · refine fm_nil (fun s => ?_) _
    unfold em1
    rw [stL_nil h]; rfl
  · refine fm_nil (fun s => ?_) _
    unfold em1
    refine fm_nil (fun s => ?_) _
    unfold em2
    rw [stL_nil h]; rfl
  · refine fm_nil (fun s => ?_) _
    unfold em1
    refine fm_nil (fun s => ?_) _
    unfold em2
    refine fm_nil (fun s => ?_) _
    unfold em3
    rw [stL_nil h]; rfl
/-- the layer that is gone through; the ways; mode, what lies ahead, steps -/
def HeR (σ : rS) (h a' b' c' n' : Nat) (lh : List (Nat × Int64 × Int64)) : Prop := rI σ h 3 = nI lh.length ∧ lh.length ≤ n' ∧ ∀ i p, lh[i]? = some p → rI σ a' i = nI p.1 ∧ rL σ b' i = p.2.1 ∧ rL σ c' i = p.2.2
def WaQ (σ : rS) (W : List (Nat × Int64 × Int64)) : Prop := rI σ 37 11 = nI W.length ∧ W.length ≤ 81 ∧ ∀ i p, W[i]? = some p → rI σ 59 i = nI p.1 ∧ rL σ 60 i = p.2.1 ∧ rL σ 61 i = p.2.2
def MoW (σ : rS) (md : Nat) (tb op su : Nat → Int32) : Prop := (rI σ 37 17 = nI md ∧ md ≤ 4) ∧ (∀ c, c < 4 → rI σ 63 c = op c ∧ rI σ 64 c = su c) ∧ ((rR σ 37 15 < 50 ∧ 1 < rR σ 37 15 ∧ rR σ 37 15 ≠ 37) ∧ ∀ x, x < 256 → rI σ (rR σ 37 15) x = tb x)
theorem FrS_cells {σ τ : rS} {t a b c n h a' b' c' n' : Nat} (F : LyF σ t a b c n h a' b' c' n') (S : FrS σ τ) : (∀ x j, x < 67 → (x ≠ 50 ∧ x ≠ 52 ∧ x ≠ 56 ∧ x ≠ 51 ∧ x ≠ 55) → rI τ x j = rI σ x j) ∧ (∀ x j, x < 67 → (x ≠ 53 ∧ x ≠ 57 ∧ x ≠ 54 ∧ x ≠ 58) → rL τ x j = rL σ x j) ∧ (∀ x j, x < 67 → (x ≠ 51 ∧ x ≠ 55) → rR τ x j = rR σ x j) ∧ (∀ j, rI τ h j = rI σ h j) ∧ (∀ j, rI τ a' j = rI σ a' j) ∧ (∀ j, rL τ b' j = rL σ b' j) ∧ (∀ j, rL τ c' j = rL σ c' j) := by
  have na := @LyF_na _ _ _ _ _ _ _ _ _ _ _ F
  have nb := @LyF_nb _ _ _ _ _ _ _ _ _ _ _ F
  have nc := @LyF_nc _ _ _ _ _ _ _ _ _ _ _ F
  have nt := @LyF_nt _ _ _ _ _ _ _ _ _ _ _ F
  obtain ⟨⟨f1, f2, f3⟩, ⟨f4, f5, f6⟩, -, -, -, -, ⟨d1, d2, d3, d4, d5, d6⟩, ⟨x1, x2, x3, x4, x5, x6, x7⟩, ⟨l1, l2, l3, l4, l5, l6, hN⟩⟩ := F
  obtain ⟨s1, s2, s3, s4, s5, -⟩ := S
  rw [f1, f4] at s4
  rw [f1, f5, f6] at s5
  rw [f1] at s3
  have hh : h < 67 ∧ h ≠ 50 ∧ h ≠ 52 ∧ h ≠ 56 ∧ h ≠ t := by clear d1 d2 d3 d4 d5 d6; omega
  have ha' : a' ≠ 50 ∧ a' ≠ t := by clear d1 d2 d3 d5 d6; omega
  exact ⟨fun x j hx q => s4 x j (Nat.lt_of_lt_of_le hx hN) q.1 (na hx ⟨q.2.1, q.2.2.1⟩) (fun e => nt ⟨q.2.2.2.1, q.2.2.2.2⟩ e.1), fun x j hx q => s5 x j (Nat.lt_of_lt_of_le hx hN) (nb hx ⟨q.1, q.2.1⟩) (nc hx ⟨q.2.2.1, q.2.2.2⟩), fun x j hx q => s3 x j (Nat.lt_of_lt_of_le hx hN) (fun e => nt q e.1), fun j => s4 h j (Nat.lt_of_lt_of_le hh.1 hN) hh.2.1 (na hh.1 ⟨hh.2.2.1, hh.2.2.2.1⟩) (fun e => hh.2.2.2.2 e.1), fun j => s4 a' j l4 ha'.1 (Ne.symm x3) (fun e => ha'.2 e.1), fun j => s5 b' j l5 (Ne.symm x4) (Ne.symm x6), fun j => s5 c' j l6 (Ne.symm x5) (Ne.symm x7)⟩
theorem FrS_all {σ τ : rS} {t a b c n h a' b' c' n' md : Nat} {tb op su : Nat → Int32} {lh W : List (Nat × Int64 × Int64)} (F : LyF σ t a b c n h a' b' c' n') (S : FrS σ τ) (H1 : HeR σ h a' b' c' n' lh) (H2 : WaQ σ W) (H3 : MoW σ md tb op su) : HeR τ h a' b' c' n' lh ∧ WaQ τ W ∧ MoW τ md tb op su := by
  obtain ⟨q1, q2, q3, q4, q5, q6, q7⟩ := FrS_cells F S
  obtain ⟨h1, h2, h3⟩ := H1
  obtain ⟨w1, w2, w3⟩ := H2
  obtain ⟨⟨m1, m2⟩, m3, ⟨m4, m5⟩⟩ := H3
  refine ⟨⟨(q4 3).trans h1, h2, fun i p hi => ⟨(q5 i).trans (h3 i p hi).1, (q6 i).trans (h3 i p hi).2.1, (q7 i).trans (h3 i p hi).2.2⟩⟩, ⟨(q1 37 11 (by decide) (by decide)).trans w1, w2, fun i p hi => ⟨(q1 59 i (by decide) (by decide)).trans (w3 i p hi).1, (q2 60 i (by decide) (by decide)).trans (w3 i p hi).2.1, (q2 61 i (by decide) (by decide)).trans (w3 i p hi).2.2⟩⟩, ⟨(q1 37 17 (by decide) (by decide)).trans m1, m2⟩, fun c hc => ⟨(q1 63 c (by decide) (by decide)).trans (m3 c hc).1, (q1 64 c (by decide) (by decide)).trans (m3 c hc).2⟩, ?_, fun x hx => ?_⟩
  · rw [q3 37 15 (by decide) (by decide)]; exact m4
  · rw [q3 37 15 (by decide) (by decide), q1 _ x (by omega) (by omega)]; exact m5 x hx
theorem RmS_P {σ τ : rS} {n n' : Nat} (h1 : rK τ = rK σ) (h2 : rN τ = rN σ) (R : RmS σ n n') : RmS τ n n' := by
  unfold RmS uC uS at R ⊢
  rw [h1, h2]
  exact R
/-- spread's world, with the list of what is come to -/
def SpX (σ : rS) (md : Nat) (tb op su : Nat → Int32) (lh W lt : List (Nat × Int64 × Int64)) (h a' b' c' n' : Nat) : Prop := ∃ t a b c n, LyF σ t a b c n h a' b' c' n' ∧ StR σ t 3 a b c 50 65535 lt ∧ lt.length ≤ n ∧ RmS σ n n' ∧ HeR σ h a' b' c' n' lh ∧ WaQ σ W ∧ MoW σ md tb op su
theorem way_in {σ : rS} {md : Nat} {tb op su : Nat → Int32} {lh W lt : List (Nat × Int64 × Int64)} {t a b c n h a' b' c' n' : Nat} (F : LyF σ t a b c n h a' b' c' n') (H : StR σ t 3 a b c 50 65535 lt) (hl : lt.length + 81 ≤ n) (R : RmS σ n n') (H1 : HeR σ h a' b' c' n' lh) (H2 : WaQ σ W) (H3 : MoW σ md tb op su) {i j k u : Nat} {v w : Int64 × Int64} (hi : lh[i]? = some (k, v)) (hj : W[j]? = some (u, w)) {s3 : Int32 × rS} (e3 : s3.1 = nI j) : ∃ υ, oLoop (b_X9_spread_185 (nI i) s3 (nI (aT k u)) (nI (aT (k / 16) (u / 16))) (nI (aT (k / 256) (u / 256))) (nI (aT (k / 4096) (u / 4096)))) oFuel (nI (aT k u), σ) = some (.inr (nI (j + 1), υ)) ∧ SpX υ md tb op su lh W (puts md su v w (emW tb op k u) lt) h a' b' c' n' ∧ FrS σ υ := by
  have hil : i < lh.length := (List.getElem?_eq_some_iff.mp hi).1
  have hjl : j < W.length := (List.getElem?_eq_some_iff.mp hj).1
  have S : SpF σ t a b c n h a' b' c' n' md i j tb op su v w := ⟨F, H3.1, H3.2.1, H3.2.2, ⟨Nat.lt_of_lt_of_le hil H1.2.1, (H1.2.2 i _ hi).2.1, (H1.2.2 i _ hi).2.2⟩, ⟨Nat.lt_of_lt_of_le hjl H2.2.1, (H2.2.2 j _ hj).2.1, (H2.2.2 j _ hj).2.2⟩⟩
  obtain ⟨υ, k1, k2, k3⟩ := sp_0 S (aT_lt k u) (aT_lt (k / 16) (u / 16)) (aT_lt (k / 256) (u / 256)) (aT_lt (k / 4096) (u / 4096)) e3 hl (τ := σ) ⟨H, FrP.rf _ _ _ _ _⟩
  have hS := FrS_P F k3
  have hA := FrS_all F hS H1 H2 H3
  rw [e3, nI_1] at k1
  have hlen := puts_len md su v w (emW tb op k u) lt
  have hel : (emW tb op k u).length ≤ 81 := by
    have h1 := fl_len (f := fun s0 => em1 tb op (aT (k / 16) (u / 16)) (aT (k / 256) (u / 256)) (aT (k / 4096) (u / 4096)) s0) (fun s => em1_len tb op _ _ _ s) ((stL tb (aT k u)).filter (opB (op 0)))
    have h2 := ft_len tb (opB (op 0)) (aT k u)
    unfold emW em0; omega
  exact ⟨υ, k1, ⟨t, a, b, c, n, LyF_P F k3, k2, by omega, RmS_P k3.1 k3.2.2.1 R, hA⟩, hS⟩
theorem way_eq {σ : rS} {md : Nat} {tb op su : Nat → Int32} {lh W lt : List (Nat × Int64 × Int64)} {h a' b' c' n' : Nat} (X : SpX σ md tb op su lh W lt h a' b' c' n') {i j k u : Nat} {v w : Int64 × Int64} (hi : lh[i]? = some (k, v)) (hj : W[j]? = some (u, w)) (hk : k < 65536) (hu : u ≤ 8738) (hb : lt.length ≤ 65455) : ∃ υ, b_X9_spread_12 (nI i) (nI k) (nI j, σ) = some (.inr (nI (j + 1), υ)) ∧ SpX υ md tb op su lh W (puts md su v w (emW tb op k u) lt) h a' b' c' n' ∧ FrS σ υ := by
  obtain ⟨t, a, b, c, n, F, H, hl, R, H1, H2, H3⟩ := X
  have hil : i < lh.length := (List.getElem?_eq_some_iff.mp hi).1
  have hjl : j < W.length := (List.getElem?_eq_some_iff.mp hj).1
  have hj81 : j < 81 := Nat.lt_of_lt_of_le hjl H2.2.1
  have hW := H2.2.1
  have e59 := (H2.2.2 j _ hj).1
  have e59 : rI σ 59 j = nI u := e59
  have ht : ∀ x, x + 2 < 256 → rI σ (rR σ 37 15) x = tb x := fun x hx => H3.2.2.2 x (by omega)
  have ib : ∀ x, x + 2 < 256 → inB (nI x) 256 := fun x hx => inB_nI (by decide) (by omega)
  obtain ⟨f1, f4, f7⟩ : rR σ 37 6 = t ∧ rR σ t 0 = a ∧ (rK σ a).2 = n := ⟨F.1.1, F.2.1.1, F.2.2.2.1.1⟩
  have hn : n ≤ 65536 := F.2.2.2.2.2.1.2.1
  have hn1 : 1024 ≤ n := F.2.2.2.2.2.1.1
  have hs1 := nI_shr (k := k) (by omega)
  have hs2 := nI_shr (k := u) (by omega)
  have l0 := aT_lt k u
  have l1 := aT_lt (k / 16) (u / 16)
  have l2 := aT_lt (k / 256) (u / 256)
  have l3 := aT_lt (k / 4096) (u / 4096)
  unfold b_X9_spread_12
  dsimp only
  rw [H2.1]
  have c1 : ¬ nI W.length ≤ nI j := fun q => by have := (nI_leI (by omega) (by omega)).mp q; omega
  have c2 : ¬ (81 : Int32) ≤ nI j := fun q => by have := (nI_leI (a := 81) (by omega) (by omega)).mp q; omega
  rw [if_neg (by rw [if_neg c1, if_neg c2]; exact Bool.false_ne_true), if_pos (inB_nI (by decide) hj81), nI_clamp (by omega), e59]
  rw [oLet_eq, oLet_eq, oLet_eq, oLet_eq, oLet_eq]
  rw [hs1.1, hs1.2.1, hs1.2.2, hs2.1, hs2.2.1, hs2.2.2, aT_eq, aT_eq, aT_eq, aT_eq]
  rw [if_pos (ib _ l0), nI_clamp (by omega), ht _ l0]
  have ej : nI j + 1 = nI (j + 1) := nI_1 j
  have skip : (tb (aT k u) = 0 ∨ tb (aT (k / 16) (u / 16)) = 0 ∨ tb (aT (k / 256) (u / 256)) = 0 ∨ tb (aT (k / 4096) (u / 4096)) = 0) → ∃ υ, some (Sum.inr (nI j + 1, σ)) = (some (Sum.inr (nI (j + 1), υ)) : Option ((Unit × rS) ⊕ (Int32 × rS))) ∧ SpX υ md tb op su lh W (puts md su v w (emW tb op k u) lt) h a' b' c' n' ∧ FrS σ υ := fun q => by
    refine ⟨σ, by rw [ej], ?_, FrS.rf σ⟩
    unfold emW
    rw [em0_nil q]
    exact ⟨t, a, b, c, n, F, H, hl, R, H1, H2, H3⟩
  by_cases z0 : tb (aT k u) = 0
  · rw [if_pos z0]; exact skip (Or.inl z0)
  rw [if_neg z0, if_pos (ib _ l1), nI_clamp (by omega), ht _ l1]
  by_cases z1 : tb (aT (k / 16) (u / 16)) = 0
  · rw [if_pos z1]; exact skip (Or.inr (Or.inl z1))
  rw [if_neg z1, if_pos (ib _ l2), nI_clamp (by omega), ht _ l2]
  by_cases z2 : tb (aT (k / 256) (u / 256)) = 0
  · rw [if_pos z2]; exact skip (Or.inr (Or.inr (Or.inl z2)))
  rw [if_neg z2, if_pos (ib _ l3), nI_clamp (by omega), ht _ l3]
  by_cases z3 : tb (aT (k / 4096) (u / 4096)) = 0
  · rw [if_pos z3]; exact skip (Or.inr (Or.inr (Or.inr z3)))
  rw [if_neg z3]
  have ec : (rI σ (rR σ 37 6) 3 + 81 ≤ nI (rK σ (rR σ (rR σ 37 6) 0)).2) = (lt.length + 81 ≤ n) := by
    rw [f1, f4, f7, H.1, show nI lt.length + 81 = nI (lt.length + 81) from nI_add _ 81]
    exact propext (nI_leI (by omega) (by omega))
  simp only [ec]
  by_cases hc : lt.length + 81 ≤ n
  · rw [if_pos hc, oJ_inr]
    exact way_in F H hc R H1 H2 H3 hi hj rfl
  · rw [if_neg hc]
    have hn6 : n < 65536 := by omega
    obtain ⟨g1, g2, g3⟩ := grow_eq F R hn6
    have G := gw_spec F
    have hS := FrS_G F G
    have hA := FrS_all F hS H1 H2 H3
    have F2 := LyF_G F G
    have H5 := StR_G F G H hl
    rw [g1, oB_some, oJ_inr]
    obtain ⟨υ, k1, k2, k3⟩ := way_in (W := W) F2 H5 (by omega) g2 hA.1 hA.2.1 hA.2.2 hi hj (s3 := (nI j, σ)) rfl
    exact ⟨υ, k1, k2, hS.tr ⟨by have := F.2.2.2.2.2.2.2.2.2.2.2.2.2.2; omega, by rw [f1]; have := F.1.2.2; omega⟩ k3⟩
