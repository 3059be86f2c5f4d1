/-! the state of a game, and how class and reference keep it -/
abbrev Mem : Type := Nat → Nat → Int32
def up2 (m : Mem) (x j : Nat) (v : Int32) : Mem := fun a b => if a = x ∧ b = j then v else m a b
theorem up2_at (m : Mem) (x j : Nat) (v : Int32) (a b : Nat) : up2 m x j v a b = if a = x ∧ b = j then v else m a b := rfl
/-- the reference's plain cells; the numbers of the state are theirs -/
abbrev dR (x j : Nat) : Prop := (x = 67 ∧ ((1 ≤ j ∧ j ≤ 6) ∨ (24 ≤ j ∧ j ≤ 27) ∨ j = 34 ∨ j = 37)) ∨ ((x = 87 ∨ x = 88) ∧ j < 40) ∨ (68 ≤ x ∧ x ≤ 74 ∧ j < 4) ∨ ((x = 76 ∨ x = 77) ∧ j < 4) ∨ (x = 78 ∧ j < 208) ∨ (x = 86 ∧ j < 40)
/-- the class's plain cells -/
abbrev dC (x j : Nat) : Prop := (x = 4 ∧ j ≤ 4) ∨ (x = 19 ∧ j = 0) ∨ (x = 3 ∧ 8 ≤ j ∧ j ≤ 11) ∨ (x = 31 ∧ (j = 1 ∨ j = 4)) ∨ ((x = 33 ∨ x = 34) ∧ j < 40) ∨ (20 ≤ x ∧ x ≤ 28 ∧ j < 4) ∨ (x = 30 ∧ j < 208) ∨ (x = 32 ∧ j < 40)
def cx (x : Nat) : Nat := if x < 20 ∨ x = 31 then 67 else if x ≤ 24 then x + 48 else if x = 25 then 77 else if x = 26 then 76 else if x = 27 then 73 else if x = 28 then 74 else if x = 30 then 78 else if x = 32 then 86 else x + 100
def cj (x j : Nat) : Nat := if x = 4 then j + 1 else if x = 19 then 6 else if x = 3 then j + 16 else if x = 31 then (if j = 1 then 34 else 200) else j
abbrev dX (x : Nat) : Prop := x = 3 ∨ x = 4 ∨ x = 19 ∨ (20 ≤ x ∧ x ≤ 28) ∨ x = 30 ∨ x = 31 ∨ x = 32 ∨ x = 33 ∨ x = 34
abbrev dX0 (x : Nat) : Prop := x = 3 ∨ x = 4 ∨ x = 19 ∨ x = 31
theorem cx_inj (x : Nat) (hx : x < 35) (a : Nat) (ha : a < 35) (h : dX x) (g : dX a) (e : cx x = cx a) : x = a ∨ (dX0 x ∧ dX0 a) := by
  have k : ((List.range 35).all fun x => (List.range 35).all fun a => !decide (dX x) || !decide (dX a) || !decide (cx x = cx a) || decide (x = a) || (decide (dX0 x) && decide (dX0 a))) = true := by decide
  rw [List.all_eq_true] at k
  have k1 := k x (List.mem_range.mpr hx)
  rw [List.all_eq_true] at k1
  have k2 := k1 a (List.mem_range.mpr ha)
  rw [decide_eq_true h, decide_eq_true g, decide_eq_true e] at k2
  simp only [Bool.not_true, Bool.false_or, Bool.or_eq_true, Bool.and_eq_true, decide_eq_true_eq] at k2
  exact k2
theorem c_inj {x j a k : Nat} (h : dC x j) (g : dC a k) (h1 : cx x = cx a) (h2 : cj x j = cj a k) : x = a ∧ j = k := by
  rcases cx_inj x (by omega) a (by omega) (by omega) (by omega) h1 with e | ⟨e, f⟩
  · subst e
    refine ⟨rfl, ?_⟩
    unfold cj at h2
    by_cases e4 : x = 4
    · rw [if_pos e4, if_pos e4] at h2; omega
    · rw [if_neg e4, if_neg e4] at h2
      by_cases e19 : x = 19
      · omega
      · rw [if_neg e19, if_neg e19] at h2
        by_cases e3 : x = 3
        · rw [if_pos e3, if_pos e3] at h2; omega
        · rw [if_neg e3, if_neg e3] at h2
          by_cases e31 : x = 31
          · rw [if_pos e31, if_pos e31] at h2
            by_cases z1 : j = 1
            · by_cases z2 : k = 1
              · omega
              · rw [if_pos z1, if_neg z2] at h2; omega
            · by_cases z2 : k = 1
              · rw [if_neg z1, if_pos z2] at h2; omega
              · omega
          · rw [if_neg e31, if_neg e31] at h2; exact h2
  · have v : ∀ y i, dX0 y → dC y i → (y = 4 ∧ cj y i = i + 1 ∧ i ≤ 4) ∨ (y = 19 ∧ cj y i = 6) ∨ (y = 3 ∧ cj y i = i + 16 ∧ 8 ≤ i ∧ i ≤ 11) ∨ (y = 31 ∧ 34 ≤ cj y i) := fun y i hy hd => by
      rcases hy with e | e | e | e
      · exact Or.inr (Or.inr (Or.inl ⟨e, by subst e; rfl, by omega, by omega⟩))
      · exact Or.inl ⟨e, by subst e; rfl, by omega⟩
      · exact Or.inr (Or.inl ⟨e, by subst e; rfl⟩)
      · refine Or.inr (Or.inr (Or.inr ⟨e, ?_⟩))
        subst e
        show 34 ≤ (if i = 1 then 34 else 200)
        split <;> omega
    have v1 := v x j e h
    have v2 := v a k f g
    rw [h2] at v1
    have hxa : x = a := by
      rcases v1 with v1 | v1 | v1 | v1 <;> rcases v2 with v2 | v2 | v2 | v2 <;> omega
    subst hxa
    refine ⟨rfl, ?_⟩
    by_cases e31 : x = 31
    · subst e31
      have h3 : (if j = 1 then 34 else 200) = (if k = 1 then 34 else 200) := h2
      by_cases z1 : j = 1
      · by_cases z2 : k = 1
        · omega
        · rw [if_pos z1, if_neg z2] at h3; omega
      · by_cases z2 : k = 1
        · rw [if_neg z1, if_pos z2] at h3; omega
        · omega
    · omega
/-- what the sweep needs is elsewhere -/
def FrZq (σ τ : rS) : Prop := rK τ = rK σ ∧ rR τ = rR σ ∧ rN τ = rN σ ∧ (∀ x j, (x = 1 ∨ (37 ≤ x ∧ x ≤ 64) ∨ 67 ≤ x) → rI τ x j = rI σ x j) ∧ ∀ x j, (x = 1 ∨ (37 ≤ x ∧ x ≤ 64) ∨ 67 ≤ x) → rL τ x j = rL σ x j
theorem LyF_cg {σ τ : rS} {t a b c n h a' b' c' n' : Nat} (hK : rK τ = rK σ) (hR : rR τ = rR σ) (hN : rN τ = rN σ) (H : LyF σ t a b c n h a' b' c' n') : LyF τ t a b c n h a' b' c' n' := by
  unfold LyF at *
  rw [hK, hR, hN]
  exact H
theorem RmS_cg {σ τ : rS} {n n' : Nat} (hK : rK τ = rK σ) (hN : rN τ = rN σ) (H : RmS σ n n') : RmS τ n n' := by
  have e1 : uC τ = uC σ := by unfold uC; rw [hN]
  have e2 : uS τ = uS σ := by unfold uS; rw [hN, hK]
  unfold RmS at *
  rw [e1, e2]
  exact H
theorem ClI_fr {σ τ : rS} (I : ClI σ) (F : FrZq σ τ) : ClI τ := by
  obtain ⟨hK, hR, hN, qI, qL⟩ := F
  obtain ⟨⟨⟨t, a, b, c, n, h, a', b', c', n', f1, f2⟩, hz, W, ⟨w1, w2, w3, w4, w5⟩, wk⟩, T, g, bw, hb⟩ := I
  refine ⟨⟨⟨t, a, b, c, n, h, a', b', c', n', LyF_cg hK hR hN f1, RmS_cg hK hN f2⟩, fun x hx => (qI _ _ (by omega)).trans (hz x hx), W, ⟨(qI _ _ (by omega)).trans w1, w2, w3, fun i p hi => ⟨(qI _ _ (by omega)).trans (w4 i p hi).1, (qL _ _ (by omega)).trans (w4 i p hi).2.1, (qL _ _ (by omega)).trans (w4 i p hi).2.2.1, (qI _ _ (by omega)).trans (w4 i p hi).2.2.2⟩, fun t ht hm => (qI _ _ (by omega)).trans (w5 t ht hm)⟩, wk⟩, fun L hL => ?_, fun k hk => (qI _ _ (by omega)).trans (g k hk), bw, (qI _ _ (by omega)).trans hb⟩
  obtain ⟨t1, t2, t3, t4⟩ := T L hL
  have hs : (if L = 4 then 43 else 38 : Nat) = 43 ∨ (if L = 4 then 43 else 38 : Nat) = 38 := by split <;> simp
  exact ⟨fun x hx => (qI _ x (by omega)).trans (t1 x hx), fun x hx => (qI _ x (by omega)).trans (t2 x hx), fun x hx => (qI _ x (by omega)).trans (t3 x hx), fun x hx => (qI _ x (by omega)).trans (t4 x hx)⟩
/-- the class's record -/
def enE (e : Ent) : Int32 := ((nI e.1 ||| (nI e.2.1 <<< ((3 : Int32) &&& 31))) ||| (nI e.2.2.1 <<< ((5 : Int32) &&& 31))) ||| (nI e.2.2.2 <<< ((11 : Int32) &&& 31))
def CeR (σ : rS) (E : List Ent) : Prop := rI σ 35 1 = nI E.length ∧ ∀ i e, E[i]? = some e → rI σ 36 i = enE e
/-- the deal, as the class remembers it: none before the first -/
def CdR (σ : rS) (d : Option (Nat × Nat × Nat)) : Prop := match d with
  | none => rI σ 35 2 = 0
  | some (s, e, n) => rI σ 35 2 = 1 ∧ rI σ 35 3 = nI s ∧ rI σ 35 4 = nI e ∧ rI σ 35 5 = nI n
/-- the class -/
def CI (σ : rS) (B : Bd) (E : List Ent) (dl : Option (Nat × Nat × Nat)) (m : Mem) (l : Nat → Int64) (ch : Nat) : Prop :=
  BR σ 5 B ch ∧ CeR σ E ∧ CdR σ dl ∧ (∀ x j, dC x j → rI σ x j = m (cx x) (cj x j)) ∧ (∀ j, j < 4 → ∀ k, k < 52 → vBit (rL σ 29 j) (nI k) = vBit (l j) (nI k)) ∧ ClI σ ∧ ∃ B' ch', BQ σ 12 (bP B') (bR B') (rsz (bR B')) (bT B') (bJ B') (bD B') (natSum (bP B') 53) (natSum (bT B') 52 + natSum (bJ B') 52) (natSum (bJ B') 52) (bF B') (bX B') ch'
/-- the class leaves the reference alone -/
def FrCl (σ τ : rS) : Prop := (∀ x j, (x = 2 ∨ (67 ≤ x ∧ x < 67)) → rI τ x j = rI σ x j) ∧ (∀ x j, (x = 2 ∨ (67 ≤ x ∧ x < 67)) → rL τ x j = rL σ x j) ∧ rK τ 2 = rK σ 2
theorem FrCl.rf (σ : rS) : FrCl σ σ := ⟨fun _ _ _ => rfl, fun _ _ _ => rfl, rfl⟩
theorem FrCl.tr {σ τ υ : rS} (h : FrCl σ τ) (g : FrCl τ υ) : FrCl σ υ := ⟨fun x j a => (g.1 x j a).trans (h.1 x j a), fun x j a => (g.2.1 x j a).trans (h.2.1 x j a), g.2.2.trans h.2.2⟩
/-- the reference leaves the class alone -/
def FrRf (σ τ : rS) : Prop := rK τ = rK σ ∧ rR τ = rR σ ∧ rN τ = rN σ ∧ (∀ x j, (x < 67 ∨ 66 < x) → rI τ x j = rI σ x j) ∧ ∀ x j, (x < 67 ∨ 66 < x) → rL τ x j = rL σ x j
theorem FrRf.rf (σ : rS) : FrRf σ σ := ⟨rfl, rfl, rfl, fun _ _ _ => rfl, fun _ _ _ => rfl⟩
theorem FrRf.tr {σ τ υ : rS} (h : FrRf σ τ) (g : FrRf τ υ) : FrRf σ υ := ⟨g.1.trans h.1, g.2.1.trans h.2.1, g.2.2.1.trans h.2.2.1, fun x j a => (g.2.2.2.1 x j a).trans (h.2.2.2.1 x j a), fun x j a => (g.2.2.2.2 x j a).trans (h.2.2.2.2 x j a)⟩
theorem FrCl_B {σ τ : rS} {b : Nat} (h : b + 6 < 67) (h2 : 3 ≤ b) (f : FrB2 b σ τ) : FrCl σ τ := ⟨fun x j a => f.2.2.2.2 x j (by omega), fun x j _ => by rw [f.2.2.2.1], by rw [f.1]⟩
theorem FrZq_R {σ τ : rS} (f : FrRf σ τ) : FrZq σ τ := ⟨f.1, f.2.1, f.2.2.1, fun x j a => f.2.2.2.1 x j (by omega), fun x j a => f.2.2.2.2 x j (by omega)⟩
theorem FrZq_B {σ τ : rS} {b : Nat} (h : b + 6 < 37) (h2 : 2 ≤ b) (f : FrB2 b σ τ) : FrZq σ τ := ⟨f.1, f.2.1, f.2.2.1, fun x j a => f.2.2.2.2 x j (by omega), fun x j _ => by rw [f.2.2.2.1]⟩
theorem BQ_fr {σ τ : rS} {b : Nat} {P R Z T J : Nat → Nat} {D : List (Nat × Nat)} {ps ts jl F X ch : Nat} (H : BQ σ b P R Z T J D ps ts jl F X ch) (q : ∀ x j, b ≤ x → x ≤ b + 6 → rI τ x j = rI σ x j) : BQ τ b P R Z T J D ps ts jl F X ch := by
  obtain ⟨h1, h2, h3, h4, h5, ⟨h6, h6'⟩, h7, h8, h9, h10, h11, h12⟩ := H
  exact ⟨fun k hk => (q _ _ (by omega) (by omega)).trans (h1 k hk), fun k hk => (q _ _ (by omega) (by omega)).trans (h2 k hk), fun k hk => (q _ _ (by omega) (by omega)).trans (h3 k hk), fun k hk => (q _ _ (by omega) (by omega)).trans (h4 k hk), fun k hk => (q _ _ (by omega) (by omega)).trans (h5 k hk), ⟨(q _ _ (by omega) (by omega)).trans h6, fun i d hi => (q _ _ (by omega) (by omega)).trans (h6' i d hi)⟩, (q _ _ (by omega) (by omega)).trans h7, (q _ _ (by omega) (by omega)).trans h8, (q _ _ (by omega) (by omega)).trans h9, (q _ _ (by omega) (by omega)).trans h10, (q _ _ (by omega) (by omega)).trans h11, (q _ _ (by omega) (by omega)).trans h12⟩
theorem CeR_fr {σ τ : rS} {E : List Ent} (H : CeR σ E) (q : ∀ x j, x = 35 ∨ x = 36 → rI τ x j = rI σ x j) : CeR τ E := ⟨(q _ _ (by omega)).trans H.1, fun i e hi => (q _ _ (by omega)).trans (H.2 i e hi)⟩
theorem CdR_fr {σ τ : rS} {d : Option (Nat × Nat × Nat)} (H : CdR σ d) (q : ∀ x j, x = 35 → rI τ x j = rI σ x j) : CdR τ d := by
  unfold CdR at *
  cases d with
  | none => exact (q _ _ rfl).trans H
  | some d => exact ⟨(q _ _ rfl).trans H.1, (q _ _ rfl).trans H.2.1, (q _ _ rfl).trans H.2.2.1, (q _ _ rfl).trans H.2.2.2⟩
theorem CI_fr {σ τ : rS} {B : Bd} {E : List Ent} {dl : Option (Nat × Nat × Nat)} {m : Mem} {l : Nat → Int64} {ch : Nat} (H : CI σ B E dl m l ch) (f : FrRf σ τ) : CI τ B E dl m l ch := by
  obtain ⟨h1, h2, h3, h4, h5, h6, B', ch', h7⟩ := H
  have q := f.2.2.2.1
  exact ⟨BQ_fr h1 fun x j a b => q x j (by omega), CeR_fr h2 fun x j a => q x j (by omega), CdR_fr h3 fun x j a => q x j (by omega), fun x j a => (q x j (by omega)).trans (h4 x j a), fun j hj k hk => by rw [f.2.2.2.2 _ _ (by omega)]; exact h5 j hj k hk, ClI_fr h6 (FrZq_R f), B', ch', BQ_fr h7 fun x j a b => q x j (by omega)⟩
