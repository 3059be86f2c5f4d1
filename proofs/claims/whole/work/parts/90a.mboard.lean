/-! the reference's board, by the same value -/
def FrX (W : Nat → Nat → Prop) (σ τ : rS) : Prop := rK τ = rK σ ∧ rR τ = rR σ ∧ rN τ = rN σ ∧ rL τ = rL σ ∧ ∀ x j, ¬ W x j → rI τ x j = rI σ x j
theorem FrX.rf (W : Nat → Nat → Prop) (σ : rS) : FrX W σ σ := ⟨rfl, rfl, rfl, rfl, fun _ _ _ => rfl⟩
theorem FrX.tr {W : Nat → Nat → Prop} {σ τ υ : rS} (h : FrX W σ τ) (g : FrX W τ υ) : FrX W σ υ := ⟨g.1.trans h.1, g.2.1.trans h.2.1, g.2.2.1.trans h.2.2.1, g.2.2.2.1.trans h.2.2.2.1, fun x j a => (g.2.2.2.2 x j a).trans (h.2.2.2.2 x j a)⟩
theorem FrX.mono {W V : Nat → Nat → Prop} {σ τ : rS} (h : FrX W σ τ) (g : ∀ x j, W x j → V x j) : FrX V σ τ := ⟨h.1, h.2.1, h.2.2.1, h.2.2.2.1, fun x j a => h.2.2.2.2 x j fun w => a (g x j w)⟩
theorem FrX.w {W : Nat → Nat → Prop} (σ : rS) {a k : Nat} (v : Int32) (h : W a k) : FrX W σ (wI σ a k v) := ⟨rfl, rfl, rfl, rfl, fun x j q => by rw [fld_eq, if_neg (fun e => q (by rw [e.1, e.2]; exact h))]⟩
abbrev WB (x j : Nat) : Prop := (79 ≤ x ∧ x ≤ 84) ∨ (x = 67 ∧ (j = 22 ∨ j = 23 ∨ j = 30))
abbrev WE (x j : Nat) : Prop := x = 85 ∨ (x = 67 ∧ j = 32)
abbrev WBE (x j : Nat) : Prop := (79 ≤ x ∧ x ≤ 85) ∨ (x = 67 ∧ (j = 22 ∨ j = 23 ∨ j = 30 ∨ j = 32))
abbrev thS (h : Nat) : Nat := if h = 0 then 1 else if h = 1 then 2 else if h = 2 then 4 else 3
def MbQ (σ : rS) (P R T J : Nat → Nat) (D : List (Nat × Nat)) (F X : Nat) : Prop :=
  (∀ k, k < 53 → rI σ 82 k = nI (P k)) ∧ (∀ i, i < 212 → rI σ 79 i = nI (R i)) ∧ (∀ k, k < 52 → rI σ 80 k = nI (T k)) ∧ (∀ k, k < 52 → rI σ 81 k = nI (J k)) ∧ (rI σ 67 30 = nI D.length ∧ ∀ i d, D[i]? = some d → rI σ 83 i = nI (thS d.1) ∧ rI σ 84 i = nI d.2) ∧ rI σ 67 22 = nI F ∧ rI σ 67 23 = nI X
def MbR (σ : rS) (B : Bd) : Prop := MbQ σ (bP B) (bR B) (bT B) (bJ B) (bD B) (bF B) (bX B)
theorem MbQ_fr {σ τ : rS} {P R T J : Nat → Nat} {D : List (Nat × Nat)} {F X : Nat} {W : Nat → Nat → Prop} (H : MbQ σ P R T J D F X) (fr : FrX W σ τ) (d : ∀ x j, W x j → ¬ WB x j) : MbQ τ P R T J D F X := by
  obtain ⟨h1, h2, h3, h4, ⟨h5, h5'⟩, h6, h7⟩ := H
  have q : ∀ x j, WB x j → rI τ x j = rI σ x j := fun x j a => fr.2.2.2.2 x j fun w => d x j w a
  exact ⟨fun k hk => (q _ _ (by omega)).trans (h1 k hk), fun k hk => (q _ _ (by omega)).trans (h2 k hk), fun k hk => (q _ _ (by omega)).trans (h3 k hk), fun k hk => (q _ _ (by omega)).trans (h4 k hk), ⟨(q _ _ (by omega)).trans h5, fun i e hi => ⟨(q _ _ (by omega)).trans (h5' i e hi).1, (q _ _ (by omega)).trans (h5' i e hi).2⟩⟩, (q _ _ (by omega)).trans h6, (q _ _ (by omega)).trans h7⟩
theorem MbQ_cg {σ : rS} {P R T J P' R' T' J' : Nat → Nat} {D D' : List (Nat × Nat)} {F X F' X' : Nat} (H : MbQ σ P R T J D F X) (hP : ∀ k, k < 53 → P k = P' k) (hR : ∀ i, i < 212 → R i = R' i) (hT : ∀ k, k < 52 → T k = T' k) (hJ : ∀ k, k < 52 → J k = J' k) (hD : D = D') (h1 : F = F') (h2 : X = X') : MbQ σ P' R' T' J' D' F' X' := by
  subst hD h1 h2
  obtain ⟨g1, g2, g3, g4, g5⟩ := H
  exact ⟨fun k hk => by rw [← hP k hk]; exact g1 k hk, fun k hk => by rw [← hR k hk]; exact g2 k hk, fun k hk => by rw [← hT k hk]; exact g3 k hk, fun k hk => by rw [← hJ k hk]; exact g4 k hk, g5⟩
theorem MbQ_P {σ : rS} {P R T J : Nat → Nat} {D : List (Nat × Nat)} {F X : Nat} (H : MbQ σ P R T J D F X) (i v : Nat) : MbQ (wI σ 82 i (nI v)) (up1 P i v) R T J D F X := by
  obtain ⟨h1, h2, h3, h4, ⟨h5, h5'⟩, h6, h7⟩ := H
  have q : ∀ x j, x ≠ 82 → rI (wI σ 82 i (nI v)) x j = rI σ x j := fun x j a => by rw [fld_eq, if_neg (by omega)]
  refine ⟨fun k hk => ?_, fun k hk => (q _ _ (by omega)).trans (h2 k hk), fun k hk => (q _ _ (by omega)).trans (h3 k hk), fun k hk => (q _ _ (by omega)).trans (h4 k hk), ⟨(q _ _ (by omega)).trans h5, fun i e hi => ⟨(q _ _ (by omega)).trans (h5' i e hi).1, (q _ _ (by omega)).trans (h5' i e hi).2⟩⟩, (q _ _ (by omega)).trans h6, (q _ _ (by omega)).trans h7⟩
  rw [fld_eq, up1_at]
  by_cases e : k = i
  · rw [if_pos ⟨rfl, e⟩, if_pos e]
  · rw [if_neg (fun z => e z.2), if_neg e]; exact h1 k hk
theorem MbQ_R {σ : rS} {P R T J : Nat → Nat} {D : List (Nat × Nat)} {F X : Nat} (H : MbQ σ P R T J D F X) (i v : Nat) : MbQ (wI σ 79 i (nI v)) P (up1 R i v) T J D F X := by
  obtain ⟨h1, h2, h3, h4, ⟨h5, h5'⟩, h6, h7⟩ := H
  have q : ∀ x j, x ≠ 79 → rI (wI σ 79 i (nI v)) x j = rI σ x j := fun x j a => by rw [fld_eq, if_neg (by omega)]
  refine ⟨fun k hk => (q _ _ (by omega)).trans (h1 k hk), fun k hk => ?_, fun k hk => (q _ _ (by omega)).trans (h3 k hk), fun k hk => (q _ _ (by omega)).trans (h4 k hk), ⟨(q _ _ (by omega)).trans h5, fun i e hi => ⟨(q _ _ (by omega)).trans (h5' i e hi).1, (q _ _ (by omega)).trans (h5' i e hi).2⟩⟩, (q _ _ (by omega)).trans h6, (q _ _ (by omega)).trans h7⟩
  rw [fld_eq, up1_at]
  by_cases e : k = i
  · rw [if_pos ⟨rfl, e⟩, if_pos e]
  · rw [if_neg (fun z => e z.2), if_neg e]; exact h2 k hk
theorem MbQ_T {σ : rS} {P R T J : Nat → Nat} {D : List (Nat × Nat)} {F X : Nat} (H : MbQ σ P R T J D F X) (i v : Nat) : MbQ (wI σ 80 i (nI v)) P R (up1 T i v) J D F X := by
  obtain ⟨h1, h2, h3, h4, ⟨h5, h5'⟩, h6, h7⟩ := H
  have q : ∀ x j, x ≠ 80 → rI (wI σ 80 i (nI v)) x j = rI σ x j := fun x j a => by rw [fld_eq, if_neg (by omega)]
  refine ⟨fun k hk => (q _ _ (by omega)).trans (h1 k hk), fun k hk => (q _ _ (by omega)).trans (h2 k hk), fun k hk => ?_, fun k hk => (q _ _ (by omega)).trans (h4 k hk), ⟨(q _ _ (by omega)).trans h5, fun i e hi => ⟨(q _ _ (by omega)).trans (h5' i e hi).1, (q _ _ (by omega)).trans (h5' i e hi).2⟩⟩, (q _ _ (by omega)).trans h6, (q _ _ (by omega)).trans h7⟩
  rw [fld_eq, up1_at]
  by_cases e : k = i
  · rw [if_pos ⟨rfl, e⟩, if_pos e]
  · rw [if_neg (fun z => e z.2), if_neg e]; exact h3 k hk
theorem MbQ_J {σ : rS} {P R T J : Nat → Nat} {D : List (Nat × Nat)} {F X : Nat} (H : MbQ σ P R T J D F X) (i v : Nat) : MbQ (wI σ 81 i (nI v)) P R T (up1 J i v) D F X := by
  obtain ⟨h1, h2, h3, h4, ⟨h5, h5'⟩, h6, h7⟩ := H
  have q : ∀ x j, x ≠ 81 → rI (wI σ 81 i (nI v)) x j = rI σ x j := fun x j a => by rw [fld_eq, if_neg (by omega)]
  refine ⟨fun k hk => (q _ _ (by omega)).trans (h1 k hk), fun k hk => (q _ _ (by omega)).trans (h2 k hk), fun k hk => (q _ _ (by omega)).trans (h3 k hk), fun k hk => ?_, ⟨(q _ _ (by omega)).trans h5, fun i e hi => ⟨(q _ _ (by omega)).trans (h5' i e hi).1, (q _ _ (by omega)).trans (h5' i e hi).2⟩⟩, (q _ _ (by omega)).trans h6, (q _ _ (by omega)).trans h7⟩
  rw [fld_eq, up1_at]
  by_cases e : k = i
  · rw [if_pos ⟨rfl, e⟩, if_pos e]
  · rw [if_neg (fun z => e z.2), if_neg e]; exact h4 k hk
theorem MbQ_F {σ : rS} {P R T J : Nat → Nat} {D : List (Nat × Nat)} {F X : Nat} (H : MbQ σ P R T J D F X) (v : Nat) : MbQ (wI σ 67 22 (nI v)) P R T J D v X := by
  obtain ⟨h1, h2, h3, h4, ⟨h5, h5'⟩, h6, h7⟩ := H
  have q : ∀ x j, ¬ (x = 67 ∧ j = 22) → rI (wI σ 67 22 (nI v)) x j = rI σ x j := fun x j a => by rw [fld_eq, if_neg a]
  exact ⟨fun k hk => (q _ _ (by omega)).trans (h1 k hk), fun k hk => (q _ _ (by omega)).trans (h2 k hk), fun k hk => (q _ _ (by omega)).trans (h3 k hk), fun k hk => (q _ _ (by omega)).trans (h4 k hk), ⟨(q _ _ (by omega)).trans h5, fun i e hi => ⟨(q _ _ (by omega)).trans (h5' i e hi).1, (q _ _ (by omega)).trans (h5' i e hi).2⟩⟩, by rw [fld_eq, if_pos ⟨rfl, rfl⟩], (q _ _ (by omega)).trans h7⟩
theorem MbQ_X {σ : rS} {P R T J : Nat → Nat} {D : List (Nat × Nat)} {F X : Nat} (H : MbQ σ P R T J D F X) (v : Nat) : MbQ (wI σ 67 23 (nI v)) P R T J D F v := by
  obtain ⟨h1, h2, h3, h4, ⟨h5, h5'⟩, h6, h7⟩ := H
  have q : ∀ x j, ¬ (x = 67 ∧ j = 23) → rI (wI σ 67 23 (nI v)) x j = rI σ x j := fun x j a => by rw [fld_eq, if_neg a]
  exact ⟨fun k hk => (q _ _ (by omega)).trans (h1 k hk), fun k hk => (q _ _ (by omega)).trans (h2 k hk), fun k hk => (q _ _ (by omega)).trans (h3 k hk), fun k hk => (q _ _ (by omega)).trans (h4 k hk), ⟨(q _ _ (by omega)).trans h5, fun i e hi => ⟨(q _ _ (by omega)).trans (h5' i e hi).1, (q _ _ (by omega)).trans (h5' i e hi).2⟩⟩, (q _ _ (by omega)).trans h6, by rw [fld_eq, if_pos ⟨rfl, rfl⟩]⟩
theorem MbQ_D {σ : rS} {P R T J : Nat → Nat} {D : List (Nat × Nat)} {F X : Nat} (H : MbQ σ P R T J D F X) (D2 D3 : List (Nat × Nat)) (hD : D = D2 ++ D3) : MbQ (wI σ 67 30 (nI D2.length)) P R T J D2 F X := by
  obtain ⟨h1, h2, h3, h4, ⟨h5, h5'⟩, h6, h7⟩ := H
  have q : ∀ x j, ¬ (x = 67 ∧ j = 30) → rI (wI σ 67 30 (nI D2.length)) x j = rI σ x j := fun x j a => by rw [fld_eq, if_neg a]
  have g : ∀ i e, D2[i]? = some e → D[i]? = some e := fun i e hi => by rw [hD, List.getElem?_append_left (List.getElem?_eq_some_iff.mp hi).1]; exact hi
  exact ⟨fun k hk => (q _ _ (by omega)).trans (h1 k hk), fun k hk => (q _ _ (by omega)).trans (h2 k hk), fun k hk => (q _ _ (by omega)).trans (h3 k hk), fun k hk => (q _ _ (by omega)).trans (h4 k hk), ⟨by rw [fld_eq, if_pos ⟨rfl, rfl⟩], fun i e hi => ⟨(q _ _ (by omega)).trans (h5' i e (g i e hi)).1, (q _ _ (by omega)).trans (h5' i e (g i e hi)).2⟩⟩, (q _ _ (by omega)).trans h6, (q _ _ (by omega)).trans h7⟩
theorem MbQ_push {σ : rS} {P R T J : Nat → Nat} {D : List (Nat × Nat)} {F X : Nat} (H : MbQ σ P R T J D F X) (h k : Nat) : MbQ (wI (wI (wI σ 83 D.length (nI (thS h))) 84 D.length (nI k)) 67 30 (nI (D.length + 1))) P R T J (D ++ [(h, k)]) F X := by
  obtain ⟨h1, h2, h3, h4, ⟨h5, h5'⟩, h6, h7⟩ := H
  have q : ∀ x j, ¬ (x = 67 ∧ j = 30) → x ≠ 83 → x ≠ 84 → rI (wI (wI (wI σ 83 D.length (nI (thS h))) 84 D.length (nI k)) 67 30 (nI (D.length + 1))) x j = rI σ x j := fun x j a b c => by rw [fld_eq, if_neg a, fld_eq, if_neg (fun z => c z.1), fld_eq, if_neg (fun z => b z.1)]
  refine ⟨fun k hk => (q _ _ (by omega) (by omega) (by omega)).trans (h1 k hk), fun k hk => (q _ _ (by omega) (by omega) (by omega)).trans (h2 k hk), fun k hk => (q _ _ (by omega) (by omega) (by omega)).trans (h3 k hk), fun k hk => (q _ _ (by omega) (by omega) (by omega)).trans (h4 k hk), ⟨by rw [fld_eq, if_pos ⟨rfl, rfl⟩, List.length_append]; rfl, fun i e hi => ?_⟩, (q _ _ (by omega) (by omega) (by omega)).trans h6, (q _ _ (by omega) (by omega) (by omega)).trans h7⟩
  have g83 : rI (wI (wI (wI σ 83 D.length (nI (thS h))) 84 D.length (nI k)) 67 30 (nI (D.length + 1))) 83 i = if i = D.length then nI (thS h) else rI σ 83 i := by
    rw [fld_eq, if_neg (by omega), fld_eq, if_neg (by omega), fld_eq]
    simp only [true_and]
  have g84 : rI (wI (wI (wI σ 83 D.length (nI (thS h))) 84 D.length (nI k)) 67 30 (nI (D.length + 1))) 84 i = if i = D.length then nI k else rI σ 84 i := by
    rw [fld_eq, if_neg (by omega), fld_eq]
    simp only [true_and]
    split
    · rfl
    · rw [fld_eq, if_neg (by omega)]
  rw [g83, g84]
  by_cases c : i = D.length
  · subst c
    rw [List.getElem?_append_right (Nat.le_refl _), Nat.sub_self] at hi
    cases hi
    rw [if_pos rfl, if_pos rfl]
    exact ⟨rfl, rfl⟩
  · have hl := (List.getElem?_eq_some_iff.mp hi).1
    rw [List.length_append] at hl
    simp only [List.length_cons, List.length_nil] at hl
    rw [List.getElem?_append_left (by omega)] at hi
    rw [if_neg c, if_neg c]
    exact h5' i e hi
/-- the record -/
abbrev Ent : Type := Nat × Nat × Nat × Nat
def MeR (σ : rS) (E : List Ent) : Prop := rI σ 67 32 = nI E.length ∧ ∀ i e, E[i]? = some e → rI σ 85 (4 * i) = nI e.1 ∧ rI σ 85 (4 * i + 1) = nI e.2.1 ∧ rI σ 85 (4 * i + 2) = nI e.2.2.1 - 1 ∧ rI σ 85 (4 * i + 3) = nI e.2.2.2
theorem MeR_fr {σ τ : rS} {E : List Ent} {W : Nat → Nat → Prop} (H : MeR σ E) (fr : FrX W σ τ) (d : ∀ x j, W x j → ¬ WE x j) : MeR τ E := by
  have q : ∀ x j, WE x j → rI τ x j = rI σ x j := fun x j a => fr.2.2.2.2 x j fun w => d x j w a
  exact ⟨(q _ _ (by omega)).trans H.1, fun i e hi => ⟨(q _ _ (by omega)).trans (H.2 i e hi).1, (q _ _ (by omega)).trans (H.2 i e hi).2.1, (q _ _ (by omega)).trans (H.2 i e hi).2.2.1, (q _ _ (by omega)).trans (H.2 i e hi).2.2.2⟩⟩
theorem enter_eq {σ : rS} {E : List Ent} (H : MeR σ E) {s w k dr : Nat} (hE : E.length ≤ 20000) : ∃ τ, f_X11_enter σ (nI s) (nI w) (nI k - 1) (nI dr) = some ((), τ) ∧ MeR τ (E ++ [(s, w, k, dr)]) ∧ FrX WE σ τ := by
  obtain ⟨h1, h2⟩ := H
  have e0 : 4 * nI E.length = nI (4 * E.length) := by rw [show (4 : Int32) = nI 4 from rfl, nI_mul]
  obtain ⟨σ1, d1⟩ : ∃ z, z = wI σ 85 (4 * E.length) (nI s) := ⟨_, rfl⟩
  obtain ⟨σ2, d2⟩ : ∃ z, z = wI σ1 85 (4 * E.length + 1) (nI w) := ⟨_, rfl⟩
  obtain ⟨σ3, d3⟩ : ∃ z, z = wI σ2 85 (4 * E.length + 2) (nI k - 1) := ⟨_, rfl⟩
  obtain ⟨σ4, d4⟩ : ∃ z, z = wI σ3 85 (4 * E.length + 3) (nI dr) := ⟨_, rfl⟩
  have q1 : rI σ1 67 32 = nI E.length := by rw [d1, fld_eq, if_neg (by omega), h1]
  have q2 : rI σ2 67 32 = nI E.length := by rw [d2, fld_eq, if_neg (by omega), q1]
  have q3 : rI σ3 67 32 = nI E.length := by rw [d3, fld_eq, if_neg (by omega), q2]
  have q4 : rI σ4 67 32 = nI E.length := by rw [d4, fld_eq, if_neg (by omega), q3]
  have e1 : nI (4 * E.length) + 1 = nI (4 * E.length + 1) := nI_1 _
  have e2 : nI (4 * E.length) + 2 = nI (4 * E.length + 2) := by rw [show (2 : Int32) = nI 2 from rfl, nI_add]
  have e3 : nI (4 * E.length) + 3 = nI (4 * E.length + 3) := by rw [show (3 : Int32) = nI 3 from rfl, nI_add]
  refine ⟨wI σ4 67 32 (nI (E.length + 1)), ?_, ⟨by rw [fld_eq, if_pos ⟨rfl, rfl⟩, List.length_append]; rfl, fun i e hi => ?_⟩, ?_⟩
  · unfold f_X11_enter
    rw [h1, e0, if_pos (inB_nI (by decide) (by omega)), nI_clamp (by omega), oLet_eq, ← d1, q1, e0, e1, if_pos (inB_nI (by decide) (by omega)), nI_clamp (by omega), oLet_eq, ← d2, q2, e0, e2, if_pos (inB_nI (by decide) (by omega)), nI_clamp (by omega), oLet_eq, ← d3, q3, e0, e3, if_pos (inB_nI (by decide) (by omega)), nI_clamp (by omega), oLet_eq, ← d4, q4, nI_1, oLet_eq]
  · have g : ∀ j, rI (wI σ4 67 32 (nI (E.length + 1))) 85 j = if j = 4 * E.length + 3 then nI dr else if j = 4 * E.length + 2 then nI k - 1 else if j = 4 * E.length + 1 then nI w else if j = 4 * E.length then nI s else rI σ 85 j := fun j => by
      rw [fld_eq, if_neg (by omega), d4, fld_eq, d3, fld_eq, d2, fld_eq, d1, fld_eq]
      simp only [true_and]
    rw [g, g, g, g]
    by_cases c : i = E.length
    · subst c
      rw [List.getElem?_append_right (Nat.le_refl _), Nat.sub_self] at hi
      cases hi
      refine ⟨?_, ?_, ?_, ?_⟩
      · rw [if_neg (by omega), if_neg (by omega), if_neg (by omega), if_pos rfl]
      · rw [if_neg (by omega), if_neg (by omega), if_pos rfl]
      · rw [if_neg (by omega), if_pos rfl]
      · rw [if_pos rfl]
    · have hl := (List.getElem?_eq_some_iff.mp hi).1
      rw [List.length_append] at hl
      simp only [List.length_cons, List.length_nil] at hl
      rw [List.getElem?_append_left (by omega)] at hi
      have := h2 i e hi
      refine ⟨?_, ?_, ?_, ?_⟩
      · rw [if_neg (by omega), if_neg (by omega), if_neg (by omega), if_neg (by omega)]; exact this.1
      · rw [if_neg (by omega), if_neg (by omega), if_neg (by omega), if_neg (by omega)]; exact this.2.1
      · rw [if_neg (by omega), if_neg (by omega), if_neg (by omega), if_neg (by omega)]; exact this.2.2.1
      · rw [if_neg (by omega), if_neg (by omega), if_neg (by omega), if_neg (by omega)]; exact this.2.2.2
  · rw [d4, d3, d2, d1]
    exact ((((FrX.w σ _ (Or.inl rfl)).tr (FrX.w _ _ (Or.inl rfl))).tr (FrX.w _ _ (Or.inl rfl))).tr (FrX.w _ _ (Or.inl rfl))).tr (FrX.w _ _ (Or.inr ⟨rfl, rfl⟩))
