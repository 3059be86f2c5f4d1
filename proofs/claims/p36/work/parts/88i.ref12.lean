/-! the reference: what is known of all whole ways -/
def dnM (L s : Nat) : Bool := decide (s = 0 ∨ s = 15 ∨ (loT s = L ∧ (shT s = 0 ∨ shT s = L)))
def doneM (L k m : Nat) : Bool := (List.range m).all fun c => dnM L (k / 16 ^ c % 16)
theorem doneM_s (L k m : Nat) : doneM L k (m + 1) = (doneM L k m && dnM L (k / 16 ^ m % 16)) := by
  unfold doneM
  rw [List.range_succ, List.all_append]
  simp
theorem b2i_s {x : Bool} : b2i x = 0 ∨ b2i x = 1 := by cases x <;> simp [b2i]
def boS (pl : Bool) (L : Nat) (o : Option V3) (p : Nat × V3) : Option V3 := if doneM L p.1 4 then some (match o with
  | none => p.2
  | some x => mgM pl x p.2) else o
/-- the value of all whole ways -/
def boM (pl : Bool) (L : Nat) (lh : List (Nat × V3)) : Option V3 := lh.foldl (boS pl L) none
def olM (o : Option V3) : List (Nat × V3) := match o with
  | none => []
  | some x => [(0, x)]
/-- what canBeCut leaves alone -/
def FrJ (σ τ : rS) : Prop := rK τ = rK σ ∧ rR τ = rR σ ∧ rN τ = rN σ ∧ (∀ x j, (x < 99 ∨ x = 105 ∨ x = 106 ∨ x = 109 ∨ 113 < x) → (x = 67 → j ≠ 50 ∧ j ≠ 56 ∧ j ≠ 65) → rI τ x j = rI σ x j) ∧ ∀ x j, (x < 95 ∨ 102 < x) → (x = 67 → j < 61 ∨ 63 < j) → rL τ x j = rL σ x j
theorem FrJ.rf (σ : rS) : FrJ σ σ := ⟨rfl, rfl, rfl, fun _ _ _ _ => rfl, fun _ _ _ _ => rfl⟩
theorem FrJ.tr {σ τ υ : rS} (h : FrJ σ τ) (g : FrJ τ υ) : FrJ σ υ := ⟨g.1.trans h.1, g.2.1.trans h.2.1, g.2.2.1.trans h.2.2.1, fun x j a b => (g.2.2.2.1 x j a b).trans (h.2.2.2.1 x j a b), fun x j a b => (g.2.2.2.2 x j a b).trans (h.2.2.2.2 x j a b)⟩
theorem FrJ_H {σ τ : rS} (f : FrH σ τ) : FrJ σ τ := ⟨f.1, f.2.1, f.2.2.1, f.2.2.2.1, fun x j a _ => f.2.2.2.2 x j a⟩
/-- what the reference keeps between two searches -/
def RfI (σ : rS) (L : Nat) : Prop := UsM σ ∧ ShM σ L ∧ ∀ k, k < 65536 → rI σ 103 k = 0
theorem UsM.frJ {σ τ : rS} (H : UsM σ) (f : FrJ σ τ) : UsM τ := by
  have q := f.2.2.2.1
  exact ⟨(q 67 44 (by decide) (fun _ => by decide)).trans H.1, fun p hp c hc => (q 93 _ (by decide) (fun z => absurd z (by decide))).trans (H.2.1 p hp c hc), fun p hp => (q 94 _ (by decide) (fun z => absurd z (by decide))).trans (H.2.2 p hp)⟩
theorem ShM.frJ {σ τ : rS} {L : Nat} (H : ShM σ L) (f : FrJ σ τ) : ShM τ L := by
  have q := f.2.2.2.1
  exact ⟨(q 67 2 (by decide) (fun _ => by decide)).trans H.1, H.2.1, fun i hi => ⟨(q 89 i (by decide) (fun z => absurd z (by decide))).trans (H.2.2 i hi).1, (q 90 i (by decide) (fun z => absurd z (by decide))).trans (H.2.2 i hi).2⟩⟩
/-- the value of all whole ways of rows -/
def rsM (pl bw : Bool) (L N : Nat) (bs ex : Nat → Nat) : Option V3 := boM pl L (reL pl bw L bs ex N)
def BoR (σ : rS) (o : Option V3) : Prop := rL σ 67 61 = (o.getD (0, 0, 0)).1 ∧ rL σ 67 62 = (o.getD (0, 0, 0)).2.1 ∧ rL σ 67 63 = (o.getD (0, 0, 0)).2.2
theorem zero108 {R1 : Type} {σ : rS} {body : Int32 × rS → Option ((R1 ⊕ rS) ⊕ (Int32 × rS))} (hb : body = fun s => if 4 ≤ s.1 then (some (.inl (.inr s.2))) else (if inB s.1 4 then (oLet (wI s.2 108 (s.1 : Int32).toNatClampNeg 0) fun σ5 => some (.inr ((s.1 + 1, σ5)))) else none)) : ∃ τ, oLoop body oFuel (0, σ) = some (.inr τ) ∧ FrD σ τ := by
  have hx := oL_ix (body := body) (N := 4) (fun m s => s.1 = nI m ∧ FrD σ s.2) (fun r => ∃ τ, r = Sum.inr τ ∧ FrD σ τ) ?_ ?_ (n := oFuel) (by decide) (s := (0, σ)) ⟨rfl, FrD.rf σ⟩
  · obtain ⟨r, h1, τ, h2, h3⟩ := hx
    exact ⟨τ, by rw [h1, h2], h3⟩
  · rintro m ⟨mm, τ⟩ hm ⟨h1, h2⟩
    dsimp only at h1 h2
    have c1 : ¬ (4 : Int32) ≤ nI m := fun q => by have := (nI_leI (a := 4) (by omega) (by omega)).mp q; omega
    refine ⟨(nI (m + 1), wI τ 108 m 0), ?_, rfl, h2.tr ⟨rfl, rfl, rfl, rfl, fun x j a => by rw [q_II, if_neg (fun z => a z.1)]⟩⟩
    rw [hb]
    dsimp only
    rw [h1, if_neg c1, if_pos (inB_nI (by decide) hm), nI_clamp (by omega), oLet_eq, show nI m + 1 = nI (m + 1) from nI_1 m]
  · rintro ⟨mm, τ⟩ ⟨h1, h2⟩
    dsimp only at h1 h2
    refine ⟨.inr τ, ?_, τ, rfl, h2⟩
    rw [hb]
    dsimp only
    rw [h1, if_pos (by decide)]
