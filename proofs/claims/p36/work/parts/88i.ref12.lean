/-! the reference: what is known of all whole ways -/
def dnM (L s : Nat) : Bool := decide (s = 0 ∨ s = 15 ∨ (loT s = L ∧ (shT s = 0 ∨ shT s = L)))
def doneM (L k m : Nat) : Bool := (List.range m).all fun c => dnM L (k / 16 ^ c % 16)
theorem doneM_s (L k m : Nat) : doneM L k (m + 1) = (doneM L k m && dnM L (k / 16 ^ m % 16)) := by
  unfold doneM
  rw [List.range_succ, List.all_append]
  simp
theorem b2i_s {x : Bool} : b2i x = 0 ∨ b2i x = 1 := by cases x <;> simp [b2i]
def boS (pl : Bool) (L : Nat) (o : Option V3) (p : Nat × V3) : Option V3 := if doneM L p.1 4 then some (match o with
  | none => p.2
  | some x => mgM pl x p.2) else o
/-- the value of all whole ways -/
def boM (pl : Bool) (L : Nat) (lh : List (Nat × V3)) : Option V3 := lh.foldl (boS pl L) none
def olM (o : Option V3) : List (Nat × V3) := match o with
  | none => []
  | some x => [(0, x)]
/-- the value of all whole ways of rows -/
def rsM (pl bw : Bool) (L N : Nat) (bs ex : Nat → Nat) : Option V3 := boM pl L (reL pl bw L bs ex N)
def BoR (σ : rS) (o : Option V3) : Prop := rL σ 67 61 = (o.getD (0, 0, 0)).1 ∧ rL σ 67 62 = (o.getD (0, 0, 0)).2.1 ∧ rL σ 67 63 = (o.getD (0, 0, 0)).2.2
theorem zero108 {R1 : Type} {σ : rS} {body : Int32 × rS → Option ((R1 ⊕ rS) ⊕ (Int32 × rS))} (hb : body = fun s => if 4 ≤ s.1 then (some (.inl (.inr s.2))) else (if inB s.1 4 then (oLet (wI s.2 108 (s.1 : Int32).toNatClampNeg 0) fun σ5 => some (.inr ((s.1 + 1, σ5)))) else none)) : ∃ τ, oLoop body oFuel (0, σ) = some (.inr τ) ∧ FrD σ τ := by
  have hx := oL_ix (body := body) (N := 4) (fun m s => s.1 = nI m ∧ FrD σ s.2) (fun r => ∃ τ, r = Sum.inr τ ∧ FrD σ τ) ?_ ?_ (n := oFuel) (by decide) (s := (0, σ)) ⟨rfl, FrD.rf σ⟩
  · obtain ⟨r, h1, τ, h2, h3⟩ := hx
    exact ⟨τ, by rw [h1, h2], h3⟩
  · rintro m ⟨mm, τ⟩ hm ⟨h1, h2⟩
    dsimp only at h1 h2
    have c1 : ¬ (4 : Int32) ≤ nI m := fun q => by have := (nI_leI (a := 4) (by omega) (by omega)).mp q; omega
    refine ⟨(nI (m + 1), wI τ 108 m 0), ?_, rfl, h2.tr ⟨rfl, rfl, rfl, rfl, fun x j a => by rw [q_II, if_neg (fun z => a z.1)]⟩⟩
    rw [hb]
    dsimp only
    rw [h1, if_neg c1, if_pos (inB_nI (by decide) hm), nI_clamp (by omega), oLet_eq, show nI m + 1 = nI (m + 1) from nI_1 m]
  · rintro ⟨mm, τ⟩ ⟨h1, h2⟩
    dsimp only at h1 h2
    refine ⟨.inr τ, ?_, τ, rfl, h2⟩
    rw [hb]
    dsimp only
    rw [h1, if_pos (by decide)]
