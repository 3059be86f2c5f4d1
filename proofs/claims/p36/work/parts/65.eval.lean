/-! the world behind the constructors -/
def grL : List Int32 := [0, 273, 4113, 4353, 4368, 4369, 546, 4386, 4626, 4641, 4642, 8226, 8466, 8481, 8482, 8706, 8721, 8722, 8736, 8737, 8738]
def gr (k : Nat) : Int32 := grL.getD k 0
/-- the world at the start -/
def σ00 (L : Nat) (xs : Nat → Int32) : rS := (fun a => if a = 1 then (0, 21) else if a = 2 then (0, L) else (0, 0), fun a => if a = 1 then gr else if a = 2 then xs else fun _ => 0, fun _ _ => 0, fun _ _ => 0, 3)
def zt (σ : rS) : Option rS := (f_X10_init (wN σ (12, 0))).bind fun r1 => if rN r1.2 = 67 then some r1.2 else none
theorem f_law_zt (σ : rS) : f_law σ = (zt σ).bind f_L_run := by
  unfold f_law zt
  cases f_X10_init (wN σ (12, 0)) with
  | none => rfl
  | some r1 =>
    simp only [Option.bind_some]
    split <;> rfl
/-- what is evaluated, for any script: the script is never asked -/
theorem zt_all (c : rS → Nat → Bool) (h : ∀ p : Nat × (Nat → Int32) × Nat, p = Classical.epsilon (fun p : Nat × (Nat → Int32) × Nat => ¬ ((zt (σ00 p.1 p.2.1)).map (fun τ => c τ p.2.2)) = some true) → ((zt (σ00 p.1 p.2.1)).map (fun τ => c τ p.2.2)) = some true) (L : Nat) (xs : Nat → Int32) (i : Nat) : ∃ τ, zt (σ00 L xs) = some τ ∧ c τ i = true := by
  have h1 := h _ rfl
  have h2 : ((zt (σ00 L xs)).map (fun τ => c τ i)) = some true := by
    apply Classical.byContradiction
    intro hn
    exact Classical.epsilon_spec (p := fun p : Nat × (Nat → Int32) × Nat => ¬ ((zt (σ00 p.1 p.2.1)).map (fun τ => c τ p.2.2)) = some true) ⟨(L, xs, i), hn⟩ h1
  obtain ⟨τ, h3, h4⟩ := Option.map_eq_some_iff.mp h2
  exact ⟨τ, h3, h4⟩
def zc_sh (τ : rS) (i : Nat) : Bool := shRs.all (fun q => rR τ q.1 q.2.1 == q.2.2) && (List.range 64).all (fun i => rK τ (i + 3) == shKs.getD i (0, 0)) && (rN τ == 67)
theorem ze_sh : ((zt (σ00 (Classical.epsilon (fun p : Nat × (Nat → Int32) × Nat => ¬ ((zt (σ00 p.1 p.2.1)).map (fun τ => zc_sh τ p.2.2)) = some true)).1 (Classical.epsilon (fun p : Nat × (Nat → Int32) × Nat => ¬ ((zt (σ00 p.1 p.2.1)).map (fun τ => zc_sh τ p.2.2)) = some true)).2.1)).map (fun τ => zc_sh τ (Classical.epsilon (fun p : Nat × (Nat → Int32) × Nat => ¬ ((zt (σ00 p.1 p.2.1)).map (fun τ => zc_sh τ p.2.2)) = some true)).2.2)) = some true := by decide +kernel
theorem za_sh (L : Nat) (xs : Nat → Int32) (i : Nat) : ∃ τ, zt (σ00 L xs) = some τ ∧ zc_sh τ i = true := zt_all zc_sh (fun p hp => by subst hp; exact ze_sh) L xs i
def zc_dy (τ : rS) (i : Nat) : Bool := (rK τ 1 == (0, 21)) && ((rK τ 2).1 == 0) && (rR τ 37 14 == 38) && (rR τ 37 15 == 40) && (rR τ 37 5 == 51) && (rR τ 37 6 == 55) && (rR τ 51 0 == 52) && (rR τ 51 1 == 53) && (rR τ 51 2 == 54) && (rR τ 55 0 == 56) && (rR τ 55 1 == 57) && (rR τ 55 2 == 58)
theorem ze_dy : ((zt (σ00 (Classical.epsilon (fun p : Nat × (Nat → Int32) × Nat => ¬ ((zt (σ00 p.1 p.2.1)).map (fun τ => zc_dy τ p.2.2)) = some true)).1 (Classical.epsilon (fun p : Nat × (Nat → Int32) × Nat => ¬ ((zt (σ00 p.1 p.2.1)).map (fun τ => zc_dy τ p.2.2)) = some true)).2.1)).map (fun τ => zc_dy τ (Classical.epsilon (fun p : Nat × (Nat → Int32) × Nat => ¬ ((zt (σ00 p.1 p.2.1)).map (fun τ => zc_dy τ p.2.2)) = some true)).2.2)) = some true := by decide +kernel
theorem za_dy (L : Nat) (xs : Nat → Int32) (i : Nat) : ∃ τ, zt (σ00 L xs) = some τ ∧ zc_dy τ i = true := zt_all zc_dy (fun p hp => by subst hp; exact ze_dy) L xs i
