/-! what was not laid: both sides remember it -/
def upL (l : Nat → Int64) (p : Nat) (v : Int64) : Nat → Int64 := fun j => if j = p then v else l j
noncomputable def alM (B : Bd) (hh L : Nat) : Nat → Int64
  | 0 => 0
  | k + 1 => alM B hh L k ||| (if aloB B hh L k then (1 : Int64) <<< ((nI k).toInt64 &&& 63) else 0)
theorem alM_hb (B : Bd) (hh L : Nat) : ∀ n, n ≤ 52 → ∀ k, k < 52 → (hb (alM B hh L n) k ↔ k < n ∧ aloP B hh L k) := by
  intro n
  induction n with
  | zero => exact fun _ k _ => ⟨fun h => absurd h (hb_0 k), fun h => absurd h.1 (Nat.not_lt_zero k)⟩
  | succ n ih =>
    intro hn k hk
    rw [alM, hb_or, ih (by omega) k hk]
    have h1 := hb_one (k := n) (by omega) k (by omega)
    by_cases c : aloB B hh L n = true
    · rw [if_pos c, h1]
      constructor
      · rintro (⟨a, b⟩ | rfl)
        · exact ⟨by omega, b⟩
        · exact ⟨by omega, aloB_iff.mp c⟩
      · rintro ⟨a, b⟩
        by_cases e : k = n
        · exact Or.inr e
        · exact Or.inl ⟨by omega, b⟩
    · rw [if_neg c]
      constructor
      · rintro (⟨a, b⟩ | h)
        · exact ⟨by omega, b⟩
        · exact absurd h (hb_0 k)
      · rintro ⟨a, b⟩
        by_cases e : k = n
        · subst e
          exact absurd (aloB_iff.mpr b) c
        · exact Or.inl ⟨by omega, b⟩
theorem CI_l {σ : rS} {B : Bd} {E : List Ent} {dl : Option (Nat × Nat × Nat)} {m : Mem} {l : Nat → Int64} {ch p : Nat} {v w : Int64} (H : CI σ B E dl m l ch) (h : ∀ k, k < 52 → (hb v k ↔ hb w k)) : CI (wL σ 29 p v) B E dl m (upL l p w) ch := by
  obtain ⟨h1, h2, h3, h4, h5, h6, B', ch', h7⟩ := H
  refine ⟨h1, h2, h3, h4, fun j hj k hk => ?_, ClI_fr h6 ⟨rfl, rfl, rfl, fun _ _ _ => rfl, fun x j d => ?_⟩, B', ch', h7⟩
  · rw [q_LL]
    unfold upL
    by_cases e : j = p
    · rw [if_pos ⟨rfl, e⟩, if_pos e]
      obtain ⟨a1, a2⟩ := vBit_hb v hk
      obtain ⟨b1, b2⟩ := vBit_hb w hk
      by_cases c : hb v k
      · rw [a1 c, b1 ((h k hk).mp c)]
      · rw [a2 c, b2 fun z => c ((h k hk).mpr z)]
    · rw [if_neg (fun z => e z.2), if_neg e]
      exact h5 j hj k hk
  · rw [q_LL, if_neg (by omega)]
theorem FrCl_29 (σ : rS) (p : Nat) (v : Int64) : FrCl σ (wL σ 29 p v) := ⟨fun _ _ _ => rfl, fun x j d => by rw [q_LL, if_neg (by omega)], rfl⟩
theorem FrK_29 (σ : rS) (p : Nat) (v : Int64) : FrK σ (wL σ 29 p v) := ⟨fun _ _ _ => rfl, by rw [q_LL, if_neg (by omega)], fun _ => rfl, fun _ => rfl⟩
def paM (m : Mem) (p : Nat) : Mem := up2 (up2 m 77 p 0) 76 p 1
theorem cPass_eq {σ : rS} {B : Bd} {E : List Ent} {dl : Option (Nat × Nat × Nat)} {m : Mem} {l : Nat → Int64} {ch hh L jk ml pn n p : Nat} (C : CI σ B E dl m l ch) (o : OkT B) (r : RuM m hh L jk ml pn n) (K : KcI σ B m hh L ch) (hp : p < 4) : ∃ v σ1 τ, f_X10_findAlone σ = some (v, σ1) ∧ f_X6_pass σ1 (nI p) v = some ((), τ) ∧ CI τ B E dl (paM m p) (upL l p (alM B hh L 52)) ch ∧ FrCl σ τ ∧ KcI τ B m hh L ch := by
  obtain ⟨v, σ1, a1, a2, a3, a4, a5⟩ := cAlone_eq C o r K
  have C1 := CI_l (p := p) (v := v) (w := alM B hh L 52) a2 fun k hk => by
    rw [alM_hb B hh L 52 (Nat.le_refl _) k hk, a5 k hk]
    exact ⟨fun h => ⟨hk, h⟩, fun h => h.2⟩
  have C3 := CI_w (CI_w C1 (a := 25) (k := p) (by omega) 0) (a := 26) (k := p) (by omega) 1
  refine ⟨v, σ1, wI (wI (wL σ1 29 p v) 25 p 0) 26 p 1, a1, ?_, C3, ((a3.tr (FrCl_29 _ _ _)).tr (FrCl_w (by omega) _)).tr (FrCl_w (by omega) _), KcI_fr a4 (((FrK_29 _ _ _).tr (FrK_w (by omega) _)).tr (FrK_w (by omega) _))⟩
  unfold f_X6_pass
  rw [if_neg (show ¬ nI p < 0 from fun z => by have := (nI_lt' (b := 0) (by omega) (by omega)).mp z; omega), if_neg (show ¬ (4 : Int32) ≤ nI p from fun z => by have := (nI_leI (a := 4) (by omega) (by omega)).mp z; omega), if_neg (by decide), if_pos (inB_nI (by decide) (by omega)), nI_clamp (by omega), oLet_eq, oLet_eq, oLet_eq]
