/-! what was not laid: both sides remember it -/
def upL (l : Nat → Int64) (p : Nat) (v : Int64) : Nat → Int64 := fun j => if j = p then v else l j
noncomputable def alM (B : Bd) (hh L : Nat) : Nat → Int64
  | 0 => 0
  | k + 1 => alM B hh L k ||| (if aloB B hh L k then (1 : Int64) <<< ((nI k).toInt64 &&& 63) else 0)
theorem alM_hb (B : Bd) (hh L : Nat) : ∀ n, n ≤ 52 → ∀ k, k < 52 → (hb (alM B hh L n) k ↔ k < n ∧ aloP B hh L k) := by
  intro n
  induction n with
  | zero => exact fun _ k _ => ⟨fun h => absurd h (hb_0 k), fun h => absurd h.1 (Nat.not_lt_zero k)⟩
  | succ n ih =>
    intro hn k hk
    rw [alM, hb_or, ih (by omega) k hk]
    have h1 := hb_one (k := n) (by omega) k (by omega)
    by_cases c : aloB B hh L n = true
    · rw [if_pos c, h1]
      constructor
      · rintro (⟨a, b⟩ | rfl)
        · exact ⟨by omega, b⟩
        · exact ⟨by omega, aloB_iff.mp c⟩
      · rintro ⟨a, b⟩
        by_cases e : k = n
        · exact Or.inr e
        · exact Or.inl ⟨by omega, b⟩
    · rw [if_neg c]
      constructor
      · rintro (⟨a, b⟩ | h)
        · exact ⟨by omega, b⟩
        · exact absurd h (hb_0 k)
      · rintro ⟨a, b⟩
        by_cases e : k = n
        · subst e
          exact absurd (aloB_iff.mpr b) c
        · exact Or.inl ⟨by omega, b⟩
theorem CI_l {σ : rS} {B : Bd} {E : List Ent} {dl : Option (Nat × Nat × Nat)} {m : Mem} {l : Nat → Int64} {ch p : Nat} {v w : Int64} (H : CI σ B E dl m l ch) (h : ∀ k, k < 52 → (hb v k ↔ hb w k)) : CI (wL σ 29 p v) B E dl m (upL l p w) ch := by
  obtain ⟨h1, h2, h3, h4, h5, h6, B', ch', h7⟩ := H
  refine ⟨h1, h2, h3, h4, fun j hj k hk => ?_, ClI_fr h6 ⟨rfl, rfl, rfl, fun _ _ _ => rfl, fun x j d => ?_⟩, B', ch', h7⟩
  · rw [q_LL]
    unfold upL
    by_cases e : j = p
    · rw [if_pos ⟨rfl, e⟩, if_pos e]
      obtain ⟨a1, a2⟩ := vBit_hb v hk
      obtain ⟨b1, b2⟩ := vBit_hb w hk
      by_cases c : hb v k
      · rw [a1 c, b1 ((h k hk).mp c)]
      · rw [a2 c, b2 fun z => c ((h k hk).mpr z)]
    · rw [if_neg (fun z => e z.2), if_neg e]
      exact h5 j hj k hk
  · rw [q_LL, if_neg (by omega)]
theorem MI_l {σ : rS} {B : Bd} {E : List Ent} {m : Mem} {l : Nat → Int64} {p : Nat} (H : MI σ B E m l) (w : Int64) : MI (wL σ 75 p w) B E m (upL l p w) := by
  obtain ⟨b, g, c, pl, u, s, z⟩ := H
  refine ⟨b, g, c, fun j hj => ?_, u, s, z⟩
  rw [q_LL]
  unfold upL
  by_cases e : j = p
  · rw [if_pos ⟨rfl, e⟩, if_pos e]
  · rw [if_neg (fun z => e z.2), if_neg e]
    exact pl j hj
theorem FrCl_29 (σ : rS) (p : Nat) (v : Int64) : FrCl σ (wL σ 29 p v) := ⟨fun _ _ _ => rfl, fun x j d => by rw [q_LL, if_neg (by omega)], rfl⟩
theorem FrK_29 (σ : rS) (p : Nat) (v : Int64) : FrK σ (wL σ 29 p v) := ⟨fun _ _ _ => rfl, by rw [q_LL, if_neg (by omega)], fun _ => rfl, fun _ => rfl⟩
theorem FrRf_75 (σ : rS) (p : Nat) (v : Int64) : FrRf σ (wL σ 75 p v) := ⟨rfl, rfl, rfl, fun _ _ _ => rfl, fun x j d => by rw [q_LL, if_neg (by omega)]⟩
def paM (m : Mem) (p : Nat) : Mem := up2 (up2 m 77 p 0) 76 p 1
theorem cPass_eq {σ : rS} {B : Bd} {E : List Ent} {dl : Option (Nat × Nat × Nat)} {m : Mem} {l : Nat → Int64} {ch hh L jk ml pn n p : Nat} (C : CI σ B E dl m l ch) (o : OkT B) (r : RuM m hh L jk ml pn n) (K : KcI σ B m hh L ch) (hp : p < 4) : ∃ v σ1 τ, f_X10_findAlone σ = some (v, σ1) ∧ f_X6_pass σ1 (nI p) v = some ((), τ) ∧ CI τ B E dl (paM m p) (upL l p (alM B hh L 52)) ch ∧ FrCl σ τ ∧ KcI τ B m hh L ch := by
  obtain ⟨v, σ1, a1, a2, a3, a4, a5⟩ := cAlone_eq C o r K
  have C1 := CI_l (p := p) (v := v) (w := alM B hh L 52) a2 fun k hk => by
    rw [alM_hb B hh L 52 (Nat.le_refl _) k hk, a5 k hk]
    exact ⟨fun h => ⟨hk, h⟩, fun h => h.2⟩
  have C3 := CI_w (CI_w C1 (a := 25) (k := p) (by omega) 0) (a := 26) (k := p) (by omega) 1
  refine ⟨v, σ1, wI (wI (wL σ1 29 p v) 25 p 0) 26 p 1, a1, ?_, C3, ((a3.tr (FrCl_29 _ _ _)).tr (FrCl_w (by omega) _)).tr (FrCl_w (by omega) _), KcI_fr a4 (((FrK_29 _ _ _).tr (FrK_w (by omega) _)).tr (FrK_w (by omega) _))⟩
  unfold f_X6_pass
  rw [if_neg (show ¬ nI p < 0 from fun z => by have := (nI_lt' (b := 0) (by omega) (by omega)).mp z; omega), if_neg (show ¬ (4 : Int32) ≤ nI p from fun z => by have := (nI_leI (a := 4) (by omega) (by omega)).mp z; omega), if_neg (by decide), if_pos (inB_nI (by decide) (by omega)), nI_clamp (by omega), oLet_eq, oLet_eq, oLet_eq]
theorem mPass_eq {σ : rS} {B : Bd} {E : List Ent} {m : Mem} {l : Nat → Int64} {hh L jk ml pn n p : Nat} (M : MI σ B E m l) (o : OkT B) (r : RuM m hh L jk ml pn n) (hp : p < 4) : ∃ τ, f_X11_passesAll σ (nI p) = some ((), τ) ∧ MI τ B E (paM m p) (upL l p (alM B hh L 52)) ∧ FrRf σ τ ∧ rI τ 67 0 = rI σ 67 0 := by
  have h13 := r.2.2.1
  obtain ⟨x, b1, b2⟩ := oL_ix (body := b_X11_passesAll_5) (fun k s => s.1 = alM B hh L k ∧ s.2.1 = nI k ∧ MI s.2.2 B E m l ∧ FrRf σ s.2.2 ∧ rI s.2.2 67 0 = rI σ 67 0) (N := 52) (fun x => ∃ τ, x = .inr (alM B hh L 52, τ) ∧ MI τ B E m l ∧ FrRf σ τ ∧ rI τ 67 0 = rI σ 67 0) (by
      intro k s hk ⟨e0, e, A, Fr, z⟩
      obtain ⟨s0, s1, σ'⟩ := s
      dsimp only at e0 e A Fr z
      subst e0 e
      have c0 : (nI hh ≤ iRem (nI k) 13) = (hh ≤ k % 13) := by
        rw [show (13 : Int32) = nI 13 from rfl, nI_rem (by omega) (by omega)]
        exact propext (nI_leI (by omega) (by omega))
      have c52 : ¬ (52 : Int32) ≤ nI k := fun z => by have := (nI_leI (a := 52) (by omega) (by omega)).mp z; omega
      by_cases c : hh ≤ k % 13
      · have ea : aloB B hh L k = false := by
          cases y : aloB B hh L k with
          | false => rfl
          | true => exact absurd (aloB_iff.mp y).1 (by omega)
        refine ⟨(alM B hh L (k + 1), nI (k + 1), σ'), ?_, rfl, rfl, A, Fr, z⟩
        unfold b_X11_passesAll_5
        dsimp only
        rw [if_neg c52, MI_h A r]
        simp only [c0]
        rw [if_pos c, nI_1, alM, ea, if_neg (by decide)]
      · obtain ⟨τ, d1, d2, d3, d4⟩ := mAlone_eq A o r hk (by omega)
        refine ⟨(alM B hh L (k + 1), nI (k + 1), τ), ?_, rfl, rfl, d2, Fr.tr d3, d4.trans z⟩
        unfold b_X11_passesAll_5
        dsimp only
        rw [if_neg c52, MI_h A r]
        simp only [c0]
        rw [if_neg c, d1, oB_some, nI_1, alM]
        cases aloB B hh L k <;> rfl)
    (by
      intro s ⟨e0, e, A⟩
      obtain ⟨s0, s1, σ'⟩ := s
      dsimp only at e0 e A
      subst e0 e
      exact ⟨_, by unfold b_X11_passesAll_5; dsimp only; rw [if_pos (show (52 : Int32) ≤ nI 52 by decide)], σ', rfl, A⟩)
    (n := oFuel) (by rw [oFuel_eq]; decide) (s := (0, 0, σ)) ⟨rfl, rfl, M, FrRf.rf σ, rfl⟩
  obtain ⟨τ, rfl, A, Fr, z⟩ := b2
  have M1 := MI_l (p := p) A (alM B hh L 52)
  have M3 := MI_w (MI_w M1 (a := 76) (k := p) (by omega) 1) (a := 77) (k := p) (by omega) 0
  rw [up2_comm m (x := 76) (j := p) (y := 77) (k := p) _ _ (by omega)] at M3
  refine ⟨wI (wI (wL τ 75 p (alM B hh L 52)) 76 p 1) 77 p 0, ?_, M3, ((Fr.tr (FrRf_75 _ _ _)).tr (FrRf_w (by omega) _)).tr (FrRf_w (by omega) _), by rw [fld_eq, if_neg (by omega), fld_eq, if_neg (by omega)]; exact z⟩
  unfold f_X11_passesAll
  rw [b1, oJ_inr, if_pos (inB_nI (by decide) (by omega)), nI_clamp (by omega), oLet_eq, oLet_eq, oLet_eq]
