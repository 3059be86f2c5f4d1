/-! the plan: the reference -/
abbrev W9 (x j : Nat) : Prop := x = 91 ∨ x = 92 ∨ (x = 109 ∧ j = j)
theorem MI_9 {σ τ : rS} {B : Bd} {E : List Ent} {m : Mem} {l : Nat → Int64} (H : MI σ B E m l) (f : FrX W9 σ τ) : MI τ B E m l := by
  obtain ⟨b, g, p, pl, ⟨u1, u2, u3⟩, s, z⟩ := H
  have q := f.2.2.2.2
  exact ⟨MbQ_fr b f (fun x j w => by omega), MeR_fr g f (fun x j w => by omega), fun x j a => (q x j (by omega)).trans (p x j a), fun j hj => by rw [f.2.2.2.1]; exact pl j hj, ⟨(q _ _ (by omega)).trans u1, fun p hp c hc => (q _ _ (by omega)).trans (u2 p hp c hc), fun p hp => (q _ _ (by omega)).trans (u3 p hp)⟩, fun i hi => ⟨(q _ _ (by omega)).trans (s i hi).1, (q _ _ (by omega)).trans (s i hi).2⟩, fun k hk => (q _ _ (by omega)).trans (z.1 k hk), fun k hk => (q _ _ (by omega)).trans (z.2 k hk)⟩
theorem tellPlan_m {σ : rS} {B : Bd} {E : List Ent} {m : Mem} {l : Nat → Int64} {p : Nat} (M : MI σ B E m l) (o : OkT B) (hp : p < 4) : ∃ τ, oLoop (b_X11_laysPlan_2 (nI p)) oFuel (0, σ) = some (.inr τ) ∧ BeM τ (plLo B m p) (plEx B p) ∧ FrX W91 σ τ := by
  obtain ⟨x, b1, b2⟩ := oL_ix (body := b_X11_laysPlan_2 (nI p)) (fun k s => s.1 = nI k ∧ (∀ i, i < k → rI s.2 91 i = nI (plLo B m p i) ∧ rI s.2 92 i = nI (plEx B p i)) ∧ FrX W91 σ s.2) (N := 52) (fun x => ∃ τ, x = .inr τ ∧ (∀ i, i < 52 → rI τ 91 i = nI (plLo B m p i) ∧ rI τ 92 i = nI (plEx B p i)) ∧ FrX W91 σ τ) (by
      intro k s hk ⟨e, A, Fr⟩
      obtain ⟨s1, σ'⟩ := s
      dsimp only at e A Fr
      subst e
      have M' := MI_91 M Fr
      have etj : tjB B k = bT B k + bJ B k := if_pos hk
      have t2 := tjB_le o k
      have hR := o.1.2.1 p hp
      have hRk := rsz_ge (R := bR B) (p := p) (k := k) (by omega)
      have q72 : rI σ' 72 p = m 72 p := M'.2.2.1 72 p (by omega)
      have e1 : (if m 72 p = 0 then 0 else nI (tjB B k)) = nI (plLo B m p k) := by
        unfold plLo
        split <;> rfl
      have r79 : ∀ v : Int32, rI (wI σ' 91 k v) 79 (53 * p + k) = nI (bR B (53 * p + k)) := fun v => by rw [fld_eq, if_neg (by omega), M'.1.2.1 _ (by omega)]
      have e2 : (if nI (2 - tjB B k) ≤ nI (bR B (53 * p + k)) then nI (2 - tjB B k) else nI (bR B (53 * p + k))) = nI (plEx B p k) := by
        have c : (nI (2 - tjB B k) ≤ nI (bR B (53 * p + k))) = (2 - tjB B k ≤ bR B (53 * p + k)) := propext (nI_leI (by omega) (by omega))
        simp only [c]
        unfold plEx
        rw [if_pos hk]
        by_cases h : 2 - tjB B k ≤ bR B (53 * p + k)
        · rw [if_pos h, Nat.min_eq_left h]
        · rw [if_neg h, Nat.min_eq_right (by omega)]
      refine ⟨(nI (k + 1), wI (wI σ' 91 k (nI (plLo B m p k))) 92 k (nI (plEx B p k))), ?_, rfl, fun i hi => ?_, Fr.tr ((FrX.w _ _ (by omega)).tr (FrX.w _ _ (by omega)))⟩
      · unfold b_X11_laysPlan_2
        dsimp only
        rw [if_neg (show ¬ (52 : Int32) ≤ nI k from fun z => by have := (nI_leI (a := 52) (by omega) (by omega)).mp z; omega), if_pos (inB_nI (by decide) hk), nI_clamp (by omega), M'.1.2.2.1 k hk, M'.1.2.2.2.1 k hk, nI_add, ← etj, oLet_eq, i53, if_pos (inB_nI (by decide) (by omega)), nI_clamp (by omega), M'.1.2.1 _ (by omega), oLet_eq, if_pos (inB_nI (by decide) (by omega)), nI_clamp (by omega), q72, e1, oLet_eq, show (2 : Int32) = nI 2 from rfl, nI_sub t2, e2, oLet_eq, nI_1]
      · show rI (wI (wI σ' 91 k (nI (plLo B m p k))) 92 k (nI (plEx B p k))) 91 i = _ ∧ rI (wI (wI σ' 91 k (nI (plLo B m p k))) 92 k (nI (plEx B p k))) 92 i = _
        by_cases c : i = k
        · subst c
          exact ⟨by rw [fld_eq, if_neg (by omega), fld_eq, if_pos ⟨rfl, rfl⟩], by rw [fld_eq, if_pos ⟨rfl, rfl⟩]⟩
        · have := A i (by omega)
          exact ⟨by rw [fld_eq, if_neg (by omega), fld_eq, if_neg (fun z => c z.2)]; exact this.1, by rw [fld_eq, if_neg (fun z => c z.2), fld_eq, if_neg (by omega)]; exact this.2⟩)
    (by
      intro s ⟨e, A, Fr⟩
      obtain ⟨s1, σ'⟩ := s
      dsimp only at e A Fr
      subst e
      exact ⟨_, by unfold b_X11_laysPlan_2; rw [if_pos (show (52 : Int32) ≤ nI 52 by decide)], σ', rfl, A, Fr⟩)
    (n := oFuel) (by rw [oFuel_eq]; decide) (s := (0, σ)) ⟨rfl, fun i hi => absurd hi (Nat.not_lt_zero i), FrX.rf _ σ⟩
  obtain ⟨τ, rfl, A, Fr⟩ := b2
  exact ⟨τ, b1, ⟨A, fun k => plS_le o m p k⟩, Fr⟩
theorem dg3 {H : Nat} (d : Nat) : H % 3 ^ (d + 1) / 3 ^ d = H / 3 ^ d % 3 ∧ H % 3 ^ (d + 1) % 3 ^ d = H % 3 ^ d := by
  rw [Nat.pow_succ]
  exact ⟨Nat.mod_mul_right_div_self .., Nat.mod_mod_of_dvd _ (Nat.dvd_mul_right _ _)⟩
def hfN (g : Nat → Nat) (k : Nat) : Nat := if k < 26 then HN 3 g 26 else HN 3 (fun i => g (26 + i)) 26
theorem hfN_lt {g : Nat → Nat} (hg : ∀ j, j < 52 → g j ≤ 2) (k : Nat) : hfN g k < 3 ^ 26 := by
  unfold hfN
  split
  · exact HN_lt fun j hj => by have := hg j (by omega); omega
  · exact HN_lt fun j hj => by have := hg (26 + j) (by omega); omega
theorem hfN_dig {g : Nat → Nat} (hg : ∀ j, j < 52 → g j ≤ 2) {k : Nat} (hk : k < 52) : hfN g k / 3 ^ (25 - k % 26) % 3 = g k := by
  unfold hfN
  by_cases c : k < 26
  · rw [if_pos c]
    have h1 := HN_dig (B := 3) (f := g) (m := k) (d := 25 - k) fun j hj => by have := hg j (by omega); omega
    rw [show k + 1 + (25 - k) = 26 by omega] at h1
    rw [show 25 - k % 26 = 25 - k by omega]
    exact h1
  · rw [if_neg c]
    have h1 := HN_dig (B := 3) (f := fun i => g (26 + i)) (m := k - 26) (d := 51 - k) fun j hj => by have := hg (26 + j) (by omega); omega
    rw [show k - 26 + 1 + (51 - k) = 26 by omega, show 26 + (k - 26) = k by omega] at h1
    rw [show 25 - k % 26 = 51 - k by omega]
    exact h1
theorem fill_no {σ : rS} (x0 : Int64) : ∃ τ, oLoop (b_X11_laysPlan_120 0) oFuel (x0, 0, σ) = some (0, τ) ∧ (∀ k, k < 52 → rI τ 109 k = 0) ∧ FrX (fun x _ => x = 109) σ τ := by
  obtain ⟨x, b1, b2⟩ := oL_ix (body := b_X11_laysPlan_120 0) (fun k s => s.2.1 = nI k ∧ (∀ i, i < k → rI s.2.2 109 i = 0) ∧ FrX (fun x _ => x = 109) σ s.2.2) (N := 52) (fun x => ∃ τ, x = (0, τ) ∧ (∀ i, i < 52 → rI τ 109 i = 0) ∧ FrX (fun x _ => x = 109) σ τ) (by
      intro k s hk ⟨e, A, Fr⟩
      obtain ⟨s0, s1, σ'⟩ := s
      dsimp only at e A Fr
      subst e
      have hpw : ∀ σ, f_X11_power σ (nI k) = some (lN (pwM k)) := fun σ => power_eq σ hk
      have p0 : ¬ lN (pwM k) = 0 := fun z => by
        have h1 := lN_inj (b := 0) (by have := pwM_le k; omega) (by omega) z
        unfold pwM at h1
        exact absurd h1 (Nat.pos_iff_ne_zero.mp (Nat.pow_pos (by decide)))
      refine ⟨(lRem (if nI k = 26 then rL σ' 67 63 else s0) (lN (pwM k)), nI (k + 1), wI σ' 109 k 0), ?_, rfl, fun i hi => ?_, Fr.tr (FrX.w (W := fun x _ => x = 109) _ _ rfl)⟩
      · unfold b_X11_laysPlan_120
        dsimp only
        rw [if_neg (show ¬ (52 : Int32) ≤ nI k from fun z => by have := (nI_leI (a := 52) (by omega) (by omega)).mp z; omega), oLet_eq, if_pos rfl, oJ_inr, if_pos (inB_nI (by decide) hk), nI_clamp (by omega), oLet_eq, hpw, Option.bind_some, if_pos p0, nI_1]
      · show rI (wI σ' 109 k 0) 109 i = 0
        rw [fld_eq]
        by_cases c : i = k
        · rw [if_pos ⟨rfl, c⟩]
        · rw [if_neg (fun z => c z.2)]; exact A i (by omega))
    (by
      intro s ⟨e, A, Fr⟩
      obtain ⟨s0, s1, σ'⟩ := s
      dsimp only at e A Fr
      subst e
      exact ⟨_, by unfold b_X11_laysPlan_120; dsimp only; rw [if_pos (show (52 : Int32) ≤ nI 52 by decide), if_pos (Or.inl rfl)], σ', rfl, A, Fr⟩)
    (n := oFuel) (by rw [oFuel_eq]; decide) (s := (x0, 0, σ)) ⟨rfl, fun i hi => absurd hi (Nat.not_lt_zero i), FrX.rf _ σ⟩
  obtain ⟨τ, rfl, A⟩ := b2
  exact ⟨τ, b1, A⟩
theorem fill_yes {σ : rS} {g : Nat → Nat} (hg : ∀ j, j < 52 → g j ≤ 2) (h63 : rL σ 67 63 = lN (HN 3 (fun i => g (26 + i)) 26)) : ∃ τ, oLoop (b_X11_laysPlan_120 1) oFuel (lN (HN 3 g 26), 0, σ) = some (1, τ) ∧ (∀ k, k < 52 → rI τ 109 k = nI (g k)) ∧ FrX (fun x _ => x = 109) σ τ := by
  obtain ⟨x, b1, b2⟩ := oL_ix (body := b_X11_laysPlan_120 1) (fun k s => s.1 = lN (if k ≤ 26 then HN 3 g 26 % 3 ^ (26 - k) else HN 3 (fun i => g (26 + i)) 26 % 3 ^ (52 - k)) ∧ s.2.1 = nI k ∧ (∀ i, i < k → rI s.2.2 109 i = nI (g i)) ∧ FrX (fun x _ => x = 109) σ s.2.2) (N := 52) (fun x => ∃ τ, x = (1, τ) ∧ (∀ i, i < 52 → rI τ 109 i = nI (g i)) ∧ FrX (fun x _ => x = 109) σ τ) (by
      intro k s hk ⟨e0, e, A, Fr⟩
      obtain ⟨s0, s1, σ'⟩ := s
      dsimp only at e0 e A Fr
      subst e0 e
      have hpw : ∀ σ, f_X11_power σ (nI k) = some (lN (pwM k)) := fun σ => power_eq σ hk
      have hple := pwM_le k
      have p0 : ¬ lN (pwM k) = 0 := fun z => by
        have h1 := lN_inj (b := 0) (by omega) (by omega) z
        unfold pwM at h1
        exact absurd h1 (Nat.pos_iff_ne_zero.mp (Nat.pow_pos (by decide)))
      have hl := hfN_lt hg k
      have c26 : (nI k = 26) = (k = 26) := propext (nI_eq (b := 26) (by omega) (by omega))
      have ex : (if nI k = 26 then rL σ' 67 63 else lN (if k ≤ 26 then HN 3 g 26 % 3 ^ (26 - k) else HN 3 (fun i => g (26 + i)) 26 % 3 ^ (52 - k))) = lN (hfN g k % 3 ^ (25 - k % 26 + 1)) := by
        simp only [c26]
        by_cases c : k = 26
        · subst c
          rw [if_pos rfl, Fr.2.2.2.1, h63]
          rw [show 25 - 26 % 26 + 1 = 26 from rfl, Nat.mod_eq_of_lt hl]
          rfl
        · rw [if_neg c]
          unfold hfN
          by_cases c2 : k < 26
          · rw [if_pos (by omega), if_pos c2, show 26 - k = 25 - k % 26 + 1 by omega]
          · rw [if_neg (by omega), if_neg c2, show 52 - k = 25 - k % 26 + 1 by omega]
      obtain ⟨g1, g2⟩ := dg3 (H := hfN g k) (25 - k % 26)
      have hmod : hfN g k % 3 ^ (25 - k % 26 + 1) < 3 ^ 26 := Nat.lt_of_le_of_lt (Nat.mod_le _ _) hl
      have h26 : (3 : Nat) ^ 26 = 2541865828329 := by decide
      have hd : (lN (hfN g k % 3 ^ (25 - k % 26 + 1)) / lN (pwM k)).toInt32 = nI (g k) := by
        have := hg k hk
        rw [lN_div (by omega) (by omega)]
        show (lN (hfN g k % 3 ^ (25 - k % 26 + 1) / 3 ^ (25 - k % 26))).toInt32 = _
        rw [g1, hfN_dig hg hk, lN_32 (by omega)]
      have hr : lRem (lN (hfN g k % 3 ^ (25 - k % 26 + 1))) (lN (pwM k)) = lN (if k + 1 ≤ 26 then HN 3 g 26 % 3 ^ (26 - (k + 1)) else HN 3 (fun i => g (26 + i)) 26 % 3 ^ (52 - (k + 1))) := by
        rw [lRem_lN (by omega) (by omega)]
        show lN (hfN g k % 3 ^ (25 - k % 26 + 1) % 3 ^ (25 - k % 26)) = _
        rw [g2]
        unfold hfN
        by_cases c2 : k < 26
        · rw [if_pos c2, if_pos (by omega), show 26 - (k + 1) = 25 - k % 26 by omega]
        · rw [if_neg c2, if_neg (by omega), show 52 - (k + 1) = 25 - k % 26 by omega]
      refine ⟨(lN (if k + 1 ≤ 26 then HN 3 g 26 % 3 ^ (26 - (k + 1)) else HN 3 (fun i => g (26 + i)) 26 % 3 ^ (52 - (k + 1))), nI (k + 1), wI σ' 109 k (nI (g k))), ?_, rfl, rfl, fun i hi => ?_, Fr.tr (FrX.w (W := fun x _ => x = 109) _ _ rfl)⟩
      · unfold b_X11_laysPlan_120
        dsimp only
        rw [if_neg (show ¬ (52 : Int32) ≤ nI k from fun z => by have := (nI_leI (a := 52) (by omega) (by omega)).mp z; omega), ex, oLet_eq, if_neg (by decide), hpw, Option.bind_some, if_pos p0, hd, oJ_inr, if_pos (inB_nI (by decide) hk), nI_clamp (by omega), oLet_eq, hpw, Option.bind_some, if_pos p0, hr, nI_1]
      · show rI (wI σ' 109 k (nI (g k))) 109 i = _
        rw [fld_eq]
        by_cases c : i = k
        · rw [if_pos ⟨rfl, c⟩, c]
        · rw [if_neg (fun z => c z.2)]; exact A i (by omega))
    (by
      intro s ⟨e0, e, A, Fr⟩
      obtain ⟨s0, s1, σ'⟩ := s
      dsimp only at e0 e A Fr
      subst e0 e
      exact ⟨_, by unfold b_X11_laysPlan_120; dsimp only; rw [if_pos (show (52 : Int32) ≤ nI 52 by decide), if_pos (Or.inr rfl)], σ', rfl, A, Fr⟩)
    (n := oFuel) (by rw [oFuel_eq]; decide) (s := (lN (HN 3 g 26), 0, σ)) ⟨by rw [if_pos (by decide), Nat.mod_eq_of_lt (HN_lt fun j hj => by have := hg j (by omega); omega)], rfl, fun i hi => absurd hi (Nat.not_lt_zero i), FrX.rf _ σ⟩
  obtain ⟨τ, rfl, A⟩ := b2
  exact ⟨τ, b1, A⟩
