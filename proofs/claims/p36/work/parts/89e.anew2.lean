/-! the class's count piece by piece is the number of cuts -/
theorem low_eq {σ : rS} {t : Nat → Nat} (H : Ro48 σ t) (h2 : ∀ k, k < 52 → t k ≤ 2) {fr : Nat} (hfr : fr ≤ 52) : ∃ κ, fr ≤ κ ∧ κ ≤ 52 ∧ oLoop (b_X0_count_3 σ) oFuel (nI fr) = some (.inr (nI κ)) ∧ (∀ j, fr ≤ j → j < κ → t j = 0) ∧ (κ < 52 → t κ ≠ 0) := by
  have hx := oL_ixE (body := b_X0_count_3 σ) (N := 52 - fr) (fun m s => s = nI (fr + m) ∧ ∀ j, fr ≤ j → j < fr + m → t j = 0) (fun r => ∃ κ, fr ≤ κ ∧ κ ≤ 52 ∧ r = Sum.inr (nI κ) ∧ (∀ j, fr ≤ j → j < κ → t j = 0) ∧ (κ < 52 → t κ ≠ 0)) ?_ ?_ (n := oFuel) (by have : oFuel = 100000 := rfl; omega) (s := nI fr) ⟨rfl, fun j a b => by omega⟩
  · obtain ⟨r, h1, κ, h3, h4, h5, h6⟩ := hx
    exact ⟨κ, h3, h4, by rw [h1, h5], h6⟩
  · rintro m s hm ⟨rfl, h1⟩
    have c1 : ((52 : Int32) ≤ nI (fr + m)) = (52 ≤ fr + m) := propext (nI_leI (a := 52) (by omega) (by omega))
    have := h2 (fr + m) (by omega)
    have e0 : (nI (t (fr + m)) = 0) = (t (fr + m) = 0) := propext (nI_eq (b := 0) (by omega) (by omega))
    unfold b_X0_count_3
    rw [row_get H (by omega)]
    simp only [c1, e0]
    rw [if_neg (show ¬ 52 ≤ fr + m by omega)]
    by_cases h0 : t (fr + m) = 0
    · rw [if_pos h0, if_neg (by decide), show nI (fr + m) + 1 = nI (fr + (m + 1)) from nI_1 _]
      refine Or.inl ⟨_, rfl, rfl, fun j a b => ?_⟩
      by_cases e : j = fr + m
      · rw [e]; exact h0
      · exact h1 j a (by omega)
    · rw [if_neg h0, if_pos rfl]
      exact Or.inr ⟨_, rfl, fr + m, by omega, by omega, rfl, h1, fun _ => h0⟩
  · rintro s ⟨rfl, h1⟩
    refine ⟨_, ?_, 52, by omega, Nat.le_refl _, rfl, fun j a b => h1 j a (by omega), fun q => absurd q (by decide)⟩
    unfold b_X0_count_3
    rw [show fr + (52 - fr) = 52 by omega, if_pos (by rw [if_pos (by decide)])]
theorem sbV_le {t u : Nat → Nat} (h2 : ∀ k, k < 52 → t k ≤ 2) : ∀ k, k < 52 → sbV t u k ≤ 2 := fun k hk => by
  have := h2 k hk
  unfold sbV
  omega
theorem count_eq {L : Nat} (hL : L = 3 ∨ L = 4) (f : Nat) : ∀ (σ : rS) (t : Nat → Nat) (fr fc dep : Nat), Gr1 σ → Ro48 σ t → (∀ k, k < 52 → t k ≤ 2) → 5 ≤ f + dep → dep ≤ 4 → tot t + 3 * dep ≤ 14 → fr < 52 → fc < 19 → (∀ k, k < fr → t k = 0) → ∃ τ, f_X0_count f σ (nI fr) (nI fc) (nI L) (nI dep) = some (nI (DD L t (19 * fr + fc)), τ) ∧ Ro48 τ t ∧ E48 σ τ := by
  induction f with
  | zero => intro σ t fr fc dep _ _ _ h; omega
  | succ f ih =>
    intro σ t fr fc dep G H h2 hf hd ht hfr hfc hlow
    obtain ⟨κ, k1, k2, k3, k4, k5⟩ := low_eq H h2 (show fr ≤ 52 by omega)
    show ∃ τ, g_X0_count σ (nI fr) (nI fc) (nI L) (nI dep) (f_X0_count f) = some (nI (DD L t (19 * fr + fc)), τ) ∧ Ro48 τ t ∧ E48 σ τ
    unfold g_X0_count
    rw [k3, oJ_inr]
    have c52 : (nI κ < (52 : Int32)) = (κ < 52) := propext (nI_lt' (b := 52) (by omega) (by omega))
    have c4 : (nI dep < (4 : Int32)) = (dep < 4) := propext (nI_lt' (b := 4) (by omega) (by omega))
    simp only [c52, c4]
    by_cases hκ : κ < 52
    · rw [if_pos hκ]
      by_cases hdep : dep < 4
      · rw [if_pos hdep, oLet_eq]
        obtain ⟨x4, hx4⟩ : ∃ x, x = if κ = fr then fc else 0 := ⟨_, rfl⟩
        have ex4 : (if nI κ = nI fr then nI fc else 0) = nI x4 := by
          have : (nI κ = nI fr) = (κ = fr) := propext (nI_eq (by omega) (by omega))
          simp only [this, hx4]
          split <;> rfl
        have hx19 : x4 < 19 := by rw [hx4]; split <;> omega
        rw [ex4]
        have hstart : DD L t (19 * fr + fc) = DD L t (19 * κ + x4) := by
          by_cases e : κ = fr
          · rw [hx4, if_pos e, e]
          · rw [hx4, if_neg e, Nat.add_zero]
            refine DD_low hL h2 (by omega) (by omega) (fun k a b c => ?_)
            by_cases hkf : k < fr
            · exact hlow k hkf
            · exact k4 k (by omega) (by omega)
        have hend : DD L t (19 * κ + 19) = 0 := DD_high hL hκ (by omega) (k5 hκ)
        have hx := oL_ix (body := b_X0_count_58 (nI L) (nI dep) (f_X0_count f) (nI κ)) (N := 19 - x4) (fun m s => ∃ acc, s.1 = nI acc ∧ s.2.1 = nI (x4 + m) ∧ acc + DD L t (19 * κ + (x4 + m)) = DD L t (19 * κ + x4) ∧ Ro48 s.2.2 t ∧ E48 σ s.2.2) (fun r => ∃ τ, r = (nI (DD L t (19 * κ + x4)), τ) ∧ Ro48 τ t ∧ E48 σ τ) ?_ ?_ (n := oFuel) (by have : oFuel = 100000 := rfl; omega) (s := (0, nI x4, σ)) ⟨0, rfl, rfl, by rw [Nat.zero_add]; rfl, H, E48.rf σ⟩
        · obtain ⟨r, h1, τ, h3, h4⟩ := hx
          exact ⟨τ, by rw [h1, h3, hstart], h4⟩
        · rintro m ⟨a1, a2, τ⟩ hm ⟨acc, h1, h3, h4, h5, h6⟩
          dsimp only at h1 h3 h4 h5 h6
          have hc : x4 + m < 19 := by omega
          have c19 : ¬ (19 : Int32) ≤ nI (x4 + m) := fun q => by have := (nI_leI (a := 19) (by omega) (by omega)).mp q; omega
          have e1 : nI (x4 + m) + 1 = nI (x4 + (m + 1)) := nI_1 _
          obtain ⟨b, b1, b2⟩ := fits_eq (G.e h6) h5 h2 hL hκ hc
          have hs := DD_s hL (i := 19 * κ + (x4 + m)) (by omega) h2
          unfold b_X0_count_58
          dsimp only
          rw [h1, h3, if_neg c19, b1, Option.bind_some]
          by_cases hb : b = true
          · obtain ⟨v1, v2⟩ := b2.mp hb
            rw [if_pos ⟨v1, v2⟩] at hs
            rw [hb, if_neg (by decide)]
            have sv1 := (fsv hL (by omega) v1).2.2.2
            have svt := (fsv hL (by omega) v1).2.2.1
            have hle := leV_iff.mp v2
            obtain ⟨υ, t1, t2, t3⟩ := take_eq (p := 1) (q := sbV t (svC (19 * κ + (x4 + m)))) (G.e h6) h5 hL hκ hc v1 (fun j hj => by
              have a := sv1 j hj
              have b := hle j hj
              by_cases e : svC (19 * κ + (x4 + m)) j = 1
              · rw [if_pos e, show (1 : Int32) = nI 1 from rfl, nI_mul, nI_sub (by omega)]
                unfold sbV
                rw [e]
              · rw [if_neg e, show (1 : Int32) * 0 = 0 from rfl, Int32.sub_zero]
                unfold sbV
                congr 1
                omega)
            rw [t1, oB_some]
            have htot := tot_sb v2
            have hlow2 : ∀ j, j < κ → sbV t (svC (19 * κ + (x4 + m))) j = 0 := fun j hj => by
              unfold sbV
              have : t j = 0 := by
                by_cases q : j < fr
                · exact hlow j q
                · exact k4 j (by omega) hj
              omega
            obtain ⟨ω, r1, r2, r3⟩ := ih υ (sbV t (svC (19 * κ + (x4 + m)))) κ (x4 + m) (dep + 1) ((G.e h6).e t3) t2 (sbV_le h2) (by omega) (by omega) (by omega) hκ hc hlow2
            rw [show nI dep + 1 = nI (dep + 1) from nI_1 dep, r1, oB_some]
            obtain ⟨ψ, p1, p2, p3⟩ := take_eq (p := -1) (q := t) (((G.e h6).e t3).e r3) r2 hL hκ hc v1 (fun j hj => by
              have a := sv1 j hj
              have b := hle j hj
              by_cases e : svC (19 * κ + (x4 + m)) j = 1
              · rw [if_pos e, Int32.mul_one]
                unfold sbV
                rw [e, show (-1 : Int32) = iI (-1) from rfl, ← iI_nat, iI_sub, ← iI_nat]
                congr 1
                omega
              · rw [if_neg e, Int32.mul_zero, Int32.sub_zero]
                unfold sbV
                congr 1
                omega)
            rw [p1, oB_some, e1, nI_add]
            refine ⟨_, rfl, _, rfl, rfl, ?_, p2, ((h6.tr t3).tr r3).tr p3⟩
            rw [show 19 * κ + (x4 + (m + 1)) = 19 * κ + (x4 + m) + 1 by omega]
            omega
          · have hb' : b = false := Bool.eq_false_iff.mpr hb
            rw [if_neg (fun q => hb (b2.mpr q))] at hs
            rw [hb', if_pos (show b2i false = 0 from rfl), e1]
            refine ⟨_, rfl, acc, rfl, rfl, ?_, h5, h6⟩
            rw [show 19 * κ + (x4 + (m + 1)) = 19 * κ + (x4 + m) + 1 by omega]
            omega
        · rintro ⟨a1, a2, τ⟩ ⟨acc, h1, h3, h4, h5, h6⟩
          dsimp only at h1 h3 h4 h5 h6
          rw [show x4 + (19 - x4) = 19 by omega] at h3 h4
          refine ⟨(nI acc, τ), ?_, τ, ?_, h5, h6⟩
          · unfold b_X0_count_58
            dsimp only
            rw [h3, if_pos (by decide), h1]
          · rw [hend] at h4
            rw [← h4]
            rfl
      · rw [if_neg hdep]
        refine ⟨σ, ?_, H, E48.rf σ⟩
        rw [DD_few hL (by omega) ⟨κ, hκ, k5 hκ⟩]
        rfl
    · rw [if_neg hκ]
      refine ⟨σ, ?_, H, E48.rf σ⟩
      rw [DD_zero hL (fun k hk => by
        by_cases q : k < fr
        · exact hlow k q
        · exact k4 k (by omega) (by omega))]
      rfl
/-- counts stay small -/
theorem low_of {t : Nat → Nat} (hne : ∃ k, k < 52 ∧ t k ≠ 0) : ∃ κ, κ < 52 ∧ t κ ≠ 0 ∧ ∀ k, k < κ → t k = 0 := by
  rcases first_diff t (fun _ => 0) 52 with h | ⟨k, h1, h2, h3⟩
  · obtain ⟨k, hk, hz⟩ := hne
    exact absurd (h k hk) hz
  · exact ⟨k, h1, h3, h2⟩
theorem DD_le {L : Nat} (hL : L = 3 ∨ L = 4) (d : Nat) : ∀ (t : Nat → Nat) (i : Nat), (∀ k, k < 52 → t k ≤ 2) → tot t ≤ 3 * d + 2 → i < 988 → DD L t i ≤ 19 ^ d := by
  induction d with
  | zero =>
    intro t i h2 ht hi
    rw [Nat.pow_zero]
    by_cases h : ∀ k, k < 52 → t k = 0
    · rw [DD_zero hL h]; exact Nat.le_refl _
    · rw [DD_few hL (by omega) (by
        apply Classical.byContradiction
        intro q
        exact h fun k hk => Classical.byContradiction fun z => q ⟨k, hk, z⟩)]
      exact Nat.zero_le _
  | succ d ih =>
    intro t i h2 ht hi
    by_cases h : ∀ k, k < 52 → t k = 0
    · rw [DD_zero hL h]
      exact Nat.one_le_pow _ _ (by decide)
    · have hne : ∃ k, k < 52 ∧ t k ≠ 0 := Classical.byContradiction fun q => h fun k hk => Classical.byContradiction fun z => q ⟨k, hk, z⟩
      obtain ⟨κ, k1, k2, k3⟩ := low_of hne
      have key : ∀ m j, j + m = 19 * (κ + 1) → DD L t j ≤ m * 19 ^ d := by
        intro m
        induction m with
        | zero =>
          intro j hj
          rw [DD_high hL k1 (by omega) k2]
          exact Nat.zero_le _
        | succ m ihm =>
          intro j hj
          rw [DD_s hL (by omega) h2, Nat.add_mul, Nat.one_mul]
          have a := ihm (j + 1) (by omega)
          have b : (if vlC L j = true ∧ leV (svC j) t = true then DD L (sbV t (svC j)) j else 0) ≤ 19 ^ d := by
            split
            · rename_i q
              have := (fsv hL (by omega) q.1).2.2.1
              have := tot_sb q.2
              exact ih _ j (sbV_le h2) (by omega) (by omega)
            · exact Nat.zero_le _
          omega
      rw [Nat.pow_succ, Nat.mul_comm]
      by_cases q1 : 19 * (κ + 1) ≤ i
      · rw [DD_high hL k1 q1 k2]; exact Nat.zero_le _
      · by_cases q2 : 19 * κ ≤ i
        · exact Nat.le_trans (key (19 * (κ + 1) - i) i (by omega)) (Nat.mul_le_mul_right _ (by omega))
        · rw [DD_low hL h2 (j := 19 * κ) (by omega) (by omega) (fun k a b c => k3 k (by omega))]
          exact Nat.le_trans (key 19 (19 * κ) (by omega)) (Nat.le_refl _)
