/-! the reference: undone, worth -/
theorem ad0 (x : Int32) : x + 0 = x := Int32.add_zero x
theorem undoes_eq {σ : rS} {p : Nat} {B : Bd} {d : Nat × Nat} (v : vaB p B d) (o : OkT B) (H : MbR σ (apB p B d)) (h24 : rI σ 67 24 = nI p) : ∃ τ, f_X11_undoes σ = some (nI d.2, τ) ∧ MbR τ B ∧ FrX WB σ τ := by
  obtain ⟨h, k⟩ := d
  obtain ⟨hk, hp, hl, v⟩ := v
  have hk : k < 52 := hk
  have hD := apB_D p B (h, k)
  have hF := o.2.2
  have e30 : rI σ 67 30 = nI ((bD B).length + 1) := by
    rw [H.2.2.2.2.1.1, hD, List.length_append]; rfl
  have et := H.2.2.2.2.1.2 (bD B).length (h, k) (by rw [hD, List.getElem?_append_right (Nat.le_refl _), Nat.sub_self]; rfl)
  have H1 := MbQ_D H (bD B) [(h, k)] hD
  obtain ⟨σ1, d1⟩ : ∃ z, z = wI σ 67 30 (nI (bD B).length) := ⟨_, rfl⟩
  rw [← d1] at H1
  have F1 : FrX WB σ σ1 := by rw [d1]; exact FrX.w σ _ (by omega)
  have p1 : rI σ1 67 24 = nI p := by rw [d1, fld_eq, if_neg (by omega), h24]
  have e83 : rI σ1 83 (bD B).length = nI (thS h) := by rw [d1, fld_eq, if_neg (by omega)]; exact et.1
  have e84 : rI σ1 84 (bD B).length = nI k := by rw [d1, fld_eq, if_neg (by omega)]; exact et.2
  unfold f_X11_undoes
  rw [e30, nI_s1 (by omega), Nat.add_sub_cancel, oLet_eq, ← d1, H1.2.2.2.2.1.1, if_pos (inB_nI (by decide) (by omega)), nI_clamp (by omega), e83, oLet_eq, e84, oLet_eq]
  rcases v with ⟨e, v1, v2⟩ | ⟨e, v0, v1, v2⟩ | ⟨e, v1, v2⟩ | ⟨e, v1, v2⟩
  · have e : h = 0 := e
    subst e
    have v1 : 1 ≤ bR B (53 * p + k) := v1
    rw [apB_0] at H1
    have H1 : MbQ σ1 (bP B) (up1 (bR B) (53 * p + k) (bR B (53 * p + k) - 1)) (up1 (bT B) k (bT B k + 1)) (bJ B) (bD B) (bF B) (bX B) := H1
    have a0 : up1 (bT B) k (bT B k + 1) k = bT B k + 1 := by rw [up1_at, if_pos rfl]
    have g0 : up1 (bR B) (53 * p + k) (bR B (53 * p + k) - 1) (53 * p + k) = bR B (53 * p + k) - 1 := by rw [up1_at, if_pos rfl]
    have H2 := MbQ_T H1 k (bT B k)
    obtain ⟨σ2, d2⟩ : ∃ z, z = wI σ1 80 k (nI (bT B k)) := ⟨_, rfl⟩
    rw [← d2] at H2
    have p2 : rI σ2 67 24 = nI p := by rw [d2, fld_eq, if_neg (by omega), p1]
    have H3 := MbQ_R H2 (53 * p + k) (bR B (53 * p + k))
    obtain ⟨σ3, d3⟩ : ∃ z, z = wI σ2 79 (53 * p + k) (nI (bR B (53 * p + k))) := ⟨_, rfl⟩
    rw [← d3] at H3
    have H4 := MbQ_F H3 (bF B)
    obtain ⟨σ4, d4⟩ : ∃ z, z = wI σ3 67 22 (nI (bF B)) := ⟨_, rfl⟩
    rw [← d4] at H4
    have H5 := MbQ_J H4 k (bJ B k)
    obtain ⟨σ5, d5⟩ : ∃ z, z = wI σ4 81 k (nI (bJ B k)) := ⟨_, rfl⟩
    rw [← d5] at H5
    refine ⟨σ5, ?_, MbQ_cg H5 (fun _ _ => rfl) (fun i _ => up1_back (bR B) rfl i) (fun i _ => up1_back (bT B) rfl i) (fun i _ => by rw [up1_at]; split <;> simp_all) rfl rfl rfl, ?_⟩
    · rw [if_pos (by decide), if_pos (inB_nI (by decide) hk), nI_clamp (by omega), H1.2.2.1 k hk, a0, nI_s1 (by omega), Nat.add_sub_cancel, oLet_eq, ← d2, p2, i53, if_pos (inB_nI (by decide) (by omega)), nI_clamp (by omega), H2.2.1 _ (by omega), g0, nI_1, Nat.sub_add_cancel v1, oLet_eq, ← d3, oJ_inr, if_neg (by decide), oJ_inr, if_neg (by decide), oJ_inr, if_neg (show ¬ nI (thS 0) = 4 by decide), if_neg (show ¬ nI (thS 0) = 3 by decide), ad0, H3.2.2.2.2.2.1, oLet_eq, ← d4, if_pos (inB_nI (by decide) hk), if_neg (show ¬ nI (thS 0) = 3 by decide), ad0, H4.2.2.2.1 k hk, oLet_eq, ← d5]
    · refine F1.tr ?_
      rw [d5, d4, d3, d2]
      exact (((FrX.w _ _ (by omega)).tr (FrX.w _ _ (by omega))).tr (FrX.w _ _ (by omega))).tr (FrX.w _ _ (by omega))
  · have e : h = 1 := e
    subst e
    have v1 : 1 ≤ bR B (53 * p + 52) := v1
    rw [apB_1] at H1
    have H1 : MbQ σ1 (bP B) (up1 (bR B) (53 * p + 52) (bR B (53 * p + 52) - 1)) (bT B) (up1 (bJ B) k (bJ B k + 1)) (bD B) (bF B) (bX B) := H1
    have a0 : up1 (bJ B) k (bJ B k + 1) k = bJ B k + 1 := by rw [up1_at, if_pos rfl]
    have g0 : up1 (bR B) (53 * p + 52) (bR B (53 * p + 52) - 1) (53 * p + 52) = bR B (53 * p + 52) - 1 := by rw [up1_at, if_pos rfl]
    have H2 := MbQ_J H1 k (bJ B k)
    obtain ⟨σ2, d2⟩ : ∃ z, z = wI σ1 81 k (nI (bJ B k)) := ⟨_, rfl⟩
    rw [← d2] at H2
    have p2 : rI σ2 67 24 = nI p := by rw [d2, fld_eq, if_neg (by omega), p1]
    have H3 := MbQ_R H2 (53 * p + 52) (bR B (53 * p + 52))
    obtain ⟨σ3, d3⟩ : ∃ z, z = wI σ2 79 (53 * p + 52) (nI (bR B (53 * p + 52))) := ⟨_, rfl⟩
    rw [← d3] at H3
    have H4 := MbQ_F H3 (bF B)
    obtain ⟨σ4, d4⟩ : ∃ z, z = wI σ3 67 22 (nI (bF B)) := ⟨_, rfl⟩
    rw [← d4] at H4
    have H5 := MbQ_J H4 k (bJ B k)
    obtain ⟨σ5, d5⟩ : ∃ z, z = wI σ4 81 k (nI (bJ B k)) := ⟨_, rfl⟩
    rw [← d5] at H5
    have b0 : up1 (up1 (bJ B) k (bJ B k + 1)) k (bJ B k) k = bJ B k := by rw [up1_at, if_pos rfl]
    have i52 : 53 * nI p + 52 = nI (53 * p + 52) := i53 p 52
    refine ⟨σ5, ?_, MbQ_cg H5 (fun _ _ => rfl) (fun i _ => up1_back (bR B) rfl i) (fun i _ => rfl) (fun i _ => by rw [up1_at, up1_back (bJ B) rfl]; split <;> simp_all) rfl rfl rfl, ?_⟩
    · rw [if_neg (by decide), oJ_inr, if_pos (by decide), if_pos (inB_nI (by decide) hk), nI_clamp (by omega), H1.2.2.2.1 k hk, a0, nI_s1 (by omega), Nat.add_sub_cancel, oLet_eq, ← d2, oJ_inr, if_pos (show nI (thS 1) = 2 by decide), p2, i52, if_pos (inB_nI (by decide) (by omega)), nI_clamp (by omega), H2.2.1 _ (by omega), g0, nI_1, Nat.sub_add_cancel v1, oLet_eq, ← d3, oJ_inr, if_neg (show ¬ nI (thS 1) = 4 by decide), if_neg (show ¬ nI (thS 1) = 3 by decide), ad0, H3.2.2.2.2.2.1, oLet_eq, ← d4, if_neg (show ¬ nI (thS 1) = 3 by decide), ad0, H4.2.2.2.1 k hk, b0, oLet_eq, ← d5, if_pos (inB_nI (by decide) (show k < 52 from hk))]
    · refine F1.tr ?_
      rw [d5, d4, d3, d2]
      exact (((FrX.w _ _ (by omega)).tr (FrX.w _ _ (by omega))).tr (FrX.w _ _ (by omega))).tr (FrX.w _ _ (by omega))
  · have e : h = 2 := e
    subst e
    have v1 : 1 ≤ bF B := v1
    rw [apB_2] at H1
    have H1 : MbQ σ1 (bP B) (bR B) (bT B) (up1 (bJ B) k (bJ B k + 1)) (bD B) (bF B - 1) (bX B) := H1
    have a0 : up1 (bJ B) k (bJ B k + 1) k = bJ B k + 1 := by rw [up1_at, if_pos rfl]
    have H2 := MbQ_J H1 k (bJ B k)
    obtain ⟨σ2, d2⟩ : ∃ z, z = wI σ1 81 k (nI (bJ B k)) := ⟨_, rfl⟩
    rw [← d2] at H2
    have H4 := MbQ_F H2 (bF B)
    obtain ⟨σ4, d4⟩ : ∃ z, z = wI σ2 67 22 (nI (bF B)) := ⟨_, rfl⟩
    rw [← d4] at H4
    have H5 := MbQ_J H4 k (bJ B k)
    obtain ⟨σ5, d5⟩ : ∃ z, z = wI σ4 81 k (nI (bJ B k)) := ⟨_, rfl⟩
    rw [← d5] at H5
    have b0 : up1 (up1 (bJ B) k (bJ B k + 1)) k (bJ B k) k = bJ B k := by rw [up1_at, if_pos rfl]
    refine ⟨σ5, ?_, MbQ_cg H5 (fun _ _ => rfl) (fun i _ => rfl) (fun i _ => rfl) (fun i _ => by rw [up1_at, up1_back (bJ B) rfl]; split <;> simp_all) rfl rfl rfl, ?_⟩
    · rw [if_neg (by decide), oJ_inr, if_pos (by decide), if_pos (inB_nI (by decide) hk), nI_clamp (by omega), H1.2.2.2.1 k hk, a0, nI_s1 (by omega), Nat.add_sub_cancel, oLet_eq, ← d2, oJ_inr, if_neg (show ¬ nI (thS 2) = 2 by decide), oJ_inr, if_pos (show nI (thS 2) = 4 by decide), H2.2.2.2.2.2.1, nI_1, Nat.sub_add_cancel v1, oLet_eq, ← d4, if_neg (show ¬ nI (thS 2) = 3 by decide), ad0, H4.2.2.2.1 k hk, b0, oLet_eq, ← d5, if_pos (inB_nI (by decide) (show k < 52 from hk))]
    · refine F1.tr ?_
      rw [d5, d4, d2]
      exact ((FrX.w _ _ (by omega)).tr (FrX.w _ _ (by omega))).tr (FrX.w _ _ (by omega))
  · have e : h = 3 := e
    subst e
    have v1 : 1 ≤ bR B (53 * p + k) := v1
    have v2 : 1 ≤ bJ B k := v2
    rw [apB_3] at H1
    have H1 : MbQ σ1 (bP B) (up1 (bR B) (53 * p + k) (bR B (53 * p + k) - 1)) (up1 (bT B) k (bT B k + 1)) (up1 (bJ B) k (bJ B k - 1)) (bD B) (bF B + 1) (bX B) := H1
    have a0 : up1 (bT B) k (bT B k + 1) k = bT B k + 1 := by rw [up1_at, if_pos rfl]
    have j0 : up1 (bJ B) k (bJ B k - 1) k = bJ B k - 1 := by rw [up1_at, if_pos rfl]
    have g0 : up1 (bR B) (53 * p + k) (bR B (53 * p + k) - 1) (53 * p + k) = bR B (53 * p + k) - 1 := by rw [up1_at, if_pos rfl]
    have H2 := MbQ_T H1 k (bT B k)
    obtain ⟨σ2, d2⟩ : ∃ z, z = wI σ1 80 k (nI (bT B k)) := ⟨_, rfl⟩
    rw [← d2] at H2
    have p2 : rI σ2 67 24 = nI p := by rw [d2, fld_eq, if_neg (by omega), p1]
    have H3 := MbQ_R H2 (53 * p + k) (bR B (53 * p + k))
    obtain ⟨σ3, d3⟩ : ∃ z, z = wI σ2 79 (53 * p + k) (nI (bR B (53 * p + k))) := ⟨_, rfl⟩
    rw [← d3] at H3
    have H4 := MbQ_F H3 (bF B)
    obtain ⟨σ4, d4⟩ : ∃ z, z = wI σ3 67 22 (nI (bF B)) := ⟨_, rfl⟩
    rw [← d4] at H4
    have H5 := MbQ_J H4 k (bJ B k)
    obtain ⟨σ5, d5⟩ : ∃ z, z = wI σ4 81 k (nI (bJ B k)) := ⟨_, rfl⟩
    rw [← d5] at H5
    refine ⟨σ5, ?_, MbQ_cg H5 (fun _ _ => rfl) (fun i _ => up1_back (bR B) rfl i) (fun i _ => up1_back (bT B) rfl i) (fun i _ => up1_back (bJ B) rfl i) rfl rfl rfl, ?_⟩
    · rw [if_pos (by decide), if_pos (inB_nI (by decide) hk), nI_clamp (by omega), H1.2.2.1 k hk, a0, nI_s1 (by omega), Nat.add_sub_cancel, oLet_eq, ← d2, p2, i53, if_pos (inB_nI (by decide) (by omega)), nI_clamp (by omega), H2.2.1 _ (by omega), g0, nI_1, Nat.sub_add_cancel v1, oLet_eq, ← d3, oJ_inr, if_neg (by decide), oJ_inr, if_neg (by decide), oJ_inr, if_neg (show ¬ nI (thS 3) = 4 by decide), if_pos (show nI (thS 3) = 3 by decide), H3.2.2.2.2.2.1, nI_m1 (by omega), Nat.add_sub_cancel, oLet_eq, ← d4, if_pos (inB_nI (by decide) hk), if_pos (show nI (thS 3) = 3 by decide), H4.2.2.2.1 k hk, j0, nI_1, Nat.sub_add_cancel v2, oLet_eq, ← d5]
    · refine F1.tr ?_
      rw [d5, d4, d3, d2]
      exact (((FrX.w _ _ (by omega)).tr (FrX.w _ _ (by omega))).tr (FrX.w _ _ (by omega))).tr (FrX.w _ _ (by omega))
theorem mworthOf_eq {σ : rS} {p : Nat} {B : Bd} (H : MbR σ B) (hp : p < 4) : f_X11_worthOf σ (nI p) = some (nI (woB (bR B) p)) := by
  obtain ⟨r, a1, a2⟩ := oL_ix (body := b_X11_worthOf_18 σ (nI p)) (fun k s => s = (nI (30 * bR B (53 * p + 52) + natSum (fun k => (k % 13 + 1) * bR B (53 * p + k)) k), nI k)) (N := 52) (fun r => r = nI (woB (bR B) p)) (by
      intro k s hk e
      subst e
      refine ⟨_, ?_, rfl⟩
      unfold b_X11_worthOf_18
      dsimp only
      rw [if_neg (show ¬ (52 : Int32) ≤ nI k from fun z => by have := (nI_leI (a := 52) (by omega) (by omega)).mp z; omega), i53, if_pos (inB_nI (by decide) (by omega)), nI_clamp (by omega), H.2.1 _ (by omega), show (13 : Int32) = nI 13 from rfl, nI_rem (by omega) (by omega), nI_1, nI_mul, oLet_eq, nI_add, nI_1]
      simp only [natSum]
      rw [Nat.add_assoc, Nat.mul_comm (bR B _) (k % 13 + 1)])
    (by
      intro s e
      subst e
      exact ⟨nI (woB (bR B) p), by unfold b_X11_worthOf_18; rw [if_pos (show (52 : Int32) ≤ nI 52 by decide)]; rfl, rfl⟩)
    (n := oFuel) (by rw [oFuel_eq]; decide) (s := (nI (30 * bR B (53 * p + 52)), 0)) rfl
  subst a2
  unfold f_X11_worthOf
  rw [show (52 : Int32) = nI 52 from rfl, i53, if_pos (inB_nI (by decide) (by omega)), nI_clamp (by omega), H.2.1 _ (by omega), show (30 : Int32) = nI 30 from rfl, nI_mul, oLet_eq]
  exact a1
