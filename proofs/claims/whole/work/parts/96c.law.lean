/-! the law's loop -/
def LwOk (t : Nat) (σ : rS) (i : Int32) (x : Option ((Int32 × rS) ⊕ (Int32 × rS))) : Prop := ∃ υ, x = some (.inr (i + 6, υ)) ∧ Fr2 σ υ ∧ GI (t + 1) υ
theorem lw_ite {t : Nat} {σ : rS} {i : Int32} {c : Prop} [Decidable c] {A B : Option ((Int32 × rS) ⊕ (Int32 × rS))} (h1 : c → LwOk t σ i A) (h2 : ¬ c → LwOk t σ i B) : LwOk t σ i (if c then A else B) := by
  by_cases h : c
  · rw [if_pos h]; exact h1 h
  · rw [if_neg h]; exact h2 h
theorem lw_in {t : Nat} {σ : rS} {i : Int32} {c : Prop} [Decidable c] {A : Option ((Int32 × rS) ⊕ (Int32 × rS))} (h : c) (h1 : LwOk t σ i A) : LwOk t σ i (if c then A else none) := by
  rw [if_pos h]; exact h1
def lwT (v w : Int32) (σ2 : rS) (i : Int32) : Option ((Int32 × rS) ⊕ (Int32 × rS)) := if (v_X11_thrown σ2) = v then (if (if v = 0 then (if (lg_cmp (rL σ2 114 (0 : Int32).toNatClampNeg) (((w : Int32)).toInt64)) = 0 then true else false) else true) = true then (some (.inr ((i + 6, σ2)))) else (some (.inl ((0, σ2))))) else (some (.inl ((0, σ2))))
def lwB (v w : Int32) (σ2 : rS) (i : Int32) : Option ((Int32 × rS) ⊕ (Int32 × rS)) := if (v_X11_thrown σ2) = v then (if v = 0 then (if (lg_cmp (rL σ2 114 (0 : Int32).toNatClampNeg) ((if w = 0 then (0 : Int64) else (1 : Int64) : Int64))) = 0 then (some (.inr ((i + 6, σ2)))) else (some (.inl ((0, σ2))))) else (some (.inr ((i + 6, σ2))))) else (some (.inl ((0, σ2))))
def lwD (v w : Int32) (σ2 : rS) (i : Int32) : Option ((Int32 × rS) ⊕ (Int32 × rS)) := if v = w then (some (.inr ((i + 6, σ2)))) else (some (.inl ((0, σ2))))
theorem Fr3.all {σ τ υ : rS} (f : Fr3 σ τ υ) : Fr2 σ υ := ⟨f.2.1.trans f.1.1, fun j => (f.2.2 j).trans (f.1.2 j)⟩
theorem lw_step {t : Nat} {σ : rS} {i : Int32} {fL fR : rS → Option (Int32 × rS)} {F : Int32 → rS → Option ((Int32 × rS) ⊕ (Int32 × rS))} (Q : GStep t fL fR σ) (hF : ∀ v σ1 w σ2, Fr2 σ σ1 → fR σ1 = some (w, σ2) → F v σ1 = lwT v w σ2 i) : LwOk t σ i (oB (fL σ) F) := by
  obtain ⟨v, σ1, w, σ2, a1, a2, a3, a4, a5, a6⟩ := Q
  refine ⟨σ2, ?_, a5.all, a6⟩
  rw [a1, oB_some, hF v σ1 w σ2 a5.1 a2]
  unfold lwT
  rw [if_pos (show v_X11_thrown σ2 = v from a3)]
  by_cases h : v = 0
  · rw [if_pos h, if_pos (show lg_cmp (rL σ2 114 (0 : Int32).toNatClampNeg) w.toInt64 = 0 from (lg_0 _ _).mpr (a4 h)), if_pos rfl]
  · rw [if_neg h, if_pos rfl]
theorem lw_stepB {t : Nat} {σ : rS} {i : Int32} {fL fR : rS → Option (Int32 × rS)} {F : Int32 → rS → Option ((Int32 × rS) ⊕ (Int32 × rS))} (Q : GStep t fL fR σ) (h01 : ∀ τ w υ, fR τ = some (w, υ) → w = 0 ∨ w = 1) (hF : ∀ v σ1 w σ2, Fr2 σ σ1 → fR σ1 = some (w, σ2) → F v σ1 = lwB v w σ2 i) : LwOk t σ i (oB (fL σ) F) := by
  obtain ⟨v, σ1, w, σ2, a1, a2, a3, a4, a5, a6⟩ := Q
  refine ⟨σ2, ?_, a5.all, a6⟩
  rw [a1, oB_some, hF v σ1 w σ2 a5.1 a2]
  unfold lwB
  rw [if_pos (show v_X11_thrown σ2 = v from a3)]
  by_cases h : v = 0
  · have e : (if w = 0 then (0 : Int64) else (1 : Int64)) = w.toInt64 := by
      rcases h01 _ _ _ a2 with e | e <;> rw [e] <;> rfl
    rw [if_pos h, e, if_pos (show lg_cmp (rL σ2 114 (0 : Int32).toNatClampNeg) w.toInt64 = 0 from (lg_0 _ _).mpr (a4 h))]
  · rw [if_neg h]
theorem lw_stepD {t : Nat} {σ : rS} {i : Int32} {fL fR : rS → Option (Int32 × rS)} {F : Int32 → rS → Option ((Int32 × rS) ⊕ (Int32 × rS))} (Q : GDStep t fL fR σ) (hF : ∀ v σ1 w σ2, Fr2 σ σ1 → fR σ1 = some (w, σ2) → F v σ1 = lwD v w σ2 i) : LwOk t σ i (oB (fL σ) F) := by
  obtain ⟨v, σ1, σ2, a1, a2, a5, a6⟩ := Q
  refine ⟨σ2, ?_, a5.all, a6⟩
  rw [a1, oB_some, hF v σ1 v σ2 a5.1 a2]
  unfold lwD
  rw [if_pos rfl]
theorem alone_01 (p : Int32) (τ : rS) (w : Int32) (υ : rS) (h : f_X11_alone τ p = some (w, υ)) : w = 0 ∨ w = 1 := by
  unfold f_X11_alone at h
  generalize (if v_X11_isKind τ p = 0 then 1 else 0 : Int32) = c at h
  unfold f_X11_holds at h
  rw [oLet_eq, oB_some] at h
  generalize (if c ≤ 0 then 0 else 1 : Int32) = d at h
  split at h
  · cases e : f_X11_isAlone (wI τ 67 0 c) p with
    | none => rw [e] at h; cases h
    | some r =>
      obtain ⟨v, σ4⟩ := r
      rw [e, oB_some] at h
      split at h
      · cases h; assumption
      · cases h
  · cases h; exact Or.inl rfl
theorem passed_01 (p k : Int32) (τ : rS) (w : Int32) (υ : rS) (h : f_X11_passed τ p k = some (w, υ)) : w = 0 ∨ w = 1 := by
  unfold f_X11_passed at h
  generalize (if v_X11_isPlayer τ p = 0 then 1 else (if v_X11_isKind τ k = 0 then 2 else 0) : Int32) = c at h
  unfold f_X11_holds at h
  rw [oLet_eq, oB_some] at h
  generalize (if c ≤ 0 then 0 else 1 : Int32) = d at h
  split at h
  · split at h
    · cases h
      split
      · exact Or.inr rfl
      · exact Or.inl rfl
    · cases h
  · cases h; exact Or.inl rfl
theorem GI_s {t : Nat} {σ : rS} (G : GI t σ) : GI (t + 1) σ := by
  obtain ⟨B, E, dl, m, l, ch, B0, D, hh, L, jk, ml, pn, n, wr, C, M, K, hc, S⟩ := G
  exact ⟨B, E, dl, m, l, ch, B0, D, hh, L, jk, ml, pn, n, wr, C, M, K, by omega, GmS_s S⟩
theorem law_step {t L : Nat} {σ : rS} {i : Int32} (G : GI t σ) (ht : t ≤ 512) (hk : (rK σ 2).2 = L) (H0 : inB i L) (H1 : inB (i + 1) L) (H2 : inB (i + 2) L) (H3 : inB (i + 3) L) (H4 : inB (i + 4) L) (H5 : inB (i + 5) L) (he : ¬ nI L - 6 < i) : LwOk t σ i (b_L_law (i, σ)) := by
  unfold b_L_law
  dsimp only
  subst hk
  rw [if_neg he, if_pos H0, oLet_eq]
  generalize rI σ 2 i.toNatClampNeg &&& 63 = x
  refine lw_ite (fun _ => lw_in H1 (lw_in H2 (lw_in H3 (lw_in H4 (lw_in H5 (lw_step (g_rules G ht _ _ _ _ _) (fun v σ1 w σ2 f a => by simp only [f.1, f.2, if_pos H1, if_pos H2, if_pos H3, if_pos H4, if_pos H5]; rw [a, oB_some]; rfl))))))) (fun _ => ?_)
  refine lw_ite (fun _ => lw_in H1 (lw_in H2 (lw_step (g_player G _ _) (fun v σ1 w σ2 f a => by simp only [f.1, f.2, if_pos H1, if_pos H2]; rw [a, oB_some]; rfl)))) (fun _ => ?_)
  refine lw_ite (fun _ => lw_in H1 (lw_in H2 (lw_in H3 (lw_step (g_deal G ht _ _ _) (fun v σ1 w σ2 f a => by simp only [f.1, f.2, if_pos H1, if_pos H2, if_pos H3]; rw [a, oB_some]; rfl))))) (fun _ => ?_)
  refine lw_ite (fun _ => lw_in H1 (lw_step (g_lay G ht _) (fun v σ1 w σ2 f a => by simp only [f.1, f.2, if_pos H1]; rw [a, oB_some]; rfl))) (fun _ => ?_)
  refine lw_ite (fun _ => lw_in H1 (lw_step (g_joker G ht _) (fun v σ1 w σ2 f a => by simp only [f.1, f.2, if_pos H1]; rw [a, oB_some]; rfl))) (fun _ => ?_)
  refine lw_ite (fun _ => lw_in H1 (lw_step (g_swap G ht _) (fun v σ1 w σ2 f a => by simp only [f.1, f.2, if_pos H1]; rw [a, oB_some]; rfl))) (fun _ => ?_)
  refine lw_ite (fun _ => lw_step (g_back G ht) (fun v σ1 w σ2 f a => by rw [a, oB_some]; rfl)) (fun _ => ?_)
  refine lw_ite (fun _ => lw_step (g_end G ht) (fun v σ1 w σ2 f a => by rw [a, oB_some]; rfl)) (fun _ => ?_)
  refine lw_ite (fun _ => lw_step (g_draw G ht) (fun v σ1 w σ2 f a => by rw [a, oB_some]; rfl)) (fun _ => ?_)
  refine lw_ite (fun _ => lw_in H1 (lw_step (g_tick G ht _) (fun v σ1 w σ2 f a => by simp only [f.1, f.2, if_pos H1]; rw [a, oB_some]; rfl))) (fun _ => ?_)
  refine lw_ite (fun _ => lw_step (g_auto G ht) (fun v σ1 w σ2 f a => by rw [a, oB_some]; rfl)) (fun _ => ?_)
  refine lw_ite (fun _ => lw_in H1 (lw_step (g_type G _) (fun v σ1 w σ2 f a => by simp only [f.1, f.2, if_pos H1]; rw [a, oB_some]; rfl))) (fun _ => ?_)
  refine lw_ite (fun _ => lw_stepD (g_wipe G) (fun v σ1 w σ2 f a => by rw [a, oB_some]; rfl)) (fun _ => ?_)
  refine lw_ite (fun _ => lw_step (g_play G ht) (fun v σ1 w σ2 f a => by rw [a, oB_some]; rfl)) (fun _ => ?_)
  refine lw_ite (fun _ => lw_stepD (g_isWhole G ht) (fun v σ1 w σ2 f a => by rw [a, oB_some]; rfl)) (fun _ => ?_)
  refine lw_ite (fun _ => lw_in H1 (lw_step (g_cuts G ht _) (fun v σ1 w σ2 f a => by simp only [f.1, f.2, if_pos H1]; rw [a, oB_some]; rfl))) (fun _ => ?_)
  refine lw_ite (fun _ => lw_step (g_cutsAnew G ht) (fun v σ1 w σ2 f a => by rw [a, oB_some]; rfl)) (fun _ => ?_)
  refine lw_ite (fun _ => lw_in H1 (lw_step (g_states G ht _) (fun v σ1 w σ2 f a => by simp only [f.1, f.2, if_pos H1]; rw [a, oB_some]; rfl))) (fun _ => ?_)
  refine lw_ite (fun _ => lw_in H1 (lw_in H2 (lw_step (g_best G ht _ _) (fun v σ1 w σ2 f a => by simp only [f.1, f.2, if_pos H1, if_pos H2]; rw [a, oB_some]; rfl)))) (fun _ => ?_)
  refine lw_ite (fun _ => lw_in H1 (lw_in H2 (lw_step (g_plan G ht _ _) (fun v σ1 w σ2 f a => by simp only [f.1, f.2, if_pos H1, if_pos H2]; rw [a, oB_some]; rfl)))) (fun _ => ?_)
  refine lw_ite (fun _ => lw_in H1 (lw_stepB (g_alone G ht _) (alone_01 _) (fun v σ1 w σ2 f a => by simp only [f.1, f.2, if_pos H1]; rw [a, oB_some]; rfl))) (fun _ => ?_)
  refine lw_ite (fun _ => lw_in H1 (lw_in H2 (lw_in H3 (lw_step (g_chance G ht _ _ _) (fun v σ1 w σ2 f a => by simp only [f.1, f.2, if_pos H1, if_pos H2, if_pos H3]; rw [a, oB_some]; rfl))))) (fun _ => ?_)
  refine lw_ite (fun _ => lw_in H1 (lw_in H2 (lw_stepB (g_passed G _ _) (passed_01 _ _) (fun v σ1 w σ2 f a => by simp only [f.1, f.2, if_pos H1, if_pos H2]; rw [a, oB_some]; rfl)))) (fun _ => ?_)
  refine lw_ite (fun _ => lw_in H1 (lw_in H2 (lw_in H3 (lw_step (g_claim G _ _ _) (fun v σ1 w σ2 f a => by simp only [f.1, f.2, if_pos H1, if_pos H2, if_pos H3]; rw [a, oB_some]; rfl))))) (fun _ => ?_)
  refine lw_ite (fun _ => ?_) (fun _ => ?_)
  · obtain ⟨v, τ, a1, a2, a3, a4⟩ := g_copies G
    exact ⟨τ, by rw [a1, a2]; show (if lg_cmp v v = 0 then _ else _) = _; rw [if_pos ((lg_0 v v).mpr rfl)], a3, a4⟩
  refine lw_ite (fun _ => lw_in H1 (lw_in H2 (lw_step (g_rackIs G _ _) (fun v σ1 w σ2 f a => by simp only [f.1, f.2, if_pos H1, if_pos H2]; rw [a, oB_some]; rfl)))) (fun _ => ?_)
  refine lw_ite (fun _ => lw_in H1 (lw_in H2 (lw_step (g_tableIs G _ _) (fun v σ1 w σ2 f a => by simp only [f.1, f.2, if_pos H1, if_pos H2]; rw [a, oB_some]; rfl)))) (fun _ => ?_)
  refine lw_ite (fun _ => lw_in H1 (lw_step (g_poolIs G _) (fun v σ1 w σ2 f a => by simp only [f.1, f.2, if_pos H1]; rw [a, oB_some]; rfl))) (fun _ => ?_)
  refine lw_ite (fun _ => lw_in H1 (lw_in H2 (lw_step (g_playerIs G _ _) (fun v σ1 w σ2 f a => by simp only [f.1, f.2, if_pos H1, if_pos H2]; rw [a, oB_some]; rfl)))) (fun _ => ?_)
  refine lw_ite (fun _ => lw_in H1 (lw_step (g_team G _) (fun v σ1 w σ2 f a => by simp only [f.1, f.2, if_pos H1]; rw [a, oB_some]; rfl))) (fun _ => ?_)
  refine lw_ite (fun _ => lw_in H1 (lw_in H2 (lw_step (g_entry G ht _ _) (fun v σ1 w σ2 f a => by simp only [f.1, f.2, if_pos H1, if_pos H2]; rw [a, oB_some]; rfl)))) (fun _ => ?_)
  refine lw_ite (fun _ => lw_stepD (g_isReplayed G ht) (fun v σ1 w σ2 f a => by rw [a, oB_some]; rfl)) (fun _ => ?_)
  refine lw_ite (fun _ => lw_in H1 (lw_step (g_sum G _) (fun v σ1 w σ2 f a => by simp only [f.1, f.2, if_pos H1]; rw [a, oB_some]; rfl))) (fun _ => ?_)
  exact ⟨σ, rfl, ⟨rfl, fun _ => rfl⟩, GI_s G⟩
