/-! the reference: laid, swapped, undone -/
theorem n_m1 {p : Nat} (hp : p < 4) : ¬ nI p = -1 := by
  match p, hp with
  | 0, _ => decide
  | 1, _ => decide
  | 2, _ => decide
  | 3, _ => decide
theorem i53 (p k : Nat) : 53 * nI p + nI k = nI (53 * p + k) := by rw [show (53 : Int32) = nI 53 from rfl, nI_mul, nI_add]
theorem lays_no {σ : rS} {p k : Nat} {B : Bd} (H : MbR σ B) (o : OkT B) (hp : p < 4) (h24 : rI σ 67 24 = nI p) (hk : k < 52) (h : ¬ (1 ≤ bR B (53 * p + k) ∧ bT B k + bJ B k < 2)) : f_X11_lays σ (nI k) = some (0, σ) := by
  unfold f_X11_lays
  have hz := rsz_ge (R := bR B) (p := p) (k := k) (by omega)
  have hr := o.1.2.1 p hp
  have c : (nI (bR B (53 * p + k)) = 0) = (bR B (53 * p + k) = 0) := propext (nI_eq (b := 0) (by omega) (by omega))
  rw [h24, if_neg (n_m1 hp), i53, if_pos (inB_nI (by decide) (by omega)), nI_clamp (by omega), H.2.1 _ (by omega), isFull_eq H o hk]
  simp only [c, Option.bind_some]
  by_cases g : bR B (53 * p + k) = 0
  · rw [if_pos g]
  · rw [if_neg g, if_neg (show ¬ bT B k + bJ B k < 2 by omega), if_neg (by decide)]
theorem lays_yes {σ : rS} {p k : Nat} {B : Bd} {E : List Ent} (H : MbR σ B) (G : MeR σ E) (o : OkT B) (h24 : rI σ 67 24 = nI p) (v : vaB p B (0, k)) (hE : E.length ≤ 20000) : ∃ τ, f_X11_lays σ (nI k) = some (1, τ) ∧ MbR τ (apB p B (0, k)) ∧ MeR τ (E ++ [(1, p, k + 1, 0)]) ∧ FrX WBE σ τ := by
  obtain ⟨hk, hp, hl, v⟩ := v
  have hk : k < 52 := hk
  have v : 1 ≤ bR B (53 * p + k) ∧ bT B k + bJ B k < 2 := by
    rcases v with ⟨-, v⟩ | ⟨e, -⟩ | ⟨e, -⟩ | ⟨e, -⟩
    · exact v
    · exact absurd (show (0 : Nat) = 1 from e) (by decide)
    · exact absurd (show (0 : Nat) = 2 from e) (by decide)
    · exact absurd (show (0 : Nat) = 3 from e) (by decide)
  have hz := rsz_ge (R := bR B) (p := p) (k := k) (by omega)
  have hr := o.1.2.1 p hp
  have c : (nI (bR B (53 * p + k)) = 0) = (bR B (53 * p + k) = 0) := propext (nI_eq (b := 0) (by omega) (by omega))
  have H1 := MbQ_R H (53 * p + k) (bR B (53 * p + k) - 1)
  obtain ⟨σ1, d1⟩ : ∃ z, z = wI σ 79 (53 * p + k) (nI (bR B (53 * p + k) - 1)) := ⟨_, rfl⟩
  rw [← d1] at H1
  have H2 := MbQ_T H1 k (bT B k + 1)
  obtain ⟨σ2, d2⟩ : ∃ z, z = wI σ1 80 k (nI (bT B k + 1)) := ⟨_, rfl⟩
  rw [← d2] at H2
  have F2 : FrX WB σ σ2 := by rw [d2, d1]; exact (FrX.w σ _ (by omega)).tr (FrX.w _ _ (by omega))
  have G2 := MeR_fr G F2 (fun x j a b => by omega)
  have p2 : rI σ2 67 24 = nI p := by rw [F2.2.2.2.2 67 24 (by omega), h24]
  obtain ⟨τ, a1, a2, a3, a4⟩ := thing_eq (h := 0) (k := k) H2 G2 p2 (by omega) hl hE
  refine ⟨τ, ?_, by rw [apB_0]; exact a2, a3, (F2.mono (fun x j w => by omega)).tr a4⟩
  unfold f_X11_lays
  rw [h24, if_neg (n_m1 hp), i53, if_pos (inB_nI (by decide) (by omega)), nI_clamp (by omega), H.2.1 _ (by omega), isFull_eq H o hk]
  simp only [c, Option.bind_some]
  have a1 : f_X11_thing σ2 1 (nI k) = some ((), τ) := a1
  rw [if_neg (show ¬ bR B (53 * p + k) = 0 by omega), if_pos v.2, if_pos rfl, nI_s1 v.1, oLet_eq, ← d1, if_pos (inB_nI (by decide) hk), nI_clamp (by omega), H1.2.2.1 k hk, nI_1, oLet_eq, ← d2, a1, oB_some]
theorem laysJ_no {σ : rS} {p k : Nat} {B : Bd} (H : MbR σ B) (o : OkT B) (hp : p < 4) (h24 : rI σ 67 24 = nI p) (hk : k < 52) (h : ¬ ((bF B = 0 → 1 ≤ bR B (53 * p + 52)) ∧ bT B k + bJ B k < 2)) : f_X11_laysJoker σ (nI k) = some (0, σ) := by
  unfold f_X11_laysJoker
  have hz := rsz_ge (R := bR B) (p := p) (k := 52) (by omega)
  have hr := o.1.2.1 p hp
  have hf := o.2.2
  have c : (nI (bR B (53 * p + 52)) = 0) = (bR B (53 * p + 52) = 0) := propext (nI_eq (b := 0) (by omega) (by omega))
  have c2 : (nI (bF B) = 0) = (bF B = 0) := propext (nI_eq (b := 0) (by omega) (by omega))
  rw [h24, if_neg (n_m1 hp), H.2.2.2.2.2.1, isFull_eq H o hk, show (52 : Int32) = nI 52 from rfl, i53, if_pos (inB_nI (by decide) (by omega)), nI_clamp (by omega), H.2.1 _ (by omega)]
  simp only [c, c2, Option.bind_some]
  by_cases g : bF B = 0
  · rw [if_pos g]
    by_cases g2 : bR B (53 * p + 52) = 0
    · rw [if_pos g2]
    · rw [if_neg g2, if_neg (show ¬ bT B k + bJ B k < 2 by omega), if_neg (by decide)]
  · rw [if_neg g, if_neg (show ¬ bT B k + bJ B k < 2 by omega), if_neg (by decide)]
theorem laysJ_yes {σ : rS} {p k : Nat} {B : Bd} {E : List Ent} (H : MbR σ B) (G : MeR σ E) (o : OkT B) (h24 : rI σ 67 24 = nI p) (v : vaB p B (if bF B = 0 then 1 else 2, k)) (hE : E.length ≤ 20000) : ∃ τ, f_X11_laysJoker σ (nI k) = some (1, τ) ∧ MbR τ (apB p B (if bF B = 0 then 1 else 2, k)) ∧ MeR τ (E ++ [(2, p, k + 1, 0)]) ∧ FrX WBE σ τ := by
  obtain ⟨hk, hp, hl, v⟩ := v
  have hk : k < 52 := hk
  have hz := rsz_ge (R := bR B) (p := p) (k := 52) (by omega)
  have hr := o.1.2.1 p hp
  have hf := o.2.2
  have c : (nI (bR B (53 * p + 52)) = 0) = (bR B (53 * p + 52) = 0) := propext (nI_eq (b := 0) (by omega) (by omega))
  have c2 : (nI (bF B) = 0) = (bF B = 0) := propext (nI_eq (b := 0) (by omega) (by omega))
  have c3 : (nI (bF B) ≤ 0) = (bF B ≤ 0) := propext (nI_leI (b := 0) (by omega) (by omega))
  by_cases h0 : bF B = 0
  · rw [if_pos h0] at v ⊢
    have v : 1 ≤ bR B (53 * p + 52) ∧ bT B k + bJ B k < 2 := by
      rcases v with ⟨e, -⟩ | ⟨-, -, v⟩ | ⟨e, -⟩ | ⟨e, -⟩
      · exact absurd (show (1 : Nat) = 0 from e) (by decide)
      · exact v
      · exact absurd (show (1 : Nat) = 2 from e) (by decide)
      · exact absurd (show (1 : Nat) = 3 from e) (by decide)
    have H1 := MbQ_R H (53 * p + 52) (bR B (53 * p + 52) - 1)
    obtain ⟨σ1, d1⟩ : ∃ z, z = wI σ 79 (53 * p + 52) (nI (bR B (53 * p + 52) - 1)) := ⟨_, rfl⟩
    rw [← d1] at H1
    have H2 := MbQ_J H1 k (bJ B k + 1)
    obtain ⟨σ2, d2⟩ : ∃ z, z = wI σ1 81 k (nI (bJ B k + 1)) := ⟨_, rfl⟩
    rw [← d2] at H2
    have F2 : FrX WB σ σ2 := by rw [d2, d1]; exact (FrX.w σ _ (by omega)).tr (FrX.w _ _ (by omega))
    have G2 := MeR_fr G F2 (fun x j a b => by omega)
    have p2 : rI σ2 67 24 = nI p := by rw [F2.2.2.2.2 67 24 (by omega), h24]
    obtain ⟨τ, a1, a2, a3, a4⟩ := thing_eq (h := 1) (k := k) H2 G2 p2 (by omega) hl hE
    refine ⟨τ, ?_, by rw [apB_1]; exact a2, a3, (F2.mono (fun x j w => by omega)).tr a4⟩
    unfold f_X11_laysJoker
    rw [h24, if_neg (n_m1 hp), H.2.2.2.2.2.1, isFull_eq H o hk, show (52 : Int32) = nI 52 from rfl, i53, if_pos (inB_nI (by decide) (by omega)), nI_clamp (by omega), H.2.1 _ (by omega)]
    simp only [c, c2, c3, Option.bind_some]
    have a1 : f_X11_thing σ2 2 (nI k) = some ((), τ) := a1
    rw [if_pos h0, if_neg (show ¬ bR B (53 * p + 52) = 0 by omega), if_pos v.2, if_pos rfl, if_pos (show bF B ≤ 0 by omega), oLet_eq, if_pos rfl, nI_s1 v.1, oLet_eq, ← d1, oJ_inr, if_pos (inB_nI (by decide) hk), nI_clamp (by omega), H1.2.2.2.1 k hk, nI_1, oLet_eq, ← d2, if_pos rfl, a1, oB_some]
  · rw [if_neg h0] at v ⊢
    have v : bT B k + bJ B k < 2 := by
      rcases v with ⟨e, -⟩ | ⟨e, -⟩ | ⟨-, -, v⟩ | ⟨e, -⟩
      · exact absurd (show (2 : Nat) = 0 from e) (by decide)
      · exact absurd (show (2 : Nat) = 1 from e) (by decide)
      · exact v
      · exact absurd (show (2 : Nat) = 3 from e) (by decide)
    have H1 := MbQ_F H (bF B - 1)
    obtain ⟨σ1, d1⟩ : ∃ z, z = wI σ 67 22 (nI (bF B - 1)) := ⟨_, rfl⟩
    rw [← d1] at H1
    have H2 := MbQ_J H1 k (bJ B k + 1)
    obtain ⟨σ2, d2⟩ : ∃ z, z = wI σ1 81 k (nI (bJ B k + 1)) := ⟨_, rfl⟩
    rw [← d2] at H2
    have F2 : FrX WB σ σ2 := by rw [d2, d1]; exact (FrX.w σ _ (by omega)).tr (FrX.w _ _ (by omega))
    have G2 := MeR_fr G F2 (fun x j a b => by omega)
    have p2 : rI σ2 67 24 = nI p := by rw [F2.2.2.2.2 67 24 (by omega), h24]
    obtain ⟨τ, a1, a2, a3, a4⟩ := thing_eq (h := 2) (k := k) H2 G2 p2 (by omega) hl hE
    refine ⟨τ, ?_, by rw [apB_2]; exact a2, a3, (F2.mono (fun x j w => by omega)).tr a4⟩
    unfold f_X11_laysJoker
    rw [h24, if_neg (n_m1 hp), H.2.2.2.2.2.1, isFull_eq H o hk]
    simp only [c2, c3, Option.bind_some]
    have a1 : f_X11_thing σ2 4 (nI k) = some ((), τ) := a1
    rw [if_neg h0, if_pos v, if_pos rfl, if_neg (show ¬ bF B ≤ 0 by omega), oLet_eq, if_neg (by decide), nI_s1 (by omega), oLet_eq, ← d1, oJ_inr, if_pos (inB_nI (by decide) hk), nI_clamp (by omega), H1.2.2.2.1 k hk, nI_1, oLet_eq, ← d2, if_neg (by decide), a1, oB_some]
theorem swaps_no {σ : rS} {p k : Nat} {B : Bd} (H : MbR σ B) (o : OkT B) (hp : p < 4) (h24 : rI σ 67 24 = nI p) (hk : k < 52) {m : Bool} (hm : rI σ 72 p = if m then 1 else 0) (h : ¬ (m = true ∧ 1 ≤ bR B (53 * p + k) ∧ 1 ≤ bJ B k)) : f_X11_swaps σ (nI k) = some (0, σ) := by
  unfold f_X11_swaps
  have hz := rsz_ge (R := bR B) (p := p) (k := k) (by omega)
  have hr := o.1.2.1 p hp
  have ht := o.2.1 k hk
  have c : (nI (bR B (53 * p + k)) = 0) = (bR B (53 * p + k) = 0) := propext (nI_eq (b := 0) (by omega) (by omega))
  have c2 : (nI (bJ B k) = 0) = (bJ B k = 0) := propext (nI_eq (b := 0) (by omega) (by omega))
  rw [h24, if_neg (n_m1 hp), if_pos (inB_nI (by decide) hp), nI_clamp (by omega), hm, i53, if_pos (inB_nI (by decide) (by omega)), if_pos (inB_nI (by decide) hk), nI_clamp (by omega), nI_clamp (by omega), H.2.1 _ (by omega), H.2.2.2.1 k hk]
  simp only [c, c2]
  cases m with
  | false => rw [if_pos (by decide)]
  | true =>
    rw [if_neg (by decide)]
    by_cases g : bR B (53 * p + k) = 0
    · rw [if_pos g]
    · rw [if_neg g, if_pos (by have : ¬ (1 ≤ bR B (53 * p + k) ∧ 1 ≤ bJ B k) := fun z => h ⟨rfl, z⟩; omega)]
theorem swaps_yes {σ : rS} {p k : Nat} {B : Bd} {E : List Ent} (H : MbR σ B) (G : MeR σ E) (o : OkT B) (h24 : rI σ 67 24 = nI p) (hm : rI σ 72 p = 1) (v : vaB p B (3, k)) (hE : E.length ≤ 20000) : ∃ τ, f_X11_swaps σ (nI k) = some (1, τ) ∧ MbR τ (apB p B (3, k)) ∧ MeR τ (E ++ [(3, p, k + 1, 0)]) ∧ FrX WBE σ τ := by
  obtain ⟨hk, hp, hl, v⟩ := v
  have hk : k < 52 := hk
  have v : 1 ≤ bR B (53 * p + k) ∧ 1 ≤ bJ B k := by
    rcases v with ⟨e, -⟩ | ⟨e, -⟩ | ⟨e, -⟩ | ⟨-, v⟩
    · exact absurd (show (3 : Nat) = 0 from e) (by decide)
    · exact absurd (show (3 : Nat) = 1 from e) (by decide)
    · exact absurd (show (3 : Nat) = 2 from e) (by decide)
    · exact v
  have hz := rsz_ge (R := bR B) (p := p) (k := k) (by omega)
  have hr := o.1.2.1 p hp
  have ht := o.2.1 k hk
  have c : (nI (bR B (53 * p + k)) = 0) = (bR B (53 * p + k) = 0) := propext (nI_eq (b := 0) (by omega) (by omega))
  have c2 : (nI (bJ B k) = 0) = (bJ B k = 0) := propext (nI_eq (b := 0) (by omega) (by omega))
  have H1 := MbQ_R H (53 * p + k) (bR B (53 * p + k) - 1)
  obtain ⟨σ1, d1⟩ : ∃ z, z = wI σ 79 (53 * p + k) (nI (bR B (53 * p + k) - 1)) := ⟨_, rfl⟩
  rw [← d1] at H1
  have H2 := MbQ_T H1 k (bT B k + 1)
  obtain ⟨σ2, d2⟩ : ∃ z, z = wI σ1 80 k (nI (bT B k + 1)) := ⟨_, rfl⟩
  rw [← d2] at H2
  have H3 := MbQ_J H2 k (bJ B k - 1)
  obtain ⟨σ3, d3⟩ : ∃ z, z = wI σ2 81 k (nI (bJ B k - 1)) := ⟨_, rfl⟩
  rw [← d3] at H3
  have H4 := MbQ_F H3 (bF B + 1)
  obtain ⟨σ4, d4⟩ : ∃ z, z = wI σ3 67 22 (nI (bF B + 1)) := ⟨_, rfl⟩
  rw [← d4] at H4
  have F4 : FrX WB σ σ4 := by rw [d4, d3, d2, d1]; exact (((FrX.w σ _ (by omega)).tr (FrX.w _ _ (by omega))).tr (FrX.w _ _ (by omega))).tr (FrX.w _ _ (by omega))
  have G4 := MeR_fr G F4 (fun x j a b => by omega)
  have p4 : rI σ4 67 24 = nI p := by rw [F4.2.2.2.2 67 24 (by omega), h24]
  obtain ⟨τ, a1, a2, a3, a4⟩ := thing_eq (h := 3) (k := k) H4 G4 p4 (by omega) hl hE
  refine ⟨τ, ?_, by rw [apB_3]; exact a2, a3, (F4.mono (fun x j w => by omega)).tr a4⟩
  unfold f_X11_swaps
  rw [h24, if_neg (n_m1 hp), if_pos (inB_nI (by decide) hp), nI_clamp (by omega), hm, if_neg (by decide), i53, if_pos (inB_nI (by decide) (by omega)), if_pos (inB_nI (by decide) hk), nI_clamp (by omega), nI_clamp (by omega), H.2.1 _ (by omega), H.2.2.2.1 k hk]
  simp only [c, c2]
  have a1 : f_X11_thing σ4 3 (nI k) = some ((), τ) := a1
  rw [if_neg (by omega), if_neg (by omega), nI_s1 v.1, oLet_eq, ← d1, H1.2.2.1 k hk, nI_1, oLet_eq, ← d2, H2.2.2.2.1 k hk, nI_s1 v.2, oLet_eq, ← d3, H3.2.2.2.2.2.1, nI_1, oLet_eq, ← d4, a1, oB_some]
