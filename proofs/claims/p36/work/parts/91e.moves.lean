/-! what a player does: class and reference -/
abbrev WL (x j : Nat) : Prop := (5 ≤ x ∧ x ≤ 11) ∨ x = 35 ∨ (x = 36 ∧ j = j)
theorem FrX_B {σ τ : rS} (f : FrB2 5 σ τ) : FrX WL σ τ := ⟨f.1, f.2.1, f.2.2.1, f.2.2.2.1, fun x j a => f.2.2.2.2 x j (by omega)⟩
theorem FrCl_L {σ τ : rS} (f : FrX WL σ τ) : FrCl σ τ := ⟨fun x j a => f.2.2.2.2 x j (by omega), fun x j _ => by rw [f.2.2.2.1], by rw [f.1]⟩
theorem CI_B {σ τ : rS} {B B' : Bd} {E : List Ent} {dl : Option (Nat × Nat × Nat)} {m : Mem} {l : Nat → Int64} {ch ch' : Nat} (H : CI σ B E dl m l ch) (h : BR τ 5 B' ch') (f : FrB2 5 σ τ) : CI τ B' E dl m l ch' := by
  obtain ⟨h1, h2, h3, h4, h5, h6, B2, c2, h7⟩ := H
  have q := f.2.2.2.2
  exact ⟨h, CeR_fr h2 fun x j a => q x j (by omega), CdR_fr h3 fun x j a => q x j (by omega), fun x j a => (q x j (by omega)).trans (h4 x j a), fun j hj k hk => by rw [f.2.2.2.1]; exact h5 j hj k hk, ClI_fr h6 (FrZq_B (by decide) (by decide) f), B2, c2, BQ_fr h7 fun x j a b => q x j (by omega)⟩
theorem CI_E {σ τ : rS} {B : Bd} {E E' : List Ent} {dl : Option (Nat × Nat × Nat)} {m : Mem} {l : Nat → Int64} {ch : Nat} (H : CI σ B E dl m l ch) (h : CeR τ E') (f : FrX (fun x j => (x = 35 ∧ j = 1) ∨ x = 36) σ τ) : CI τ B E' dl m l ch := by
  obtain ⟨h1, h2, h3, h4, h5, h6, B2, c2, h7⟩ := H
  have q := f.2.2.2.2
  refine ⟨BQ_fr h1 fun x j a b => q x j (by omega), h, ?_, fun x j a => (q x j (by omega)).trans (h4 x j a), fun j hj k hk => by rw [f.2.2.2.1]; exact h5 j hj k hk, ClI_fr h6 ⟨f.1, f.2.1, f.2.2.1, fun x j a => q x j (by omega), fun x j _ => by rw [f.2.2.2.1]⟩, B2, c2, BQ_fr h7 fun x j a b => q x j (by omega)⟩
  unfold CdR at *
  cases dl with
  | none => exact (q _ _ (by omega)).trans h3
  | some d => exact ⟨(q _ _ (by omega)).trans h3.1, (q _ _ (by omega)).trans h3.2.1, (q _ _ (by omega)).trans h3.2.2.1, (q _ _ (by omega)).trans h3.2.2.2⟩
theorem cadd_eq {σ : rS} {E : List Ent} (H : CeR σ E) (s w k dr : Nat) (hE : E.length < 1024) : ∃ τ, f_X2_add σ (nI s) (nI w) (nI k - 1) (nI dr) = some ((), τ) ∧ CeR τ (E ++ [(s, w, k, dr)]) ∧ FrX (fun x j => (x = 35 ∧ j = 1) ∨ x = 36) σ τ := by
  obtain ⟨h1, h2⟩ := H
  obtain ⟨σ1, d1⟩ : ∃ z, z = wI σ 36 E.length (enE (s, w, k, dr)) := ⟨_, rfl⟩
  have q1 : rI σ1 35 1 = nI E.length := by rw [d1, fld_eq, if_neg (by omega), h1]
  refine ⟨wI σ1 35 1 (nI (E.length + 1)), ?_, ⟨by rw [fld_eq, if_pos ⟨rfl, rfl⟩, List.length_append]; rfl, fun i e hi => ?_⟩, ?_⟩
  · unfold f_X2_add
    have ek : nI k - 1 + 1 = nI k := Int32.sub_add_cancel _ _
    rw [h1, if_neg (show ¬ (1024 : Int32) ≤ nI E.length from fun z => by have := (nI_leI (a := 1024) (by omega) (by omega)).mp z; omega), if_pos (inB_nI (by decide) hE), nI_clamp (by omega), ek]
    rw [show ((nI s ||| nI w <<< ((3 : Int32) &&& 31)) ||| nI k <<< ((5 : Int32) &&& 31)) ||| nI dr <<< ((11 : Int32) &&& 31) = enE (s, w, k, dr) from rfl, oLet_eq, ← d1, oLet_eq, q1, nI_1]
  · rw [fld_eq, if_neg (by omega), d1, fld_eq]
    by_cases c : i = E.length
    · subst c
      rw [List.getElem?_append_right (Nat.le_refl _), Nat.sub_self] at hi
      cases hi
      rw [if_pos ⟨rfl, rfl⟩]
    · have hl := (List.getElem?_eq_some_iff.mp hi).1
      rw [List.length_append] at hl
      simp only [List.length_cons, List.length_nil] at hl
      rw [List.getElem?_append_left (by omega)] at hi
      rw [if_neg (fun z => c z.2)]
      exact h2 i e hi
  · rw [d1]
    exact (FrX.w σ _ (Or.inr rfl)).tr (FrX.w _ _ (Or.inl ⟨rfl, rfl⟩))
theorem cadd_k {σ : rS} {E : List Ent} (H : CeR σ E) (s w k : Nat) (hE : E.length < 1024) : ∃ τ, f_X2_add σ (nI s) (nI w) (nI k) 0 = some ((), τ) ∧ CeR τ (E ++ [(s, w, k + 1, 0)]) ∧ FrX (fun x j => (x = 35 ∧ j = 1) ∨ x = 36) σ τ := by
  have := cadd_eq H s w (k + 1) 0 hE
  rw [nI_s1 (by omega), Nat.add_sub_cancel] at this
  exact this
theorem CI_p {σ : rS} {B : Bd} {E : List Ent} {dl : Option (Nat × Nat × Nat)} {m : Mem} {l : Nat → Int64} {ch p : Nat} (C : CI σ B E dl m l ch) (hp : m 67 24 = nI p) : rI σ 3 8 = nI p := (CI_4 C (x := 3) (j := 8) (by omega)).trans hp
theorem cmv_eq {σ σ1 : rS} {B B' : Bd} {E : List Ent} {dl : Option (Nat × Nat × Nat)} {m : Mem} {l : Nat → Int64} {ch ch' p k s : Nat} (C : CI σ B E dl m l ch) (hp : m 67 24 = nI p) (hE : E.length < 1024) (b : BR σ1 5 B' ch') (f : FrB2 5 σ σ1) : ∃ τ, f_X2_add σ1 (nI s) (rI σ1 3 8) (nI k) 0 = some ((), τ) ∧ CI τ B' (E ++ [(s, p, k + 1, 0)]) dl m l ch' ∧ FrX WL σ τ := by
  have C1 := CI_B C b f
  obtain ⟨τ, a1, a2, a3⟩ := cadd_k C1.2.1 s p k hE
  rw [CI_p C1 hp]
  exact ⟨τ, a1, CI_E C1 a2 a3, (FrX_B f).tr (a3.mono fun x j w => by omega)⟩
theorem cLayT_eq {σ : rS} {B : Bd} {E : List Ent} {dl : Option (Nat × Nat × Nat)} {m : Mem} {l : Nat → Int64} {ch p k : Nat} (C : CI σ B E dl m l ch) (hp : m 67 24 = nI p) (v : vaB p B (0, k)) (hE : E.length < 1024) : ∃ τ c, f_X10_layTile σ (nI k) = some ((), τ) ∧ CI τ (apB p B (0, k)) (E ++ [(1, p, k + 1, 0)]) dl m l (ch + c) ∧ 1 ≤ c ∧ c ≤ 3 ∧ FrX WL σ τ := by
  obtain ⟨σ1, a1, a2, a3⟩ := layTile_eq C.1 v
  obtain ⟨τ, b1, b2, b3⟩ := cmv_eq (k := k) (s := 1) C hp hE a2 a3
  refine ⟨τ, 2, ?_, b2, by decide, by decide, b3⟩
  unfold f_X10_layTile
  have b1 : f_X2_add σ1 1 (rI σ1 3 8) (nI k) 0 = some ((), τ) := b1
  rw [CI_p C hp, a1, oB_some, b1, oB_some]
theorem cLayJ_eq {σ : rS} {B : Bd} {E : List Ent} {dl : Option (Nat × Nat × Nat)} {m : Mem} {l : Nat → Int64} {ch p k : Nat} (C : CI σ B E dl m l ch) (hp : m 67 24 = nI p) (hF : bF B ≤ 100) (v : vaB p B (if bF B = 0 then 1 else 2, k)) (hE : E.length < 1024) : ∃ τ c, f_X10_layJoker σ (nI k) = some ((), τ) ∧ CI τ (apB p B (if bF B = 0 then 1 else 2, k)) (E ++ [(2, p, k + 1, 0)]) dl m l (ch + c) ∧ 1 ≤ c ∧ c ≤ 3 ∧ FrX WL σ τ := by
  obtain ⟨σ1, c, a1, a2, a4, a5, a3⟩ := layJoker_eq C.1 hF v
  obtain ⟨τ, b1, b2, b3⟩ := cmv_eq (k := k) (s := 2) C hp hE a2 a3
  refine ⟨τ, c, ?_, b2, a4, by omega, b3⟩
  unfold f_X10_layJoker
  have b1 : f_X2_add σ1 2 (rI σ1 3 8) (nI k) 0 = some ((), τ) := b1
  rw [CI_p C hp, a1, oB_some, b1, oB_some]
theorem cSwap_eq {σ : rS} {B : Bd} {E : List Ent} {dl : Option (Nat × Nat × Nat)} {m : Mem} {l : Nat → Int64} {ch p k : Nat} (C : CI σ B E dl m l ch) (hp : m 67 24 = nI p) (v : vaB p B (3, k)) (hE : E.length < 1024) : ∃ τ c, f_X10_swapJoker σ (nI k) = some ((), τ) ∧ CI τ (apB p B (3, k)) (E ++ [(3, p, k + 1, 0)]) dl m l (ch + c) ∧ 1 ≤ c ∧ c ≤ 3 ∧ FrX WL σ τ := by
  obtain ⟨σ1, a1, a2, a3⟩ := swapJoker_eq C.1 v
  obtain ⟨τ, b1, b2, b3⟩ := cmv_eq (k := k) (s := 3) C hp hE a2 a3
  refine ⟨τ, 3, ?_, b2, by decide, by decide, b3⟩
  unfold f_X10_swapJoker
  have b1 : f_X2_add σ1 3 (rI σ1 3 8) (nI k) 0 = some ((), τ) := b1
  rw [CI_p C hp, a1, oB_some, b1, oB_some]
theorem cBack_eq {σ : rS} {B : Bd} {d : Nat × Nat} {E : List Ent} {dl : Option (Nat × Nat × Nat)} {m : Mem} {l : Nat → Int64} {ch p : Nat} (C : CI σ (apB p B d) E dl m l ch) (hp : m 67 24 = nI p) (v : vaB p B d) (hF : bF B ≤ 100) (hE : E.length < 1024) : ∃ τ c, f_X10_takeBack σ = some ((), τ) ∧ CI τ B (E ++ [(4, p, d.2 + 1, 0)]) dl m l (ch + c) ∧ 1 ≤ c ∧ c ≤ 3 ∧ FrX WL σ τ := by
  obtain ⟨σ1, c, a1, a2, a4, a5, a3⟩ := undo_eq v hF C.1
  obtain ⟨τ, b1, b2, b3⟩ := cmv_eq (k := d.2) (s := 4) C hp hE a2 a3
  refine ⟨τ, c, ?_, b2, a4, a5, b3⟩
  unfold f_X10_takeBack
  have b1 : f_X2_add σ1 4 (rI σ1 3 8) (nI d.2) 0 = some ((), τ) := b1
  rw [CI_p C hp, a1, oB_some, b1, oB_some]
