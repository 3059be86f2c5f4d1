/-! the record played again -/
theorem CI_12 {σ τ : rS} {B B' : Bd} {E : List Ent} {dl : Option (Nat × Nat × Nat)} {m : Mem} {l : Nat → Int64} {ch ch' : Nat} (H : CI σ B E dl m l ch) (h : BR τ 12 B' ch') (f : FrB2 12 σ τ) : CI τ B E dl m l ch := by
  obtain ⟨h1, h2, h3, h4, h5, h6, -⟩ := H
  have q := f.2.2.2.2
  exact ⟨BQ_fr h1 fun x j a b => q x j (by omega), CeR_fr h2 fun x j a => q x j (by omega), CdR_fr h3 fun x j a => q x j (by omega), fun x j a => (q x j (by omega)).trans (h4 x j a), fun j hj k hk => by rw [f.2.2.2.1]; exact h5 j hj k hk, ClI_fr h6 (FrZq_B (by decide) (by decide) f), B', ch', h⟩
theorem FrK_12 {σ τ : rS} (f : FrB2 12 σ τ) : FrK σ τ := ⟨fun j _ _ => f.2.2.2.2 _ _ (by omega), by rw [f.2.2.2.1], fun j => f.2.2.2.2 _ _ (by omega), fun j => f.2.2.2.2 _ _ (by omega)⟩
theorem replay_eq {σ : rS} {pn ch : Nat} {e : Ent} {s s' : Bd × List (Nat × Nat)} (H : BR σ 12 (runB e.2.1 s.1 s.2) ch) (hpn : rI σ 4 4 = nI pn) (p9 : pn ≤ 9) (st : stP pn e s s') : ∃ τ c, f_X10_replay σ (nI e.1) (nI e.2.1) (nI e.2.2.1 - 1) = some ((), τ) ∧ BR τ 12 (runB e.2.1 s'.1 s'.2) c ∧ FrB2 12 σ τ := by
  obtain ⟨x, p, k, y⟩ := e
  obtain ⟨B, D⟩ := s
  obtain ⟨hp, ⟨o, h0, hF⟩, ok, h⟩ := st
  dsimp only at H hp o h0 hF ok h ⊢
  obtain ⟨oB, h64⟩ := OkT_run o h0 hF D.length D rfl ok
  have hF2 := oB.2.2
  have no : ∀ a b : Nat, a < 100 → b < 100 → a ≠ b → ¬ nI a = nI b := fun a b ha hb h z => h ((nI_eq (b := b) (by omega) (by omega)).mp z)
  unfold f_X10_replay
  rcases h with ⟨rfl, j, rfl, v, rfl⟩ | ⟨rfl, j, rfl, v, rfl⟩ | ⟨rfl, j, rfl, v, rfl⟩ | ⟨rfl, D2, d, rfl, rfl⟩ | ⟨rfl, rfl⟩ | ⟨hx, rfl⟩
  · rw [nI_s1 (by omega), Nat.add_sub_cancel, if_pos (show nI 1 = 1 from rfl)]
    obtain ⟨τ, a1, a2, a3⟩ := layTile_eq H v
    rw [← runB_sn] at a2
    exact ⟨τ, _, by rw [a1, oB_some], a2, a3⟩
  · rw [nI_s1 (by omega), Nat.add_sub_cancel, if_neg (show ¬ nI 2 = 1 from no 2 1 (by omega) (by omega) (by omega)), if_pos (show nI 2 = 2 from rfl)]
    obtain ⟨τ, c, a1, a2, -, -, a3⟩ := layJoker_eq H (by omega) v
    rw [← runB_sn] at a2
    exact ⟨τ, _, by rw [a1, oB_some], a2, a3⟩
  · rw [nI_s1 (by omega), Nat.add_sub_cancel, if_neg (show ¬ nI 3 = 1 from no 3 1 (by omega) (by omega) (by omega)), if_neg (show ¬ nI 3 = 2 from no 3 2 (by omega) (by omega) (by omega)), if_pos (show nI 3 = 3 from rfl)]
    obtain ⟨τ, a1, a2, a3⟩ := swapJoker_eq H v
    rw [← runB_sn] at a2
    exact ⟨τ, _, by rw [a1, oB_some], a2, a3⟩
  · rw [if_neg (show ¬ nI 4 = 1 from no 4 1 (by omega) (by omega) (by omega)), if_neg (show ¬ nI 4 = 2 from no 4 2 (by omega) (by omega) (by omega)), if_neg (show ¬ nI 4 = 3 from no 4 3 (by omega) (by omega) (by omega)), if_pos (show nI 4 = 4 from rfl)]
    rw [okB_sn] at ok
    rw [runB_sn] at H
    have hF3 := (OkT_run o h0 hF D2.length D2 rfl ok.1).1.2.2
    obtain ⟨τ, c, a1, a2, -, -, a3⟩ := undo_eq ok.2 (by omega) H
    exact ⟨τ, _, by rw [a1, oB_some], a2, a3⟩
  · rw [if_neg (show ¬ nI 5 = 1 from no 5 1 (by omega) (by omega) (by omega)), if_neg (show ¬ nI 5 = 2 from no 5 2 (by omega) (by omega) (by omega)), if_neg (show ¬ nI 5 = 3 from no 5 3 (by omega) (by omega) (by omega)), if_neg (show ¬ nI 5 = 4 from no 5 4 (by omega) (by omega) (by omega)), if_pos (show nI 5 = 5 from rfl)]
    obtain ⟨τ, a1, a2, a3⟩ := settle_eq H
    exact ⟨τ, _, by rw [a1, oB_some], a2, a3⟩
  · rw [if_neg (show ¬ nI x = 1 from no x 1 (by omega) (by omega) (by omega)), if_neg (show ¬ nI x = 2 from no x 2 (by omega) (by omega) (by omega)), if_neg (show ¬ nI x = 3 from no x 3 (by omega) (by omega) (by omega)), if_neg (show ¬ nI x = 4 from no x 4 (by omega) (by omega) (by omega)), if_neg (show ¬ nI x = 5 from no x 5 (by omega) (by omega) (by omega))]
    have e6 : rI σ 12 6 = nI D.length := by rw [H.2.2.2.2.2.1.1, runB_D, h0]; rfl
    have ex : (if rI σ 12 6 ≤ 0 then 1 else rI σ 4 4 : Int32) = nI (if D.isEmpty then 1 else pn) := by
      rw [e6, hpn]
      cases D with
      | nil => rfl
      | cons d D => rw [if_neg (show ¬ nI (d :: D).length ≤ 0 from fun z => by have := (nI_leI (b := 0) (by omega) (by omega)).mp z; rw [List.length_cons] at this; omega)]; rfl
    obtain ⟨τ, c, a1, a2, -, a3⟩ := undoAll_eq h0 hF ok h64 H
    obtain ⟨υ, b1, b2, b3⟩ := drawUp_eq (m := if D.isEmpty then 1 else pn) a2 o.1 hp (by split <;> omega)
    exact ⟨υ, _, by rw [ex, oLet_eq, a1, oB_some, b1, oB_some], b2, a3.tr b3⟩
