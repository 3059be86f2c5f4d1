/-! more calls: claim, wipe, type, player, passed -/
theorem FrK_w {σ : rS} {a k : Nat} (h : ¬ (a = 3 ∧ 12 ≤ k) ∧ a ≠ 65 ∧ a ≠ 66) (v : Int32) : FrK σ (wI σ a k v) := ⟨fun j h1 _ => by rw [fld_eq, if_neg (by omega)], rfl, fun j => by rw [fld_eq, if_neg (by omega)], fun j => by rw [fld_eq, if_neg (by omega)]⟩
theorem row_w (σ : rS) (a k : Nat) (v : Int32) : rowI σ a (va_up (rI σ a) k v) = wI σ a k v := rfl
theorem passed_s {σ : rS} {B : Bd} {E : List Ent} {dl : Option (Nat × Nat × Nat)} {m : Mem} {l : Nat → Int64} {ch hh L jk ml pn n : Nat} (C : CI σ B E dl m l ch) (r : RuM m hh L jk ml pn n) {p k : Int32} : (vIn p 0 ((rI σ 19 0) - 1) = 0 ∧ f_X10_passed σ p k = some (.inr "java/lang/IndexOutOfBoundsException", σ)) ∨ (¬ vIn p 0 ((rI σ 19 0) - 1) = 0 ∧ v_X5_isKind σ k = 0 ∧ f_X10_passed σ p k = some (.inr "java/lang/IllegalArgumentException", σ)) ∨ ∃ q j, q < n ∧ j < 52 ∧ p = nI q ∧ k = nI j ∧ ¬ vIn p 0 ((rI σ 19 0) - 1) = 0 ∧ ¬ v_X5_isKind σ k = 0 ∧ f_X10_passed σ p k = some (.inl (vBit (l q) (nI j)), σ) := by
  have h4 := CI_h C r
  have hn := CI_n C r
  have h13 := r.2.2.1
  have hn4 := r.2.2.2.2.2.2.2.2
  unfold f_X10_passed f_X10_needPlayer f_X10_needKind
  by_cases c1 : vIn p 0 ((rI σ 19 0) - 1) = 0
  · refine Or.inl ⟨c1, ?_⟩
    rw [if_pos c1, oBx_r]
  · have c1' := c1
    rw [hn] at c1'
    obtain ⟨q, hq, rfl⟩ := vIn_pl hn4 c1'
    by_cases c2 : v_X5_isKind σ k = 0
    · refine Or.inr (Or.inl ⟨c1, c2, ?_⟩)
      rw [if_neg c1, oBx_l, if_pos c2, oBx_r]
    · obtain ⟨j, hj, -, rfl⟩ := isKind_of h4 h13 c2
      refine Or.inr (Or.inr ⟨q, j, hq, hj, rfl, rfl, c1, c2, ?_⟩)
      rw [if_neg c1, oBx_l, if_neg c2, oBx_l]
      have e : f_X6_passedBy σ (nI q) = some (rL σ 29 q) := by
        unfold f_X6_passedBy
        rw [if_neg (show ¬ nI q < 0 from fun z => by have := (nI_lt' (b := 0) (by omega) (by omega)).mp z; omega), if_neg (show ¬ (4 : Int32) ≤ nI q from fun z => by have := (nI_leI (a := 4) (by omega) (by omega)).mp z; omega), if_neg (by decide), if_pos (inB_nI (by decide) (by omega)), nI_clamp (by omega)]
      rw [e, ← C.2.2.2.2.1 q (by omega) j hj]
      rfl
