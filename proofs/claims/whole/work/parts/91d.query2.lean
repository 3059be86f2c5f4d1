/-! more questions -/
theorem onTable_eq {σ : rS} {P R T J : Nat → Nat} {D : List (Nat × Nat)} {F X : Nat} (H : MbQ σ P R T J D F X) : f_X11_onTable σ = some (nI (natSum T 52 + natSum J 52)) := by
  obtain ⟨r, a1, a2⟩ := oL_ix (body := b_X11_onTable_4 σ) (fun i s => s = (nI (natSum T i + natSum J i), nI i)) (N := 52) (fun r => r = nI (natSum T 52 + natSum J 52)) (by
      intro i s hi e
      subst e
      refine ⟨_, ?_, rfl⟩
      unfold b_X11_onTable_4
      dsimp only
      rw [if_neg (show ¬ (52 : Int32) ≤ nI i from fun z => by have := (nI_leI (a := 52) (by omega) (by omega)).mp z; omega), if_pos (inB_nI (by decide) hi), nI_clamp (by omega), H.2.2.1 i hi, H.2.2.2.1 i hi]
      simp only [nI_add, oLet_eq, nI_1]
      simp only [natSum]
      rw [show natSum T i + T i + (natSum J i + J i) = natSum T i + natSum J i + (T i + J i) by omega])
    (by
      intro s e
      subst e
      exact ⟨nI (natSum T 52 + natSum J 52), by unfold b_X11_onTable_4; rw [if_pos (show (52 : Int32) ≤ nI 52 by decide)], rfl⟩)
    (n := oFuel) (by rw [oFuel_eq]; decide) (s := (0, 0)) rfl
  subst a2
  exact a1
theorem jokersLaid_eq {σ : rS} {P R T J : Nat → Nat} {D : List (Nat × Nat)} {F X : Nat} (H : MbQ σ P R T J D F X) : f_X11_jokersLaid σ = some (nI (natSum J 52)) := by
  obtain ⟨r, a1, a2⟩ := oL_ix (body := b_X11_jokersLaid_4 σ) (fun i s => s = (nI (natSum J i), nI i)) (N := 52) (fun r => r = nI (natSum J 52)) (by
      intro i s hi e
      subst e
      refine ⟨_, ?_, rfl⟩
      unfold b_X11_jokersLaid_4
      dsimp only
      rw [if_neg (show ¬ (52 : Int32) ≤ nI i from fun z => by have := (nI_leI (a := 52) (by omega) (by omega)).mp z; omega), if_pos (inB_nI (by decide) hi), nI_clamp (by omega), H.2.2.2.1 i hi, oLet_eq, nI_add, nI_1]
      rfl)
    (by
      intro s e
      subst e
      exact ⟨nI (natSum J 52), by unfold b_X11_jokersLaid_4; rw [if_pos (show (52 : Int32) ≤ nI 52 by decide)], rfl⟩)
    (n := oFuel) (by rw [oFuel_eq]; decide) (s := (0, 0)) rfl
  subst a2
  exact a1
theorem MbQ_t {σ : rS} {B : Bd} {E : List Ent} {m : Mem} {l : Nat → Int64} (M : MI σ B E m l) (v : Int32) : MbR (wI σ 67 0 v) B := (MI_t M v).1
theorem tableIs_s {σ : rS} {B : Bd} {E : List Ent} {dl : Option (Nat × Nat × Nat)} {m : Mem} {l : Nat → Int64} {ch hh L jk ml pn n : Nat} (C : CI σ B E dl m l ch) (M : MI σ B E m l) {Kp : rS → Prop} (hK : ∀ τ, FrK σ τ → Kp τ) (r : RuM m hh L jk ml pn n) (p k : Int32) : QStep Kp (fun σ => f_L_tableIs σ p k) (fun σ => f_X11_tableIs σ p k) σ B E dl m l ch := by
  have h4 := CI_h C r
  have h13 := r.2.2.1
  by_cases c1 : v_X5_isKind σ p = 0
  · refine q_ex C M hK 1 (-1) (by decide) ?_ ?_
    · show f_L_tableIs σ p k = _
      unfold f_L_tableIs f_X10_tableIs f_X10_needKind
      rw [if_pos c1, oBx_r, oBc_r lk1]
    · show f_X11_tableIs σ p k = _
      unfold f_X11_tableIs
      rw [kind_same h4 (MI_h M r), if_pos c1, holds_eq, oB_some, if_neg (by decide)]
  · obtain ⟨j, hj, -, rfl⟩ := isKind_of h4 h13 c1
    refine q_ok C M hK (if k = 0 then nI (bT B j) else nI (bJ B j)) ?_ fun τ N => ?_
    · show f_L_tableIs σ (nI j) k = _
      unfold f_L_tableIs f_X10_tableIs f_X10_needKind
      rw [if_neg c1, oBx_l, vAt_nI (by decide) hj, vAt_nI (by decide) hj, oBc_l, show rI σ 9 j = nI (bT B j) from C.1.2.2.2.1 j hj, show rI σ 10 j = nI (bJ B j) from C.1.2.2.2.2.1 j hj]
      rfl
    · show f_X11_tableIs τ (nI j) k = _
      have N1 := MbQ_t N 0
      unfold f_X11_tableIs
      rw [kind_same h4 (MI_h N r), if_neg c1, holds_eq, oB_some, if_pos (by decide), if_pos (inB_nI (by decide) hj), if_pos (inB_nI (by decide) hj), nI_clamp (by omega), N1.2.2.1 j hj, N1.2.2.2.1 j hj]
      split <;> rfl
theorem poolIs_s {σ : rS} {B : Bd} {E : List Ent} {dl : Option (Nat × Nat × Nat)} {m : Mem} {l : Nat → Int64} {ch hh L jk ml pn n : Nat} (C : CI σ B E dl m l ch) (M : MI σ B E m l) {Kp : rS → Prop} (hK : ∀ τ, FrK σ τ → Kp τ) (r : RuM m hh L jk ml pn n) (k : Int32) : QStep Kp (fun σ => f_L_poolIs σ k) (fun σ => f_X11_poolIs σ k) σ B E dl m l ch := by
  have h4 := CI_h C r
  have h13 := r.2.2.1
  by_cases c2 : k = 52 ∨ ¬ v_X5_isKind σ k = 0
  · have hk : ∃ j, j < 53 ∧ k = nI j := by
      rcases c2 with e | e
      · exact ⟨52, by decide, e⟩
      · obtain ⟨j, h1, -, h3⟩ := isKind_of h4 h13 e
        exact ⟨j, by omega, h3⟩
    obtain ⟨j, hj, rfl⟩ := hk
    have e1 : (if nI j = 52 then true else (if v_X5_isKind σ (nI j) = 0 then false else true)) = true := by
      by_cases e : nI j = 52
      · rw [if_pos e]
      · rw [if_neg e]
        rcases c2 with f | f
        · exact absurd f e
        · rw [if_neg f]
    refine q_ok C M hK (nI (bP B j)) ?_ fun τ N => ?_
    · show f_L_poolIs σ (nI j) = _
      unfold f_L_poolIs f_X10_poolIs f_X10_needPiece
      rw [if_pos e1, oBx_l, vAt_nI (by decide) hj, show rI σ 6 j = nI (bP B j) from C.1.1 j hj, oBc_l]
      rfl
    · show f_X11_poolIs τ (nI j) = _
      have e2 : ¬ v_X11_isKindOrJoker τ (nI j) = 0 := by
        unfold v_X11_isKindOrJoker
        rw [kind_same h4 (MI_h N r)]
        by_cases e : nI j = 52
        · rw [if_pos e]; decide
        · rw [if_neg e]
          rcases c2 with f | f
          · exact absurd f e
          · rw [if_neg f]; decide
      have N1 := MbQ_t N 0
      unfold f_X11_poolIs
      rw [if_neg e2, holds_eq, oB_some, if_pos (by decide), if_pos (inB_nI (by decide) hj), nI_clamp (by omega), N1.1 j hj]
  · have n1 : ¬ k = 52 := fun z => c2 (Or.inl z)
    have n2 : v_X5_isKind σ k = 0 := Classical.byContradiction fun z => c2 (Or.inr z)
    refine q_ex C M hK 1 (-1) (by decide) ?_ ?_
    · show f_L_poolIs σ k = _
      unfold f_L_poolIs f_X10_poolIs f_X10_needPiece
      rw [if_neg n1, if_pos n2, if_neg (by decide), oBx_r, oBc_r lk1]
    · show f_X11_poolIs σ k = _
      unfold f_X11_poolIs v_X11_isKindOrJoker
      rw [kind_same h4 (MI_h M r), if_neg n1, if_pos n2, if_pos rfl, holds_eq, oB_some, if_neg (by decide)]
theorem sum_s {σ : rS} {B : Bd} {E : List Ent} {dl : Option (Nat × Nat × Nat)} {m : Mem} {l : Nat → Int64} {ch : Nat} (C : CI σ B E dl m l ch) (M : MI σ B E m l) {Kp : rS → Prop} (hK : ∀ τ, FrK σ τ → Kp τ) (k : Int32) : QStep Kp (fun σ => f_L_sum σ k) (fun σ => f_X11_sum σ k) σ B E dl m l ch := by
  by_cases c1 : vIn k 0 11 = 0
  · have ne : ∀ q, q ≤ 11 → ¬ k = nI q := fun q hq e => by
      rw [e, show (0 : Int32) = nI 0 from rfl, show (11 : Int32) = nI 11 from rfl, vIn_in (by decide) (by omega) hq] at c1
      exact absurd c1 (by decide)
    refine q_ex C M hK 1 (-1) (by decide) ?_ ?_
    · show f_L_sum σ k = _
      unfold f_L_sum f_X10_sum
      rw [if_neg (show ¬ k = 0 from ne 0 (by decide)), if_neg (show ¬ k = 1 from ne 1 (by decide)), if_neg (show ¬ k = 2 from ne 2 (by decide)), if_neg (show ¬ k = 3 from ne 3 (by decide)), if_neg (show ¬ k = 4 from ne 4 (by decide)), if_neg (show ¬ k = 5 from ne 5 (by decide)), if_neg (show ¬ k = 6 from ne 6 (by decide)), if_neg (show ¬ k = 7 from ne 7 (by decide)), if_neg (show ¬ k = 8 from ne 8 (by decide)), if_neg (show ¬ k = 9 from ne 9 (by decide)), if_neg (show ¬ k = 10 from ne 10 (by decide)), if_neg (show ¬ k = 11 from ne 11 (by decide)), oBc_r lk1]
    · show f_X11_sum σ k = _
      unfold f_X11_sum
      rw [in_eq, if_pos c1, holds_eq, oB_some, if_neg (by decide)]
  · obtain ⟨q, -, hq, rfl⟩ := vIn_of (a := 0) (b := 11) (by decide) c1 (by decide)
    have key : ∀ v, (f_X10_sum σ (nI q) = some (.inl v, σ)) → (∀ τ, MI τ B E m l → f_X11_sum τ (nI q) = some (v, wI τ 67 0 0)) → QStep Kp (fun σ => f_L_sum σ (nI q)) (fun σ => f_X11_sum σ (nI q)) σ B E dl m l ch := fun v h1 h2 => q_ok C M hK v (by
      show f_L_sum σ (nI q) = _
      unfold f_L_sum
      rw [h1, oBc_l]
      rfl) h2
    have hS : ∀ τ, MI τ B E m l → MI (wI τ 67 0 0) B E m l := fun τ N => MI_t N 0
    have hd : ∀ q, q ≤ 11 → (if v_X11_in σ (nI q) 0 11 = 0 then (1 : Int32) else 0) = 0 := fun q hq => by
      rw [in_eq, show (0 : Int32) = nI 0 from rfl, show (11 : Int32) = nI 11 from rfl, vIn_in (by decide) (by omega) hq]
      decide
    have hd : ∀ τ q, q ≤ 11 → (if v_X11_in τ (nI q) 0 11 = 0 then (1 : Int32) else 0) = 0 := fun τ q hq => hd q hq
    match q, hq with
    | 0, _ => exact key (m 67 24) (by unfold f_X10_sum; rw [if_pos (by decide), CI_4 C (x := 3) (j := 8) (by omega)]; rfl) fun τ N => by unfold f_X11_sum; rw [hd τ 0 (by decide), holds_eq, oB_some, if_pos (by decide), if_pos (by decide), (hS τ N).2.2.1 67 24 (by omega)]
    | 1, _ => exact key (nI (natSum (bP B) 53)) (by unfold f_X10_sum; rw [if_neg (by decide), if_pos (by decide), C.1.2.2.2.2.2.2.1]) fun τ N => by unfold f_X11_sum; rw [hd τ 1 (by decide), holds_eq, oB_some, if_pos (by decide), if_neg (by decide), if_pos (by decide), inPool_eq (hS τ N).1]; rfl
    | 2, _ => exact key (nI (natSum (bT B) 52 + natSum (bJ B) 52)) (by unfold f_X10_sum; rw [if_neg (by decide), if_neg (by decide), if_pos (by decide), C.1.2.2.2.2.2.2.2.1]) fun τ N => by unfold f_X11_sum; rw [hd τ 2 (by decide), holds_eq, oB_some, if_pos (by decide), if_neg (by decide), if_neg (by decide), if_pos (by decide), onTable_eq (hS τ N).1]; rfl
    | 3, _ => exact key (nI (natSum (bJ B) 52)) (by unfold f_X10_sum; rw [if_neg (by decide), if_neg (by decide), if_neg (by decide), if_pos (by decide), C.1.2.2.2.2.2.2.2.2.1]) fun τ N => by unfold f_X11_sum; rw [hd τ 3 (by decide), holds_eq, oB_some, if_pos (by decide), if_neg (by decide), if_neg (by decide), if_neg (by decide), if_pos (by decide), jokersLaid_eq (hS τ N).1]; rfl
    | 4, _ => exact key (nI (bF B)) (by unfold f_X10_sum; rw [if_neg (by decide), if_neg (by decide), if_neg (by decide), if_neg (by decide), if_pos (by decide), C.1.2.2.2.2.2.2.2.2.2.1]) fun τ N => by unfold f_X11_sum; rw [hd τ 4 (by decide), holds_eq, oB_some, if_pos (by decide), if_neg (by decide), if_neg (by decide), if_neg (by decide), if_neg (by decide), if_pos (by decide), (hS τ N).1.2.2.2.2.2.1]
    | 5, _ => exact key (nI (bD B).length) (by unfold f_X10_sum; rw [if_neg (by decide), if_neg (by decide), if_neg (by decide), if_neg (by decide), if_neg (by decide), if_pos (by decide), C.1.2.2.2.2.2.1.1]) fun τ N => by unfold f_X11_sum; rw [hd τ 5 (by decide), holds_eq, oB_some, if_pos (by decide), if_neg (by decide), if_neg (by decide), if_neg (by decide), if_neg (by decide), if_neg (by decide), if_pos (by decide), (hS τ N).1.2.2.2.2.1.1]
    | 6, _ => exact key (m 67 25) (by unfold f_X10_sum; rw [if_neg (by decide), if_neg (by decide), if_neg (by decide), if_neg (by decide), if_neg (by decide), if_neg (by decide), if_pos (by decide), CI_4 C (x := 3) (j := 9) (by omega)]; rfl) fun τ N => by unfold f_X11_sum; rw [hd τ 6 (by decide), holds_eq, oB_some, if_pos (by decide), if_neg (by decide), if_neg (by decide), if_neg (by decide), if_neg (by decide), if_neg (by decide), if_neg (by decide), if_pos (by decide), (hS τ N).2.2.1 67 25 (by omega)]
    | 7, _ => exact key (nI E.length) (by unfold f_X10_sum; rw [if_neg (by decide), if_neg (by decide), if_neg (by decide), if_neg (by decide), if_neg (by decide), if_neg (by decide), if_neg (by decide), if_pos (by decide), C.2.1.1]) fun τ N => by unfold f_X11_sum; rw [hd τ 7 (by decide), holds_eq, oB_some, if_pos (by decide), if_neg (by decide), if_neg (by decide), if_neg (by decide), if_neg (by decide), if_neg (by decide), if_neg (by decide), if_neg (by decide), if_pos (by decide), (hS τ N).2.1.1]
    | 8, _ => exact key (m 67 26) (by unfold f_X10_sum; rw [if_neg (by decide), if_neg (by decide), if_neg (by decide), if_neg (by decide), if_neg (by decide), if_neg (by decide), if_neg (by decide), if_neg (by decide), if_pos (by decide), CI_4 C (x := 3) (j := 10) (by omega)]; rfl) fun τ N => by unfold f_X11_sum; rw [hd τ 8 (by decide), holds_eq, oB_some, if_pos (by decide), if_neg (by decide), if_neg (by decide), if_neg (by decide), if_neg (by decide), if_neg (by decide), if_neg (by decide), if_neg (by decide), if_neg (by decide), if_pos (by decide), (hS τ N).2.2.1 67 26 (by omega)]
    | 9, _ => exact key (m 67 27) (by unfold f_X10_sum; rw [if_neg (by decide), if_neg (by decide), if_neg (by decide), if_neg (by decide), if_neg (by decide), if_neg (by decide), if_neg (by decide), if_neg (by decide), if_neg (by decide), if_pos (by decide), CI_4 C (x := 3) (j := 11) (by omega)]; rfl) fun τ N => by unfold f_X11_sum; rw [hd τ 9 (by decide), holds_eq, oB_some, if_pos (by decide), if_neg (by decide), if_neg (by decide), if_neg (by decide), if_neg (by decide), if_neg (by decide), if_neg (by decide), if_neg (by decide), if_neg (by decide), if_neg (by decide), if_pos (by decide), (hS τ N).2.2.1 67 27 (by omega)]
    | 10, _ => exact key (m 67 34) (by unfold f_X10_sum; rw [if_neg (by decide), if_neg (by decide), if_neg (by decide), if_neg (by decide), if_neg (by decide), if_neg (by decide), if_neg (by decide), if_neg (by decide), if_neg (by decide), if_neg (by decide), if_pos (by decide), CI_4 C (x := 31) (j := 1) (by omega)]; rfl) fun τ N => by unfold f_X11_sum; rw [hd τ 10 (by decide), holds_eq, oB_some, if_pos (by decide), if_neg (by decide), if_neg (by decide), if_neg (by decide), if_neg (by decide), if_neg (by decide), if_neg (by decide), if_neg (by decide), if_neg (by decide), if_neg (by decide), if_neg (by decide), if_pos (by decide), (hS τ N).2.2.1 67 34 (by omega)]
    | 11, _ => exact key (nI (bX B)) (by unfold f_X10_sum; rw [if_neg (by decide), if_neg (by decide), if_neg (by decide), if_neg (by decide), if_neg (by decide), if_neg (by decide), if_neg (by decide), if_neg (by decide), if_neg (by decide), if_neg (by decide), if_neg (by decide), if_pos (by decide), C.1.2.2.2.2.2.2.2.2.2.2.1]) fun τ N => by unfold f_X11_sum; rw [hd τ 11 (by decide), holds_eq, oB_some, if_pos (by decide), if_neg (by decide), if_neg (by decide), if_neg (by decide), if_neg (by decide), if_neg (by decide), if_neg (by decide), if_neg (by decide), if_neg (by decide), if_neg (by decide), if_neg (by decide), if_neg (by decide), (hS τ N).1.2.2.2.2.2.2]
    | x + 12, h => exact absurd h (by omega)
