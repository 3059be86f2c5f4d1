/-! the reference: goesOn, the outer loops -/
theorem go_2 {σ : rS} {pl : Bool} {v : V3} {g f0 f1 f2 f3 k0 k1 : Nat} {q0 q1 q2 q3 : List (Nat × Nat)} (S0 : SgM σ 0 f0 q0) (S1 : SgM σ 1 f1 q1) (S2 : SgM σ 2 f2 q2) (S3 : SgM σ 3 f3 q3) {o0 o1 : Nat × Nat} (h0 : q0[k0]? = some o0) (h1 : q1[k1]? = some o1) {s4 s6 : Int32 × rS} (e4 : s4.1 = nI (f0 + k0)) (e6 : s6.1 = nI (f1 + k1)) {l : List (Nat × V3)} {τ : rS} (H : InM σ l τ) : ∃ υ, oLoop (b_X11_goesOn_126 (nI g) v.1 v.2.1 v.2.2 (if pl then 1 else 0) s4 s6) oFuel (nI f2, τ) = some (Sum.inr (nI (f1 + (k1 + 1)), υ)) ∧ InM σ (putsM pl v (e2M g q2 q3 o0 o1) l) υ := by
  have b0 := S0.1.2.2
  have b1 := S1.1.2.2
  have b2 := S2.1.2.2
  have b3 := S3.1.2.2
  have hx := oL_rng (body := (b_X11_goesOn_126 (nI g) v.1 v.2.1 v.2.2 (if pl then 1 else 0) s4 s6)) (fun k τ => InM σ (putsM pl v ((q2.take k).flatMap (fun o => e3M g q3 o0 o1 o)) l) τ) (f := f2) (N := q2.length) (fun υ => Sum.inr (nI (f1 + (k1 + 1)), υ)) (fun k τ hk hP => ?_) (fun τ hP => ?_) (n := oFuel) (by have : oFuel = 100000 := rfl; omega) H
  · obtain ⟨υ, a1, a2⟩ := hx
    rw [List.take_length] at a2
    exact ⟨υ, a1, a2⟩
  · obtain ⟨o2, h2⟩ : ∃ o, q2[k]? = some o := ⟨q2[k], List.getElem?_eq_getElem hk⟩
    have U3 := (S2.fr hP.2).1.2.1
    have V3 := (S3.fr hP.2).1.1
    unfold b_X11_goesOn_126
    dsimp only
    rw [show ((2 : Int32).toNatClampNeg) = 2 from rfl, U3, if_neg (rg_le b2 hk), oLet_eq, show ((3 : Int32).toNatClampNeg) = 3 from rfl, V3]
    obtain ⟨υ, a1, a2⟩ := go_3 S0 S1 S2 S3 h0 h1 h2 e4 e6 (s8 := (nI (f2 + k), τ)) rfl hP
    refine ⟨υ, a1, ?_⟩
    rw [take_snoc h2, List.flatMap_append, List.flatMap_cons, List.flatMap_nil, List.append_nil, putsM_app]
    exact a2
  · have U3 := (S2.fr hP.2).1.2.1
    unfold b_X11_goesOn_126
    dsimp only
    rw [show ((2 : Int32).toNatClampNeg) = 2 from rfl, U3, if_pos (rg_le2 b2), e6, show nI (f1 + k1) + 1 = nI (f1 + (k1 + 1)) from nI_1 _]
theorem go_1 {σ : rS} {pl : Bool} {v : V3} {g f0 f1 f2 f3 k0 : Nat} {q0 q1 q2 q3 : List (Nat × Nat)} (S0 : SgM σ 0 f0 q0) (S1 : SgM σ 1 f1 q1) (S2 : SgM σ 2 f2 q2) (S3 : SgM σ 3 f3 q3) {o0 : Nat × Nat} (h0 : q0[k0]? = some o0) {s4 : Int32 × rS} (e4 : s4.1 = nI (f0 + k0)) {l : List (Nat × V3)} {τ : rS} (H : InM σ l τ) : ∃ υ, oLoop (b_X11_goesOn_107 (nI g) v.1 v.2.1 v.2.2 (if pl then 1 else 0) s4) oFuel (nI f1, τ) = some (Sum.inr (nI (f0 + (k0 + 1)), υ)) ∧ InM σ (putsM pl v (e1M g q1 q2 q3 o0) l) υ := by
  have b0 := S0.1.2.2
  have b1 := S1.1.2.2
  have b2 := S2.1.2.2
  have b3 := S3.1.2.2
  have hx := oL_rng (body := (b_X11_goesOn_107 (nI g) v.1 v.2.1 v.2.2 (if pl then 1 else 0) s4)) (fun k τ => InM σ (putsM pl v ((q1.take k).flatMap (fun o => e2M g q2 q3 o0 o)) l) τ) (f := f1) (N := q1.length) (fun υ => Sum.inr (nI (f0 + (k0 + 1)), υ)) (fun k τ hk hP => ?_) (fun τ hP => ?_) (n := oFuel) (by have : oFuel = 100000 := rfl; omega) H
  · obtain ⟨υ, a1, a2⟩ := hx
    rw [List.take_length] at a2
    exact ⟨υ, a1, a2⟩
  · obtain ⟨o1, h1⟩ : ∃ o, q1[k]? = some o := ⟨q1[k], List.getElem?_eq_getElem hk⟩
    have U3 := (S1.fr hP.2).1.2.1
    have V3 := (S2.fr hP.2).1.1
    unfold b_X11_goesOn_107
    dsimp only
    rw [show ((1 : Int32).toNatClampNeg) = 1 from rfl, U3, if_neg (rg_le b1 hk), oLet_eq, show ((2 : Int32).toNatClampNeg) = 2 from rfl, V3]
    obtain ⟨υ, a1, a2⟩ := go_2 S0 S1 S2 S3 h0 h1 e4 (s6 := (nI (f1 + k), τ)) rfl hP
    refine ⟨υ, a1, ?_⟩
    rw [take_snoc h1, List.flatMap_append, List.flatMap_cons, List.flatMap_nil, List.append_nil, putsM_app]
    exact a2
  · have U3 := (S1.fr hP.2).1.2.1
    unfold b_X11_goesOn_107
    dsimp only
    rw [show ((1 : Int32).toNatClampNeg) = 1 from rfl, U3, if_pos (rg_le2 b1), e4, show nI (f0 + k0) + 1 = nI (f0 + (k0 + 1)) from nI_1 _]
theorem go_0 {σ : rS} {pl : Bool} {v : V3} {g f0 f1 f2 f3 : Nat} {q0 q1 q2 q3 : List (Nat × Nat)} (S0 : SgM σ 0 f0 q0) (S1 : SgM σ 1 f1 q1) (S2 : SgM σ 2 f2 q2) (S3 : SgM σ 3 f3 q3) {l : List (Nat × V3)} {τ : rS} (H : InM σ l τ) : ∃ υ, oLoop (b_X11_goesOn_88 (nI g) v.1 v.2.1 v.2.2 (if pl then 1 else 0)) oFuel (nI f0, τ) = some (Sum.inl ((), υ)) ∧ InM σ (putsM pl v (e0M g q0 q1 q2 q3) l) υ := by
  have b0 := S0.1.2.2
  have b1 := S1.1.2.2
  have b2 := S2.1.2.2
  have b3 := S3.1.2.2
  have hx := oL_rng (body := (b_X11_goesOn_88 (nI g) v.1 v.2.1 v.2.2 (if pl then 1 else 0))) (fun k τ => InM σ (putsM pl v ((q0.take k).flatMap (fun o => e1M g q1 q2 q3 o)) l) τ) (f := f0) (N := q0.length) (fun υ => Sum.inl ((), υ)) (fun k τ hk hP => ?_) (fun τ hP => ?_) (n := oFuel) (by have : oFuel = 100000 := rfl; omega) H
  · obtain ⟨υ, a1, a2⟩ := hx
    rw [List.take_length] at a2
    exact ⟨υ, a1, a2⟩
  · obtain ⟨o0, h0⟩ : ∃ o, q0[k]? = some o := ⟨q0[k], List.getElem?_eq_getElem hk⟩
    have U3 := (S0.fr hP.2).1.2.1
    have V3 := (S1.fr hP.2).1.1
    unfold b_X11_goesOn_88
    dsimp only
    rw [show ((0 : Int32).toNatClampNeg) = 0 from rfl, U3, if_neg (rg_le b0 hk), oLet_eq, show ((1 : Int32).toNatClampNeg) = 1 from rfl, V3]
    obtain ⟨υ, a1, a2⟩ := go_1 S0 S1 S2 S3 h0 (s4 := (nI (f0 + k), τ)) rfl hP
    refine ⟨υ, a1, ?_⟩
    rw [take_snoc h0, List.flatMap_append, List.flatMap_cons, List.flatMap_nil, List.append_nil, putsM_app]
    exact a2
  · have U3 := (S0.fr hP.2).1.2.1
    unfold b_X11_goesOn_88
    dsimp only
    rw [show ((0 : Int32).toNatClampNeg) = 0 from rfl, U3, if_pos (rg_le2 b0)]
