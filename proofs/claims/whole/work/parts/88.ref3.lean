/-! the reference: laysOptions -/
def aM (L code : Nat) : Nat := if code = 15 then L else shT code
def bM (L code : Nat) : Nat := if code = 15 then L else loT code
def unM (L code : Nat) : Bool := decide (aM L code ≠ bM L code ∨ code = 15)
def enM (L x : Nat) : Bool := decide (x = 0 ∨ x = L)
def onM (L x : Nat) : Nat := if x < L then x + 1 else L
def wdM (next : Nat) : Nat := if next = 2 then 1 else 0
def o1M (L code next : Nat) : List (Nat × Nat) := if enM L (aM L code) = true ∧ enM L (bM L code) = true then [(if next = 0 then 0 else codeM L (wdM next) 1 false, next)] else []
def o2M (L code next : Nat) : List (Nat × Nat) := if 0 < next ∧ 0 < bM L code ∧ enM L (aM L code) = true then [(codeM L (wdM next) (onM L (bM L code)) (decide (onM L (bM L code) ≠ 1)), next - 1)] else []
def o3M (L code next : Nat) : List (Nat × Nat) := if 0 < next ∧ 0 < aM L code ∧ unM L code = true ∧ enM L (bM L code) = true then [(codeM L (wdM next) (onM L (aM L code)) (decide (onM L (aM L code) ≠ 1)), next - 1)] else []
def o4M (L code next : Nat) : List (Nat × Nat) := if next = 2 ∧ 0 < aM L code then [(codeM L (onM L (aM L code)) (onM L (bM L code)) (unM L code), 0)] else []
/-- in which ways runs of a code go on -/
def optsM (L code next : Nat) : List (Nat × Nat) := o1M L code next ++ o2M L code next ++ o3M L code next ++ o4M L code next
def b2i (x : Bool) : Int32 := if x then 1 else 0
theorem b2i0 (x : Bool) : (b2i x = 0) = (x = false) := by cases x <;> simp [b2i]
theorem oJ_seg {R S : Type} {m : Option (R ⊕ S)} {rest : S → Option R} {Q : Option R → Prop} (P : S → Prop) (h : ∃ s, m = some (.inr s) ∧ P s) (hr : ∀ s, P s → Q (rest s)) : Q (oJoin m rest) := by
  obtain ⟨s, h1, h2⟩ := h
  rw [h1, oJ_inr]
  exact hr s h2
theorem on_eq {σ : rS} {L x : Nat} (S : ShM σ L) (hx : x ≤ 4) : v_X11_on σ (nI x) = nI (onM L x) ∧ onM L x ≤ 4 := by
  obtain ⟨h1, h2, -⟩ := S
  unfold v_X11_on onM
  rw [h1]
  by_cases q : x < L
  · rw [if_neg (fun z => by have := (nI_leI (by omega) (by omega)).mp z; omega), if_pos q, nI_1]
    exact ⟨rfl, by omega⟩
  · rw [if_pos ((nI_leI (by omega) (by omega)).mpr (by omega)), if_neg q]
    exact ⟨rfl, by omega⟩
theorem o_len (L code next : Nat) : (o1M L code next).length ≤ 1 ∧ (o2M L code next).length ≤ 1 ∧ (o3M L code next).length ≤ 1 ∧ (o4M L code next).length ≤ 1 := by
  unfold o1M o2M o3M o4M
  refine ⟨?_, ?_, ?_, ?_⟩ <;> split <;> simp
theorem lays_eq {σ : rS} {L : Nat} {os : List (Nat × Nat)} (S : ShM σ L) (O : OpM σ os) (hl : os.length + 4 ≤ 64) {code next : Nat} (hc : code < 16) (hn : next ≤ 2) : ∃ τ, f_X11_laysOptions σ (nI code) (nI next) = some ((), τ) ∧ OpM τ (os ++ optsM L code next) ∧ FrQ σ τ := by
  have hL := S.2.1
  obtain ⟨k1, k2⟩ := tT_le code
  have ha : aM L code ≤ 4 := by unfold aM; split <;> omega
  have hb : bM L code ≤ 4 := by unfold bM; split <;> omega
  have e15 : (nI code = 15) = (code = 15) := propext (nI_eq (b := 15) (by omega) (by omega))
  have eab : (nI (aM L code) = nI (bM L code)) = (aM L code = bM L code) := propext (nI_eq (by omega) (by omega))
  have za : (nI (aM L code) = 0) = (aM L code = 0) := propext (nI_eq (b := 0) (by omega) (by omega))
  have zb : (nI (bM L code) = 0) = (bM L code = 0) := propext (nI_eq (b := 0) (by omega) (by omega))
  have la : (nI (aM L code) = nI L) = (aM L code = L) := propext (nI_eq (by omega) (by omega))
  have lb : (nI (bM L code) = nI L) = (bM L code = L) := propext (nI_eq (by omega) (by omega))
  have pa : (nI (aM L code) ≤ 0) = (aM L code = 0) := propext ⟨fun q => by have := (nI_leI (b := 0) (by omega) (by omega)).mp q; omega, fun q => by rw [q]; decide⟩
  have pb : (nI (bM L code) ≤ 0) = (bM L code = 0) := propext ⟨fun q => by have := (nI_leI (b := 0) (by omega) (by omega)).mp q; omega, fun q => by rw [q]; decide⟩
  have n0 : (nI next = 0) = (next = 0) := propext (nI_eq (b := 0) (by omega) (by omega))
  have n2 : (nI next = 2) = (next = 2) := propext (nI_eq (b := 2) (by omega) (by omega))
  have np : (nI next ≤ 0) = (next = 0) := propext ⟨fun q => by have := (nI_leI (b := 0) (by omega) (by omega)).mp q; omega, fun q => by rw [q]; decide⟩
  have nw : (if next = 2 then (1 : Int32) else 0) = nI (wdM next) := by unfold wdM; split <;> rfl
  have hw : wdM next ≤ 4 := by unfold wdM; split <;> omega
  have eu : (if aM L code = bM L code then (if code = 15 then (1 : Int32) else 0) else 1) = b2i (unM L code) := by
    unfold unM b2i
    by_cases q1 : aM L code = bM L code <;> by_cases q2 : code = 15 <;> simp [q1, q2]
  have ea : (if aM L code = 0 then (1 : Int32) else if aM L code = L then 1 else 0) = b2i (enM L (aM L code)) := by
    unfold enM b2i
    by_cases q1 : aM L code = 0 <;> by_cases q2 : aM L code = L <;> simp [q1, q2]
  have eb : (if bM L code = 0 then (1 : Int32) else if bM L code = L then 1 else 0) = b2i (enM L (bM L code)) := by
    unfold enM b2i
    by_cases q1 : bM L code = 0 <;> by_cases q2 : bM L code = L <;> simp [q1, q2]
  obtain ⟨y1, y2, y3, y4⟩ := o_len L code next
  unfold f_X11_laysOptions
  refine oJ_seg (Q := fun o => ∃ τ, o = some ((), τ) ∧ OpM τ (os ++ optsM L code next) ∧ FrQ σ τ) (fun j => j = nI (aM L code)) ?_ (fun j hj => ?_)
  · rw [S.1]
    simp only [e15]
    unfold aM
    by_cases q : code = 15
    · rw [if_pos q, if_pos q]; exact ⟨_, rfl, rfl⟩
    · rw [if_neg q, if_neg q, if_pos (inB_nI (by decide) hc), nI_clamp (by omega), (S.2.2 code hc).1]; exact ⟨_, rfl, rfl⟩
  subst hj
  refine oJ_seg (Q := fun o => ∃ τ, o = some ((), τ) ∧ OpM τ (os ++ optsM L code next) ∧ FrQ σ τ) (fun j => j = nI (bM L code)) ?_ (fun j hj => ?_)
  · rw [S.1]
    simp only [e15]
    unfold bM
    by_cases q : code = 15
    · rw [if_pos q, if_pos q]; exact ⟨_, rfl, rfl⟩
    · rw [if_neg q, if_neg q, if_pos (inB_nI (by decide) hc), nI_clamp (by omega), (S.2.2 code hc).2]; exact ⟨_, rfl, rfl⟩
  subst hj
  have e8 : (if nI (aM L code) ≤ 0 then (0 : Int32) else 1) = b2i (decide (0 < aM L code)) := by
    simp only [pa]
    unfold b2i
    by_cases q : aM L code = 0
    · simp [q]
    · have : 0 < aM L code := by omega
      simp [q, this]
  rw [S.1]
  simp only [oLet_eq, eab, e15, za, zb, la, lb, eu, ea, eb, e8, b2i0, np, n0, n2, nw, pb]
  refine oJ_seg (Q := fun o => ∃ τ, o = some ((), τ) ∧ OpM τ (os ++ optsM L code next) ∧ FrQ σ τ) (fun τ => OpM τ (os ++ o1M L code next) ∧ FrQ σ τ) ?_ (fun τ1 h1 => ?_)
  · unfold o1M
    cases qa : enM L (aM L code) with
    | false =>
      have hc1 : (if false = false then true else if enM L (bM L code) = false then true else false) = true := rfl
      have hc2 : ¬ (false = true ∧ enM L (bM L code) = true) := fun z => absurd z.1 (by decide)
      rw [if_pos hc1, if_neg hc2, List.append_nil]
      exact ⟨σ, rfl, O, FrQ.rf σ⟩
    | true =>
      cases qb : enM L (bM L code) with
      | false =>
        have hc1 : (if true = false then true else if false = false then true else false) = true := rfl
        have hc2 : ¬ (true = true ∧ false = true) := fun z => absurd z.2 (by decide)
        rw [if_pos hc1, if_neg hc2, List.append_nil]
        exact ⟨σ, rfl, O, FrQ.rf σ⟩
      | true =>
        have hc1 : ¬ ((if true = false then true else if true = false then true else false) = true) := by decide
        have hc2 : true = true ∧ true = true := ⟨rfl, rfl⟩
        rw [if_neg hc1, if_pos hc2]
        by_cases q0 : next = 0
        · rw [if_pos q0, if_pos q0, oJ_inr]
          obtain ⟨τ, g1, g2, g3⟩ := option_eq O (by omega) 0 next
          rw [show (0 : Int32) = nI 0 from rfl, g1, oB_some]
          exact ⟨τ, rfl, g2, g3⟩
        · rw [if_neg q0, if_neg q0, show (1 : Int32) = nI 1 from rfl, code_eq S hw (b := 1) (by omega) false (w := 0) rfl, Option.bind_some, oJ_inr]
          obtain ⟨τ, g1, g2, g3⟩ := option_eq O (by omega) (codeM L (wdM next) 1 false) next
          rw [g1, oB_some]
          exact ⟨τ, rfl, g2, g3⟩
  obtain ⟨O1, F1⟩ := h1
  have S1 := S.fr F1
  have nm : 0 < next → nI next - 1 = nI (next - 1) := fun h => nI_sub (b := 1) h
  have lb1 : (os ++ o1M L code next).length ≤ os.length + 1 := by rw [List.length_append]; omega
  refine oJ_seg (Q := fun o => ∃ τ, o = some ((), τ) ∧ OpM τ (os ++ optsM L code next) ∧ FrQ σ τ) (fun τ => OpM τ (os ++ o1M L code next ++ o2M L code next) ∧ FrQ σ τ) ?_ (fun τ2 h2 => ?_)
  · by_cases hC : 0 < next ∧ 0 < bM L code ∧ enM L (aM L code) = true
    · have c1 : ¬ ((if next = 0 then true else if bM L code = 0 then true else if enM L (aM L code) = false then true else false) = true) := by
        rw [if_neg (show ¬ next = 0 by omega), if_neg (show ¬ bM L code = 0 by omega), if_neg (show ¬ enM L (aM L code) = false by rw [hC.2.2]; decide)]
        exact Bool.false_ne_true
      have e2 : o2M L code next = [(codeM L (wdM next) (onM L (bM L code)) (decide (onM L (bM L code) ≠ 1)), next - 1)] := by unfold o2M; rw [if_pos hC]
      obtain ⟨v1, v2⟩ := on_eq S1 hb
      have ev : (if nI (onM L (bM L code)) = 1 then (0 : Int32) else 1) = if decide (onM L (bM L code) ≠ 1) = true then 1 else 0 := by
        have q : (nI (onM L (bM L code)) = 1) = (onM L (bM L code) = 1) := propext (nI_eq (b := 1) (by omega) (by omega))
        simp only [q]
        by_cases z : onM L (bM L code) = 1 <;> simp [z]
      rw [if_neg c1, v1, code_eq S1 hw v2 _ ev, nm hC.1, e2, Option.bind_some]
      obtain ⟨τ, g1, g2, g3⟩ := option_eq O1 (by omega) (codeM L (wdM next) (onM L (bM L code)) (decide (onM L (bM L code) ≠ 1))) (next - 1)
      rw [g1, oB_some]
      exact ⟨τ, rfl, g2, F1.tr g3⟩
    · have c1 : (if next = 0 then true else if bM L code = 0 then true else if enM L (aM L code) = false then true else false) = true := by
        by_cases z1 : next = 0
        · rw [if_pos z1]
        · rw [if_neg z1]
          by_cases z2 : bM L code = 0
          · rw [if_pos z2]
          · rw [if_neg z2, if_pos]
            cases z3 : enM L (aM L code) with
            | false => rfl
            | true => exact absurd ⟨by omega, by omega, z3⟩ hC
      have e2 : o2M L code next = [] := by unfold o2M; rw [if_neg hC]
      rw [if_pos c1, e2, List.append_nil]
      exact ⟨τ1, rfl, O1, F1⟩
  obtain ⟨O2, F2⟩ := h2
  have S2 := S.fr F2
  have lb2 : (os ++ o1M L code next ++ o2M L code next).length ≤ os.length + 2 := by rw [List.length_append]; omega
  refine oJ_seg (Q := fun o => ∃ τ, o = some ((), τ) ∧ OpM τ (os ++ optsM L code next) ∧ FrQ σ τ) (fun τ => OpM τ (os ++ o1M L code next ++ o2M L code next ++ o3M L code next) ∧ FrQ σ τ) ?_ (fun τ3 h3 => ?_)
  · by_cases hC : 0 < next ∧ 0 < aM L code ∧ unM L code = true ∧ enM L (bM L code) = true
    · have c1 : ¬ ((if next = 0 then true else if decide (0 < aM L code) = false then true else if unM L code = false then true else if enM L (bM L code) = false then true else false) = true) := by
        rw [if_neg (show ¬ next = 0 by omega), if_neg (show ¬ decide (0 < aM L code) = false by rw [decide_eq_true hC.2.1]; decide), if_neg (show ¬ unM L code = false by rw [hC.2.2.1]; decide), if_neg (show ¬ enM L (bM L code) = false by rw [hC.2.2.2]; decide)]
        exact Bool.false_ne_true
      have e2 : o3M L code next = [(codeM L (wdM next) (onM L (aM L code)) (decide (onM L (aM L code) ≠ 1)), next - 1)] := by unfold o3M; rw [if_pos hC]
      obtain ⟨v1, v2⟩ := on_eq S2 ha
      have ev : (if nI (onM L (aM L code)) = 1 then (0 : Int32) else 1) = if decide (onM L (aM L code) ≠ 1) = true then 1 else 0 := by
        have q : (nI (onM L (aM L code)) = 1) = (onM L (aM L code) = 1) := propext (nI_eq (b := 1) (by omega) (by omega))
        simp only [q]
        by_cases z : onM L (aM L code) = 1 <;> simp [z]
      rw [if_neg c1, v1, code_eq S2 hw v2 _ ev, nm hC.1, e2, Option.bind_some]
      obtain ⟨τ, g1, g2, g3⟩ := option_eq O2 (by omega) (codeM L (wdM next) (onM L (aM L code)) (decide (onM L (aM L code) ≠ 1))) (next - 1)
      rw [g1, oB_some]
      exact ⟨τ, rfl, g2, F2.tr g3⟩
    · have c1 : (if next = 0 then true else if decide (0 < aM L code) = false then true else if unM L code = false then true else if enM L (bM L code) = false then true else false) = true := by
        by_cases z1 : next = 0
        · rw [if_pos z1]
        · rw [if_neg z1]
          by_cases z2 : 0 < aM L code
          · rw [if_neg (show ¬ decide (0 < aM L code) = false by rw [decide_eq_true z2]; decide)]
            cases z3 : unM L code with
            | false => rfl
            | true =>
              cases z4 : enM L (bM L code) with
              | false => rfl
              | true => exact absurd ⟨by omega, z2, z3, z4⟩ hC
          · rw [if_pos (decide_eq_false z2)]
      have e2 : o3M L code next = [] := by unfold o3M; rw [if_neg hC]
      rw [if_pos c1, e2, List.append_nil]
      exact ⟨τ2, rfl, O2, F2⟩
  obtain ⟨O3, F3⟩ := h3
  have S3 := S.fr F3
  have lb3 : (os ++ o1M L code next ++ o2M L code next ++ o3M L code next).length ≤ os.length + 3 := by rw [List.length_append]; omega
  have eo : os ++ optsM L code next = os ++ o1M L code next ++ o2M L code next ++ o3M L code next ++ o4M L code next := by
    unfold optsM
    simp only [List.append_assoc]
  rw [eo]
  by_cases hC : next = 2 ∧ 0 < aM L code
  · have c1 : ¬ ((if next = 2 then (if decide (0 < aM L code) = false then true else false) else true) = true) := by
      rw [if_pos hC.1, if_neg (show ¬ decide (0 < aM L code) = false by rw [decide_eq_true hC.2]; decide)]
      exact Bool.false_ne_true
    have e2 : o4M L code next = [(codeM L (onM L (aM L code)) (onM L (bM L code)) (unM L code), 0)] := by unfold o4M; rw [if_pos hC]
    obtain ⟨v1, v2⟩ := on_eq S3 ha
    obtain ⟨w1, w2⟩ := on_eq S3 hb
    rw [if_neg c1, v1, w1, code_eq S3 v2 w2 (unM L code) (w := b2i (unM L code)) rfl, e2, Option.bind_some]
    obtain ⟨τ, g1, g2, g3⟩ := option_eq O3 (by omega) (codeM L (onM L (aM L code)) (onM L (bM L code)) (unM L code)) 0
    have g1 : f_X11_option τ3 (nI (codeM L (onM L (aM L code)) (onM L (bM L code)) (unM L code))) 0 = some ((), τ) := g1
    rw [g1, oB_some]
    exact ⟨τ, rfl, g2, F3.tr g3⟩
  · have c1 : (if next = 2 then (if decide (0 < aM L code) = false then true else false) else true) = true := by
      by_cases z1 : next = 2
      · rw [if_pos z1]
        have z2 : ¬ 0 < aM L code := fun z => hC ⟨z1, z⟩
        rw [if_pos (decide_eq_false z2)]
      · rw [if_neg z1]
    have e2 : o4M L code next = [] := by unfold o4M; rw [if_neg hC]
    rw [if_pos c1, e2, List.append_nil]
    exact ⟨τ3, rfl, O3, F3⟩
