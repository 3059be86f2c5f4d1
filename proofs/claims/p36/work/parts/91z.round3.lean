/-! a round's end: the ladder, and what both sides leave -/
theorem FrCl_X {W : Nat → Nat → Prop} {σ τ : rS} (f : FrX W σ τ) (h : ∀ x j, W x j → x ≠ 2 ∧ x < 67) : FrCl σ τ := ⟨fun x j a => f.2.2.2.2 x j fun w => by have := h x j w; omega, fun x j _ => by rw [f.2.2.2.1], by rw [f.1]⟩
theorem up2_comm (m : Mem) {x j y k : Nat} (v w : Int32) (h : ¬ (x = y ∧ j = k)) : up2 (up2 m x j v) y k w = up2 (up2 m y k w) x j v := by
  funext a b
  rw [up2_at, up2_at, up2_at, up2_at]
  by_cases c : a = y ∧ b = k
  · rw [if_pos c, if_neg (by omega), if_pos c]
  · rw [if_neg c, if_neg c]
def clM (m : Mem) (j w : Nat) : Mem := if j = 0 then m else up2 (up2 m 74 j (m 74 (j - 1))) 74 (j - 1) (nI w)
theorem clM_74 (m : Mem) (j w : Nat) {x k : Nat} (h : x ≠ 74) : clM m j w x k = m x k := by
  unfold clM
  split
  · rfl
  · rw [up2_at, up2_at, if_neg (fun z => h z.1), if_neg (fun z => h z.1)]
theorem clM_up (m : Mem) {j w x k : Nat} (v : Int32) (h : x ≠ 74) : clM (up2 m x k v) j w = up2 (clM m j w) x k v := by
  unfold clM
  split
  · rfl
  · rw [up2_at, if_neg (by omega), up2_comm m (x := x) (j := k) (y := 74) (k := j) v _ (by omega), up2_comm _ (x := x) (j := k) (y := 74) (k := j - 1) v _ (by omega)]
theorem clM_la {m : Mem} {n j w : Nat} (la : LaI m n) (hn4 : n ≤ 4) (hw : w < n) (hj : j < n) (h1 : m 74 j = nI w) (h2 : ∀ i, i < j → ¬ m 74 i = nI w) : LaI (clM m j w) n := by
  by_cases j0 : j = 0
  · unfold clM
    rw [if_pos j0]
    exact la
  intro q hq
  have v : ∀ i, clM m j w 74 i = if i = j - 1 then nI w else if i = j then m 74 (j - 1) else m 74 i := fun i => by
    unfold clM
    rw [if_neg j0, up2_at, up2_at]
    by_cases c : i = j - 1
    · rw [if_pos ⟨rfl, c⟩, if_pos c]
    · rw [if_neg (fun z => c z.2), if_neg c]
      by_cases c2 : i = j
      · rw [if_pos ⟨rfl, c2⟩, if_pos c2]
      · rw [if_neg (fun z => c2 z.2), if_neg c2]
  by_cases e : q = w
  · subst e
    refine ⟨j - 1, by omega, by rw [v, if_pos rfl], fun i hi => ?_⟩
    rw [v, if_neg (by omega), if_neg (by omega)]
    exact h2 i (by omega)
  · have nqw : ¬ nI w = nI q := fun z => e ((nI_eq (by omega) (by omega)).mp z).symm
    obtain ⟨i0, g1, g2, g3⟩ := la q hq
    have i0j : i0 ≠ j := fun z => nqw (by rw [← h1, ← z, g2])
    by_cases c : i0 = j - 1
    · subst c
      refine ⟨j, hj, by rw [v, if_neg (by omega), if_pos rfl, g2], fun i hi => ?_⟩
      rw [v]
      by_cases c1 : i = j - 1
      · rw [if_pos c1]; exact nqw
      · rw [if_neg c1, if_neg (by omega)]
        exact g3 i (by omega)
    · refine ⟨i0, g1, by rw [v, if_neg c, if_neg i0j, g2], fun i hi => ?_⟩
      rw [v]
      by_cases c1 : i = j - 1
      · rw [if_pos c1]; exact nqw
      · rw [if_neg c1]
        by_cases c2 : i = j
        · rw [if_pos c2]; exact g3 _ (by omega)
        · rw [if_neg c2]; exact g3 i hi
/-- the plain cells after a round that w wins; w's place is j -/
def erM (m : Mem) (R : Nat → Nat) (w n j : Nat) : Mem := up2 (up2 (up2 (up2 (clM (roM m R w n) j w) 73 w (m 73 w + 1)) 67 26 (m 67 26 + 1)) 67 27 (nI w)) 67 24 (-1)
theorem roM_at (m : Mem) (R : Nat → Nat) (w n : Nat) {x k : Nat} (h : x ≠ 70) : roM m R w n x k = m x k := by
  unfold roM loM
  rw [up2_at, if_neg (by omega), if_neg (by omega)]
theorem climb_c {σ : rS} {B : Bd} {E : List Ent} {dl : Option (Nat × Nat × Nat)} {m : Mem} {l : Nat → Int64} {ch n j w : Nat} (C : CI σ B E dl m l ch) (hn : m 67 6 = nI n) (hn4 : n ≤ 4) (hj : j < n) (h1 : m 74 j = nI w) (h2 : ∀ i, i < j → ¬ m 74 i = nI w) : ∃ τ, f_X6_climb σ (nI w) = some ((), τ) ∧ CI τ B E dl (clM m j w) l ch ∧ FrX (fun x _ => x = 28) σ τ := by
  have q19 : rI σ 19 0 = nI n := (CI_4 C (x := 19) (j := 0) (by omega)).trans hn
  unfold f_X6_climb
  rw [cplace_eq C q19 hn4 hj h1 h2, Option.bind_some]
  have c0 : (nI j ≤ 0) = (j ≤ 0) := propext (nI_leI (b := 0) (by omega) (by omega))
  simp only [c0]
  unfold clM
  by_cases j0 : j = 0
  · rw [if_pos (by omega), if_pos j0]
    exact ⟨σ, rfl, C, FrX.rf _ σ⟩
  · rw [if_neg (by omega), if_neg j0, nI_s1 (by omega), vAt_nI (by decide) (by omega), vSet_nI (by decide) (by omega), row_w, oLet_eq, vSet_nI (by decide) (by omega), row_w, oLet_eq]
    have q28 : rI σ 28 (j - 1) = m 74 (j - 1) := CI_4 C (x := 28) (j := j - 1) (by omega)
    rw [q28]
    have C1 := CI_w (CI_w C (a := 28) (k := j) (by omega) (m 74 (j - 1))) (a := 28) (k := j - 1) (by omega) (nI w)
    exact ⟨_, rfl, C1, (FrX.w (W := fun x _ => x = 28) _ _ rfl).tr (FrX.w (W := fun x _ => x = 28) _ _ rfl)⟩
theorem cEndRound_eq {σ : rS} {B : Bd} {E : List Ent} {dl : Option (Nat × Nat × Nat)} {m : Mem} {l : Nat → Int64} {ch n j w : Nat} (C : CI σ B E dl m l ch) (hn : m 67 6 = nI n) (hn4 : n ≤ 4) (hw : w < n) (hj : j < n) (h1 : m 74 j = nI w) (h2 : ∀ i, i < j → ¬ m 74 i = nI w) : ∃ τ, f_X10_endRound σ (nI w) = some ((), τ) ∧ CI τ B E dl (erM m (bR B) w n j) l ch ∧ FrCl σ τ ∧ FrK σ τ := by
  obtain ⟨τ, a1, A, Fr⟩ := cRound_loop C hn hn4 hw
  have r6 : roM m (bR B) w n 67 6 = nI n := (roM_at m (bR B) w n (by omega)).trans hn
  have q22 : rI τ 22 w = m 70 w := by
    rw [CI_4 A (x := 22) (j := w) (by omega)]
    show loM m (bR B) w n 70 w = _
    unfold loM
    rw [if_neg (by omega)]
  have A1 : CI (wI τ 22 w (m 70 w + loS (bR B) w n)) B E dl (roM m (bR B) w n) l ch := CI_w A (a := 22) (k := w) (by omega) _
  have q27 : rI (wI τ 22 w (m 70 w + loS (bR B) w n)) 27 w = m 73 w := (CI_4 A1 (x := 27) (j := w) (by omega)).trans (roM_at _ _ _ _ (by decide))
  have A2 : CI (wI (wI τ 22 w (m 70 w + loS (bR B) w n)) 27 w (m 73 w + 1)) B E dl (up2 (roM m (bR B) w n) 73 w (m 73 w + 1)) l ch := CI_w A1 (a := 27) (k := w) (by omega) _
  obtain ⟨τ2, b1, b2, b3⟩ := climb_c A2 (n := n) (by rw [up2_at, if_neg (by omega), r6]) hn4 hj (by rw [up2_at, if_neg (by omega), roM_at _ _ _ _ (by decide), h1]) (fun i hi => by rw [up2_at, if_neg (by omega), roM_at _ _ _ _ (by decide)]; exact h2 i hi)
  rw [clM_up _ _ (by decide)] at b2
  have A3 : CI (wI τ2 3 8 (-1)) B E dl _ l ch := CI_w b2 (a := 3) (k := 8) (by omega) (-1)
  have A4 := CI_w A3 (a := 3) (k := 11) (by omega) (nI w)
  have q10 : rI (wI (wI τ2 3 8 (-1)) 3 11 (nI w)) 3 10 = m 67 26 + 0 := by
    rw [CI_4 A4 (x := 3) (j := 10) (by omega), ad0]
    show up2 (up2 (up2 _ 73 w _) 67 24 _) 67 27 _ 67 26 = _
    rw [up2_at, if_neg (by omega), up2_at, if_neg (by omega), up2_at, if_neg (by omega), clM_74 _ _ _ (by decide), roM_at _ _ _ _ (by decide)]
  rw [ad0] at q10
  have A5 := CI_w A4 (a := 3) (k := 10) (by omega) (m 67 26 + 1)
  refine ⟨wI (wI (wI τ2 3 8 (-1)) 3 11 (nI w)) 3 10 (m 67 26 + 1), ?_, ?_, ?_, ?_⟩
  rotate_left
  · have e : up2 (up2 (up2 (up2 (clM (roM m (bR B) w n) j w) 73 w (m 73 w + 1)) (cx 3) (cj 3 8) (-1)) (cx 3) (cj 3 11) (nI w)) (cx 3) (cj 3 10) (m 67 26 + 1) = erM m (bR B) w n j := by
      unfold erM
      show up2 (up2 (up2 (up2 (clM (roM m (bR B) w n) j w) 73 w (m 73 w + 1)) 67 24 (-1)) 67 27 (nI w)) 67 26 (m 67 26 + 1) = _
      rw [up2_comm _ _ _ (x := 67) (j := 27) (by omega), up2_comm _ _ _ (x := 67) (j := 24) (by omega), up2_comm _ _ _ (x := 67) (j := 24) (by omega)]
    rw [e] at A5
    exact A5
  · exact (((((FrCl_X Fr fun x j w => by omega).tr (FrCl_w (by omega) _)).tr (FrCl_w (by omega) _)).tr (FrCl_X b3 fun x j w => by omega)).tr (FrCl_w (by omega) _)).tr ((FrCl_w (by omega) _).tr (FrCl_w (by omega) _))
  · exact (((((FrK_X Fr fun x j w => by omega).tr (FrK_w (by omega) _)).tr (FrK_w (by omega) _)).tr (FrK_X b3 fun x j w => by omega)).tr (FrK_w (by omega) _)).tr ((FrK_w (by omega) _).tr (FrK_w (by omega) _))
  · unfold f_X10_endRound
    rw [a1, oJ_inr]
    dsimp only
    rw [vAt_nI (by decide) (by omega), q22, vSet_nI (by decide) (by omega), row_w, oLet_eq, vAt_nI (by decide) (by omega), q27, vSet_nI (by decide) (by omega), row_w, oLet_eq, b1, oB_some, oLet_eq, oLet_eq, q10, oLet_eq]
