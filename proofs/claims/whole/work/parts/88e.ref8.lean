/-! the reference: goesOn whole -/
/-- the states that a state comes to, with the sets that begin -/
def emM (L k : Nat) (ru : Nat → Nat) (g : Nat) : List (Nat × Nat) := e0M g (sgM L k ru 0) (sgM L k ru 1) (sgM L k ru 2) (sgM L k ru 3)
theorem emM_nil {L k : Nat} {ru : Nat → Nat} {g c : Nat} (hc : c < 4) (h : sgM L k ru c = []) : emM L k ru g = [] := by
  have hcs : c = 0 ∨ c = 1 ∨ c = 2 ∨ c = 3 := by omega
  unfold emM e0M
  rcases hcs with rfl | rfl | rfl | rfl
  · rw [h]; rfl
  · refine fm_nil (fun o => ?_) _
    unfold e1M
    rw [h]; rfl
  · refine fm_nil (fun o => ?_) _
    unfold e1M
    refine fm_nil (fun o => ?_) _
    unfold e2M
    rw [h]; rfl
  · refine fm_nil (fun o => ?_) _
    unfold e1M
    refine fm_nil (fun o => ?_) _
    unfold e2M
    refine fm_nil (fun o => ?_) _
    unfold e3M
    rw [h]; rfl
theorem cc_get {L k : Nat} {ru : Nat → Nat} {c i : Nat} (hc : c < 4) {o : Nat × Nat} (h : (sgM L k ru c)[i]? = some o) : (ccM L k ru 4)[(ccM L k ru c).length + i]? = some o := by
  have hil : i < (sgM L k ru c).length := (List.getElem?_eq_some_iff.mp h).1
  have key : ∀ d, (ccM L k ru (c + 1 + d))[(ccM L k ru c).length + i]? = some o := by
    intro d
    induction d with
    | zero =>
      rw [Nat.add_zero, ccM_s, List.getElem?_append_right (by omega), Nat.add_sub_cancel_left]
      exact h
    | succ d ih =>
      rw [show c + 1 + (d + 1) = c + 1 + d + 1 by omega, ccM_s, List.getElem?_append_left (List.getElem?_eq_some_iff.mp ih).1]
      exact ih
  have := key (3 - c)
  rw [show c + 1 + (3 - c) = 4 by omega] at this
  exact this
theorem sg_of {σ τ : rS} {L k : Nat} {ru : Nat → Nat} {l : List (Nat × V3)} (H : RdM σ L k ru l 4 τ) {c : Nat} (hc : c < 4) : SgM τ c (ccM L k ru c).length (sgM L k ru c) := by
  obtain ⟨h1, h2, -, h4, -, -⟩ := H
  obtain ⟨q1, q2⟩ := h2 c hc
  have hl := ccM_len L k ru (c + 1)
  rw [ccM_s, List.length_append] at hl q2
  refine ⟨⟨q1, q2, by omega⟩, fun i o hi => ?_⟩
  have hg := cc_get hc hi
  exact ⟨(h1.2 _ o hg).1, (h1.2 _ o hg).2, optsM_lt h4.2.1 o (List.mem_of_getElem? hi)⟩
theorem goesOn_eq {σ : rS} {L k g : Nat} {ru : Nat → Nat} {l : List (Nat × V3)} (S : ShM σ L) (H : ThM σ l) (hk : k < 65536) (hr : ∀ c, c < 4 → rI σ 107 c = nI (ru c) ∧ ru c ≤ 2) (v : V3) (pl : Bool) : ∃ τ, f_X11_goesOn σ (nI k) (nI g) v.1 v.2.1 v.2.2 (if pl then 1 else 0) = some ((), τ) ∧ ThM τ (putsM pl v (emM L k ru g) l) ∧ FrN σ τ := by
  have q : ∀ x j, ¬ (x = 67 ∧ j = 65) → rI (wI σ 67 65 0) x j = rI σ x j := fun x j a => by rw [q_II, if_neg a]
  have R0 : RdM σ L k ru l 0 (wI σ 67 65 0) := by
    refine ⟨⟨by rw [q_II, if_pos ⟨rfl, rfl⟩]; rfl, fun i o hi => absurd hi (by simp [ccM])⟩, fun d hd => absurd hd (Nat.not_lt_zero d), ?_, ?_, fun d hd => (q 107 d (by omega)).trans (hr d hd).1, ⟨rfl, rfl, rfl, fun x j _ _ _ _ _ _ i => q x j (fun z => (i z.1).2 z.2), fun _ _ _ _ _ => rfl⟩⟩
    · obtain ⟨h1, h2, h3, h4, h5⟩ := H
      exact ⟨(q 67 56 (by omega)).trans h1, h2, h3, fun i p hi => ⟨(q 104 i (by omega)).trans (h4 i p hi).1, (q 103 _ (by omega)).trans (h4 i p hi).2.1, (h4 i p hi).2.2⟩, fun x hx hn => (q 103 x (by omega)).trans (h5 x hx hn)⟩
    · exact ⟨(q 67 2 (by omega)).trans S.1, S.2.1, fun i hi => ⟨(q 89 i (by omega)).trans (S.2.2 i hi).1, (q 90 i (by omega)).trans (S.2.2 i hi).2⟩⟩
  have key : ∀ d c n τ, c + d = 4 → d < n → RdM σ L k ru l c τ → ∃ υ, oLoop (b_X11_goesOn_8 (nI k) (nI g) v.1 v.2.1 v.2.2 (if pl then 1 else 0)) n (nI c, τ) = some ((), υ) ∧ ThM υ (putsM pl v (emM L k ru g) l) ∧ FrN σ υ := by
    intro d
    induction d with
    | zero =>
      intro c n τ hc hn hR
      obtain ⟨n, rfl⟩ : ∃ m, n = m + 1 := ⟨n - 1, by omega⟩
      have e : c = 4 := by omega
      subst e
      have S0 := sg_of hR (c := 0) (by decide)
      have S1 := sg_of hR (c := 1) (by decide)
      have S2 := sg_of hR (c := 2) (by decide)
      have S3 := sg_of hR (c := 3) (by decide)
      obtain ⟨υ, a1, a2, a3⟩ := go_0 (g := g) (pl := pl) (v := v) S0 S1 S2 S3 (l := l) (τ := τ) ⟨hR.2.2.1, FrM.rf τ⟩
      refine ⟨υ, oLoop_l ?_, a2, hR.2.2.2.2.2.tr (FrN_M a3)⟩
      unfold b_X11_goesOn_8
      dsimp only
      have c1 : (4 : Int32) ≤ nI 4 := by decide
      rw [if_pos c1, oLet_eq, show ((0 : Int32).toNatClampNeg) = 0 from rfl, S0.1.1]
      exact a1
    | succ d ih =>
      intro c n τ hc hn hR
      obtain ⟨n, rfl⟩ : ∃ m, n = m + 1 := ⟨n - 1, by omega⟩
      obtain ⟨υ, a1, a2⟩ := rd_step hR hk (c := c) (by omega) (hr c (by omega)).2 (nI g) v.1 v.2.1 v.2.2 (if pl then 1 else 0)
      by_cases hz : sgM L k ru c = []
      · rw [if_pos hz] at a1
        refine ⟨υ, oLoop_l a1, ?_, a2.2.2.2.2.2⟩
        rw [emM_nil (by omega) hz]
        exact a2.2.2.1
      · rw [if_neg hz] at a1
        rw [oLoop_r a1]
        exact ih (c + 1) n υ (by omega) (by omega) a2
  unfold f_X11_goesOn
  rw [oLet_eq]
  exact key 4 0 oFuel _ rfl (by decide) R0
