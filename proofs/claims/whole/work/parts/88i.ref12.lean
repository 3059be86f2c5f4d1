/-! the reference: what is known of all whole ways -/
def dnM (L s : Nat) : Bool := decide (s = 0 ∨ s = 15 ∨ (loT s = L ∧ (shT s = 0 ∨ shT s = L)))
def doneM (L k m : Nat) : Bool := (List.range m).all fun c => dnM L (k / 16 ^ c % 16)
theorem doneM_s (L k m : Nat) : doneM L k (m + 1) = (doneM L k m && dnM L (k / 16 ^ m % 16)) := by
  unfold doneM
  rw [List.range_succ, List.all_append]
  simp
theorem b2i_s {x : Bool} : b2i x = 0 ∨ b2i x = 1 := by cases x <;> simp [b2i]
theorem isDone_eq {σ : rS} {L k : Nat} (S : ShM σ L) (hk : k < 65536) : f_X11_isDone σ (nI k) = some (b2i (doneM L k 4)) := by
  have hx := oL_ix (body := b_X11_isDone_4 σ (nI k)) (N := 4) (fun m s => s = (b2i (doneM L k m), nI m)) (fun r => r = b2i (doneM L k 4)) ?_ ?_ (n := oFuel) (by decide) (s := (1, 0)) rfl
  · obtain ⟨r, h1, h2⟩ := hx
    unfold f_X11_isDone
    rw [h1, h2]
  · rintro m s hm rfl
    refine ⟨_, ?_, rfl⟩
    unfold b_X11_isDone_4
    dsimp only
    have c1 : ¬ (4 : Int32) ≤ nI m := fun q => by have := (nI_leI (a := 4) (by omega) (by omega)).mp q; omega
    have hs : k / 16 ^ m % 16 < 16 := Nat.mod_lt _ (by decide)
    obtain ⟨t, ht⟩ : ∃ t, t = k / 16 ^ m % 16 := ⟨_, rfl⟩
    rw [if_neg c1, nib_eq hk hm, oLet_eq, doneM_s, ← ht]
    rw [← ht] at hs
    have e2 : nI m + 1 = nI (m + 1) := nI_1 m
    have e0 : (nI t = 0) = (t = 0) := propext (nI_eq (b := 0) (by omega) (by omega))
    have e15 : (nI t = 15) = (t = 15) := propext (nI_eq (b := 15) (by omega) (by omega))
    rw [e2]
    cases hd : doneM L k m
    · rfl
    · rw [if_neg (show ¬ b2i true = 0 by simp [b2i])]
      simp only [e0, e15]
      by_cases h0 : t = 0
      · rw [if_pos h0, if_pos rfl, h0]; rfl
      · by_cases h15 : t = 15
        · rw [if_neg h0, if_pos h15, if_pos rfl, h15]; rfl
        · have hT := tT_le t
          have hL := S.2.1
          have f1 : (nI (loT t) = nI L) = (loT t = L) := propext (nI_eq (by omega) (by omega))
          have f2 : (nI (shT t) = nI L) = (shT t = L) := propext (nI_eq (by omega) (by omega))
          have f3 : (nI (shT t) = 0) = (shT t = 0) := propext (nI_eq (b := 0) (by omega) (by omega))
          rw [if_neg h0, if_neg h15, if_neg (by decide), if_pos (inB_nI (by decide) hs), nI_clamp (by omega), (S.2.2 t hs).1, (S.2.2 t hs).2, S.1]
          simp only [f1, f2, f3, oLet_eq]
          unfold dnM
          by_cases g1 : loT t = L
          · by_cases g2 : shT t = 0
            · simp [h0, h15, g1, g2, b2i]
            · by_cases g3 : shT t = L
              · simp [h0, h15, g1, g2, g3, b2i]
              · simp [h0, h15, g1, g2, g3, b2i]
          · simp [h0, h15, g1, b2i]
  · rintro s rfl
    refine ⟨_, ?_, rfl⟩
    unfold b_X11_isDone_4
    dsimp only
    rw [if_pos (by decide), if_pos b2i_s]
def boS (pl : Bool) (L : Nat) (o : Option V3) (p : Nat × V3) : Option V3 := if doneM L p.1 4 then some (match o with
  | none => p.2
  | some x => mgM pl x p.2) else o
/-- the value of all whole ways -/
def boM (pl : Bool) (L : Nat) (lh : List (Nat × V3)) : Option V3 := lh.foldl (boS pl L) none
def olM (o : Option V3) : List (Nat × V3) := match o with
  | none => []
  | some x => [(0, x)]
theorem gathers_eq {σ : rS} {L : Nat} {lh : List (Nat × V3)} (S : ShM σ L) (Li : LiM σ lh) (hz : ∀ k, k < 65536 → rI σ 103 k = 0) (pl : Bool) : ∃ τ, f_X11_gathers σ (if pl then 1 else 0) = some (b2i (boM pl L lh).isSome, τ) ∧ rL τ 67 61 = ((boM pl L lh).getD (0, 0, 0)).1 ∧ rL τ 67 62 = ((boM pl L lh).getD (0, 0, 0)).2.1 ∧ rL τ 67 63 = ((boM pl L lh).getD (0, 0, 0)).2.2 ∧ (∀ k, k < 65536 → rI τ 103 k = 0) ∧ rK τ = rK σ ∧ rR τ = rR σ ∧ rN τ = rN σ ∧ (∀ x j, x ≠ 103 → x ≠ 104 → (x = 67 → j ≠ 56) → rI τ x j = rI σ x j) ∧ ∀ x j, x ≠ 100 → x ≠ 101 → x ≠ 102 → (x = 67 → j < 61 ∨ 63 < j) → rL τ x j = rL σ x j := by
  have hlen := nd_le Li.2.1 Li.2.2.1
  have F1 : FrM σ (wI σ 67 56 0) := ⟨rfl, rfl, rfl, fun x j _ _ b => by rw [q_II, if_neg (fun z => b z.1 z.2)], fun _ _ _ _ _ => rfl⟩
  have T1 : ThM (wI σ 67 56 0) [] := ⟨by rw [q_II, if_pos ⟨rfl, rfl⟩]; rfl, List.nodup_nil, fun p hp => absurd hp (by simp), fun i p hi => absurd hi (by simp), fun k hk _ => by rw [q_II, if_neg (fun z => absurd z.1 (by decide))]; exact hz k hk⟩
  have hx := oL_ix (body := b_X11_gathers_9 (if pl then 1 else 0)) (N := lh.length) (fun m s => s.1 = b2i (boM pl L (lh.take m)).isSome ∧ s.2.1 = nI m ∧ ThM s.2.2 (olM (boM pl L (lh.take m))) ∧ FrM σ s.2.2) (fun r => ∃ τ, r = Sum.inr (b2i (boM pl L lh).isSome, τ) ∧ ThM τ (olM (boM pl L lh)) ∧ FrM σ τ) ?_ ?_ (n := oFuel) (by have : oFuel = 100000 := rfl; omega) (s := (0, 0, wI σ 67 56 0)) ⟨rfl, rfl, T1, F1⟩
  · obtain ⟨r, h1, τ, h2, h3, h4⟩ := hx
    refine ⟨wL (wL (wL (wI τ 103 0 0) 67 61 ((boM pl L lh).getD (0, 0, 0)).1) 67 62 ((boM pl L lh).getD (0, 0, 0)).2.1) 67 63 ((boM pl L lh).getD (0, 0, 0)).2.2, ?_, ?_, ?_, ?_, ?_, h4.1, h4.2.1, h4.2.2.1, ?_, ?_⟩
    · unfold f_X11_gathers
      rw [oLet_eq, h1, h2, oJ_inr]
      dsimp only
      have ev : (boM pl L lh = none) ∨ ∃ v, boM pl L lh = some v ∧ rL τ 100 0 = v.1 ∧ rL τ 101 0 = v.2.1 ∧ rL τ 102 0 = v.2.2 := by
        cases hb : boM pl L lh with
        | none => exact Or.inl rfl
        | some v =>
          rw [hb] at h3
          have := h3.2.2.2.1 0 (0, v) rfl
          exact Or.inr ⟨v, rfl, this.2.2⟩
      rcases ev with hb | ⟨v, hb, q1, q2, q3⟩
      · rw [hb]
        simp [oLet, b2i]
      · rw [hb]
        simp [oLet, b2i, q_LL, q_LI, q1, q2, q3]
    · simp [q_LL]
    · simp [q_LL]
    · simp [q_LL]
    · intro k hk
      simp only [q_IL, q_II]
      by_cases hk0 : k = 0
      · subst hk0; simp
      · rw [if_neg (fun z => hk0 z.2)]
        refine h3.2.2.2.2 k hk ?_
        cases hb : boM pl L lh with
        | none => simp [olM]
        | some v => simp [olM, hk0]
    · intro x j a b c
      simp only [q_IL, q_II]
      rw [if_neg (fun z => a z.1)]
      exact h4.2.2.2.1 x j a b c
    · intro x j a b c d
      simp only [q_LL, q_LI]
      rw [if_neg (fun z => by have := d z.1; omega), if_neg (fun z => by have := d z.1; omega), if_neg (fun z => by have := d z.1; omega)]
      exact h4.2.2.2.2 x j a b c
  · rintro m ⟨fl, mm, τ⟩ hm ⟨h1, h2, h3, h4⟩
    dsimp only at h1 h2 h3 h4
    obtain ⟨p, hp⟩ : ∃ p, lh[m]? = some p := ⟨lh[m], List.getElem?_eq_getElem hm⟩
    have hk := Li.2.2.1 p (List.mem_of_getElem? hp)
    obtain ⟨q1, q2, q3, q4⟩ := Li.2.2.2 m p hp
    have e2 : nI m + 1 = nI (m + 1) := nI_1 m
    have c1 : ¬ nI lh.length ≤ nI m := fun q => by have := (nI_leI (by omega) (by omega)).mp q; omega
    have St : ShM τ L := ⟨(h4.2.2.2.1 67 2 (by decide) (by decide) (fun _ => by decide)).trans S.1, S.2.1, fun i hi => ⟨(h4.2.2.2.1 89 i (by decide) (by decide) (fun z => absurd z (by decide))).trans (S.2.2 i hi).1, (h4.2.2.2.1 90 i (by decide) (by decide) (fun z => absurd z (by decide))).trans (S.2.2 i hi).2⟩⟩
    have hbo : boM pl L (lh.take (m + 1)) = boS pl L (boM pl L (lh.take m)) p := by
      rw [take_snoc hp]
      unfold boM
      rw [List.foldl_append, List.foldl_cons, List.foldl_nil]
    have w50 : rI τ 67 50 = nI lh.length := (h4.2.2.2.1 67 50 (by decide) (by decide) (fun _ => by decide)).trans Li.1
    have w99 : rI τ 99 m = nI p.1 := (h4.2.2.2.1 99 m (by decide) (by decide) (fun z => absurd z (by decide))).trans q1
    by_cases hd : doneM L p.1 4 = true
    · obtain ⟨υ, g1, g2, g3⟩ := comes_eq h3 (k := 0) (by decide) p.2.1 p.2.2.1 p.2.2.2 pl
      have g1 : f_X11_comes τ 0 p.2.1 p.2.2.1 p.2.2.2 (if pl then 1 else 0) = some ((), υ) := g1
      refine ⟨(1, nI (m + 1), υ), ?_, ?_, rfl, ?_, h4.tr g3⟩
      · unfold b_X11_gathers_9
        dsimp only
        rw [h1, h2, w50, if_neg c1, if_pos (inB_nI (by decide) (by omega)), nI_clamp (by omega), w99, oLet_eq, isDone_eq St hk, Option.bind_some, hd, if_neg (by decide), if_pos (inB_nI (by decide) hk), nI_clamp (by omega), h4.2.2.2.2 95 _ (by decide) (by decide) (by decide), h4.2.2.2.2 96 _ (by decide) (by decide) (by decide), h4.2.2.2.2 97 _ (by decide) (by decide) (by decide), q2, q3, q4, g1, oB_some, e2]
      · rw [hbo]; unfold boS; rw [if_pos hd]; rfl
      · rw [hbo]
        unfold boS
        rw [if_pos hd]
        cases hb : boM pl L (lh.take m) with
        | none =>
          rw [hb] at g2
          exact g2
        | some x =>
          rw [hb] at g2
          have : ins (mgM pl) (olM (some x)) 0 (p.2.1, p.2.2.1, p.2.2.2) = olM (some (mgM pl x p.2)) := by
            simp [ins, olM]
          rw [this] at g2
          exact g2
    · refine ⟨(fl, nI (m + 1), τ), ?_, ?_, rfl, ?_, h4⟩
      · unfold b_X11_gathers_9
        dsimp only
        rw [h2, w50, if_neg c1, if_pos (inB_nI (by decide) (by omega)), nI_clamp (by omega), w99, oLet_eq, isDone_eq St hk, Option.bind_some, if_pos (by rw [b2i0]; exact Bool.eq_false_iff.mpr hd), e2]
      · rw [hbo]; unfold boS; rw [if_neg hd]; exact h1
      · rw [hbo]; unfold boS; rw [if_neg hd]; exact h3
  · rintro ⟨fl, mm, τ⟩ ⟨h1, h2, h3, h4⟩
    dsimp only at h1 h2 h3 h4
    rw [List.take_length] at h1 h3
    refine ⟨.inr (fl, τ), ?_, τ, by rw [h1], h3, h4⟩
    unfold b_X11_gathers_9
    dsimp only
    rw [h2, (h4.2.2.2.1 67 50 (by decide) (by decide) (fun _ => by decide)).trans Li.1, if_pos ((nI_leI (by omega) (by omega)).mpr (Nat.le_refl _))]
/-- what canBeCut leaves alone -/
def FrJ (σ τ : rS) : Prop := rK τ = rK σ ∧ rR τ = rR σ ∧ rN τ = rN σ ∧ (∀ x j, (x < 99 ∨ x = 105 ∨ x = 106 ∨ x = 109 ∨ 113 < x) → (x = 67 → j ≠ 50 ∧ j ≠ 56 ∧ j ≠ 65) → rI τ x j = rI σ x j) ∧ ∀ x j, (x < 95 ∨ 102 < x) → (x = 67 → j < 61 ∨ 63 < j) → rL τ x j = rL σ x j
theorem FrJ.rf (σ : rS) : FrJ σ σ := ⟨rfl, rfl, rfl, fun _ _ _ _ => rfl, fun _ _ _ _ => rfl⟩
theorem FrJ.tr {σ τ υ : rS} (h : FrJ σ τ) (g : FrJ τ υ) : FrJ σ υ := ⟨g.1.trans h.1, g.2.1.trans h.2.1, g.2.2.1.trans h.2.2.1, fun x j a b => (g.2.2.2.1 x j a b).trans (h.2.2.2.1 x j a b), fun x j a b => (g.2.2.2.2 x j a b).trans (h.2.2.2.2 x j a b)⟩
theorem FrJ_H {σ τ : rS} (f : FrH σ τ) : FrJ σ τ := ⟨f.1, f.2.1, f.2.2.1, f.2.2.2.1, fun x j a _ => f.2.2.2.2 x j a⟩
/-- what the reference keeps between two searches -/
def RfI (σ : rS) (L : Nat) : Prop := UsM σ ∧ ShM σ L ∧ ∀ k, k < 65536 → rI σ 103 k = 0
theorem UsM.frJ {σ τ : rS} (H : UsM σ) (f : FrJ σ τ) : UsM τ := by
  have q := f.2.2.2.1
  exact ⟨(q 67 44 (by decide) (fun _ => by decide)).trans H.1, fun p hp c hc => (q 93 _ (by decide) (fun z => absurd z (by decide))).trans (H.2.1 p hp c hc), fun p hp => (q 94 _ (by decide) (fun z => absurd z (by decide))).trans (H.2.2 p hp)⟩
theorem ShM.frJ {σ τ : rS} {L : Nat} (H : ShM σ L) (f : FrJ σ τ) : ShM τ L := by
  have q := f.2.2.2.1
  exact ⟨(q 67 2 (by decide) (fun _ => by decide)).trans H.1, H.2.1, fun i hi => ⟨(q 89 i (by decide) (fun z => absurd z (by decide))).trans (H.2.2 i hi).1, (q 90 i (by decide) (fun z => absurd z (by decide))).trans (H.2.2 i hi).2⟩⟩
/-- the value of all whole ways of rows -/
def rsM (pl bw : Bool) (L N : Nat) (bs ex : Nat → Nat) : Option V3 := boM pl L (reL pl bw L bs ex N)
def BoR (σ : rS) (o : Option V3) : Prop := rL σ 67 61 = (o.getD (0, 0, 0)).1 ∧ rL σ 67 62 = (o.getD (0, 0, 0)).2.1 ∧ rL σ 67 63 = (o.getD (0, 0, 0)).2.2
theorem search_eq {σ : rS} {L N : Nat} {bs ex : Nat → Nat} (I : RfI σ L) (B : BeM σ bs ex) (hN : N ≤ 13) (pl bw : Bool) : ∃ τ υ, f_X11_goesThrough σ (nI N) (if pl then 1 else 0) (if bw then 1 else 0) = some ((), τ) ∧ f_X11_gathers τ (if pl then 1 else 0) = some (b2i (rsM pl bw L N bs ex).isSome, υ) ∧ BoR υ (rsM pl bw L N bs ex) ∧ RfI υ L ∧ FrJ σ υ := by
  obtain ⟨τ, h1, h2, h3, h4⟩ := through_eq I.1 I.2.1 I.2.2 B hN pl bw
  obtain ⟨υ, g1, g2, g3, g4, g5, g6, g7, g8, g9, g10⟩ := gathers_eq (I.2.1.frH h4) h2 h3 pl
  have F : FrJ σ υ := (FrJ_H h4).tr ⟨g6, g7, g8, fun x j a b => g9 x j (by omega) (by omega) (fun e => (b e).2.1), fun x j a b => g10 x j (by omega) (by omega) (by omega) b⟩
  exact ⟨τ, υ, h1, g1, ⟨g2, g3, g4⟩, ⟨I.1.frJ F, I.2.1.frJ F, g5⟩, F⟩
theorem zero108 {R1 : Type} {σ : rS} {body : Int32 × rS → Option ((R1 ⊕ rS) ⊕ (Int32 × rS))} (hb : body = fun s => if 4 ≤ s.1 then (some (.inl (.inr s.2))) else (if inB s.1 4 then (oLet (wI s.2 108 (s.1 : Int32).toNatClampNeg 0) fun σ5 => some (.inr ((s.1 + 1, σ5)))) else none)) : ∃ τ, oLoop body oFuel (0, σ) = some (.inr τ) ∧ FrD σ τ := by
  have hx := oL_ix (body := body) (N := 4) (fun m s => s.1 = nI m ∧ FrD σ s.2) (fun r => ∃ τ, r = Sum.inr τ ∧ FrD σ τ) ?_ ?_ (n := oFuel) (by decide) (s := (0, σ)) ⟨rfl, FrD.rf σ⟩
  · obtain ⟨r, h1, τ, h2, h3⟩ := hx
    exact ⟨τ, by rw [h1, h2], h3⟩
  · rintro m ⟨mm, τ⟩ hm ⟨h1, h2⟩
    dsimp only at h1 h2
    have c1 : ¬ (4 : Int32) ≤ nI m := fun q => by have := (nI_leI (a := 4) (by omega) (by omega)).mp q; omega
    refine ⟨(nI (m + 1), wI τ 108 m 0), ?_, rfl, h2.tr ⟨rfl, rfl, rfl, rfl, fun x j a => by rw [q_II, if_neg (fun z => a z.1)]⟩⟩
    rw [hb]
    dsimp only
    rw [h1, if_neg c1, if_pos (inB_nI (by decide) hm), nI_clamp (by omega), oLet_eq, show nI m + 1 = nI (m + 1) from nI_1 m]
  · rintro ⟨mm, τ⟩ ⟨h1, h2⟩
    dsimp only at h1 h2
    refine ⟨.inr τ, ?_, τ, rfl, h2⟩
    rw [hb]
    dsimp only
    rw [h1, if_pos (by decide)]
theorem canBeCut_eq {σ : rS} {L N : Nat} {bs ex : Nat → Nat} (I : RfI σ L) (B : BeM σ bs ex) (hh : rI σ 67 1 = nI N) (hN : N ≤ 13) : ∃ τ, f_X11_canBeCut σ = some (b2i (rsM false false L N bs ex).isSome, τ) ∧ BoR τ (rsM false false L N bs ex) ∧ RfI τ L ∧ FrJ σ τ := by
  obtain ⟨τ, h1, h2⟩ := zero108 (σ := σ) (body := b_X11_canBeCut_2) (by unfold b_X11_canBeCut_2; rfl)
  have F1 := FrJ_H (FrH_8 (FrN8_D h2))
  obtain ⟨υ, ω, g1, g2, g3, g4, g5⟩ := search_eq (L := L) (N := N) (bs := bs) (ex := ex) (σ := τ) ⟨I.1.frJ F1, I.2.1.frJ F1, fun k hk => (h2.2.2.2.2 103 k (by decide)).trans (I.2.2 k hk)⟩ (B.fr8 (FrN8_D h2)) hN false false
  refine ⟨ω, ?_, g3, g4, F1.tr g5⟩
  unfold f_X11_canBeCut
  rw [h1, oJ_inr, (h2.2.2.2.2 67 1 (by decide)).trans hh]
  have g1 : f_X11_goesThrough τ (nI N) 0 0 = some ((), υ) := g1
  have g2 : f_X11_gathers υ 0 = some (b2i (rsM false false L N bs ex).isSome, ω) := g2
  rw [g1, oB_some, g2, oB_some, if_pos b2i_s]
