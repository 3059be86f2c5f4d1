/-! the reference: all ways of a number, and all numbers -/
/-- what number leaves alone -/
def FrN8 (σ τ : rS) : Prop := rK τ = rK σ ∧ rR τ = rR σ ∧ rN τ = rN σ ∧ (∀ x j, (x < 103 ∨ x = 105 ∨ x = 106 ∨ x = 109 ∨ 113 < x) → (x = 67 → j ≠ 56 ∧ j ≠ 65) → rI τ x j = rI σ x j) ∧ ∀ x j, (x < 100 ∨ 102 < x) → rL τ x j = rL σ x j
theorem FrN8.rf (σ : rS) : FrN8 σ σ := ⟨rfl, rfl, rfl, fun _ _ _ _ => rfl, fun _ _ _ => rfl⟩
theorem FrN8.tr {σ τ υ : rS} (h : FrN8 σ τ) (g : FrN8 τ υ) : FrN8 σ υ := ⟨g.1.trans h.1, g.2.1.trans h.2.1, g.2.2.1.trans h.2.2.1, fun x j a b => (g.2.2.2.1 x j a b).trans (h.2.2.2.1 x j a b), fun x j a => (g.2.2.2.2 x j a).trans (h.2.2.2.2 x j a)⟩
theorem FrN8_7 {σ τ : rS} (f : FrN7 σ τ) : FrN8 σ τ := ⟨f.1, f.2.1, f.2.2.1, fun x j a b => f.2.2.2.1 x j (by omega) (by omega) (by omega) (by omega) (by omega) (by omega) (by omega) b, fun x j a => f.2.2.2.2 x j (by omega) (by omega) (by omega)⟩
theorem FrN8_D {σ τ : rS} (f : FrD σ τ) : FrN8 σ τ := ⟨f.1, f.2.1, f.2.2.1, fun x j a _ => f.2.2.2.2 x j (by omega), fun x j _ => by rw [f.2.2.2.1]⟩
theorem UsM.fr8 {σ τ : rS} (H : UsM σ) (f : FrN8 σ τ) : UsM τ := by
  have q := f.2.2.2.1
  exact ⟨(q 67 44 (by decide) (fun _ => by decide)).trans H.1, fun p hp c hc => (q 93 _ (by decide) (fun z => absurd z (by decide))).trans (H.2.1 p hp c hc), fun p hp => (q 94 _ (by decide) (fun z => absurd z (by decide))).trans (H.2.2 p hp)⟩
theorem ShM.fr8 {σ τ : rS} {L : Nat} (H : ShM σ L) (f : FrN8 σ τ) : ShM τ L := by
  have q := f.2.2.2.1
  exact ⟨(q 67 2 (by decide) (fun _ => by decide)).trans H.1, H.2.1, fun i hi => ⟨(q 89 i (by decide) (fun z => absurd z (by decide))).trans (H.2.2 i hi).1, (q 90 i (by decide) (fun z => absurd z (by decide))).trans (H.2.2 i hi).2⟩⟩
theorem ThM.frD {σ τ : rS} {l : List (Nat × V3)} (H : ThM σ l) (f : FrD σ τ) : ThM τ l := by
  obtain ⟨h1, h2, h3, h4, h5⟩ := H
  have q := f.2.2.2.2
  exact ⟨(q 67 56 (by decide)).trans h1, h2, h3, fun i p hi => ⟨(q 104 i (by decide)).trans (h4 i p hi).1, (q 103 _ (by decide)).trans (h4 i p hi).2.1, by rw [f.2.2.2.1]; exact (h4 i p hi).2.2⟩, fun k hk hn => (q 103 k (by decide)).trans (h5 k hk hn)⟩
def nuS (pl bw : Bool) (L n : Nat) (bs ex : Nat → Nat) (k : Nat) (v : V3) (l : List (Nat × V3)) (w : Nat) : List (Nat × V3) := if caM n ex w 4 then grM pl L (fun c => bs (13 * c + n)) (dgM w) k (vwM pl bw n w v 4) l else l
def nuM (pl bw : Bool) (L n : Nat) (bs ex : Nat → Nat) (k : Nat) (v : V3) (l : List (Nat × V3)) : List (Nat × V3) := (List.range (if pl then 81 else 1)).foldl (nuS pl bw L n bs ex k v) l
/-- the rows of what there is, and of what may be laid besides -/
def BeM (σ : rS) (bs ex : Nat → Nat) : Prop := (∀ k, k < 52 → rI σ 91 k = nI (bs k) ∧ rI σ 92 k = nI (ex k)) ∧ ∀ k, bs k + ex k ≤ 2
theorem BeM.fr8 {σ τ : rS} {bs ex : Nat → Nat} (H : BeM σ bs ex) (f : FrN8 σ τ) : BeM τ bs ex := by
  have q := f.2.2.2.1
  exact ⟨fun k hk => ⟨(q 91 k (by decide) (fun z => absurd z (by decide))).trans (H.1 k hk).1, (q 92 k (by decide) (fun z => absurd z (by decide))).trans (H.1 k hk).2⟩, H.2⟩
theorem number_eq {σ : rS} {L n k : Nat} {bs ex : Nat → Nat} {l : List (Nat × V3)} (U : UsM σ) (S : ShM σ L) (H : ThM σ l) (B : BeM σ bs ex) (hn : n < 13) (hk : k < 65536) {v : V3} (hv1 : rL σ 95 k = v.1) (hv2 : rL σ 96 k = v.2.1) (hv3 : rL σ 97 k = v.2.2) (pl bw : Bool) : ∃ τ, f_X11_number σ (nI k) (nI n) (if pl then 1 else 0) (if bw then 1 else 0) = some ((), τ) ∧ ThM τ (nuM pl bw L n bs ex k v l) ∧ FrN8 σ τ := by
  obtain ⟨N, hN⟩ : ∃ N, N = (if pl then 81 else 1 : Nat) := ⟨_, rfl⟩
  have hN81 : N ≤ 81 := by rw [hN]; cases pl <;> decide
  have e1 : (if (if pl then (1 : Int32) else 0) = 0 then (1 : Int32) else 81) = nI N := by rw [hN]; cases pl <;> rfl
  have hx := oL_ix (body := b_X11_number_15 (nI k) (nI n) (if pl then 1 else 0) (if bw then 1 else 0) (nI N)) (N := N) (fun m s => s.1 = nI m ∧ ThM s.2 ((List.range m).foldl (nuS pl bw L n bs ex k v) l) ∧ FrN8 σ s.2) (fun r => ∃ τ, r = ((), τ) ∧ ThM τ (nuM pl bw L n bs ex k v l) ∧ FrN8 σ τ) ?_ ?_ (n := oFuel) (by have : oFuel = 100000 := rfl; omega) (s := (0, σ)) ⟨rfl, H, FrN8.rf σ⟩
  · obtain ⟨r, h1, τ, h2, h3, h4⟩ := hx
    unfold f_X11_number
    rw [oLet_eq, e1]
    exact ⟨τ, by rw [h1, h2], h3, h4⟩
  · rintro m ⟨mm, τ⟩ hm ⟨h1, h2, h3⟩
    dsimp only at h1 h2 h3
    have Bt := B.fr8 h3
    obtain ⟨r, g1, υ, g2, g3, g4⟩ := nu_in (n := n) (w := m) (ex := ex) (σ := τ) (fun c hc => (Bt.1 _ (by omega)).2) (fun k => by have := B.2 k; omega) hn (by omega) v pl bw
    have c1 : ¬ nI N ≤ nI m := fun q => by have := (nI_leI (by omega) (by omega)).mp q; omega
    have e2 : nI m + 1 = nI (m + 1) := nI_1 m
    have v1 : rL τ 95 k = v.1 := (h3.2.2.2.2 95 k (by decide)).trans hv1
    have v2 : rL τ 96 k = v.2.1 := (h3.2.2.2.2 96 k (by decide)).trans hv2
    have v3 : rL τ 97 k = v.2.2 := (h3.2.2.2.2 97 k (by decide)).trans hv3
    have F2 := FrN8_D g3
    by_cases hf : caM n ex m 4 = true
    · have U2 := (U.fr8 h3).fr8 F2
      have S2 := (S.fr8 h3).fr8 F2
      have B2 := Bt.fr8 F2
      obtain ⟨ω, k1, k2, k3⟩ := groups_eq U2 S2 (h2.frD g3) (b := fun c => bs (13 * c + n)) (e := dgM m) (fun c hc => (B2.1 _ (by omega)).1) g4 (fun c hc => by
        have h7 := caM_at hf hc
        have h8 := B.2 (13 * c + n)
        omega) hn hk (vwM pl bw n m v 4) pl
      refine ⟨(nI (m + 1), ω), ?_, rfl, ?_, (h3.tr F2).tr (FrN8_7 k3)⟩
      · unfold b_X11_number_15
        dsimp only
        rw [h1, if_neg c1, if_pos (inB_nI (by decide) hk), nI_clamp (by omega), v1, v2, v3, oLet_eq, oLet_eq, oLet_eq, g1, g2, oJ_inr]
        dsimp only
        rw [hf, if_pos rfl, if_neg (by decide), k1, oB_some, e2]
      · rw [range_foldl]
        unfold nuS
        rw [if_pos hf]
        exact k2
    · refine ⟨(nI (m + 1), υ), ?_, rfl, ?_, h3.tr F2⟩
      · unfold b_X11_number_15
        dsimp only
        rw [h1, if_neg c1, if_pos (inB_nI (by decide) hk), nI_clamp (by omega), v1, v2, v3, oLet_eq, oLet_eq, oLet_eq, g1, g2, oJ_inr]
        dsimp only
        rw [if_neg hf, if_pos rfl, e2]
      · rw [range_foldl]
        unfold nuS
        rw [if_neg hf]
        exact h2.frD g3
  · rintro ⟨mm, τ⟩ ⟨h1, h2, h3⟩
    dsimp only at h1 h2 h3
    refine ⟨((), τ), ?_, τ, rfl, ?_, h3⟩
    · unfold b_X11_number_15
      dsimp only
      rw [h1, if_pos ((nI_leI (by omega) (by omega)).mpr (Nat.le_refl _))]
    · unfold nuM
      rw [← hN]
      exact h2
/-- the rows 95 to 97 and 99 hold the list -/
def LiM (σ : rS) (l : List (Nat × V3)) : Prop := rI σ 67 50 = nI l.length ∧ nd l ∧ (∀ p ∈ l, p.1 < 65536) ∧ ∀ i p, l[i]? = some p → rI σ 99 i = nI p.1 ∧ rL σ 95 p.1 = p.2.1 ∧ rL σ 96 p.1 = p.2.2.1 ∧ rL σ 97 p.1 = p.2.2.2
theorem LiM.fr8 {σ τ : rS} {l : List (Nat × V3)} (H : LiM σ l) (f : FrN8 σ τ) : LiM τ l := by
  obtain ⟨h1, h2, h3, h4⟩ := H
  have q := f.2.2.2.1
  have q2 := f.2.2.2.2
  exact ⟨(q 67 50 (by decide) (fun _ => by decide)).trans h1, h2, h3, fun i p hi => ⟨(q 99 i (by decide) (fun z => absurd z (by decide))).trans (h4 i p hi).1, (q2 95 _ (by decide)).trans (h4 i p hi).2.1, (q2 96 _ (by decide)).trans (h4 i p hi).2.2.1, (q2 97 _ (by decide)).trans (h4 i p hi).2.2.2⟩⟩
theorem nd_le {V : Type} {l : List (Nat × V)} (h : nd l) (hs : ∀ p ∈ l, p.1 < 65536) : l.length ≤ 65536 := by
  have := nodup_len (l := (l.map (fun p => p.1) : List Nat)) (m := List.range 65536) (show (l.map (fun p => p.1)).Nodup from h) (fun a ha => by
    obtain ⟨p, hp, rfl⟩ := List.mem_map.mp ha
    exact List.mem_range.mpr (hs p hp))
  rw [List.length_map, List.length_range] at this
  exact this
def stS (pl bw : Bool) (L n : Nat) (bs ex : Nat → Nat) (l : List (Nat × V3)) (p : Nat × V3) : List (Nat × V3) := nuM pl bw L n bs ex p.1 p.2 l
theorem states_eq {σ : rS} {L n : Nat} {bs ex : Nat → Nat} {lh : List (Nat × V3)} (U : UsM σ) (S : ShM σ L) (Li : LiM σ lh) (H : ThM σ []) (B : BeM σ bs ex) (hn : n < 13) (pl bw : Bool) (s6 : Int32 × rS) (e6 : s6.1 = nI n) : ∃ τ, oLoop (b_X11_goesThrough_58 (if pl then 1 else 0) (if bw then 1 else 0) s6) oFuel (0, σ) = some (.inr τ) ∧ ThM τ (lh.foldl (stS pl bw L n bs ex) []) ∧ FrN8 σ τ := by
  have hlen := nd_le Li.2.1 Li.2.2.1
  have hx := oL_ix (body := b_X11_goesThrough_58 (if pl then 1 else 0) (if bw then 1 else 0) s6) (N := lh.length) (fun m s => s.1 = nI m ∧ ThM s.2 ((lh.take m).foldl (stS pl bw L n bs ex) []) ∧ FrN8 σ s.2) (fun r => ∃ τ, r = Sum.inr τ ∧ ThM τ (lh.foldl (stS pl bw L n bs ex) []) ∧ FrN8 σ τ) ?_ ?_ (n := oFuel) (by have : oFuel = 100000 := rfl; omega) (s := (0, σ)) ⟨rfl, H, FrN8.rf σ⟩
  · obtain ⟨r, h1, τ, h2, h3, h4⟩ := hx
    exact ⟨τ, by rw [h1, h2], h3, h4⟩
  · rintro m ⟨mm, τ⟩ hm ⟨h1, h2, h3⟩
    dsimp only at h1 h2 h3
    obtain ⟨p, hp⟩ : ∃ p, lh[m]? = some p := ⟨lh[m], List.getElem?_eq_getElem hm⟩
    have Lt := Li.fr8 h3
    obtain ⟨q1, q2, q3, q4⟩ := Lt.2.2.2 m p hp
    have hk := Li.2.2.1 p (List.mem_of_getElem? hp)
    have c1 : ¬ nI lh.length ≤ nI m := fun q => by have := (nI_leI (by omega) (by omega)).mp q; omega
    have e2 : nI m + 1 = nI (m + 1) := nI_1 m
    obtain ⟨υ, g1, g2, g3⟩ := number_eq (U.fr8 h3) (S.fr8 h3) h2 (B.fr8 h3) hn hk (v := p.2) q2 q3 q4 pl bw
    refine ⟨(nI (m + 1), υ), ?_, rfl, ?_, h3.tr g3⟩
    · unfold b_X11_goesThrough_58
      dsimp only
      rw [h1, Lt.1, if_neg c1, if_pos (inB_nI (by decide) (by omega)), nI_clamp (by omega), q1, e6, g1, oB_some, e2]
    · rw [take_snoc hp, List.foldl_append]
      exact g2
  · rintro ⟨mm, τ⟩ ⟨h1, h2, h3⟩
    dsimp only at h1 h2 h3
    rw [List.take_length] at h2
    refine ⟨.inr τ, ?_, τ, rfl, h2, h3⟩
    unfold b_X11_goesThrough_58
    dsimp only
    rw [h1, (Li.fr8 h3).1, if_pos ((nI_leI (by omega) (by omega)).mpr (Nat.le_refl _))]
/-- what goesThrough leaves alone -/
def FrH (σ τ : rS) : Prop := rK τ = rK σ ∧ rR τ = rR σ ∧ rN τ = rN σ ∧ (∀ x j, (x < 99 ∨ x = 105 ∨ x = 106 ∨ x = 109 ∨ 113 < x) → (x = 67 → j ≠ 50 ∧ j ≠ 56 ∧ j ≠ 65) → rI τ x j = rI σ x j) ∧ ∀ x j, (x < 95 ∨ 102 < x) → rL τ x j = rL σ x j
theorem FrH.rf (σ : rS) : FrH σ σ := ⟨rfl, rfl, rfl, fun _ _ _ _ => rfl, fun _ _ _ => rfl⟩
theorem FrH.tr {σ τ υ : rS} (h : FrH σ τ) (g : FrH τ υ) : FrH σ υ := ⟨g.1.trans h.1, g.2.1.trans h.2.1, g.2.2.1.trans h.2.2.1, fun x j a b => (g.2.2.2.1 x j a b).trans (h.2.2.2.1 x j a b), fun x j a => (g.2.2.2.2 x j a).trans (h.2.2.2.2 x j a)⟩
theorem FrH_8 {σ τ : rS} (f : FrN8 σ τ) : FrH σ τ := ⟨f.1, f.2.1, f.2.2.1, fun x j a b => f.2.2.2.1 x j (by omega) (fun e => ⟨(b e).2.1, (b e).2.2⟩), fun x j a => f.2.2.2.2 x j (by omega)⟩
theorem UsM.frH {σ τ : rS} (H : UsM σ) (f : FrH σ τ) : UsM τ := by
  have q := f.2.2.2.1
  exact ⟨(q 67 44 (by decide) (fun _ => by decide)).trans H.1, fun p hp c hc => (q 93 _ (by decide) (fun z => absurd z (by decide))).trans (H.2.1 p hp c hc), fun p hp => (q 94 _ (by decide) (fun z => absurd z (by decide))).trans (H.2.2 p hp)⟩
theorem ShM.frH {σ τ : rS} {L : Nat} (H : ShM σ L) (f : FrH σ τ) : ShM τ L := by
  have q := f.2.2.2.1
  exact ⟨(q 67 2 (by decide) (fun _ => by decide)).trans H.1, H.2.1, fun i hi => ⟨(q 89 i (by decide) (fun z => absurd z (by decide))).trans (H.2.2 i hi).1, (q 90 i (by decide) (fun z => absurd z (by decide))).trans (H.2.2 i hi).2⟩⟩
theorem BeM.frH {σ τ : rS} {bs ex : Nat → Nat} (H : BeM σ bs ex) (f : FrH σ τ) : BeM τ bs ex := by
  have q := f.2.2.2.1
  exact ⟨fun k hk => ⟨(q 91 k (by decide) (fun z => absurd z (by decide))).trans (H.1 k hk).1, (q 92 k (by decide) (fun z => absurd z (by decide))).trans (H.1 k hk).2⟩, H.2⟩
/-- what was come to becomes the list -/
theorem copy_eq {σ : rS} {l : List (Nat × V3)} (H : ThM σ l) (s6 : Int32 × rS) : ∃ τ, oLoop (b_X11_goesThrough_91 s6) oFuel (0, σ) = some (.inr (s6.1 + 1, τ)) ∧ LiM τ l ∧ (∀ k, k < 65536 → rI τ 103 k = 0) ∧ FrH σ τ := by
  obtain ⟨h1, h2, h3, h4, h5⟩ := H
  have hlen := nd_le h2 h3
  have hx := oL_ix (body := b_X11_goesThrough_91 s6) (N := l.length) (fun m s => s.1 = nI m ∧ (∀ i p, l[i]? = some p → i < m → rI s.2 99 i = nI p.1 ∧ rI s.2 103 p.1 = 0 ∧ rL s.2 95 p.1 = p.2.1 ∧ rL s.2 96 p.1 = p.2.2.1 ∧ rL s.2 97 p.1 = p.2.2.2) ∧ (∀ k, k < 65536 → k ∉ l.map (fun p => p.1) → rI s.2 103 k = 0) ∧ rK s.2 = rK σ ∧ rR s.2 = rR σ ∧ rN s.2 = rN σ ∧ (∀ x j, x ≠ 99 → x ≠ 103 → rI s.2 x j = rI σ x j) ∧ ∀ x j, x ≠ 95 → x ≠ 96 → x ≠ 97 → rL s.2 x j = rL σ x j) (fun r => ∃ τ, r = Sum.inr (s6.1 + 1, τ) ∧ LiM τ l ∧ (∀ k, k < 65536 → rI τ 103 k = 0) ∧ FrH σ τ) ?_ ?_ (n := oFuel) (by have : oFuel = 100000 := rfl; omega) (s := (0, σ)) ⟨rfl, fun i p _ hi => absurd hi (Nat.not_lt_zero i), h5, rfl, rfl, rfl, fun _ _ _ _ => rfl, fun _ _ _ _ _ => rfl⟩
  · obtain ⟨r, k1, τ, k2, k3, k4, k5⟩ := hx
    exact ⟨τ, by rw [k1, k2], k3, k4, k5⟩
  · rintro m ⟨mm, τ⟩ hm ⟨g1, g2, g3, g4, g5, g6, g7, g8⟩
    dsimp only at g1 g2 g3 g4 g5 g6 g7 g8
    obtain ⟨p, hp⟩ : ∃ p, l[m]? = some p := ⟨l[m], List.getElem?_eq_getElem hm⟩
    obtain ⟨q1, q2, q3, q4, q5⟩ := h4 m p hp
    have hk := h3 p (List.mem_of_getElem? hp)
    have c1 : ¬ nI l.length ≤ nI m := fun q => by have := (nI_leI (by omega) (by omega)).mp q; omega
    have e2 : nI m + 1 = nI (m + 1) := nI_1 m
    refine ⟨(nI (m + 1), wL (wL (wL (wI (wI τ 99 m (nI p.1)) 103 p.1 0) 95 p.1 p.2.1) 96 p.1 p.2.2.1) 97 p.1 p.2.2.2), ?_, rfl, ?_, ?_, g4, g5, g6, ?_, ?_⟩
    · unfold b_X11_goesThrough_91
      dsimp only
      rw [g1, g7 67 56 (by decide) (by decide), h1, if_neg c1, if_pos (inB_nI (by decide) (by omega)), nI_clamp (by omega), g7 104 m (by decide) (by decide), q1, oLet_eq, oLet_eq, if_pos (inB_nI (by decide) hk), nI_clamp (by omega), oLet_eq, e2]
      have f1 : rL (wI (wI τ 99 m (nI p.1)) 103 p.1 0) 100 p.1 = p.2.1 := by rw [q_LI, q_LI, g8 100 _ (by decide) (by decide) (by decide)]; exact q3
      rw [f1, oLet_eq]
      have f2 : rL (wL (wI (wI τ 99 m (nI p.1)) 103 p.1 0) 95 p.1 p.2.1) 101 p.1 = p.2.2.1 := by rw [q_LL, if_neg (fun z => absurd z.1 (by decide)), q_LI, q_LI, g8 101 _ (by decide) (by decide) (by decide)]; exact q4
      rw [f2, oLet_eq]
      have f3 : rL (wL (wL (wI (wI τ 99 m (nI p.1)) 103 p.1 0) 95 p.1 p.2.1) 96 p.1 p.2.2.1) 102 p.1 = p.2.2.2 := by rw [q_LL, if_neg (fun z => absurd z.1 (by decide)), q_LL, if_neg (fun z => absurd z.1 (by decide)), q_LI, q_LI, g8 102 _ (by decide) (by decide) (by decide)]; exact q5
      rw [f3, oLet_eq]
    · intro i r hi hlt
      dsimp only
      simp only [q_IL, q_LL, q_II, q_LI]
      by_cases him : i = m
      · subst him
        rw [hp] at hi
        cases hi
        simp
      · have hne : r.1 ≠ p.1 := fun e => him (nd_get h2 hi hp e)
        have := g2 i r hi (by omega)
        simp [him, hne, this]
    · intro k hk2 hn
      dsimp only
      simp only [q_IL, q_II]
      have hne : k ≠ p.1 := fun e => hn (e ▸ List.mem_map_of_mem (f := fun p => p.1) (List.mem_of_getElem? hp))
      simp [hne, g3 k hk2 hn]
    · intro x j a b
      dsimp only
      simp only [q_IL, q_II]
      simp [a, b, g7 x j a b]
    · intro x j a b c
      dsimp only
      simp only [q_LL, q_LI]
      simp [a, b, c, g8 x j a b c]
  · rintro ⟨mm, τ⟩ ⟨g1, g2, g3, g4, g5, g6, g7, g8⟩
    dsimp only at g1 g2 g3 g4 g5 g6 g7 g8
    have e56 : rI τ 67 56 = nI l.length := (g7 67 56 (by decide) (by decide)).trans h1
    refine ⟨.inr (s6.1 + 1, wI τ 67 50 (nI l.length)), ?_, _, rfl, ⟨by rw [q_II, if_pos ⟨rfl, rfl⟩], h2, h3, fun i p hi => ?_⟩, fun k hk => ?_, ⟨g4, g5, g6, fun x j a b => ?_, fun x j a => g8 x j (by omega) (by omega) (by omega)⟩⟩
    · unfold b_X11_goesThrough_91
      dsimp only
      rw [g1, e56, if_pos ((nI_leI (by omega) (by omega)).mpr (Nat.le_refl _)), oLet_eq]
    · have := g2 i p hi (List.getElem?_eq_some_iff.mp hi).1
      rw [q_II, if_neg (fun z => absurd z.1 (by decide))]
      exact ⟨this.1, this.2.2⟩
    · rw [q_II, if_neg (fun z => absurd z.1 (by decide))]
      by_cases hm : k ∈ l.map (fun p => p.1)
      · obtain ⟨i, v, hi⟩ := nd_mem hm
        exact (g2 i _ hi (List.getElem?_eq_some_iff.mp hi).1).2.1
      · exact g3 k hk hm
    · rw [q_II, if_neg (fun z => (b z.1).1 z.2)]
      exact g7 x j (by omega) (by omega)
/-- the list behind so many numbers -/
def reL (pl bw : Bool) (L : Nat) (bs ex : Nat → Nat) (m : Nat) : List (Nat × V3) := (List.range m).foldl (fun lh n => lh.foldl (stS pl bw L n bs ex) []) [(0, (if pl then 0 else 1, 0, 0))]
theorem reL_s (pl bw : Bool) (L : Nat) (bs ex : Nat → Nat) (m : Nat) : reL pl bw L bs ex (m + 1) = (reL pl bw L bs ex m).foldl (stS pl bw L m bs ex) [] := by
  unfold reL
  rw [range_foldl]
theorem through_eq {σ : rS} {L N : Nat} {bs ex : Nat → Nat} (U : UsM σ) (S : ShM σ L) (hz : ∀ k, k < 65536 → rI σ 103 k = 0) (B : BeM σ bs ex) (hN : N ≤ 13) (pl bw : Bool) : ∃ τ, f_X11_goesThrough σ (nI N) (if pl then 1 else 0) (if bw then 1 else 0) = some ((), τ) ∧ LiM τ (reL pl bw L bs ex N) ∧ (∀ k, k < 65536 → rI τ 103 k = 0) ∧ FrH σ τ := by
  obtain ⟨σ5, d5⟩ : ∃ z, z = wL (wL (wL (wI (wI σ 67 50 1) 99 0 0) 95 0 (if pl then 0 else 1)) 96 0 0) 97 0 0 := ⟨_, rfl⟩
  have F5 : FrH σ σ5 := by
    rw [d5]
    refine ⟨rfl, rfl, rfl, fun x j a b => ?_, fun x j a => ?_⟩
    · simp only [q_IL, q_II]
      rw [if_neg (by omega), if_neg (fun z => (b z.1).1 z.2)]
    · simp only [q_LL, q_LI]
      rw [if_neg (by omega), if_neg (by omega), if_neg (by omega)]
  have L5 : LiM σ5 (reL pl bw L bs ex 0) := by
    rw [d5]
    refine ⟨?_, List.nodup_cons.mpr ⟨by simp, List.nodup_nil⟩, fun p hp => by rw [List.mem_singleton.mp hp]; exact (by decide : (0 : Nat) < 65536), fun i p hi => ?_⟩
    · simp only [q_IL, q_II]
      rfl
    · have hi0 : i = 0 := by
        have := (List.getElem?_eq_some_iff.mp hi).1
        simp [reL] at this; omega
      subst hi0
      simp only [reL, List.range_zero, List.foldl_nil, List.getElem?_cons_zero, Option.some.injEq] at hi
      subst hi
      simp only [q_IL, q_II, q_LL, q_LI]
      refine ⟨rfl, ?_, ?_, ?_⟩ <;> simp
  have z5 : ∀ k, k < 65536 → rI σ5 103 k = 0 := fun k hk => by
    rw [d5]
    simp only [q_IL, q_II]
    rw [if_neg (by omega), if_neg (by omega)]
    exact hz k hk
  have hx := oL_ix (body := b_X11_goesThrough_44 (nI N) (if pl then 1 else 0) (if bw then 1 else 0)) (N := N) (fun m s => s.1 = nI m ∧ LiM s.2 (reL pl bw L bs ex m) ∧ (∀ k, k < 65536 → rI s.2 103 k = 0) ∧ FrH σ s.2) (fun r => ∃ τ, r = ((), τ) ∧ LiM τ (reL pl bw L bs ex N) ∧ (∀ k, k < 65536 → rI τ 103 k = 0) ∧ FrH σ τ) ?_ ?_ (n := oFuel) (by have : oFuel = 100000 := rfl; omega) (s := (0, σ5)) ⟨rfl, L5, z5, F5⟩
  · obtain ⟨r, h1, τ, h2, h3⟩ := hx
    refine ⟨τ, ?_, h3⟩
    unfold f_X11_goesThrough
    have ei : (if (if pl then (1 : Int32) else 0) = 0 then (1 : Int64) else 0) = (if pl then 0 else 1) := by cases pl <;> rfl
    simp only [oLet_eq, ei, show ((0 : Int32).toNatClampNeg) = 0 from rfl]
    rw [← d5, h1, h2]
  · rintro m ⟨mm, τ⟩ hm ⟨h1, h2, h3, h4⟩
    dsimp only at h1 h2 h3 h4
    have c1 : ¬ nI N ≤ nI m := fun q => by have := (nI_leI (by omega) (by omega)).mp q; omega
    have e2 : nI m + 1 = nI (m + 1) := nI_1 m
    have F1 : FrN8 τ (wI τ 67 56 0) := ⟨rfl, rfl, rfl, fun x j _ b => by rw [q_II, if_neg (fun z => (b z.1).1 z.2)], fun _ _ _ => rfl⟩
    have T1 : ThM (wI τ 67 56 0) [] := ⟨by rw [q_II, if_pos ⟨rfl, rfl⟩]; rfl, List.nodup_nil, fun p hp => absurd hp (by simp), fun i p hi => absurd hi (by simp), fun k hk _ => by rw [q_II, if_neg (fun z => absurd z.1 (by decide))]; exact h3 k hk⟩
    obtain ⟨υ, g1, g2, g3⟩ := states_eq ((U.frH h4).fr8 F1) ((S.frH h4).fr8 F1) (h2.fr8 F1) T1 ((B.frH h4).fr8 F1) (by omega) pl bw (mm, τ) h1
    obtain ⟨ω, k1, k2, k3, k4⟩ := copy_eq g2 (mm, τ)
    refine ⟨(nI (m + 1), ω), ?_, rfl, by rw [reL_s]; exact k2, k3, ((h4.tr (FrH_8 F1)).tr (FrH_8 g3)).tr k4⟩
    unfold b_X11_goesThrough_44
    dsimp only
    rw [h1] at g1 k1 ⊢
    rw [if_neg c1, oLet_eq, g1, oJ_inr, k1]
    dsimp only
    rw [e2]
  · rintro ⟨mm, τ⟩ ⟨h1, h2⟩
    dsimp only at h1 h2
    refine ⟨((), τ), ?_, τ, rfl, h2⟩
    unfold b_X11_goesThrough_44
    dsimp only
    rw [h1, if_pos ((nI_leI (by omega) (by omega)).mpr (Nat.le_refl _))]
