/-! spread; all states of a layer; turnOver -/
theorem puts_mono (md : Nat) (su : Nat → Int32) (v w : Int64 × Int64) (es : List (Nat × Int32)) (l : List (Nat × Int64 × Int64)) : l.length ≤ (puts md su v w es l).length := by
  unfold puts
  induction es generalizing l with
  | nil => exact Nat.le_refl _
  | cons e es ih =>
    rw [List.foldl_cons]
    refine Nat.le_trans ?_ (ih _)
    unfold putW
    split
    · exact Nat.le_refl _
    · exact (ins_len _ _ _ _).1
/-- all ways from one state -/
def sprd (md : Nat) (tb op su : Nat → Int32) (W : List (Nat × Int64 × Int64)) (l : List (Nat × Int64 × Int64)) (p : Nat × Int64 × Int64) : List (Nat × Int64 × Int64) := W.foldl (fun l q => puts md su p.2 q.2 (emW tb op p.1 q.1) l) l
/-- all states of a layer -/
def numb (md : Nat) (tb op su : Nat → Int32) (W : List (Nat × Int64 × Int64)) (lh : List (Nat × Int64 × Int64)) (l : List (Nat × Int64 × Int64)) : List (Nat × Int64 × Int64) := lh.foldl (sprd md tb op su W) l
theorem sprd_mono (md : Nat) (tb op su : Nat → Int32) (W : List (Nat × Int64 × Int64)) (l : List (Nat × Int64 × Int64)) (p : Nat × Int64 × Int64) : l.length ≤ (sprd md tb op su W l p).length := by
  unfold sprd
  induction W generalizing l with
  | nil => exact Nat.le_refl _
  | cons q W ih =>
    rw [List.foldl_cons]
    exact Nat.le_trans (puts_mono _ _ _ _ _ _) (ih _)
theorem numb_mono (md : Nat) (tb op su : Nat → Int32) (W lh l : List (Nat × Int64 × Int64)) : l.length ≤ (numb md tb op su W lh l).length := by
  unfold numb
  induction lh generalizing l with
  | nil => exact Nat.le_refl _
  | cons q lh ih =>
    rw [List.foldl_cons]
    exact Nat.le_trans (sprd_mono _ _ _ _ _ _ _) (ih _)
theorem take_snoc {α : Type} {l : List α} {k : Nat} {x : α} (h : l[k]? = some x) : l.take (k + 1) = l.take k ++ [x] := by
  rw [List.take_add_one, h]
  rfl
theorem FrS_37 {σ : rS} {t a b c n h a' b' c' n' : Nat} (F : LyF σ t a b c n h a' b' c' n') : 37 < rN σ ∧ rR σ 37 6 ≠ 37 := ⟨by have := F.2.2.2.2.2.2.2.2.2.2.2.2.2.2; omega, by rw [F.1.1]; have := F.1.2.2; omega⟩
theorem SpX_37 {σ : rS} {md : Nat} {tb op su : Nat → Int32} {lh W lt : List (Nat × Int64 × Int64)} {h a' b' c' n' : Nat} (X : SpX σ md tb op su lh W lt h a' b' c' n') : 37 < rN σ ∧ rR σ 37 6 ≠ 37 := by
  obtain ⟨t, a, b, c, n, F, -⟩ := X
  exact FrS_37 F
theorem sprd_snoc (md : Nat) (tb op su : Nat → Int32) (W : List (Nat × Int64 × Int64)) (q : Nat × Int64 × Int64) (l : List (Nat × Int64 × Int64)) (p : Nat × Int64 × Int64) : sprd md tb op su (W ++ [q]) l p = puts md su p.2 q.2 (emW tb op p.1 q.1) (sprd md tb op su W l p) := by
  unfold sprd
  rw [List.foldl_append, List.foldl_cons, List.foldl_nil]
theorem sprd_app (md : Nat) (tb op su : Nat → Int32) (W W2 : List (Nat × Int64 × Int64)) (l : List (Nat × Int64 × Int64)) (p : Nat × Int64 × Int64) : sprd md tb op su (W ++ W2) l p = sprd md tb op su W2 (sprd md tb op su W l p) p := by
  unfold sprd
  rw [List.foldl_append]
theorem spread_head {σ : rS} {md : Nat} {tb op su : Nat → Int32} {lh W lt : List (Nat × Int64 × Int64)} {h a' b' c' n' : Nat} (X : SpX σ md tb op su lh W lt h a' b' c' n') {i k : Nat} {v : Int64 × Int64} (hi : lh[i]? = some (k, v)) : inB (nI i) ((rK σ (rR σ (rR σ 37 5) 0)).2) ∧ rI σ (rR σ (rR σ 37 5) 0) (nI i).toNatClampNeg = nI k := by
  have hil : i < lh.length := (List.getElem?_eq_some_iff.mp hi).1
  obtain ⟨t, a, b, c, n, F, H, hl, R, H1, H2, H3⟩ := X
  have hn' : n' ≤ 65536 := F.2.2.2.2.2.1.2.2.2
  have hlt := Nat.lt_of_lt_of_le hil H1.2.1
  have hx := (H1.2.2 i _ hi).1
  rw [F.1.2.1, F.2.2.1.1, F.2.2.2.2.1.1, nI_clamp (by clear F H R H1 H2 H3 hx; omega)]
  exact ⟨inB_nI (by clear F H R H1 H2 H3 hx; omega) hlt, hx⟩
theorem SpX_W {σ : rS} {md : Nat} {tb op su : Nat → Int32} {lh W lt : List (Nat × Int64 × Int64)} {h a' b' c' n' : Nat} (X : SpX σ md tb op su lh W lt h a' b' c' n') : rI σ 37 11 = nI W.length ∧ W.length ≤ 81 := by
  obtain ⟨t, a, b, c, n, F, H, hl, R, H1, H2, H3⟩ := X
  exact ⟨H2.1, H2.2.1⟩
theorem spread_end {σ : rS} {W : List (Nat × Int64 × Int64)} (H : rI σ 37 11 = nI W.length ∧ W.length ≤ 81) (x y : Int32) : b_X9_spread_12 x y (nI W.length, σ) = some (.inl ((), σ)) := by
  have h2 := H.2
  have c1 : nI W.length ≤ nI W.length := (nI_leI (by omega) (by omega)).mpr (Nat.le_refl _)
  unfold b_X9_spread_12
  dsimp only
  rw [H.1, if_pos (by rw [if_pos c1])]
theorem spread_eq {σ : rS} {md : Nat} {tb op su : Nat → Int32} {lh W lt : List (Nat × Int64 × Int64)} {h a' b' c' n' : Nat} (X : SpX σ md tb op su lh W lt h a' b' c' n') {i k : Nat} {v : Int64 × Int64} (hi : lh[i]? = some (k, v)) (hk : k < 65536) (hu : ∀ q ∈ W, q.1 ≤ 8738) (hb : (sprd md tb op su W lt (k, v)).length ≤ 65455) : ∃ υ, f_X9_spread σ (nI i) = some ((), υ) ∧ SpX υ md tb op su lh W (sprd md tb op su W lt (k, v)) h a' b' c' n' ∧ FrS σ υ := by
  have X37 := SpX_37 X
  have hW := (SpX_W X).2
  have hhead := spread_head X hi
  unfold f_X9_spread
  rw [if_pos hhead.1, oLet_eq, hhead.2]
  have hpre : ∀ m, (sprd md tb op su (W.take m) lt (k, v)).length ≤ 65455 := fun m => by
    refine Nat.le_trans ?_ hb
    have e := sprd_app md tb op su (W.take m) (W.drop m) lt (k, v)
    rw [List.take_append_drop] at e
    rw [e]
    exact sprd_mono _ _ _ _ _ _ _
  have hs : ∀ m τ, m < W.length → (SpX τ md tb op su lh W (sprd md tb op su (W.take m) lt (k, v)) h a' b' c' n' ∧ FrS σ τ) → ∃ υ, b_X9_spread_12 (nI i) (nI k) (nI m, τ) = some (.inr (nI (m + 1), υ)) ∧ (SpX υ md tb op su lh W (sprd md tb op su (W.take (m + 1)) lt (k, v)) h a' b' c' n' ∧ FrS σ υ) := by
    intro m τ hm hP
    obtain ⟨q, hq⟩ : ∃ q, W[m]? = some q := ⟨W[m], List.getElem?_eq_getElem hm⟩
    obtain ⟨υ, g1, g2, g3⟩ := way_eq (u := q.1) (w := q.2) hP.1 hi hq hk (hu _ (List.mem_of_getElem? hq)) (hpre m)
    refine ⟨υ, g1, ?_, hP.2.tr X37 g3⟩
    rw [take_snoc hq, sprd_snoc]
    exact g2
  obtain ⟨τ, k1, k2, k3⟩ := oL_run (body := b_X9_spread_12 (nI i) (nI k)) (fun m τ => SpX τ md tb op su lh W (sprd md tb op su (W.take m) lt (k, v)) h a' b' c' n' ∧ FrS σ τ) (N := W.length) (fun τ => ((), τ)) (n := oFuel) (σ := σ) hs (fun τ hP => spread_end (SpX_W hP.1) _ _) (by have : oFuel = 100000 := rfl; omega) ⟨X, FrS.rf σ⟩
  rw [List.take_length] at k2
  exact ⟨τ, k1, k2, k3⟩
/-- nothing but places and which layer is which changes -/
def FrT (σ τ : rS) : Prop := rK τ = rK σ ∧ rN τ = rN σ ∧ rL τ = rL σ ∧ (∀ x j, x ≠ 50 → rI τ x j = rI σ x j) ∧ ∀ x j, (x = 37 → j ≠ 5 ∧ j ≠ 6) → rR τ x j = rR σ x j
theorem turn_eq {σ : rS} {t a b c n h a' b' c' n' : Nat} (F : LyF σ t a b c n h a' b' c' n') {lt : List (Nat × Int64 × Int64)} (H : StR σ t 3 a b c 50 65535 lt) (hl : lt.length ≤ n) : ∃ τ, f_X9_turnOver σ = some ((), τ) ∧ LyF τ h a' b' c' n' t a b c n ∧ HeR τ t a b c n lt ∧ (∀ x, x ≤ 65535 → rI τ 50 x = 0) ∧ FrT σ τ := by
  have F0 := F
  obtain ⟨⟨f1, f2, f3⟩, ⟨f4, f5, f6⟩, ⟨f4', f5', f6'⟩, ⟨f7, f8, f9⟩, ⟨f7', f8', f9'⟩, ⟨n1, n2, n3, n4⟩, ⟨d1, d2, d3, d4, d5, d6⟩, ⟨x1, x2, x3, x4, x5, x6, x7⟩, ⟨l1, l2, l3, l4, l5, l6, hN⟩⟩ := F0
  have ha50 : a ≠ 50 := fun e => (LyF_na F (x := 50) (by decide) (by decide)) e.symm
  have ht50 : t ≠ 50 := fun e => (LyF_nt F (x := 50) (by decide)) e.symm
  obtain ⟨g1, g2, g3, g4, g5⟩ := H
  have hs : ∀ m τ, m < lt.length → (rK τ = rK σ ∧ rR τ = rR σ ∧ rN τ = rN σ ∧ rL τ = rL σ ∧ (∀ x j, x ≠ 50 → rI τ x j = rI σ x j) ∧ ∀ x, x ≤ 65535 → x ∉ (lt.drop m).map (fun p => p.1) → rI τ 50 x = 0) → ∃ υ, b_X9_turnOver_2 (nI m, τ) = some (.inr (nI (m + 1), υ)) ∧ (rK υ = rK σ ∧ rR υ = rR σ ∧ rN υ = rN σ ∧ rL υ = rL σ ∧ (∀ x j, x ≠ 50 → rI υ x j = rI σ x j) ∧ ∀ x, x ≤ 65535 → x ∉ (lt.drop (m + 1)).map (fun p => p.1) → rI υ 50 x = 0) := by
    intro m τ hm hP
    obtain ⟨p1, p2, p3, p4, p5, p6⟩ := hP
    obtain ⟨p, hp⟩ : ∃ p, lt[m]? = some p := ⟨lt[m], List.getElem?_eq_getElem hm⟩
    have hp3 := g3 p (List.mem_of_getElem? hp)
    unfold b_X9_turnOver_2
    dsimp only
    rw [p1, p2, f1, f4, f7, p5 t 3 ht50, g1]
    have c1 : ¬ nI lt.length ≤ nI m := fun q => by have := (nI_leI (by omega) (by omega)).mp q; omega
    have c2 : ¬ nI n ≤ nI m := fun q => by have := (nI_leI (by omega) (by omega)).mp q; omega
    rw [if_neg (by rw [if_neg c1, if_neg c2]; exact Bool.false_ne_true), if_pos (inB_nI (by omega) (by omega)), nI_clamp (by omega), p5 a m ha50, (g4 m p hp).1, nI_16 (by omega), if_pos (inB_nI (by decide) (by omega)), nI_clamp (by omega), oLet_eq]
    refine ⟨wI τ 50 p.1 0, by rw [show nI m + 1 = nI (m + 1) from nI_1 m], p1, p2, p3, p4, fun x j hx => ?_, fun x hx hn => ?_⟩
    · rw [q_II, if_neg (fun q => hx q.1)]; exact p5 x j hx
    · rw [q_II]
      by_cases hxe : x = p.1
      · rw [if_pos ⟨rfl, hxe⟩]
      · rw [if_neg (fun q => hxe q.2)]
        refine p6 x hx (fun hm2 => hn ?_)
        have ed : lt.drop m = p :: lt.drop (m + 1) := by
          rw [List.drop_eq_getElem_cons hm]
          congr 1
          rw [List.getElem?_eq_getElem hm] at hp
          exact Option.some.inj hp
        rw [ed, List.map_cons] at hm2
        rcases List.mem_cons.mp hm2 with q | q
        · exact absurd q hxe
        · exact q
  have he : ∀ τ, (rK τ = rK σ ∧ rR τ = rR σ ∧ rN τ = rN σ ∧ rL τ = rL σ ∧ (∀ x j, x ≠ 50 → rI τ x j = rI σ x j) ∧ ∀ x, x ≤ 65535 → x ∉ (lt.drop lt.length).map (fun p => p.1) → rI τ 50 x = 0) → b_X9_turnOver_2 (nI lt.length, τ) = some (.inl (.inr τ)) := by
    intro τ hP
    obtain ⟨p1, p2, p3, p4, p5, p6⟩ := hP
    unfold b_X9_turnOver_2
    dsimp only
    rw [p1, p2, f1, p5 t 3 ht50, g1, if_pos (by rw [if_pos ((nI_leI (by omega) (by omega)).mpr (Nat.le_refl _))])]
  obtain ⟨τ, k0, k1, k2, k3, k4, k5, k6⟩ := oL_run (body := b_X9_turnOver_2) (fun m τ => rK τ = rK σ ∧ rR τ = rR σ ∧ rN τ = rN σ ∧ rL τ = rL σ ∧ (∀ x j, x ≠ 50 → rI τ x j = rI σ x j) ∧ ∀ x, x ≤ 65535 → x ∉ (lt.drop m).map (fun p => p.1) → rI τ 50 x = 0) (N := lt.length) (fun τ => Sum.inr τ) (n := oFuel) (σ := σ) hs he (by have : oFuel = 100000 := rfl; omega) ⟨rfl, rfl, rfl, rfl, fun _ _ _ => rfl, fun x hx hn => g5 x hx hn⟩
  unfold f_X9_turnOver
  rw [k0, oJ_inr]
  simp only [oLet_eq]
  have hr : ∀ x j, (x = 37 → j ≠ 5 ∧ j ≠ 6) → rR (wR (wR τ 37 5 (rR τ 37 6)) 37 6 (rR τ 37 5)) x j = rR σ x j := fun x j hx => by
    rw [q_RR, if_neg (fun q => (hx q.1).2 q.2), q_RR, if_neg (fun q => (hx q.1).1 q.2), k2]
  have ht37 : t ≠ 37 := fun e => (LyF_nt F (x := 37) (by decide)) e.symm
  have hh37 : h ≠ 37 := by clear d1 d2 d3 d4 d5 d6; omega
  refine ⟨_, rfl, ?_, ?_, fun x hx => ?_, ?_⟩
  · refine ⟨⟨?_, ?_, f3.symm.imp (fun q => ⟨q.2, q.1⟩) (fun q => ⟨q.2, q.1⟩)⟩, ⟨?_, ?_, ?_⟩, ⟨?_, ?_, ?_⟩, ⟨?_, ?_, ?_⟩, ⟨?_, ?_, ?_⟩, ⟨n3, n4, n1, n2⟩, ⟨d4, d5, d6, d1, d2, d3⟩, ⟨x2, x1, Ne.symm x3, Ne.symm x4, Ne.symm x6, Ne.symm x5, Ne.symm x7⟩, ?_⟩
    · rw [q_RR, if_pos ⟨rfl, rfl⟩, k2, f2]
    · rw [q_RR, if_neg (by decide), q_RR, if_pos ⟨rfl, rfl⟩, k2, f1]
    · rw [hr h 0 (fun e => absurd e hh37)]; exact f4'
    · rw [hr h 1 (fun e => absurd e hh37)]; exact f5'
    · rw [hr h 2 (fun e => absurd e hh37)]; exact f6'
    · rw [hr t 0 (fun e => absurd e ht37)]; exact f4
    · rw [hr t 1 (fun e => absurd e ht37)]; exact f5
    · rw [hr t 2 (fun e => absurd e ht37)]; exact f6
    · show (rK τ a').2 = n'; rw [k1]; exact f7'
    · show (rK τ b').2 = n'; rw [k1]; exact f8'
    · show (rK τ c').2 = n'; rw [k1]; exact f9'
    · show (rK τ a).2 = n; rw [k1]; exact f7
    · show (rK τ b).2 = n; rw [k1]; exact f8
    · show (rK τ c).2 = n; rw [k1]; exact f9
    · show a' < rN τ ∧ b' < rN τ ∧ c' < rN τ ∧ a < rN τ ∧ b < rN τ ∧ c < rN τ ∧ 67 ≤ rN τ
      rw [k3]; exact ⟨l4, l5, l6, l1, l2, l3, hN⟩
  · refine ⟨?_, hl, fun i p hi => ⟨?_, ?_, ?_⟩⟩
    · show rI τ t 3 = _; rw [k5 t 3 ht50]; exact g1
    · show rI τ a i = _; rw [k5 a i ha50]; exact (g4 i p hi).1
    · show rL τ b i = _; rw [k4]; exact (g4 i p hi).2.1
    · show rL τ c i = _; rw [k4]; exact (g4 i p hi).2.2.1
  · show rI τ 50 x = 0
    exact k6 x hx (by rw [List.drop_length]; simp)
  · exact ⟨k1, k3, k4, fun x j hx => k5 x j hx, hr⟩
