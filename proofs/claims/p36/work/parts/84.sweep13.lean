/-! from one number to the next -/
theorem oL_run2 {R : Type} {body : Int32 × rS → Option (R ⊕ (Int32 × rS))} (P : Nat → rS → Prop) {N : Nat} (Q : R → Prop) (hs : ∀ k τ, k < N → P k τ → ∃ υ, body (nI k, τ) = some (.inr (nI (k + 1), υ)) ∧ P (k + 1) υ) (he : ∀ τ, P N τ → ∃ r, body (nI N, τ) = some (.inl r) ∧ Q r) {n : Nat} (hn : N < n) {σ : rS} (h0 : P 0 σ) : ∃ r, oLoop body n (0, σ) = some r ∧ Q r := by
  have key : ∀ d k n τ, k + d = N → d < n → P k τ → ∃ r, oLoop body n (nI k, τ) = some r ∧ Q r := by
    intro d
    induction d with
    | zero =>
      intro k n τ hk hn hP
      obtain ⟨n, rfl⟩ : ∃ m, n = m + 1 := ⟨n - 1, by omega⟩
      have e : k = N := by omega
      subst e
      obtain ⟨r, h1, h2⟩ := he τ hP
      exact ⟨r, oLoop_l h1, h2⟩
    | succ d ih =>
      intro k n τ hk hn hP
      obtain ⟨n, rfl⟩ : ∃ m, n = m + 1 := ⟨n - 1, by omega⟩
      obtain ⟨υ, h1, h2⟩ := hs k τ (by omega) hP
      rw [oLoop_r h1]
      exact ih (k + 1) n υ (by omega) (by omega) h2
  exact key N 0 n σ (by omega) hn h0
/-- what a sweep leaves alone -/
def FrG (σ τ : rS) : Prop := rN σ ≤ rN τ ∧ (∀ x, x < rN σ → rK τ x = rK σ x) ∧ (∀ x j, x < 67 → (x < 50 ∨ 64 < x) → (x = 37 → j ≠ 11) → rI τ x j = rI σ x j) ∧ (∀ x j, x < 67 → (x < 50 ∨ 64 < x) → rL τ x j = rL σ x j) ∧ ∀ x j, x < 67 → (x < 50 ∨ 64 < x) → (x = 37 → j ≠ 5 ∧ j ≠ 6) → rR τ x j = rR σ x j
theorem FrG.rf (σ : rS) : FrG σ σ := ⟨Nat.le_refl _, fun _ _ => rfl, fun _ _ _ _ _ => rfl, fun _ _ _ _ => rfl, fun _ _ _ _ _ => rfl⟩
theorem FrG.tr {σ τ υ : rS} (h : FrG σ τ) (g : FrG τ υ) : FrG σ υ := ⟨Nat.le_trans h.1 g.1, fun x hx => (g.2.1 x (Nat.lt_of_lt_of_le hx h.1)).trans (h.2.1 x hx), fun x j a b c => (g.2.2.1 x j a b c).trans (h.2.2.1 x j a b c), fun x j a b => (g.2.2.2.1 x j a b).trans (h.2.2.2.1 x j a b), fun x j a b c => (g.2.2.2.2 x j a b c).trans (h.2.2.2.2 x j a b c)⟩
theorem FrG_W {σ τ : rS} (f : FrW σ τ) : FrG σ τ := ⟨Nat.le_of_eq f.2.2.1.symm, fun x _ => by rw [f.1], fun x j _ h c => f.2.2.2.1 x j (by omega) (by omega) c, fun x j _ h => f.2.2.2.2 x j (by omega) (by omega), fun x j _ _ _ => by rw [f.2.1]⟩
theorem FrG_A {σ τ : rS} (f : FrA σ τ) : FrG σ τ := ⟨Nat.le_of_eq f.2.2.1.symm, fun x _ => by rw [f.1], fun x j _ h c => f.2.2.2.2 x j (by omega) (by omega), fun x j _ h => by rw [f.2.2.2.1], fun x j _ _ _ => by rw [f.2.1]⟩
theorem FrG_S {σ τ : rS} {t a b c n h a' b' c' n' : Nat} (F : LyF σ t a b c n h a' b' c' n') (f : FrS σ τ) : FrG σ τ := by
  obtain ⟨q1, q2, q3, -⟩ := FrS_cells F f
  exact ⟨f.1, f.2.1, fun x j hx h c => q1 x j hx (by omega), fun x j hx h => q2 x j hx (by omega), fun x j hx h c => q3 x j hx (by omega)⟩
theorem FrG_T {σ τ : rS} (f : FrT σ τ) : FrG σ τ := ⟨Nat.le_of_eq f.2.1.symm, fun x _ => by rw [f.1], fun x j _ h c => f.2.2.2.1 x j (by omega), fun x j _ h => by rw [f.2.2.1], fun x j _ _ c => f.2.2.2.2 x j c⟩
theorem SwC.frG {σ τ : rS} {L h md : Nat} {bw : Bool} {lo hi : Nat → Nat} (S : SwC σ L h md bw lo hi) (f : FrG σ τ) : SwC τ L h md bw lo hi := by
  obtain ⟨-, -, g3, g4, g5⟩ := f
  have er : rR τ 37 14 = rR σ 37 14 := g5 37 14 (by decide) (by decide) (fun _ => by decide)
  obtain ⟨⟨s1, s2⟩, ⟨s3, s4⟩, s5, s6, s7, s8, s9, s10, s11, s12⟩ := S
  refine ⟨⟨(g3 37 16 (by decide) (by decide) (fun _ => by decide)).trans s1, s2⟩, ⟨(g3 37 17 (by decide) (by decide) (fun _ => by decide)).trans s3, s4⟩, (g3 37 18 (by decide) (by decide) (fun _ => by decide)).trans s5, fun k hk => (g3 48 k (by decide) (by decide) (fun q => absurd q (by decide))).trans (s6 k hk), fun k hk => (g3 49 k (by decide) (by decide) (fun q => absurd q (by decide))).trans (s7 k hk), s8, fun k hk => (g3 1 k (by decide) (by decide) (fun q => absurd q (by decide))).trans (s9 k hk), s10, by rw [er]; exact s11, fun i hi => ?_⟩
  rw [er, ← s12 i hi]
  have e : rR σ 37 14 = 43 ∨ rR σ 37 14 = 38 := by rw [s11]; split <;> simp
  exact g3 _ _ (by omega) (by omega) (fun q => by omega)
/-- the table that a sweep steps by -/
def TbW (σ : rS) (tb : Nat → Int32) : Prop := (rR σ 37 15 < 50 ∧ 1 < rR σ 37 15 ∧ rR σ 37 15 ≠ 37) ∧ ∀ x, x < 256 → rI σ (rR σ 37 15) x = tb x
theorem TbW.fr {σ τ : rS} {tb : Nat → Int32} (H : TbW σ tb) (f : FrG σ τ) : TbW τ tb := by
  obtain ⟨-, -, g3, -, g5⟩ := f
  have er : rR τ 37 15 = rR σ 37 15 := g5 37 15 (by decide) (by decide) (fun _ => by decide)
  obtain ⟨h1, h2⟩ := H
  unfold TbW
  rw [er]
  exact ⟨h1, fun x hx => (g3 _ x (by omega) (by omega) (fun q => absurd q h1.2.2)).trans (h2 x hx)⟩
/-- a sweep between two numbers: the list of its states -/
def GoI (σ : rS) (L hh md : Nat) (bw : Bool) (lo hi : Nat → Nat) (tb : Nat → Int32) (lh : List (Nat × Int64 × Int64)) : Prop := (∃ t a b c n h a' b' c' n', LyF σ t a b c n h a' b' c' n' ∧ HeR σ h a' b' c' n' lh ∧ RmS σ n n') ∧ (∀ x, x ≤ 65535 → rI σ 50 x = 0) ∧ (∃ W, WaR σ W ∧ KeyW W) ∧ SwC σ L hh md bw lo hi ∧ TbW σ tb ∧ ∀ p ∈ lh, p.1 < 65536
/-- one number of a sweep -/
def stepL (L hh md : Nat) (bw : Bool) (lo hi : Nat → Nat) (tb : Nat → Int32) (num : Nat) (lh : List (Nat × Int64 × Int64)) : List (Nat × Int64 × Int64) := numb md tb (opW md L lo hi hh num) (suW L lo hh num) (gwL md bw num (lo4 lo hh num) (xs4 md lo hi hh num)) lh []
theorem WaR_S {σ τ : rS} {t a b c n h a' b' c' n' : Nat} (F : LyF σ t a b c n h a' b' c' n') (f : FrS σ τ) {W : List (Nat × Int64 × Int64)} (H : WaR σ W) : WaR τ W := by
  obtain ⟨q1, q2, -⟩ := FrS_cells F f
  obtain ⟨h1, h2, h3, h4, h5⟩ := H
  exact ⟨(q1 37 11 (by decide) (by decide)).trans h1, h2, h3, fun i p hi => ⟨(q1 59 i (by decide) (by decide)).trans (h4 i p hi).1, (q2 60 i (by decide) (by decide)).trans (h4 i p hi).2.1, (q2 61 i (by decide) (by decide)).trans (h4 i p hi).2.2.1, (q1 62 _ (by decide) (by decide)).trans (h4 i p hi).2.2.2⟩, fun x hx hn => (q1 62 x (by decide) (by decide)).trans (h5 x hx hn)⟩
theorem WaR_T {σ τ : rS} (f : FrT σ τ) {W : List (Nat × Int64 × Int64)} (H : WaR σ W) : WaR τ W := by
  obtain ⟨-, -, fl, fi, -⟩ := f
  obtain ⟨h1, h2, h3, h4, h5⟩ := H
  exact ⟨(fi 37 11 (by decide)).trans h1, h2, h3, fun i p hi => ⟨(fi 59 i (by decide)).trans (h4 i p hi).1, by rw [fl]; exact (h4 i p hi).2.1, by rw [fl]; exact (h4 i p hi).2.2.1, (fi 62 _ (by decide)).trans (h4 i p hi).2.2.2⟩, fun x hx hn => (fi 62 x (by decide)).trans (h5 x hx hn)⟩
theorem RmS_T {σ : rS} {n n' : Nat} (R : RmS σ n n') : RmS σ n' n := by
  obtain ⟨j, j', h1, h2, h3, h4, h5, h6⟩ := R
  exact ⟨j', j, h2, h1, h4, h3, by omega, by omega⟩
theorem numb_snoc (md : Nat) (tb op su : Nat → Int32) (W lh : List (Nat × Int64 × Int64)) (q : Nat × Int64 × Int64) (l : List (Nat × Int64 × Int64)) : numb md tb op su W (lh ++ [q]) l = sprd md tb op su W (numb md tb op su W lh l) q := by
  unfold numb
  rw [List.foldl_append, List.foldl_cons, List.foldl_nil]
theorem numb_app (md : Nat) (tb op su : Nat → Int32) (W lh lh2 l : List (Nat × Int64 × Int64)) : numb md tb op su W (lh ++ lh2) l = numb md tb op su W lh2 (numb md tb op su W lh l) := by
  unfold numb
  rw [List.foldl_append]
/-- all states of a layer gone through, and the layers turned over -/
theorem num_eq {σ : rS} {md : Nat} {tb op su : Nat → Int32} {lh W : List (Nat × Int64 × Int64)} {h a' b' c' n' : Nat} (X : SpX σ md tb op su lh W [] h a' b' c' n') (hk : ∀ p ∈ lh, p.1 < 65536) (hu : ∀ q ∈ W, q.1 ≤ 8738) (hb : (numb md tb op su W lh []).length ≤ 65455) (hlh : lh.length ≤ 65536) (s12 : Int32 × rS) : ∃ r, oLoop (b_X9_go_188 s12) oFuel (0, σ) = some r ∧ ∃ τ υ, r = .inr (s12.1 + 1, υ) ∧ SpX τ md tb op su lh W (numb md tb op su W lh []) h a' b' c' n' ∧ FrS σ τ ∧ f_X9_turnOver τ = some ((), υ) := by
  have X37 := SpX_37 X
  have hpre : ∀ m, (numb md tb op su W (lh.take m) []).length ≤ 65455 := fun m => by
    refine Nat.le_trans ?_ hb
    have e := numb_app md tb op su W (lh.take m) (lh.drop m) []
    rw [List.take_append_drop] at e
    rw [e]
    exact numb_mono _ _ _ _ _ _ _
  have cnd : ∀ τ lt, SpX τ md tb op su lh W lt h a' b' c' n' → rI τ (rR τ 37 5) 3 = nI lh.length ∧ (rK τ (rR τ (rR τ 37 5) 0)).2 = n' ∧ lh.length ≤ n' ∧ n' ≤ 65536 := fun τ lt X => by
    obtain ⟨t, a, b, c, n, F, H, hl, R, H1, H2, H3⟩ := X
    rw [F.1.2.1, F.2.2.1.1]
    exact ⟨H1.1, F.2.2.2.2.1.1, H1.2.1, F.2.2.2.2.2.1.2.2.2⟩
  refine oL_run2 (fun m τ => SpX τ md tb op su lh W (numb md tb op su W (lh.take m) []) h a' b' c' n' ∧ FrS σ τ) (N := lh.length) (fun r => ∃ τ υ, r = Sum.inr (s12.1 + 1, υ) ∧ SpX τ md tb op su lh W (numb md tb op su W lh []) h a' b' c' n' ∧ FrS σ τ ∧ f_X9_turnOver τ = some ((), υ)) (fun m τ hm hP => ?_) (fun τ hP => ?_) (by have : oFuel = 100000 := rfl; omega) ⟨X, FrS.rf σ⟩
  · obtain ⟨q, hq⟩ : ∃ q, lh[m]? = some q := ⟨lh[m], List.getElem?_eq_getElem hm⟩
    obtain ⟨d1, d2, d3, d4⟩ := cnd τ _ hP.1
    obtain ⟨υ, g1, g2, g3⟩ := spread_eq (k := q.1) (v := q.2) hP.1 hq (hk _ (List.mem_of_getElem? hq)) hu (by
      have := hpre (m + 1)
      rw [take_snoc hq, numb_snoc] at this
      exact this)
    unfold b_X9_go_188
    dsimp only
    have c1 : ¬ nI lh.length ≤ nI m := fun z => by have := (nI_leI (by omega) (by omega)).mp z; omega
    have c2 : ¬ nI n' ≤ nI m := fun z => by have := (nI_leI (by omega) (by omega)).mp z; omega
    rw [d1, d2, if_neg (by rw [if_neg c1, if_neg c2]; exact Bool.false_ne_true), g1, oB_some, show nI m + 1 = nI (m + 1) from nI_1 m]
    refine ⟨υ, rfl, ?_, hP.2.tr X37 g3⟩
    rw [take_snoc hq, numb_snoc]
    exact g2
  · obtain ⟨d1, d2, d3, d4⟩ := cnd τ _ hP.1
    obtain ⟨hX, hF⟩ := hP
    rw [List.take_length] at hX
    have hX2 := hX
    obtain ⟨t, a, b, c, n, F, H, hl, R, H1, H2, H3⟩ := hX2
    obtain ⟨υ, g1, -⟩ := turn_eq F H hl
    have c1 : nI lh.length ≤ nI lh.length := (nI_leI (by omega) (by omega)).mpr (Nat.le_refl _)
    refine ⟨.inr (s12.1 + 1, υ), ?_, τ, υ, rfl, hX, hF, g1⟩
    unfold b_X9_go_188
    dsimp only
    rw [d1, if_pos (by rw [if_pos c1]), g1, oB_some]
/-- one number -/
theorem step_eq {σ : rS} {L hh md : Nat} {bw : Bool} {lo hi : Nat → Nat} {tb : Nat → Int32} {lh : List (Nat × Int64 × Int64)} (G : GoI σ L hh md bw lo hi tb lh) {num last : Nat} (h1 : num ≤ last) (h2 : last ≤ 30) (h3 : lh ≠ []) (hb : (stepL L hh md bw lo hi tb num lh).length ≤ 65455) : ∃ τ, b_X9_go_149 (nI last) (nI num, σ) = some (.inr (nI (num + 1), τ)) ∧ GoI τ L hh md bw lo hi tb (stepL L hh md bw lo hi tb num lh) ∧ FrG σ τ := by
  obtain ⟨⟨t, a, b, c, n, h, a', b', c', n', F, H1, R⟩, hz, ⟨W0, hW0, hK0⟩, S, TB, hk⟩ := G
  have hlen : 0 < lh.length := List.length_pos_iff.mpr h3
  have hn' : n' ≤ 65536 := F.2.2.2.2.2.1.2.2.2
  have hlh : lh.length ≤ 65536 := Nat.le_trans H1.2.1 hn'
  obtain ⟨τ1, k1, k2, k3, k4⟩ := gather_eq S (n := num) (by omega) hW0 hK0
  have S1 := S.fr k4
  obtain ⟨τ2, j1, j2, j3⟩ := look_eq S1 (n := num) (by omega)
  have G1 := FrG_W k4
  have G2 := G1.tr (FrG_A j2)
  have eK : rK τ2 = rK σ := j2.1.trans k4.1
  have eR : rR τ2 = rR σ := j2.2.1.trans k4.2.1
  have eN : rN τ2 = rN σ := j2.2.2.1.trans k4.2.2.1
  have F2 : LyF τ2 t a b c n h a' b' c' n' := by unfold LyF; rw [eK, eR, eN]; exact F
  have F3 : LyF (wI τ2 t 3 0) t a b c n h a' b' c' n' := F2
  have eT : rR τ2 37 6 = t := F2.1.1
  have G3 : FrG τ2 (wI τ2 t 3 0) := ⟨Nat.le_refl _, fun _ _ => rfl, fun x j _ hx _ => by
    have hft := F.1.2.2
    rw [q_II, if_neg (by clear F F2 F3; omega)], fun _ _ _ _ => rfl, fun _ _ _ _ _ => rfl⟩
  have W2 : WaR τ2 (gwL md bw num (lo4 lo hh num) (xs4 md lo hi hh num)) := by
    obtain ⟨-, -, -, fl, fi⟩ := j2
    obtain ⟨w1, w2, w3, w4, w5⟩ := k2
    exact ⟨(fi 37 11 (by decide) (by decide)).trans w1, w2, w3, fun i p hi => ⟨(fi 59 i (by decide) (by decide)).trans (w4 i p hi).1, by rw [fl]; exact (w4 i p hi).2.1, by rw [fl]; exact (w4 i p hi).2.2.1, (fi 62 _ (by decide) (by decide)).trans (w4 i p hi).2.2.2⟩, fun x hx hn => (fi 62 x (by decide) (by decide)).trans (w5 x hx hn)⟩
  have nt := @LyF_nt _ _ _ _ _ _ _ _ _ _ _ F
  have W3 : WaR (wI τ2 t 3 0) (gwL md bw num (lo4 lo hh num) (xs4 md lo hi hh num)) := by
    obtain ⟨w1, w2, w3, w4, w5⟩ := W2
    have q : ∀ x j, (x ≠ 51 ∧ x ≠ 55) → rI (wI τ2 t 3 0) x j = rI τ2 x j := fun x j hx => by rw [q_II, if_neg (fun e => nt hx e.1)]
    exact ⟨(q 37 11 (by decide)).trans w1, w2, w3, fun i p hi => ⟨(q 59 i (by decide)).trans (w4 i p hi).1, (w4 i p hi).2.1, (w4 i p hi).2.2.1, (q 62 _ (by decide)).trans (w4 i p hi).2.2.2⟩, fun x hx hn => (q 62 x (by decide)).trans (w5 x hx hn)⟩
  have q0 : ∀ x, x ≤ 65535 → rI (wI τ2 t 3 0) 50 x = 0 := fun x hx => by
    rw [q_II, if_neg (fun e => nt (x := 50) (by decide) e.1), j2.2.2.2.2 50 x (by decide) (by decide), k4.2.2.2.1 50 x (by decide) (by decide) (fun q => absurd q (by decide))]
    exact hz x hx
  have cl : (h ≠ t ∧ h ≠ 63 ∧ h ≠ 64 ∧ h ≠ 59 ∧ h ≠ 62 ∧ h ≠ 37) ∧ (a' ≠ t ∧ a' ≠ 63 ∧ a' ≠ 64 ∧ a' ≠ 59 ∧ a' ≠ 62 ∧ a' ≠ 37) ∧ (b' ≠ 60 ∧ b' ≠ 61) ∧ (c' ≠ 60 ∧ c' ≠ 61) := by
    have f3 := F.1.2.2
    obtain ⟨-, -, -, d4, d5, d6⟩ := F.2.2.2.2.2.2.1
    clear F F2 F3 nt
    omega
  have H3 : HeR (wI τ2 t 3 0) h a' b' c' n' lh := by
    obtain ⟨⟨c1, c2, c3, c4, c5, c6⟩, ⟨d1, d2, d3, d4, d5, d6⟩, ⟨x1, x2⟩, ⟨y1, y2⟩⟩ := cl
    refine ⟨?_, H1.2.1, fun i p hi => ⟨?_, ?_, ?_⟩⟩
    · rw [q_II, if_neg (fun e => c1 e.1), j2.2.2.2.2 h 3 c2 c3, k4.2.2.2.1 h 3 c4 c5 (fun q => absurd q c6)]; exact H1.1
    · rw [q_II, if_neg (fun e => d1 e.1), j2.2.2.2.2 a' i d2 d3, k4.2.2.2.1 a' i d4 d5 (fun q => absurd q d6)]; exact (H1.2.2 i p hi).1
    · show rL τ2 b' i = _; rw [j2.2.2.2.1, k4.2.2.2.2 b' i x1 x2]; exact (H1.2.2 i p hi).2.1
    · show rL τ2 c' i = _; rw [j2.2.2.2.1, k4.2.2.2.2 c' i y1 y2]; exact (H1.2.2 i p hi).2.2
  have GA := G2.tr G3
  have S3 := S.frG GA
  have T3 := TB.fr GA
  have M3 : MoW (wI τ2 t 3 0) md tb (opW md L lo hi hh num) (suW L lo hh num) := ⟨⟨S3.mode, S3.m4⟩, fun c hc => ⟨by rw [q_II, if_neg (fun e => nt (x := 63) (by decide) e.1)]; exact (j3 c hc).1, by rw [q_II, if_neg (fun e => nt (x := 64) (by decide) e.1)]; exact (j3 c hc).2⟩, T3⟩
  have R3 : RmS (wI τ2 t 3 0) n n' := RmS_P eK eN R
  have X3 : SpX (wI τ2 t 3 0) md tb (opW md L lo hi hh num) (suW L lo hh num) lh (gwL md bw num (lo4 lo hh num) (xs4 md lo hi hh num)) [] h a' b' c' n' := by
    refine ⟨t, a, b, c, n, F3, ⟨?_, List.nodup_nil, fun p hp => absurd hp List.not_mem_nil, fun i p hi => absurd hi (by simp), fun x hx _ => q0 x hx⟩, Nat.zero_le _, R3, H3, ⟨W3.1, k3.len W3.2.1, fun i p hi => ⟨(W3.2.2.2.1 i p hi).1, (W3.2.2.2.1 i p hi).2.1, (W3.2.2.2.1 i p hi).2.2.1⟩⟩, M3⟩
    rw [q_II, if_pos ⟨rfl, rfl⟩]; rfl
  obtain ⟨r, m1, τ3, υ, rfl, X4, F4, T4⟩ := num_eq X3 hk (fun q hq => W3.2.2.1 q hq) hb hlh (nI num, σ)
  obtain ⟨t3, a3, b3, c3, n3, L4, St4, hl4, R4, -, -, -⟩ := X4
  obtain ⟨υ', e1, L5, H5, z5, FT⟩ := turn_eq L4 St4 hl4
  have eu : υ' = υ := by
    rw [T4] at e1
    exact (congrArg Prod.snd (Option.some.inj e1)).symm
  subst eu
  have GB := (GA.tr (FrG_S F3 F4)).tr (FrG_T FT)
  refine ⟨υ', ?_, ⟨⟨h, a', b', c', n', t3, a3, b3, c3, n3, L5, H5, RmS_P FT.1 FT.2.1 (RmS_T R4)⟩, z5, ⟨_, WaR_T FT (WaR_S F3 F4 W3), k3⟩, S.frG GB, TB.fr GB, fun p hp => Nat.lt_succ_of_le (St4.2.2.1 p hp)⟩, GB⟩
  unfold b_X9_go_149
  dsimp only
  have c1 : ¬ nI last < nI num := fun q => by have := (nI_lt' (by omega) (by omega)).mp q; omega
  have c2 : ¬ nI lh.length ≤ 0 := fun q => by have := (nI_leI (b := 0) (by omega) (by omega)).mp q; omega
  rw [F.1.2.1, H1.1, if_neg (by rw [if_neg c1, if_neg c2]; exact Bool.false_ne_true), k1, oB_some, j1, oB_some, oLet_eq, eT]
  rw [m1, show nI num + 1 = nI (num + 1) from nI_1 num]
