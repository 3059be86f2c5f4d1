/-! go, in the words of cuts -/
noncomputable def accB (L hh : Nat) (t : Nat → Nat → Nat) : Bool := @decide (AccR L t hh) (Classical.propDecidable _)
theorem accB_iff {L hh : Nat} {t : Nat → Nat → Nat} : accB L hh t = true ↔ AccR L t hh := by
  unfold accB
  exact @decide_eq_true_iff _ (Classical.propDecidable _)
theorem b2i_t {b : Bool} (h : b = true) : b2i b = 1 := by rw [h]; rfl
theorem b2i_f {b : Bool} (h : ¬ b = true) : b2i b = 0 := by rw [Bool.eq_false_iff.mpr h]; rfl
/-- what the sweep needs between two calls -/
def ClI (σ : rS) : Prop := SwI σ ∧ TabS σ ∧ (∀ g, g < 21 → rI σ 1 g = gr g) ∧ ∃ bw : Bool, rI σ 37 18 = if bw then 1 else 0
theorem ClI_go {σ τ : rS} {L hh md : Nat} {bw : Bool} {lo hi : Nat → Nat} {tb : Nat → Int32} {lh : List (Nat × Int64 × Int64)} (I : ClI σ) (G : GoI τ L hh md bw lo hi tb lh) (F : FrO σ τ) : ClI τ := by
  obtain ⟨-, T, g, b⟩ := I
  have q : ∀ x j, x < 50 → x ≠ 37 → rI τ x j = rI σ x j := fun x j h1 h2 => F.2.2.1 x j (by omega) (Or.inl h1) (fun e => absurd e h2)
  refine ⟨G.swI, fun L hL => ?_, fun k hk => (q 1 k (by decide) (by decide)).trans (g k hk), ?_⟩
  · obtain ⟨t1, t2, t3, t4⟩ := T L hL
    have hs : (if L = 4 then 43 else 38 : Nat) = 43 ∨ (if L = 4 then 43 else 38 : Nat) = 38 := by split <;> simp
    exact ⟨fun x hx => (q _ x (by omega) (by omega)).trans (t1 x hx), fun x hx => (q _ x (by omega) (by omega)).trans (t2 x hx), fun x hx => (q _ x (by omega) (by omega)).trans (t3 x hx), fun x hx => (q _ x (by omega) (by omega)).trans (t4 x hx)⟩
  · obtain ⟨bw, hb⟩ := b
    exact ⟨bw, (F.2.2.1 37 18 (by decide) (Or.inl (by decide)) (fun _ => by decide)).trans hb⟩
/-- the first values of the layer -/
theorem GoI_read {σ : rS} {L hh md : Nat} {bw : Bool} {lo hi : Nat → Nat} {tb : Nat → Int32} {lh : List (Nat × Int64 × Int64)} (G : GoI σ L hh md bw lo hi tb lh) : inB 0 ((rK σ (rR σ (rR σ 37 5) 0)).2) ∧ ∀ p l, lh = p :: l → rL σ (rR σ (rR σ 37 5) 1) 0 = p.2.1 ∧ rL σ (rR σ (rR σ 37 5) 2) 0 = p.2.2 := by
  obtain ⟨⟨t, a, b, c, n, h, a', b', c', n', F, H1, R⟩, -⟩ := G
  obtain ⟨⟨f1, f2, f3⟩, ⟨f4, f5, f6⟩, ⟨f4', f5', f6'⟩, ⟨f7, f8, f9⟩, ⟨f7', f8', f9'⟩, ⟨n1, n2, n1', n2'⟩, -⟩ := F
  rw [f2, f4', f5', f6', f7']
  refine ⟨inB_nI (k := 0) (by omega) (by omega), fun p l e => ?_⟩
  have := H1.2.2 0 p (by rw [e]; rfl)
  exact ⟨this.2.1, this.2.2⟩
/-- the rows that the sweep is told, alike -/
def LoS (σ : rS) (lo hi : Nat → Nat) : Prop := (∀ k, k < 52 → rI σ 48 k = nI (lo k)) ∧ (∀ k, k < 52 → rI σ 49 k = nI (hi k)) ∧ LhC lo hi
/-- the rules, as the class has them -/
def RuS (σ : rS) (L hh : Nat) : Prop := rI σ 4 1 = nI L ∧ rI σ 4 0 = nI hh ∧ hh ≤ 13 ∧ (L = 3 ∨ L = 4)
theorem go_of {σ : rS} {L hh md : Nat} {lo hi : Nat → Nat} (I : ClI σ) (R : RuS σ L hh) (S : LoS σ lo hi) {bw : Bool} (hbw : rI σ 37 18 = if bw then 1 else 0) (hmd : md = 0 ∨ md = 1 ∨ md = 3 ∨ md = 4 ∨ (md = 2 ∧ hi = lo)) {last : Nat} (hl : last ≤ 20) : ∃ τ, f_X9_go σ (nI md) (nI last) = some (nI (itL L hh md bw lo hi (tbM L md) (v0W md) last).length, τ) ∧ GoI τ L hh md bw lo hi (tbM L md) (itL L hh md bw lo hi (tbM L md) (v0W md) last) ∧ FrO σ τ := by
  obtain ⟨i1, i2, i3, -⟩ := I
  obtain ⟨r1, r2, r3, r4⟩ := R
  obtain ⟨s1, s2, s3⟩ := S
  refine go_eq i1 i2 r4 r1 r2 r3 (by omega) hbw s1 s2 s3 i3 (by omega) (fun m hm => ?_)
  rcases hmd with rfl | rfl | rfl | rfl | ⟨rfl, rfl⟩
  · exact itL_len r4 (by omega) m
  · exact itL_len r4 (by omega) m
  · exact itL_len r4 (by omega) m
  · exact itL_len r4 (by omega) m
  · exact itL_len2 r4 (fun k => (s3 k).1) (by omega)
theorem go_whole {σ : rS} {L hh : Nat} {lo : Nat → Nat} (I : ClI σ) (R : RuS σ L hh) (S : LoS σ lo lo) : ∃ τ, f_X9_go σ 1 (nI hh + 1) = some (b2i (accB L hh (tN lo xZ)), τ) ∧ ClI τ ∧ FrO σ τ := by
  obtain ⟨bw, hbw⟩ := I.2.2.2
  obtain ⟨τ, h1, h2, h3⟩ := go_of (md := 1) I R S hbw (by omega) (last := hh + 1) (by have := R.2.2.1; omega)
  refine ⟨τ, ?_, ClI_go I h2 h3, h3⟩
  rw [show nI hh + 1 = nI (hh + 1) from nI_1 hh, show (1 : Int32) = nI 1 from rfl, h1]
  rcases itL_whole (bw := bw) (fun k => (S.2.2 k).1) R.2.2.2 R.2.2.1 with ⟨e, ha⟩ | ⟨e, ha⟩
  · rw [e, b2i_f (fun q => ha (accB_iff.mp q))]; rfl
  · rw [e, b2i_t (accB_iff.mpr ha)]; rfl
theorem go_states {σ : rS} {L hh n : Nat} {lo : Nat → Nat} (I : ClI σ) (R : RuS σ L hh) (S : LoS σ lo lo) (hn : n ≤ hh) : ∃ τ bw, f_X9_go σ 0 (nI n) = some (nI (itL L hh 0 bw lo lo (tbM L 0) (v0W 0) n).length, τ) ∧ ClI τ ∧ FrO σ τ := by
  obtain ⟨bw, hbw⟩ := I.2.2.2
  obtain ⟨τ, h1, h2, h3⟩ := go_of (md := 0) I R S hbw (by omega) (last := n) (by have := R.2.2.1; omega)
  exact ⟨τ, bw, h1, ClI_go I h2 h3, h3⟩
theorem go_count {σ : rS} {L hh : Nat} {lo : Nat → Nat} (I : ClI σ) (R : RuS σ L hh) (S : LoS σ lo lo) : ∃ τ, f_X9_go σ 2 (nI hh + 1) = some (b2i (cntR L hh lo).isSome, τ) ∧ ClI τ ∧ FrO σ τ ∧ inB 0 ((rK τ (rR τ (rR τ 37 5) 0)).2) ∧ ∀ v, cntR L hh lo = some v → rL τ (rR τ (rR τ 37 5) 1) 0 = lN v.1 ∧ rL τ (rR τ (rR τ 37 5) 2) 0 = lN (two32 v.2.1 v.2.2) ∧ bdN hh v := by
  obtain ⟨bw, hbw⟩ := I.2.2.2
  obtain ⟨τ, h1, h2, h3⟩ := go_of (md := 2) I R S hbw (by simp) (last := hh + 1) (by have := R.2.2.1; omega)
  have hr := GoI_read h2
  refine ⟨τ, ?_, ClI_go I h2 h3, h3, hr.1, fun v hv => ?_⟩
  · rw [show nI hh + 1 = nI (hh + 1) from nI_1 hh, show (2 : Int32) = nI 2 from rfl, h1]
    rcases itL_count (bw := bw) R.2.2.2 (fun k => (S.2.2 k).1) R.2.2.1 with ⟨e, ha⟩ | ⟨v, e, ha, -⟩
    · rw [e, ha]; rfl
    · rw [e, ha]; rfl
  · rcases itL_count (bw := bw) R.2.2.2 (fun k => (S.2.2 k).1) R.2.2.1 with ⟨e, ha⟩ | ⟨v', e, ha, hb⟩
    · rw [hv] at ha; exact absurd ha (by simp)
    · rw [hv] at ha
      cases ha
      obtain ⟨q1, q2⟩ := hr.2 _ _ e
      exact ⟨q1, q2, hb⟩
theorem go_extra {σ : rS} {L hh : Nat} {lo : Nat → Nat} (I : ClI σ) (R : RuS σ L hh) (S : LoS σ lo lo) : ∃ τ n v, f_X9_go σ 3 (nI hh + 1) = some (nI n, τ) ∧ n ≤ 1 ∧ ClI τ ∧ FrO σ τ ∧ inB 0 ((rK τ (rR τ (rR τ 37 5) 0)).2) ∧ (if n = 0 then 0 else rL τ (rR τ (rR τ 37 5) 1) 0) = v ∧ ∀ kk, kk < 52 → (hb v kk ↔ kk % 13 < hh ∧ lo kk ≤ 1 ∧ AccR L (tN lo (unX kk)) hh) := by
  obtain ⟨bw, hbw⟩ := I.2.2.2
  obtain ⟨τ, h1, h2, h3⟩ := go_of (md := 3) I R S hbw (by omega) (last := hh + 1) (by have := R.2.2.1; omega)
  have hr := GoI_read h2
  obtain ⟨e1, e2⟩ := itL_extra (bw := bw) S.2.2 R.2.2.2 R.2.2.1
  refine ⟨τ, _, _, by rw [show nI hh + 1 = nI (hh + 1) from nI_1 hh, show (3 : Int32) = nI 3 from rfl, h1], e1, ClI_go I h2 h3, h3, hr.1, rfl, fun kk hk => ?_⟩
  rw [← e2 kk hk]
  have hr2 := hr.2
  cases hl : itL L hh 3 bw lo lo (tbM L 3) (v0W 3) (hh + 1) with
  | nil => rfl
  | cons p l =>
    rw [if_neg (by simp), (hr2 _ _ hl).1]
    rfl
theorem go_plan {σ : rS} {L hh : Nat} {lo hi : Nat → Nat} {bw : Bool} (I : ClI σ) (R : RuS σ L hh) (S : LoS σ lo hi) (hbw : rI σ 37 18 = if bw then 1 else 0) (hs : ∀ y n, bdC 4 lo hi hh y n → n ≤ 13 → xsum y n ≤ 24) : ∃ (τ : rS) (b : Bool), f_X9_go σ 4 (nI hh + 1) = some (b2i b, τ) ∧ ClI τ ∧ FrO σ τ ∧ inB 0 ((rK τ (rR τ (rR τ 37 5) 0)).2) ∧ ((b = false ∧ ∀ x, bdC 4 lo hi hh x hh → ¬ AccR L (tN lo x) hh) ∨ (b = true ∧ ∃ x, bdC 4 lo hi hh x (hh + 1) ∧ AccR L (tN lo x) hh ∧ rL τ (rR τ (rR τ 37 5) 1) 0 = lN (f1C bw x (hh + 1)) ∧ rL τ (rR τ (rR τ 37 5) 2) 0 = lN (f2C x (hh + 1)) ∧ ∀ y, bdC 4 lo hi hh y hh → AccR L (tN lo y) hh → leP (enC bw (cutX hh y) (hh + 1)) (enC bw x (hh + 1)))) := by
  obtain ⟨τ, h1, h2, h3⟩ := go_of (md := 4) I R S hbw (by omega) (last := hh + 1) (by have := R.2.2.1; omega)
  have hr := GoI_read h2
  rcases itL_plan (bw := bw) S.2.2 R.2.2.2 hs R.2.2.1 with ⟨e, ha⟩ | ⟨x, e, hx, ha, hle⟩
  · refine ⟨τ, false, ?_, ClI_go I h2 h3, h3, hr.1, Or.inl ⟨rfl, ha⟩⟩
    rw [show nI hh + 1 = nI (hh + 1) from nI_1 hh, show (4 : Int32) = nI 4 from rfl, h1, e]
    rfl
  · obtain ⟨q1, q2⟩ := hr.2 _ _ e
    refine ⟨τ, true, ?_, ClI_go I h2 h3, h3, hr.1, Or.inr ⟨rfl, x, hx, ha, q1, q2, hle⟩⟩
    rw [show nI hh + 1 = nI (hh + 1) from nI_1 hh, show (4 : Int32) = nI 4 from rfl, h1, e]
    rfl
