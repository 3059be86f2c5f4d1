/-! the plan: both sides choose the same tiles -/
theorem plLo_le (B : Bd) (m : Mem) (p k : Nat) : plLo B m p k ≤ tjB B k := by
  unfold plLo
  split
  · exact Nat.zero_le _
  · exact Nat.le_refl _
theorem plS_le {B : Bd} (o : OkT B) (m : Mem) (p k : Nat) : plLo B m p k + plEx B p k ≤ 2 := by
  have h1 := plLo_le B m p k
  have h2 := tjB_le o k
  unfold plEx
  split
  · omega
  · omega
theorem plEx_2 (B : Bd) (p k : Nat) : plEx B p k ≤ 2 := by
  unfold plEx
  split
  · omega
  · omega
theorem plEx_ct {B : Bd} (o : OkB B) {p : Nat} (hp : p < 4) : ctK (plEx B p) ≤ 24 := by
  have h1 : ctK (plEx B p) ≤ natSum (fun k => bR B (53 * p + k)) 52 := natSum_mono fun k hk => by
    unfold plEx
    rw [if_pos hk]
    exact Nat.min_le_right _ _
  have h2 : natSum (fun k => bR B (53 * p + k)) 52 ≤ rsz (bR B) p := by
    unfold rsz
    rw [natSum_s (fun k => bR B (53 * p + k)) 52]
    exact Nat.le_add_right _ _
  have h3 := o.2.1 p hp
  omega
def plHi (B : Bd) (m : Mem) (p : Nat) : Nat → Nat := fun k => plLo B m p k + plEx B p k
theorem pl_Lh {B : Bd} (o : OkT B) (m : Mem) (p : Nat) : LhC (plLo B m p) (plHi B m p) := fun k => ⟨by have := plS_le o m p k; omega, plS_le o m p k, Nat.le_add_right _ _⟩
theorem pl_mo {B : Bd} {m : Mem} {p hh a c : Nat} : moC 4 (plLo B m p) (plHi B m p) hh a c - loC (plLo B m p) hh a c = if a < hh then plEx B p (13 * c + a) else 0 := by
  by_cases h : a < hh
  · rw [moC_lt h, loC_lt h, if_neg (by decide), if_pos h]
    unfold plHi
    omega
  · rw [moC_ge (by omega), loC_ge (by omega), if_neg h]
theorem natSum_n {f : Nat → Nat} {a b : Nat} (h : a ≤ b) : natSum f a ≤ natSum f b := by
  have e := natSum_app f a (b - a)
  rw [Nat.add_sub_cancel' h] at e
  omega
theorem pl_xs {B : Bd} (o : OkB B) {m : Mem} {p hh : Nat} (hp : p < 4) : ∀ y n, bdC 4 (plLo B m p) (plHi B m p) hh y n → n ≤ 13 → xsum y n ≤ 24 := fun y n h hn => by
  have b : ∀ a, a < n → ∀ c, c < 4 → y a c ≤ plEx B p (13 * c + a) := fun a ha c hc => by
    have := h a ha c hc
    rw [pl_mo] at this
    split at this <;> omega
  have h1 : xsum y n ≤ natSum (fun a => plEx B p (13 * 0 + a) + plEx B p (13 * 1 + a) + plEx B p (13 * 2 + a) + plEx B p (13 * 3 + a)) n := natSum_mono fun a ha => by
    have b0 := b a ha 0 (by decide)
    have b1 := b a ha 1 (by decide)
    have b2 := b a ha 2 (by decide)
    have b3 := b a ha 3 (by decide)
    omega
  have h2 := natSum_n (f := fun a => plEx B p (13 * 0 + a) + plEx B p (13 * 1 + a) + plEx B p (13 * 2 + a) + plEx B p (13 * 3 + a)) hn
  rw [sum52 (plEx B p)] at h2
  have h3 : natSum (plEx B p) 52 ≤ 24 := plEx_ct o hp
  omega
theorem fC_cut (bw : Bool) {x : Nat → Nat → Nat} {hh : Nat} (h13 : hh ≤ 13) (h0 : ∀ c, c < 4 → x hh c = 0) : f1C bw x (hh + 1) = SW (fw1 bw) (kv (cutX hh x)) ∧ f2C x (hh + 1) = SW fw2 (kv (cutX hh x)) := by
  have z : ∀ a, hh ≤ a → x1C bw (cutX hh x) a = 0 ∧ x2C (cutX hh x) a = 0 := fun a ha => by
    unfold x1C x2C
    rw [cutX_ge ha, cutX_ge ha, cutX_ge ha, cutX_ge ha]
    simp only [Nat.zero_mul]
    exact ⟨trivial, trivial⟩
  have c : ∀ a, a < hh + 1 → ∀ c, c < 4 → x a c = cutX hh x a c := fun a ha c hc => by
    by_cases e : a < hh
    · rw [cutX_lt e]
    · rw [cutX_ge (by omega), show a = hh by omega, h0 c hc]
  have e1 : natSum (x1C bw x) (hh + 1) = natSum (x1C bw (cutX hh x)) (hh + 1) := natSum_congr fun a ha => (x1C_congr (bw := bw) (c a ha)).1
  have e2 : natSum (x2C x) (hh + 1) = natSum (x2C (cutX hh x)) (hh + 1) := natSum_congr fun a ha => (x1C_congr (bw := bw) (c a ha)).2
  rw [← (f1C_kv bw (cutX hh x)).1, ← (f1C_kv bw (cutX hh x)).2]
  unfold f1C f2C
  rw [e1, e2, natSum_ext0 (f := x1C bw (cutX hh x)) (a := hh) (b := hh + 1) (by omega) fun a ha _ => (z a ha).1, natSum_ext0 (f := x2C (cutX hh x)) (a := hh) (b := hh + 1) (by omega) fun a ha _ => (z a ha).2, natSum_ext0 (f := x1C bw (cutX hh x)) (a := hh) (b := 13) h13 fun a ha _ => (z a ha).1, natSum_ext0 (f := x2C (cutX hh x)) (a := hh) (b := 13) h13 fun a ha _ => (z a ha).2]
  exact ⟨rfl, rfl⟩
theorem eR_cut (bw : Bool) (x : Nat → Nat → Nat) {hh : Nat} (h13 : hh ≤ 13) : e1R bw x hh = SW (fun k => w1M bw (k % 13)) (kv (cutX hh x)) ∧ e2R x hh = SW w2M (kv (cutX hh x)) ∧ e3R x hh = SW w3M (kv (cutX hh x)) := by
  have z : ∀ a, hh ≤ a → x1R bw (cutX hh x) a = 0 ∧ x2R (cutX hh x) a = 0 ∧ x3R (cutX hh x) a = 0 := fun a ha => by
    unfold x1R x2R x3R
    rw [cutX_ge ha, cutX_ge ha, cutX_ge ha, cutX_ge ha]
    simp only [Nat.zero_mul]
    exact ⟨trivial, trivial, trivial⟩
  obtain ⟨k1, k2, k3⟩ := eR_kv bw (cutX hh x)
  rw [← k1, ← k2, ← k3]
  unfold e1R e2R e3R
  rw [natSum_ext0 (f := x1R bw (cutX hh x)) (a := hh) (b := 13) h13 fun a ha _ => (z a ha).1, natSum_ext0 (f := x2R (cutX hh x)) (a := hh) (b := 13) h13 fun a ha _ => (z a ha).2.1, natSum_ext0 (f := x3R (cutX hh x)) (a := hh) (b := 13) h13 fun a ha _ => (z a ha).2.2]
  refine ⟨natSum_congr fun a ha => ?_, natSum_congr fun a ha => ?_, natSum_congr fun a ha => ?_⟩
  · unfold x1R; rw [cutX_lt ha, cutX_lt ha, cutX_lt ha, cutX_lt ha]
  · unfold x2R; rw [cutX_lt ha, cutX_lt ha, cutX_lt ha, cutX_lt ha]
  · unfold x3R; rw [cutX_lt ha, cutX_lt ha, cutX_lt ha, cutX_lt ha]
theorem f_lt {bw : Bool} {f : Nat → Nat} (hf : ∀ k, k < 52 → f k ≤ 2) (cf : ctK f ≤ 24) : SW (fw1 bw) f < 2 ^ 62 ∧ SW fw2 f < 2 ^ 62 := by
  have wf := wt_le f
  have l1 : HN 4 f 24 < 4 ^ 24 := HN_lt fun j hj => by have := hf j (by omega); omega
  have l2 : HN 4 (fun i => f (24 + i)) 28 < 4 ^ 28 := HN_lt fun j hj => by have := hf (24 + j) (by omega); omega
  rw [fw1_sum, fw2_sum, (rk_sum bw f).1]
  cases bw
  · simp only [Bool.false_eq_true, if_false]
    omega
  · simp only [if_true]
    omega
/-- what is planned -/
theorem plF_some {B : Bd} {m : Mem} {hh L p : Nat} (hL : L = 3 ∨ L = 4) (h13 : hh ≤ 13) {v : V3} (h : rsM true (plW m p) L hh (plLo B m p) (plEx B p) = some v) : ∃ x : Nat → Nat → Nat, plF B m hh L p = some (kv (cutX hh x)) ∧ (∀ a, a < hh → ∀ c, c < 4 → x a c ≤ plEx B p (13 * c + a)) ∧ AccR L (tN (plLo B m p) x) hh ∧ v = enR (plW m p) x hh := by
  have e := Classical.epsilon_spec (rs_plan_in hL h)
  exact ⟨_, by unfold plF; rw [h], e.1, e.2.1, e.2.2⟩
theorem plF_none {B : Bd} {m : Mem} {hh L p : Nat} (h : rsM true (plW m p) L hh (plLo B m p) (plEx B p) = none) : plF B m hh L p = none := by
  unfold plF
  rw [h]
theorem kv_le {B : Bd} {p hh : Nat} {x : Nat → Nat → Nat} (h13 : hh ≤ 13) (hx : ∀ a, a < hh → ∀ c, c < 4 → x a c ≤ plEx B p (13 * c + a)) {k : Nat} (hk : k < 52) : kv (cutX hh x) k ≤ plEx B p k ∧ (hh ≤ k % 13 → kv (cutX hh x) k = 0) := by
  unfold kv
  by_cases c : k % 13 < hh
  · rw [cutX_lt c]
    have := hx (k % 13) c (k / 13) (by omega)
    rw [show 13 * (k / 13) + k % 13 = k by omega] at this
    exact ⟨this, fun z => by omega⟩
  · rw [cutX_ge (by omega)]
    exact ⟨Nat.zero_le _, fun _ => rfl⟩
/-- what a plan is -/
def PlK (B : Bd) (hh p : Nat) (g : Nat → Nat) : Prop := (∀ k, k < 52 → g k ≤ plEx B p k ∧ (hh ≤ k % 13 → g k = 0)) ∧ ctK g ≤ 24
theorem plF_ok {B : Bd} {m : Mem} {hh L p : Nat} (o : OkB B) (hp : p < 4) (hL : L = 3 ∨ L = 4) (h13 : hh ≤ 13) {g : Nat → Nat} (h : plF B m hh L p = some g) : PlK B hh p g ∧ rsM true (plW m p) L hh (plLo B m p) (plEx B p) = some (lN (SW (fun k => w1M (plW m p) (k % 13)) g), lN (SW w2M g), lN (SW w3M g)) := by
  cases hr : rsM true (plW m p) L hh (plLo B m p) (plEx B p) with
  | none => rw [plF_none hr] at h; cases h
  | some v =>
    obtain ⟨x, e1, e2, e3, e4⟩ := plF_some hL h13 hr
    rw [e1] at h
    cases h
    obtain ⟨k1, k2, k3⟩ := eR_cut (plW m p) x h13
    refine ⟨⟨fun k hk => kv_le h13 e2 hk, ?_⟩, ?_⟩
    · have h1 : ctK (kv (cutX hh x)) ≤ ctK (plEx B p) := natSum_mono fun k hk => (kv_le h13 e2 hk).1
      have := plEx_ct o hp
      omega
    · rw [e4]
      unfold enR
      rw [k1, k2, k3]
theorem plan_cls {B : Bd} {m : Mem} {hh L p : Nat} (o : OkT B) (hp : p < 4) (hL : L = 3 ∨ L = 4) (h13 : hh ≤ 13) {x : Nat → Nat → Nat} (hx : bdC 4 (plLo B m p) (plHi B m p) hh x (hh + 1)) (ha : AccR L (tN (plLo B m p) x) hh) (hm : ∀ y, bdC 4 (plLo B m p) (plHi B m p) hh y hh → AccR L (tN (plLo B m p) y) hh → leP (enC (plW m p) (cutX hh y) (hh + 1)) (enC (plW m p) x (hh + 1))) : ∃ g, plF B m hh L p = some g ∧ f1C (plW m p) x (hh + 1) = SW (fw1 (plW m p)) g ∧ f2C x (hh + 1) = SW fw2 g := by
  have x0 : ∀ c, c < 4 → x hh c = 0 := fun c hc => by
    have := hx hh (by omega) c hc
    rw [pl_mo, if_neg (by omega)] at this
    omega
  have xl : ∀ a, a < hh → ∀ c, c < 4 → x a c ≤ plEx B p (13 * c + a) := fun a h c hc => by
    have := hx a (by omega) c hc
    rw [pl_mo, if_pos h] at this
    exact this
  obtain ⟨v, hv, hle⟩ := rs_plan_ge (bw := plW m p) hL (fun k => plEx_2 B p k) h13 xl ha
  obtain ⟨y, e1, e2, e3, e4⟩ := plF_some hL h13 hv
  have hy : bdC 4 (plLo B m p) (plHi B m p) hh y hh := fun a h c hc => by
    rw [pl_mo, if_pos h]
    exact e2 a h c hc
  have hmx := hm y hy e3
  have cl : ∀ (z : Nat → Nat → Nat), (∀ a, a < hh → ∀ c, c < 4 → z a c ≤ plEx B p (13 * c + a)) → (∀ k, k < 52 → kv (cutX hh z) k ≤ 2) ∧ ctK (kv (cutX hh z)) ≤ 24 := fun z hz => by
    refine ⟨fun k hk => Nat.le_trans (kv_le h13 hz hk).1 (plEx_2 B p k), ?_⟩
    have h1 : ctK (kv (cutX hh z)) ≤ ctK (plEx B p) := natSum_mono fun k hk => (kv_le h13 hz hk).1
    have := plEx_ct o.1 hp
    omega
  obtain ⟨x2, xc⟩ := cl x xl
  obtain ⟨y2, yc⟩ := cl y e2
  obtain ⟨fx1, fx2⟩ := fC_cut (plW m p) h13 x0
  have cc : cutX hh (cutX hh y) = cutX hh y := by
    funext a c
    unfold cutX
    split <;> rfl
  obtain ⟨fy1, fy2⟩ := fC_cut (x := cutX hh y) (plW m p) h13 (fun c _ => cutX_ge (Nat.le_refl _))
  rw [cc] at fy1 fy2
  have bx := f_lt (bw := plW m p) x2 xc
  have by' := f_lt (bw := plW m p) y2 yc
  unfold leP enC at hmx
  rw [fx1, fx2, fy1, fy2] at hmx
  dsimp only at hmx
  rw [lN_toInt' (by omega), lN_toInt' (by omega), lN_toInt' (by omega), lN_toInt' (by omega)] at hmx
  have x2' : ∀ a, a < hh → ∀ c, c < 4 → x a c ≤ 2 := fun a h c hc => Nat.le_trans (xl a h c hc) (plEx_2 B p _)
  have y2' : ∀ a, a < hh → ∀ c, c < 4 → y a c ≤ 2 := fun a h c hc => Nat.le_trans (e2 a h c hc) (plEx_2 B p _)
  obtain ⟨rx1, rx2, rx3⟩ := eR_lt (bw := plW m p) h13 x2'
  obtain ⟨ry1, ry2, ry3⟩ := eR_lt (bw := plW m p) h13 y2'
  rw [e4] at hle
  unfold leL enR at hle
  dsimp only at hle
  rw [lN_toInt' (by omega), lN_toInt' (by omega), lN_toInt' (by omega), lN_toInt' (by omega), lN_toInt' (by omega), lN_toInt' (by omega)] at hle
  obtain ⟨k1, k2, k3⟩ := eR_cut (plW m p) x h13
  obtain ⟨j1, j2, j3⟩ := eR_cut (plW m p) y h13
  rw [k1, k2, k3, j1, j2, j3] at hle
  have same := same_plan (bw := plW m p) x2 y2 xc yc (by omega) (by omega)
  refine ⟨_, e1, ?_, ?_⟩
  · rw [fx1]
    exact natSum_congr fun k hk => by rw [same k hk]
  · rw [fx2]
    exact natSum_congr fun k hk => by rw [same k hk]
