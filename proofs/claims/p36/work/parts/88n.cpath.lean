/-! the class's lists: ways, and their values (whole, states, plans) -/
theorem itL_0 (L hh md : Nat) (bw : Bool) (lo hi : Nat → Nat) (tb : Nat → Int32) (v0 : Int64) : itL L hh md bw lo hi tb v0 0 = [(0, v0, 0)] := rfl
theorem itL_mrg (L hh md : Nat) (bw : Bool) (lo hi : Nat → Nat) (tb : Nat → Int32) (v0 : Int64) (n : Nat) : itL L hh md bw lo hi tb v0 (n + 1) = mrg (mgL md) [] ((itL L hh md bw lo hi tb v0 n).flatMap (ctW md tb (opW md L lo hi hh (n + 1)) (suW L lo hh (n + 1)) (gwL md bw (n + 1) (lo4 lo hh (n + 1)) (xs4 md lo hi hh (n + 1))))) := by
  rw [itL_s]
  unfold stepL
  exact numb_mrg _ _ _ _ _ _ _
theorem itL_nd (L hh md : Nat) (bw : Bool) (lo hi : Nat → Nat) (tb : Nat → Int32) (v0 : Int64) (n : Nat) : nd (itL L hh md bw lo hi tb v0 n) := by
  cases n with
  | zero => rw [itL_0]; exact List.nodup_cons.mpr ⟨by simp, List.nodup_nil⟩
  | succ n => rw [itL_mrg]; exact mrg_nd _ List.nodup_nil
/-- tiles of the class, by number and colour; the most there may be -/
def loC (lo : Nat → Nat) (hh m c : Nat) : Nat := sLo lo hh c (m + 1)
def moC (md : Nat) (lo hi : Nat → Nat) (hh m c : Nat) : Nat := sMo md lo hi hh c (m + 1)
def tC (lo : Nat → Nat) (hh : Nat) (x : Nat → Nat → Nat) (m c : Nat) : Nat := loC lo hh m c + x m c
theorem loC_lt {lo : Nat → Nat} {hh m c : Nat} (h : m < hh) : loC lo hh m c = lo (13 * c + m) := by
  unfold loC sLo sKd
  rw [if_pos ⟨by omega, by omega⟩]
  rfl
theorem loC_ge {lo : Nat → Nat} {hh m c : Nat} (h : hh ≤ m) : loC lo hh m c = 0 := by
  unfold loC sLo sKd
  rw [if_neg (by omega)]
theorem moC_lt {md : Nat} {lo hi : Nat → Nat} {hh m c : Nat} (h : m < hh) : moC md lo hi hh m c = if md = 3 then min 2 (lo (13 * c + m) + 1) else hi (13 * c + m) := by
  unfold moC sMo sKd
  rw [if_pos ⟨by omega, by omega⟩]
  rfl
theorem moC_ge {md : Nat} {lo hi : Nat → Nat} {hh m c : Nat} (h : hh ≤ m) : moC md lo hi hh m c = 0 := by
  unfold moC sMo sKd
  rw [if_neg (by omega)]
theorem at_lo4 (lo : Nat → Nat) (hh n c : Nat) (hc : c < 4) : at4 (lo4 lo hh (n + 1)) c = loC lo hh n c := by
  revert c
  exact c4 rfl rfl rfl rfl
theorem at_xs4 (md : Nat) (lo hi : Nat → Nat) (hh n c : Nat) (hc : c < 4) : at4 (xs4 md lo hi hh (n + 1)) c = moC md lo hi hh n c - loC lo hh n c := by
  revert c
  exact c4 rfl rfl rfl rfl
/-- what is told: no more than two of a kind -/
def LhC (lo hi : Nat → Nat) : Prop := ∀ k, lo k ≤ 2 ∧ hi k ≤ 2 ∧ lo k ≤ hi k
theorem lm_le {md : Nat} {lo hi : Nat → Nat} (H : LhC lo hi) (hh m c : Nat) : loC lo hh m c ≤ moC md lo hi hh m c ∧ moC md lo hi hh m c ≤ 2 := by
  by_cases h : m < hh
  · rw [loC_lt h, moC_lt h]
    have := H (13 * c + m)
    split <;> omega
  · rw [loC_ge (by omega), moC_ge (by omega)]
    omega
/-- tiles besides, no more than there may be -/
def bdC (md : Nat) (lo hi : Nat → Nat) (hh : Nat) (x : Nat → Nat → Nat) (n : Nat) : Prop := ∀ m, m < n → ∀ c, c < 4 → x m c ≤ moC md lo hi hh m c - loC lo hh m c
theorem tC_le {md : Nat} {lo hi : Nat → Nat} (H : LhC lo hi) {hh n : Nat} {x : Nat → Nat → Nat} (hx : bdC md lo hi hh x n) {m c : Nat} (hm : m < n) (hc : c < 4) : tC lo hh x m c ≤ moC md lo hi hh m c ∧ tC lo hh x m c ≤ 2 := by
  have h1 := hx m hm c hc
  have h2 := lm_le (md := md) H hh m c
  unfold tC
  omega
theorem le4_iff {t : V4} : le4 t ↔ ∀ c, c < 4 → at4 t c ≤ 2 := ⟨fun h c _ => at4_le h c, fun h => ⟨h 0 (by decide), h 1 (by decide), h 2 (by decide), h 3 (by decide)⟩⟩
theorem at_add4 (a b : V4) (c : Nat) (hc : c < 4) : at4 (add4 a b) c = at4 a c + at4 b c := by
  revert c
  exact c4 rfl rfl rfl rfl
theorem at_sub4 (a b : V4) (c : Nat) (hc : c < 4) : at4 (sub4 a b) c = at4 a c - at4 b c := by
  revert c
  exact c4 rfl rfl rfl rfl
theorem fit4_iff {t g : V4} : fit4 t g = true ↔ ∀ c, c < 4 → at4 g c ≤ at4 t c := by
  unfold fit4
  simp only [Bool.and_eq_true, decide_eq_true_eq]
  constructor
  · rintro ⟨⟨⟨a, b⟩, c⟩, d⟩
    exact c4 a b c d
  · intro h
    exact ⟨⟨⟨h 0 (by decide), h 1 (by decide)⟩, h 2 (by decide)⟩, h 3 (by decide)⟩
def mk4 (f : Nat → Nat) : V4 := (f 0, f 1, f 2, f 3)
theorem at_mk4 (f : Nat → Nat) (c : Nat) (hc : c < 4) : at4 (mk4 f) c = f c := by
  revert c
  exact c4 rfl rfl rfl rfl
theorem v4_ext {a b : V4} (h : ∀ c, c < 4 → at4 a c = at4 b c) : a = b := Prod.ext (h 0 (by decide)) (Prod.ext (h 1 (by decide)) (Prod.ext (h 2 (by decide)) (h 3 (by decide))))
/-- the order of pairs -/
def leP (a b : Int64 × Int64) : Prop := a.1.toInt < b.1.toInt ∨ (a.1.toInt = b.1.toInt ∧ a.2.toInt ≤ b.2.toInt)
theorem leP_rf (a : Int64 × Int64) : leP a a := by unfold leP; omega
theorem leP_tr {a b c : Int64 × Int64} (h : leP a b) (g : leP b c) : leP a c := by unfold leP at *; omega
theorem mx_le (x y : Int64 × Int64) : leP x (if 0 < lg_cmp y.1 x.1 ∨ (lg_cmp y.1 x.1 = 0 ∧ 0 < lg_cmp y.2 x.2) then y else x) ∧ leP y (if 0 < lg_cmp y.1 x.1 ∨ (lg_cmp y.1 x.1 = 0 ∧ 0 < lg_cmp y.2 x.2) then y else x) ∧ ((if 0 < lg_cmp y.1 x.1 ∨ (lg_cmp y.1 x.1 = 0 ∧ 0 < lg_cmp y.2 x.2) then y else x) = x ∨ (if 0 < lg_cmp y.1 x.1 ∨ (lg_cmp y.1 x.1 = 0 ∧ 0 < lg_cmp y.2 x.2) then y else x) = y) := by
  have h1 := lg_pos y.1 x.1
  have h2 := lg_pos y.2 x.2
  split
  · rename_i h
    rw [h1.1, h1.2, h2.1] at h
    exact ⟨by unfold leP; omega, leP_rf _, Or.inr rfl⟩
  · rename_i h
    rw [h1.1, h1.2, h2.1] at h
    exact ⟨leP_rf _, by unfold leP; omega, Or.inl rfl⟩
theorem mgW_le {md : Nat} (h : md ≠ 3) (x y : Int64 × Int64) : leP x (mgW md x y) ∧ leP y (mgW md x y) ∧ (mgW md x y = x ∨ mgW md x y = y) := by
  unfold mgW
  rw [if_neg h]
  exact mx_le x y
theorem mgL4_le (x y : Int64 × Int64) : leP x (mgL 4 x y) ∧ leP y (mgL 4 x y) ∧ (mgL 4 x y = x ∨ mgL 4 x y = y) := by
  unfold mgL
  rw [if_neg (by decide), if_neg (by decide), if_pos rfl]
  exact mx_le x y
/-- the ways of a number -/
def wyV (md : Nat) (bw : Bool) (n : Nat) (m : V4) (g : Nat) : Int64 × Int64 := (if md = 2 then (nI (setsG g)).toInt64 else gF md bw n m 4, gS md n m 4)
theorem gw_sound {md : Nat} {bw : Bool} {n : Nat} {lo x : V4} (h3 : md ≠ 3) : ∀ q ∈ gwL md bw n lo x, ∃ m : V4, (∀ c, c < 4 → at4 m c ≤ at4 x c) ∧ ∃ g, g < 21 ∧ fit4 (add4 lo m) (gd g) = true ∧ q.1 = cd4 (sub4 (add4 lo m) (gd g)) ∧ q.2 = wyV md bw n m g := by
  rw [gwL_mrg]
  refine mrg_sound (P := fun k v => ∃ m : V4, (∀ c, c < 4 → at4 m c ≤ at4 x c) ∧ ∃ g, g < 21 ∧ fit4 (add4 lo m) (gd g) = true ∧ k = cd4 (sub4 (add4 lo m) (gd g)) ∧ v = wyV md bw n m g) ?_ (fun p hp => absurd hp (by simp)) ?_
  · intro k v w hv hw
    rcases (mgW_le h3 v w).2.2 with e | e <;> rw [e]
    · exact hv
    · exact hw
  · intro p hp
    obtain ⟨m, ⟨a0, a1, a2, a3⟩, -, g, hg, hf, rfl⟩ := wyC_mem.mp hp
    exact ⟨m, c4 a0 a1 a2 a3, g, hg, hf, rfl, rfl⟩
theorem gw_compl {md : Nat} {bw : Bool} {n : Nat} {lo x : V4} (h3 : md ≠ 3) {m : V4} (hm : ∀ c, c < 4 → at4 m c ≤ at4 x c) {g : Nat} (hg : g < 21) (hf : fit4 (add4 lo m) (gd g) = true) : ∃ w, (cd4 (sub4 (add4 lo m) (gd g)), w) ∈ gwL md bw n lo x ∧ leP (wyV md bw n m g) w := by
  rw [gwL_mrg]
  exact mrg_new (Q := fun _ v => leP (wyV md bw n m g) v) (fun _ v w h => leP_tr h (mgW_le h3 v w).1) (fun _ v w h => leP_tr h (mgW_le h3 v w).2.1) (wyC_mem.mpr ⟨m, ⟨hm 0 (by decide), hm 1 (by decide), hm 2 (by decide), hm 3 (by decide)⟩, fun q => h3 q.1, g, hg, hf, rfl⟩) (leP_rf _)
/-- what tiles besides are worth in the class -/
def fw1 (bw : Bool) (k : Nat) : Nat := (if bw then 32 * (k % 13 + 1) + 1 else 512 + (k % 13 + 1)) * 2 ^ 48 + (if k < 24 then 4 ^ (23 - k) else 0)
def fw2 (k : Nat) : Nat := if k < 24 then 0 else 4 ^ (51 - k)
theorem fWt_eq0 : ((List.range 52).all fun k => fWt true (nI k) == lN (fw1 true k) && fWt false (nI k) == lN (fw1 false k) && sWt (nI k) == lN (fw2 k)) = true := by decide +kernel
theorem fWt_eq {k : Nat} (hk : k < 52) (bw : Bool) : fWt bw (nI k) = lN (fw1 bw k) ∧ sWt (nI k) = lN (fw2 k) := by
  have h := List.all_eq_true.mp fWt_eq0 k (List.mem_range.mpr hk)
  simp only [Bool.and_eq_true, beq_iff_eq] at h
  cases bw
  · exact ⟨h.1.2, h.2⟩
  · exact ⟨h.1.1, h.2⟩
def x1C (bw : Bool) (x : Nat → Nat → Nat) (m : Nat) : Nat := x m 0 * fw1 bw (13 * 0 + m) + x m 1 * fw1 bw (13 * 1 + m) + x m 2 * fw1 bw (13 * 2 + m) + x m 3 * fw1 bw (13 * 3 + m)
def x2C (x : Nat → Nat → Nat) (m : Nat) : Nat := x m 0 * fw2 (13 * 0 + m) + x m 1 * fw2 (13 * 1 + m) + x m 2 * fw2 (13 * 2 + m) + x m 3 * fw2 (13 * 3 + m)
def f1C (bw : Bool) (x : Nat → Nat → Nat) (n : Nat) : Nat := natSum (x1C bw x) n
def f2C (x : Nat → Nat → Nat) (n : Nat) : Nat := natSum (x2C x) n
def enC (bw : Bool) (x : Nat → Nat → Nat) (n : Nat) : Int64 × Int64 := (lN (f1C bw x n), lN (f2C x n))
theorem x1C_congr {bw : Bool} {x y : Nat → Nat → Nat} {m : Nat} (h : ∀ c, c < 4 → x m c = y m c) : x1C bw x m = x1C bw y m ∧ x2C x m = x2C y m := by
  unfold x1C x2C
  rw [h 0 (by decide), h 1 (by decide), h 2 (by decide), h 3 (by decide)]
  exact ⟨rfl, rfl⟩
theorem enC_congr {bw : Bool} {x y : Nat → Nat → Nat} {n : Nat} (h : ∀ m, m < n → ∀ c, c < 4 → x m c = y m c) : enC bw x n = enC bw y n := by
  unfold enC f1C f2C
  rw [natSum_congr fun m hm => (x1C_congr (bw := bw) (h m hm)).1, natSum_congr fun m hm => (x1C_congr (bw := bw) (h m hm)).2]
theorem gF_eq {bw : Bool} {n : Nat} {m : V4} (hn : n < 13) (hm : le4 m) : gF 4 bw (n + 1) m 4 = lN (x1C bw (fun _ c => at4 m c) n) ∧ gS 4 (n + 1) m 4 = lN (x2C (fun _ c => at4 m c) n) := by
  have hk : ∀ c, c < 4 → nI (13 * c + (n + 1) - 1) = nI (13 * c + n) := fun c _ => by congr 1
  have s1 : ∀ c, c < 4 → ∀ f : Int64, (if at4 m c = 0 then f else if (4 : Nat) = 3 then f ||| ((1 : Int64) <<< ((nI (13 * c + (n + 1) - 1)).toInt64 &&& 63)) else f + (nI (at4 m c)).toInt64 * fWt bw (nI (13 * c + (n + 1) - 1))) = f + lN (at4 m c * fw1 bw (13 * c + n)) := fun c hc f => by
    have := at4_le hm c
    rw [hk c hc, (fWt_eq (by omega) bw).1, nI_l (n := at4 m c) (by omega), lN_mul]
    by_cases h0 : at4 m c = 0
    · rw [if_pos h0, h0, Nat.zero_mul, lN_0, l64_z]
    · rw [if_neg h0, if_neg (by decide)]
  have s2 : ∀ c, c < 4 → ∀ f : Int64, (if at4 m c = 0 then f else if (4 : Nat) = 3 then f else f + (nI (at4 m c)).toInt64 * sWt (nI (13 * c + (n + 1) - 1))) = f + lN (at4 m c * fw2 (13 * c + n)) := fun c hc f => by
    have := at4_le hm c
    rw [hk c hc, (fWt_eq (by omega) bw).2, nI_l (n := at4 m c) (by omega), lN_mul]
    by_cases h0 : at4 m c = 0
    · rw [if_pos h0, h0, Nat.zero_mul, lN_0, l64_z]
    · rw [if_neg h0, if_neg (by decide)]
  constructor
  · unfold gF
    rw [range4, s1 0 (by decide), s1 1 (by decide), s1 2 (by decide), s1 3 (by decide), if_neg (by omega), show (0 : Int64) = lN 0 from rfl]
    simp only [lN_add]
    unfold x1C
    dsimp only
    congr 1
    omega
  · unfold gS
    rw [range4, s2 0 (by decide), s2 1 (by decide), s2 2 (by decide), s2 3 (by decide), show (0 : Int64) = lN 0 from rfl]
    simp only [lN_add]
    unfold x2C
    dsimp only
    congr 1
    omega
theorem enC_s {bw : Bool} {x : Nat → Nat → Nat} {n : Nat} {m : V4} (hn : n < 13) (hm : le4 m) (hx : ∀ c, c < 4 → x n c = at4 m c) : ((enC bw x n).1 + gF 4 bw (n + 1) m 4, (enC bw x n).2 + gS 4 (n + 1) m 4) = enC bw x (n + 1) := by
  obtain ⟨h1, h2⟩ := gF_eq (bw := bw) hn hm
  obtain ⟨h3, h4⟩ := x1C_congr (bw := bw) (x := x) (y := fun _ c => at4 m c) (m := n) hx
  rw [h1, h2, ← h3, ← h4]
  unfold enC
  simp only [lN_add]
  rfl
/-- the most that tiles besides are worth -/
def xsum (x : Nat → Nat → Nat) (n : Nat) : Nat := natSum (fun m => x m 0 + x m 1 + x m 2 + x m 3) n
theorem fw_le {k : Nat} (hk : k < 52) (bw : Bool) : fw1 bw k ≤ 526 * 2 ^ 48 ∧ fw2 k ≤ 2 ^ 54 := by
  have h : ((List.range 52).all fun k => decide (fw1 true k ≤ 526 * 2 ^ 48) && decide (fw1 false k ≤ 526 * 2 ^ 48) && decide (fw2 k ≤ 2 ^ 54)) = true := by decide +kernel
  have h := List.all_eq_true.mp h k (List.mem_range.mpr hk)
  simp only [Bool.and_eq_true, decide_eq_true_eq] at h
  cases bw
  · exact ⟨h.1.2, h.2⟩
  · exact ⟨h.1.1, h.2⟩
theorem f_le {bw : Bool} {x : Nat → Nat → Nat} {n : Nat} (hn : n ≤ 13) : f1C bw x n ≤ xsum x n * (526 * 2 ^ 48) ∧ f2C x n ≤ xsum x n * 2 ^ 54 := by
  unfold f1C f2C xsum
  induction n with
  | zero => simp [natSum]
  | succ n ih =>
    simp only [natSum]
    obtain ⟨i1, i2⟩ := ih (by omega)
    have a0 := fw_le (k := 13 * 0 + n) (by omega) bw
    have a1 := fw_le (k := 13 * 1 + n) (by omega) bw
    have a2 := fw_le (k := 13 * 2 + n) (by omega) bw
    have a3 := fw_le (k := 13 * 3 + n) (by omega) bw
    have b0 := Nat.mul_le_mul_left (x n 0) a0.1
    have b1 := Nat.mul_le_mul_left (x n 1) a1.1
    have b2 := Nat.mul_le_mul_left (x n 2) a2.1
    have b3 := Nat.mul_le_mul_left (x n 3) a3.1
    have d0 := Nat.mul_le_mul_left (x n 0) a0.2
    have d1 := Nat.mul_le_mul_left (x n 1) a1.2
    have d2 := Nat.mul_le_mul_left (x n 2) a2.2
    have d3 := Nat.mul_le_mul_left (x n 3) a3.2
    have h1 : x1C bw x n ≤ (x n 0 + x n 1 + x n 2 + x n 3) * (526 * 2 ^ 48) := by
      unfold x1C
      omega
    have h2 : x2C x n ≤ (x n 0 + x n 1 + x n 2 + x n 3) * 2 ^ 54 := by
      unfold x2C
      omega
    rw [Nat.add_mul, Nat.add_mul]
    constructor
    · omega
    · omega
