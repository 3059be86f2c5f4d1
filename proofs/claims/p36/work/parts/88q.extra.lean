/-! the class: the kinds that can be one more -/
def hb (v : Int64) (i : Nat) : Prop := v.toBitVec.getLsbD i = true
theorem hb_or (a b : Int64) (i : Nat) : hb (a ||| b) i ↔ hb a i ∨ hb b i := by
  unfold hb
  rw [Int64.toBitVec_or, BitVec.getLsbD_or, Bool.or_eq_true]
theorem hb_and (a b : Int64) (i : Nat) : hb (a &&& b) i ↔ hb a i ∧ hb b i := by
  unfold hb
  rw [Int64.toBitVec_and, BitVec.getLsbD_and, Bool.and_eq_true]
theorem hb_0 (i : Nat) : ¬ hb 0 i := by
  unfold hb
  rw [show ((0 : Int64).toBitVec) = 0#64 from rfl, BitVec.getLsbD_zero]
  simp
theorem hb_lt {v : Int64} {i : Nat} (h : hb v i) : i < 64 := by
  apply Classical.byContradiction
  intro q
  unfold hb at h
  rw [BitVec.getLsbD_of_ge _ _ (by omega)] at h
  exact absurd h (by decide)
theorem hb_bare : ∀ i, i < 64 → (hb 4503599627370496 i ↔ i = 52) := by
  have h : ∀ i, i < 64 → ((4503599627370496 : Int64).toBitVec.getLsbD i = decide (i = 52)) := by decide +kernel
  intro i hi
  unfold hb
  rw [h i hi, decide_eq_true_eq]
theorem hb_nbare : ∀ i, i < 64 → (hb (-4503599627370497) i ↔ i ≠ 52) := by
  have h : ∀ i, i < 64 → ((-4503599627370497 : Int64).toBitVec.getLsbD i = decide (i ≠ 52)) := by decide +kernel
  intro i hi
  unfold hb
  rw [h i hi, decide_eq_true_eq]
theorem hb_one {k : Nat} (hk : k < 52) : ∀ i, i < 64 → (hb ((1 : Int64) <<< ((nI k).toInt64 &&& 63)) i ↔ i = k) := by
  have h : ((List.range 52).all fun k => (List.range 64).all fun i => ((1 : Int64) <<< ((nI k).toInt64 &&& 63)).toBitVec.getLsbD i == decide (i = k)) = true := by decide +kernel
  intro i hi
  have h1 := List.all_eq_true.mp (List.all_eq_true.mp h k (List.mem_range.mpr hk)) i (List.mem_range.mpr hi)
  unfold hb
  rw [eq_of_beq h1, decide_eq_true_eq]
theorem hb_ext {a b : Int64} (h : ∀ i, i < 64 → (hb a i ↔ hb b i)) : a = b := by
  apply Int64.toBitVec_inj.mp
  apply BitVec.eq_of_getLsbD_eq
  intro i hi
  have := h i hi
  unfold hb at this
  exact Bool.eq_iff_iff.mpr this
theorem and_bare (v : Int64) : (lg_cmp (v &&& 4503599627370496) 0 = 0) = ¬ hb v 52 := by
  refine propext ⟨fun h q => ?_, fun h => ?_⟩
  · have e := (lg_pos _ _).2.mp h
    have e := Int64.toInt_inj.mp e
    have : hb (v &&& 4503599627370496) 52 := (hb_and _ _ _).mpr ⟨q, (hb_bare 52 (by decide)).mpr rfl⟩
    rw [e] at this
    exact hb_0 _ this
  · have e : v &&& 4503599627370496 = 0 := hb_ext fun i hi => by
      rw [hb_and, hb_bare i hi]
      refine ⟨fun q => absurd (q.2 ▸ q.1) h, fun q => absurd q (hb_0 i)⟩
    rw [e]
    rfl
theorem hb_some {v : Int64} {i : Nat} (h : hb v i) : ¬ lg_cmp v 0 = 0 := fun q => by
  have e := Int64.toInt_inj.mp ((lg_pos _ _).2.mp q)
  rw [e] at h
  exact hb_0 _ h
/-- how many colours are not sure -/
def lkB (su : Nat → Int32) (k c : Nat) : Nat := if hoB (su c) (nib k c) then 0 else 1
theorem bit_x (s : Int32) (q : Nat) : (((s >>> (nI q &&& 31)) &&& 1) ^^^ 1) = nI (if hoB s q then 0 else 1) := by
  unfold hoB
  rcases bit_01 (s >>> (nI q &&& 31)) with h | h
  · rw [h]; rfl
  · rw [h]; rfl
theorem lkW_eq (su : Nat → Int32) {k : Nat} (hk : k < 65536) : lkW su (nI k) 4 = nI (lkB su k 0 + lkB su k 1 + lkB su k 2 + lkB su k 3) := by
  unfold lkW
  rw [range4, nib_eq hk (c := 0) (by decide), nib_eq hk (c := 1) (by decide), nib_eq hk (c := 2) (by decide), nib_eq hk (c := 3) (by decide), bit_x, bit_x, bit_x, bit_x, show (0 : Int32) = nI 0 from rfl, nI_add, nI_add, nI_add, nI_add, Nat.zero_add]
  rfl
theorem wx_bit (su : Nat → Int32) (x y : Int64) {k : Nat} (hk : k < 65536) (i : Nat) : (hb (wxW su x y (nI k)) i → (hb y 52 ∧ hb x i) ∨ (hb x 52 ∧ hb y i ∧ i ≠ 52)) ∧ (lkB su k 0 + lkB su k 1 + lkB su k 2 + lkB su k 3 = 0 → (hb y 52 ∧ hb x i) ∨ (hb x 52 ∧ hb y i ∧ i ≠ 52) → hb (wxW su x y (nI k)) i) ∧ (lkB su k 0 + lkB su k 1 + lkB su k 2 + lkB su k 3 ≤ 1 → hb y 52 → hb x 52 → hb (wxW su x y (nI k)) 52) := by
  have ab : ∀ v : Int64, lg_cmp (v &&& 4503599627370496) 0 = 0 ↔ ¬ hb v 52 := fun v => by rw [and_bare v]
  have hE : ∀ i, hb ((if lg_cmp (y &&& (4503599627370496 : Int64)) (0 : Int64) = 0 then (0 : Int64) else x) ||| (if lg_cmp (x &&& (4503599627370496 : Int64)) (0 : Int64) = 0 then (0 : Int64) else (y &&& (((-4503599627370497) : Int64))))) i ↔ (hb y 52 ∧ hb x i) ∨ (hb x 52 ∧ hb y i ∧ i ≠ 52) := fun i => by
    rw [hb_or]
    refine or_congr ?_ ?_
    · by_cases h : hb y 52
      · rw [if_neg (fun q => (ab y).mp q h)]; exact ⟨fun q => ⟨h, q⟩, fun q => q.2⟩
      · rw [if_pos ((ab y).mpr h)]; exact ⟨fun q => absurd q (hb_0 i), fun q => absurd q.1 h⟩
    · by_cases h : hb x 52
      · rw [if_neg (fun q => (ab x).mp q h), hb_and]
        exact ⟨fun q => ⟨h, q.1, (hb_nbare i (hb_lt q.1)).mp q.2⟩, fun q => ⟨q.2.1, (hb_nbare i (hb_lt q.2.1)).mpr q.2.2⟩⟩
      · rw [if_pos ((ab x).mpr h)]; exact ⟨fun q => absurd q (hb_0 i), fun q => absurd q.1 h⟩
  obtain ⟨s, hs⟩ : ∃ s, s = lkB su k 0 + lkB su k 1 + lkB su k 2 + lkB su k 3 := ⟨_, rfl⟩
  have hs4 : s ≤ 4 := by
    rw [hs]
    have : ∀ c, lkB su k c ≤ 1 := fun c => by unfold lkB; split <;> omega
    have := this 0
    have := ‹∀ c, lkB su k c ≤ 1› 1
    have := ‹∀ c, lkB su k c ≤ 1› 2
    have := ‹∀ c, lkB su k c ≤ 1› 3
    omega
  have e0 : (nI s = 0) = (s = 0) := propext (nI_eq (b := 0) (by omega) (by omega))
  have e1 : (nI s = 1) = (s = 1) := propext (nI_eq (b := 1) (by omega) (by omega))
  unfold wxW
  rw [lkW_eq su hk, ← hs]
  simp only [e0, e1]
  by_cases h0 : s = 0
  · rw [if_pos h0]
    exact ⟨(hE i).mp, fun _ => (hE i).mpr, fun _ a b => (hE 52).mpr (Or.inl ⟨a, b⟩)⟩
  · rw [if_neg h0]
    by_cases h1 : s = 1
    · rw [if_pos h1]
      exact ⟨fun q => (hE i).mp ((hb_and _ _ _).mp q).1, fun q => absurd q h0, fun _ a b => (hb_and _ _ _).mpr ⟨(hE 52).mpr (Or.inl ⟨a, b⟩), (hb_bare 52 (by decide)).mpr rfl⟩⟩
    · rw [if_neg h1]
      exact ⟨fun q => absurd q (hb_0 i), fun q => absurd q h0, fun q => by omega⟩
theorem mgL3_bit (x y : Int64 × Int64) (i : Nat) : hb (mgL 3 x y).1 i ↔ hb x.1 i ∨ hb y.1 i := by
  unfold mgL
  rw [if_pos rfl]
  exact hb_or _ _ _
theorem mgW3_bit (x y : Int64 × Int64) (i : Nat) : hb (mgW 3 x y).1 i ↔ hb x.1 i ∨ hb y.1 i := by
  unfold mgW
  rw [if_pos rfl]
  exact hb_or _ _ _
/-- one tile of a colour -/
def un4 (c : Nat) : V4 := mk4 (fun d => if d = c then 1 else 0)
theorem un4_at (c d : Nat) (hd : d < 4) : at4 (un4 c) d = if d = c then 1 else 0 := at_mk4 _ d hd
theorem le1_un {m : V4} (h : ¬ 1 < m.1 + m.2.1 + m.2.2.1 + m.2.2.2) : m = (0, 0, 0, 0) ∨ ∃ c, c < 4 ∧ m = un4 c := by
  obtain ⟨a, b, c, d⟩ := m
  dsimp only at h
  by_cases ha : a = 1
  · exact Or.inr ⟨0, by decide, by rw [ha, show b = 0 by omega, show c = 0 by omega, show d = 0 by omega]; rfl⟩
  · by_cases hb : b = 1
    · exact Or.inr ⟨1, by decide, by rw [hb, show a = 0 by omega, show c = 0 by omega, show d = 0 by omega]; rfl⟩
    · by_cases hc : c = 1
      · exact Or.inr ⟨2, by decide, by rw [hc, show a = 0 by omega, show b = 0 by omega, show d = 0 by omega]; rfl⟩
      · by_cases hd : d = 1
        · exact Or.inr ⟨3, by decide, by rw [hd, show a = 0 by omega, show b = 0 by omega, show c = 0 by omega]; rfl⟩
        · exact Or.inl (by rw [show a = 0 by omega, show b = 0 by omega, show c = 0 by omega, show d = 0 by omega])
theorem gF3_0 (bw : Bool) (n : Nat) : gF 3 bw n (0, 0, 0, 0) 4 = 4503599627370496 := rfl
theorem gF3_u (bw : Bool) (n c : Nat) (hc : c < 4) : gF 3 bw (n + 1) (un4 c) 4 = 0 ||| ((1 : Int64) <<< ((nI (13 * c + n)).toInt64 &&& 63)) := by
  revert c
  refine c4 ?_ ?_ ?_ ?_ <;> (unfold gF; rw [range4]; rfl)
/-- the label of a way: bare, or the kind that is one more -/
def labX (x : Nat → Nat → Nat) (n i : Nat) : Prop := (i = 52 ∧ ∀ m, m < n → ∀ c, c < 4 → x m c = 0) ∨ ∃ m0 c0, m0 < n ∧ c0 < 4 ∧ i = 13 * c0 + m0 ∧ i < 52 ∧ ∀ m, m < n → ∀ c, c < 4 → x m c = if m = m0 ∧ c = c0 then 1 else 0
theorem gw3_sound {bw : Bool} {n hh : Nat} {lo hi : Nat → Nat} (h13 : hh ≤ 13) : ∀ q ∈ gwL 3 bw (n + 1) (lo4 lo hh (n + 1)) (xs4 3 lo hi hh (n + 1)), (∃ m : V4, (∀ c, c < 4 → at4 m c ≤ moC 3 lo hi hh n c - loC lo hh n c) ∧ ∃ g, g < 21 ∧ fit4 (add4 (lo4 lo hh (n + 1)) m) (gd g) = true ∧ q.1 = cd4 (sub4 (add4 (lo4 lo hh (n + 1)) m) (gd g))) ∧ ∀ i, hb q.2.1 i → ∃ m : V4, (∀ c, c < 4 → at4 m c ≤ moC 3 lo hi hh n c - loC lo hh n c) ∧ (∃ g, g < 21 ∧ fit4 (add4 (lo4 lo hh (n + 1)) m) (gd g) = true ∧ q.1 = cd4 (sub4 (add4 (lo4 lo hh (n + 1)) m) (gd g))) ∧ ((i = 52 ∧ m = (0, 0, 0, 0)) ∨ ∃ c, c < 4 ∧ m = un4 c ∧ i = 13 * c + n ∧ n < hh) := by
  rw [gwL_mrg]
  refine mrg_sound (P := fun k (v : Int64 × Int64) => (∃ m : V4, (∀ c, c < 4 → at4 m c ≤ moC 3 lo hi hh n c - loC lo hh n c) ∧ ∃ g, g < 21 ∧ fit4 (add4 (lo4 lo hh (n + 1)) m) (gd g) = true ∧ k = cd4 (sub4 (add4 (lo4 lo hh (n + 1)) m) (gd g))) ∧ ∀ i, hb v.1 i → ∃ m : V4, (∀ c, c < 4 → at4 m c ≤ moC 3 lo hi hh n c - loC lo hh n c) ∧ (∃ g, g < 21 ∧ fit4 (add4 (lo4 lo hh (n + 1)) m) (gd g) = true ∧ k = cd4 (sub4 (add4 (lo4 lo hh (n + 1)) m) (gd g))) ∧ ((i = 52 ∧ m = (0, 0, 0, 0)) ∨ ∃ c, c < 4 ∧ m = un4 c ∧ i = 13 * c + n ∧ n < hh)) ?_ (fun p hp => absurd hp (by simp)) ?_
  · intro k v w hv hw
    refine ⟨hv.1, fun i hi => ?_⟩
    rcases (mgW3_bit v w i).mp hi with h | h
    · exact hv.2 i h
    · exact hw.2 i h
  · intro p hp
    obtain ⟨m, ⟨a0, a1, a2, a3⟩, h1, g, hg, hf, rfl⟩ := wyC_mem.mp hp
    have hm : ∀ c, c < 4 → at4 m c ≤ moC 3 lo hi hh n c - loC lo hh n c := fun c hc => by
      rw [← at_xs4 3 lo hi hh n c hc]
      revert c
      exact c4 a0 a1 a2 a3
    refine ⟨⟨m, hm, g, hg, hf, rfl⟩, fun i hi => ⟨m, hm, ⟨g, hg, hf, rfl⟩, ?_⟩⟩
    dsimp only at hi
    rw [if_neg (by decide)] at hi
    rcases le1_un (fun q => h1 ⟨rfl, q⟩) with e | ⟨c, hc, e⟩
    · rw [e, gF3_0] at hi
      exact Or.inl ⟨(hb_bare i (hb_lt hi)).mp hi, e⟩
    · have hn : n < hh := by
        apply Classical.byContradiction
        intro q
        have := hm c hc
        rw [e, un4_at c c hc, if_pos rfl, moC_ge (by omega)] at this
        omega
      rw [e, gF3_u bw n c hc, hb_or] at hi
      rcases hi with hi | hi
      · exact absurd hi (hb_0 i)
      · exact Or.inr ⟨c, hc, e, (hb_one (by omega) i (hb_lt hi)).mp hi, hn⟩
theorem gw3_compl {bw : Bool} {n hh : Nat} {lo hi : Nat → Nat} {m : V4} (hm : ∀ c, c < 4 → at4 m c ≤ moC 3 lo hi hh n c - loC lo hh n c) {g : Nat} (hg : g < 21) (hf : fit4 (add4 (lo4 lo hh (n + 1)) m) (gd g) = true) {i : Nat} (h13 : hh ≤ 13) (hq : (i = 52 ∧ m = (0, 0, 0, 0)) ∨ ∃ c, c < 4 ∧ m = un4 c ∧ i = 13 * c + n ∧ n < hh) : ∃ w, (cd4 (sub4 (add4 (lo4 lo hh (n + 1)) m) (gd g)), w) ∈ gwL 3 bw (n + 1) (lo4 lo hh (n + 1)) (xs4 3 lo hi hh (n + 1)) ∧ hb w.1 i := by
  rw [gwL_mrg]
  have hs : ¬ 1 < m.1 + m.2.1 + m.2.2.1 + m.2.2.2 := by
    rcases hq with ⟨-, e⟩ | ⟨c, hc, e, -⟩
    · rw [e]; decide
    · rw [e]
      have : ∀ c, c < 4 → ¬ 1 < (un4 c).1 + (un4 c).2.1 + (un4 c).2.2.1 + (un4 c).2.2.2 := c4 (by decide) (by decide) (by decide) (by decide)
      exact this c hc
  refine mrg_new (Q := fun _ v => hb v.1 i) (fun _ v w h => (mgW3_bit v w i).mpr (Or.inl h)) (fun _ v w h => (mgW3_bit v w i).mpr (Or.inr h)) (wyC_mem.mpr ⟨m, ⟨?_, ?_, ?_, ?_⟩, fun q => hs q.2, g, hg, hf, rfl⟩) ?_
  · have := hm 0 (by decide); rw [← at_xs4 3 lo hi hh n 0 (by decide)] at this; exact this
  · have := hm 1 (by decide); rw [← at_xs4 3 lo hi hh n 1 (by decide)] at this; exact this
  · have := hm 2 (by decide); rw [← at_xs4 3 lo hi hh n 2 (by decide)] at this; exact this
  · have := hm 3 (by decide); rw [← at_xs4 3 lo hi hh n 3 (by decide)] at this; exact this
  · dsimp only
    rw [if_neg (by decide)]
    rcases hq with ⟨e, em⟩ | ⟨c, hc, em, e, hn⟩
    · rw [em, gF3_0]
      exact (hb_bare i (by omega)).mpr e
    · rw [em, gF3_u bw n c hc, hb_or]
      exact Or.inr ((hb_one (by omega) i (by omega)).mpr e)
