/-! plans: the answer is one -/
def wS (l : List Nat) : Nat := (l.map fun k => k % 13 + 1).sum
theorem plK_lt (g : Nat → Nat) : ∀ n, ∀ k ∈ plK g n, k < n ∧ 1 ≤ g k
  | 0, k, h => absurd h List.not_mem_nil
  | n + 1, k, h => by
    rw [plK_s, List.mem_append] at h
    rcases h with h | h
    · have := plK_lt g n k h
      exact ⟨by omega, this.2⟩
    · obtain ⟨h1, rfl⟩ := List.mem_replicate.mp h
      exact ⟨by omega, by omega⟩
theorem plK_so (g : Nat → Nat) : ∀ n, (plK g n).Pairwise (· ≤ ·)
  | 0 => List.Pairwise.nil
  | n + 1 => by
    rw [plK_s]
    refine List.pairwise_append.mpr ⟨plK_so g n, ?_, fun a ha b hb => ?_⟩
    · exact List.pairwise_replicate.mpr (Or.inr (Nat.le_refl _))
    · have h1 := (plK_lt g n a ha).1
      have h2 := (List.mem_replicate.mp hb).2
      omega
theorem plK_cn (g : Nat → Nat) (k : Nat) : ∀ n, (plK g n).count k ≤ g k
  | 0 => Nat.zero_le _
  | n + 1 => by
    rw [plK_s, List.count_append, List.count_replicate]
    by_cases e : n = k
    · subst e
      have z : (plK g n).count n = 0 := List.count_eq_zero.mpr fun h => by
        have := (plK_lt g n n h).1
        omega
      rw [z]
      simp
    · have := plK_cn g k n
      simp [e]
      exact this
theorem wS_app (a b : List Nat) : wS (a ++ b) = wS a + wS b := by
  unfold wS
  rw [List.map_append, List.sum_append]
theorem wS_rep (n k : Nat) : wS (List.replicate n k) = n * (k % 13 + 1) := by
  unfold wS
  rw [List.map_replicate, List.sum_replicate_nat]
theorem plK_w (g : Nat → Nat) : ∀ n, wS (plK g n) = natSum (fun k => g k * (k % 13 + 1)) n
  | 0 => rfl
  | n + 1 => by
    rw [plK_s, wS_app, wS_rep, plK_w g n]
    rfl
theorem wS_le (l : List Nat) : wS l ≤ 13 * l.length := by
  induction l with
  | nil => exact Nat.le_refl _
  | cons k l ih =>
    show k % 13 + 1 + wS l ≤ 13 * (l.length + 1)
    omega
theorem plL_w (g : Nat → Nat) : wS (plL g) = wtK g := plK_w g 52
/-- what is told of the last tile -/
def lsP (pre : List Nat) (last here : Int64) : Prop := (pre = [] ∧ last = -1 ∧ here = 0) ∨ ∃ x pr, pre = pr ++ [x] ∧ last = lN x ∧ here = lN (pre.count x)
theorem ls_s {pre rest : List Nat} {k : Nat} {last here : Int64} (so : (pre ++ k :: rest).Pairwise (· ≤ ·)) (hk : k < 52) (hall : ∀ y ∈ pre, y < 52) (hl : pre.length ≤ 100) (H : lsP pre last here) : ¬ lg_cmp (lN k) last < 0 ∧ (if (lg_cmp (lN k) last) = 0 then (here + (1 : Int64)) else (1 : Int64)) = lN ((pre ++ [k]).count k) ∧ lsP (pre ++ [k]) (lN k) (lN ((pre ++ [k]).count k)) := by
  refine ⟨?_, ?_, Or.inr ⟨k, pre, rfl, rfl, rfl⟩⟩
  · rcases H with ⟨-, rfl, -⟩ | ⟨x, pr, rfl, rfl, -⟩
    · intro z
      have z2 : ¬ 0 ≤ lg_cmp (lN k) (-1) := Int32.not_le.mpr z
      refine z2 (Int32.not_lt.mp fun w => ?_)
      have : 0 < lg_cmp (lN k) (-1) := (lg_pos _ _).1.mpr (by rw [lN_toInt' (by omega)]; have : (-1 : Int64).toInt = -1 := by decide
                                                              omega)
      exact absurd w (Int32.not_lt.mpr (Int32.le_of_lt this))
    · have h := (List.pairwise_append.mp so).2.2 x (by simp) k (by simp)
      have hx := hall x (by simp)
      exact Int32.not_lt.mpr ((lN_cmp (by omega) (by omega)).2.2.1.mpr h)
  · rcases H with ⟨rfl, rfl, rfl⟩ | ⟨x, pr, rfl, rfl, rfl⟩
    · rw [if_neg]
      · simp
        rfl
      · intro z
        have z := (lg_pos _ _).2.mp z
        rw [lN_toInt' (by omega)] at z
        have : (-1 : Int64).toInt = -1 := by decide
        omega
    · have hx := hall x (by simp)
      have hcl : (pr ++ [x]).count x ≤ 100 := Nat.le_trans (List.count_le_length) hl
      by_cases e : k = x
      · subst e
        rw [if_pos ((lg_0 _ _).mpr rfl), show (1 : Int64) = lN 1 from rfl, lN_add, List.count_append (l₁ := pr ++ [k]), List.count_singleton_self]
      · rw [if_neg (fun z => e ((lN_cmp (by omega) (by omega)).2.1.mp z))]
        have z : (pr ++ [x]).count k = 0 := List.count_eq_zero.mpr fun h => by
          have h1 := (List.pairwise_append.mp so).2.2 x (by simp) k (by simp)
          rcases List.mem_append.mp h with h2 | h2
          · have h3 := (List.pairwise_append.mp (List.pairwise_append.mp so).1).2.2 k h2 x (by simp)
            omega
          · exact e (List.mem_singleton.mp h2)
        rw [List.count_append, z, List.count_singleton_self]
        rfl
section
variable {t : Nat} {σ : rS} {B : Bd} {E : List Ent} {dl : Option (Nat × Nat × Nat)} {m : Mem} {l : Nat → Int64} {ch : Nat} {B0 : Bd} {D : List (Nat × Nat)} {hh L jk ml pn wr : Nat}
theorem plan_loop {g : Nat → Nat} {p : Nat} (ht : t ≤ 512) (hp : p < 3) (h2 : ∀ k, tjB B k ≤ 2) (hpl : plF B m hh L p = some g) (K : PlK B hh p g) (hrk : ∀ q, q < 4 → rsz (bR B) q ≤ 1000) : ∀ rest pre σ last here N, pre ++ rest = plL g → rest.length < N → GAx t σ B E dl m l ch B0 D hh L jk ml pn wr → lsP pre last here → ∃ τ, oLoop (b_L_plans_63 (nI p) (lN (ctK g))) N (lN (wS rest), 1, last, here, nI pre.length, σ) = some (.inr (0, 1, τ)) ∧ GAx t τ B E dl m l ch B0 D hh L jk ml pn wr := by
  have c24 := K.2
  have len := plL_len g
  intro rest
  induction rest with
  | nil =>
    intro pre σ last here N hl hN G _
    obtain ⟨N, rfl⟩ : ∃ k, N = k + 1 := ⟨N - 1, by simp at hN; omega⟩
    refine ⟨σ, oLoop_l ?_, G⟩
    rw [List.append_nil] at hl
    unfold b_L_plans_63
    dsimp only
    rw [if_pos (by rw [lN_32 (by omega), hl, len]; exact (nI_leI (by omega) (by omega)).mpr (Nat.le_refl _))]
    rfl
  | cons k rest ih =>
    intro pre σ last here N hl hN G H
    obtain ⟨N, rfl⟩ : ∃ k, N = k + 1 := ⟨N - 1, by rw [List.length_cons] at hN; omega⟩
    have ll : pre.length + (rest.length + 1) = ctK g := by rw [← len, ← hl, List.length_append, List.length_cons]
    have hm : ∀ y ∈ plL g, y < 52 ∧ 1 ≤ g y := plK_lt g 52
    have hk := hm k (by rw [← hl]; simp)
    have so : (pre ++ k :: rest).Pairwise (· ≤ ·) := by rw [hl]; exact plK_so g 52
    have gt : (plL g)[pre.length]? = some k := by rw [← hl, List.getElem?_append_right (Nat.le_refl _), Nat.sub_self]; rfl
    obtain ⟨kx, k0⟩ := K.1 k hk.1
    have k13 : k % 13 < hh := Nat.lt_of_not_le fun z => by have := k0 z; omega
    have ak : adK hh k = true := by unfold adK; simp [hk.1, k13]
    have tj : tjB B k = bT B k + bJ B k := if_pos hk.1
    have t2 := h2 k
    have px : plEx B p k = min (2 - tjB B k) (bR B (53 * p + k)) := if_pos hk.1
    rw [px] at kx
    have gk1 : g k ≤ 2 - tjB B k := Nat.le_trans kx (Nat.min_le_left _ _)
    have gk2 : g k ≤ bR B (53 * p + k) := Nat.le_trans kx (Nat.min_le_right _ _)
    have rz := hrk p (by omega)
    have rg := rsz_ge (R := bR B) (p := p) (k := k) (by omega)
    have ct : (pre ++ [k]).count k ≤ g k := by
      have c1 := plK_cn g k 52
      have c2 : (plL g).count k = (pre ++ [k]).count k + rest.count k := by rw [← hl, show pre ++ k :: rest = (pre ++ [k]) ++ rest by simp, List.count_append]
      have c1 : (plL g).count k ≤ g k := c1
      omega
    obtain ⟨a1, a2, a3⟩ := ls_s so hk.1 (fun y hy => (hm y (by rw [← hl]; simp [hy])).1) (by omega) H
    have v9 : (plO (plF B m hh L p) pre.length).toInt64 = lN k := by
      rw [hpl]
      unfold plO plV
      dsimp only
      rw [gt]
      exact nI_64 (by omega)
    obtain ⟨s1, e1, G1⟩ := k_plan G (by omega) hp (j := pre.length) (by omega)
    have e1 : f_L_ask σ 19 (nI p) (nI pre.length) = some (lN k, s1) := by rw [← v9]; exact e1
    have q2 : adR B hh p k = lN (bR B (53 * p + k)) := (if_pos ak).trans (nI_64 (by omega))
    have q3 : adT B hh k 0 = lN (bT B k) := (if_pos ak).trans (nI_64 (by omega))
    have q4 : adT B hh k 1 = lN (bJ B k) := (if_pos ak).trans (nI_64 (by omega))
    obtain ⟨s2, e2, G2⟩ := k_rack G1 hp (j := k) (by omega)
    have e2 : f_L_ask s1 25 (nI p) (nI k) = some (lN (bR B (53 * p + k)), s2) := by rw [← q2]; exact e2
    obtain ⟨s3, e3, G3⟩ := k_table G2 (j := k) (by omega) 0
    have e3 : f_L_ask s2 26 (nI k) 0 = some (lN (bT B k), s3) := by rw [← q3]; exact e3
    obtain ⟨s4, e4, G4⟩ := k_table G3 (j := k) (by omega) 1
    have e4 : f_L_ask s3 26 (nI k) 1 = some (lN (bJ B k), s4) := by rw [← q4]; exact e4
    obtain ⟨τ, b1, b2⟩ := ih (pre ++ [k]) s4 (lN k) (lN ((pre ++ [k]).count k)) N (by rw [← hl]; simp) (by rw [List.length_cons] at hN; omega) G4 a3
    refine ⟨τ, ?_, b2⟩
    refine (oLoop_r ?_).trans b1
    have kk : ((lN k : Int64).toInt32) = nI k := lN_32 (by omega)
    unfold b_L_plans_63
    dsimp only
    rw [if_neg (show ¬ (lN (ctK g)).toInt32 ≤ nI pre.length from fun z => by
      rw [lN_32 (by omega)] at z
      have := (nI_leI (by omega) (by omega)).mp z
      omega), e1, oB_some, oLet_eq, a2, if_neg a1, kk, e2, oB_some, if_neg (fun z => by have := (lN_cmp (by omega) (by omega)).1.mp z; omega), e3, oB_some, e4, oB_some, lN_add, lN_add, if_neg (fun z => by have := (lN_cmp (b := 2) (by omega) (by omega)).1.mp z; omega), oJ_inr, if_pos (by decide), oLet_eq, show (13 : Int64) = lN 13 from rfl, lRem_lN (by omega) (by decide), show (1 : Int64) = lN 1 from rfl, lN_add, lN_sub (by show k % 13 + 1 ≤ k % 13 + 1 + wS rest; omega), nI_1, List.length_append]
    show some (Sum.inr (lN (k % 13 + 1 + wS rest - (k % 13 + 1)), (1 : Int32) &&& 1, lN k, _, _, s4)) = _
    rw [Nat.add_sub_cancel_left]
    rfl
theorem plans_ok (G : GAx t σ B E dl m l ch B0 D hh L jk ml pn wr) (ht : t ≤ 512) {p : Nat} (hp : p < 3) : ∃ τ, f_L_plans σ (nI p) = some (1, τ) ∧ GAx t τ B E dl m l ch B0 D hh L jk ml pn wr := by
  have r := G.2.2.2.1.1
  have F := G_facts G.2.2.2.1 (by omega)
  have h13 := r.2.2.1
  have h2 : ∀ k, tjB B k ≤ 2 := fun k => tjB_le F.1 k
  cases hpl : plF B m hh L p with
  | none =>
    obtain ⟨s1, e1, G1⟩ := k_best G (by omega) hp (q := 0) (by omega)
    have e1 : f_L_ask σ 18 (nI p) 0 = some (-1, s1) := by rw [hpl] at e1; exact e1
    obtain ⟨s2, e2, G2⟩ := k_best G1 (by omega) hp (q := 1) (by omega)
    have e2 : f_L_ask s1 18 (nI p) 1 = some (-1, s2) := by rw [hpl] at e2; exact e2
    obtain ⟨s3, e3, G3⟩ := k_plan G2 (by omega) hp (j := 0) (by omega)
    have e3 : f_L_ask s2 19 (nI p) 0 = some (-1, s3) := by rw [hpl] at e3; exact e3
    refine ⟨s3, ?_, G3⟩
    have lp : oLoop (b_L_plans_63 (nI p) (-1)) 60 ((-1 : Int64), (1 : Int32), ((-1) : Int64), (0 : Int64), 0, s2) = some (.inr ((-1 : Int64), (1 : Int32), s2)) := oLoop_l (n := 59) (by
      unfold b_L_plans_63
      dsimp only
      rw [if_pos (by decide)])
    unfold f_L_plans
    rw [e1, oB_some, e2, oB_some, oLet_eq, if_pos rfl, lp, oJ_inr]
    dsimp only
    rw [if_neg (by decide), if_pos (show (if lg_cmp (-1 : Int64) (0 : Int64) < 0 then true else (if lg_cmp (-1 : Int64) (0 : Int64) = 0 then true else false)) = true from by decide), if_neg (show ¬ 0 ≤ lg_cmp (-1) (0 : Int64) by decide), e3, oB_some, if_pos (by decide)]
  | some g =>
    obtain ⟨K, -⟩ := plF_ok F.1.1 (m := m) (p := p) (by omega) r.2.2.2.1 h13 hpl
    have c24 := K.2
    have w312 : wtK g ≤ 312 := by
      rw [← plL_w]
      have := wS_le (plL g)
      rw [plL_len] at this
      omega
    obtain ⟨s1, e1, G1⟩ := k_best G (by omega) hp (q := 0) (by omega)
    have e1 : f_L_ask σ 18 (nI p) 0 = some (lN (ctK g), s1) := by rw [hpl] at e1; rw [← nI_64 (by omega)]; exact e1
    obtain ⟨s2, e2, G2⟩ := k_best G1 (by omega) hp (q := 1) (by omega)
    have e2 : f_L_ask s1 18 (nI p) 1 = some (lN (wtK g), s2) := by rw [hpl] at e2; rw [← nI_64 (by omega)]; exact e2
    obtain ⟨s3, e3, G3⟩ := plan_loop ht hp h2 hpl K (fun q hq => Nat.le_trans (F.1.1.2.1 q hq) (by decide)) (plL g) [] s2 (-1) 0 60 rfl (by rw [plL_len]; omega) G2 (Or.inl ⟨rfl, rfl, rfl⟩)
    rw [plL_w] at e3
    have e3 : oLoop (b_L_plans_63 (nI p) (lN (ctK g))) 60 (lN (wtK g), (1 : Int32), ((-1) : Int64), (0 : Int64), 0, s2) = some (.inr (0, 1, s3)) := e3
    obtain ⟨s4, e4, G4⟩ := k_plan G3 (by omega) hp (j := ctK g) (by omega)
    have e4 : f_L_ask s3 19 (nI p) (nI (ctK g)) = some (-1, s4) := by
      rw [hpl] at e4
      have q : plO (some g) (ctK g) = -1 := by
        unfold plO plV
        dsimp only
        rw [List.getElem?_eq_none (by rw [plL_len]; exact Nat.le_refl _)]
      rw [q] at e4
      exact e4
    have l1 : 0 ≤ lg_cmp (lN (ctK g)) (0 : Int64) := (lN_cmp (b := 0) (by omega) (by omega)).2.2.1.mpr (Nat.zero_le _)
    have l2 : 0 ≤ lg_cmp (lN (wtK g)) (0 : Int64) := (lN_cmp (b := 0) (by omega) (by omega)).2.2.1.mpr (Nat.zero_le _)
    refine ⟨s4, ?_, G4⟩
    unfold f_L_plans
    rw [e1, oB_some, e2, oB_some, oLet_eq, if_pos l1, if_pos l2, if_pos rfl, e3, oJ_inr]
    dsimp only
    rw [if_neg (show ¬ (1 : Int32) = 0 by decide), if_neg (show ¬ lg_cmp (lN (ctK g)) (0 : Int64) < 0 from Int32.not_lt.mpr l1), if_pos (show (if lg_cmp (0 : Int64) (0 : Int64) = 0 then true else false) = true from by decide), if_pos l1, lN_32 (by omega), e4, oB_some, if_pos (by decide)]
end
