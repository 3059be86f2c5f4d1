/-! cuts piece by piece are as many as number by number -/
theorem PR_zeros {L : Nat} (hL : L = 3 ∨ L = 4) (j : Nat) (r : List Nat) : ∀ s, s < 16 → vlM L s = true → (∀ x ∈ r, x ≤ 2) → PR L s (r ++ List.replicate j 0) = PR L s r := by
  have fz0 : ∀ L ∈ [3, 4], ∀ s ∈ r16, vlM L s = true → (optsM L s 0).map (fun o => o.1) = if dnM L s then [0] else [] := by decide +kernel
  have base : ∀ s, s < 16 → vlM L s = true → PR L s (List.replicate j 0) = if dnM L s then 1 else 0 := by
    induction j with
    | zero => intro s _ _; rfl
    | succ j ih =>
      intro s hs hv
      show smn (fun o => PR L o.1 (List.replicate j 0)) (optsM L s 0) = _
      rw [← smn_map (fun c => PR L c (List.replicate j 0)) (fun o : Nat × Nat => o.1), fz0 L (in01 hL) s (in16 hs) hv]
      split
      · show PR L 0 (List.replicate j 0) + 0 = 1
        rw [ih 0 (by decide) (by rcases hL with rfl | rfl <;> decide)]
        rcases hL with rfl | rfl <;> rfl
      · rfl
  induction r with
  | nil =>
    intro s hs hv _
    rw [List.nil_append, base s hs hv]
    rfl
  | cons x r ih =>
    intro s hs hv hx
    show smn (fun o => PR L o.1 (r ++ List.replicate j 0)) (optsM L s x) = smn (fun o => PR L o.1 r) (optsM L s x)
    refine smn_congr fun o ho => ?_
    obtain ⟨a, b⟩ := fvl L (in01 hL) s (in16 hs) hv x (in3 (hx x List.mem_cons_self)) o ho
    exact ih o.1 b a (fun y hy => hx y (List.mem_cons_of_mem _ hy))
theorem colL_split (c a n j : Nat) (t : Nat → Nat) (h : ∀ m, a + n ≤ m → m < a + n + j → t (13 * c + m) = 0) : colL c a (n + j) t = colL c a n t ++ List.replicate j 0 := by
  unfold colL
  rw [← List.range'_append_1, List.map_append]
  congr 1
  apply List.ext_getElem
  · simp
  · intro i h1 h2
    simp only [List.length_map, List.length_range'] at h1
    simp only [List.getElem_map, List.getElem_range', List.getElem_replicate]
    exact h _ (by omega) (by omega)
theorem colL_le {c a n : Nat} (hc : c < 4) (han : a + n ≤ 13) {t : Nat → Nat} (h2 : ∀ k, k < 52 → t k ≤ 2) : ∀ x ∈ colL c a n t, x ≤ 2 := by
  intro x hx
  obtain ⟨m, hm, rfl⟩ := List.mem_map.mp hx
  rw [List.mem_range'_1] at hm
  exact h2 _ (by omega)
theorem P4_congr {L k n d : Nat} (hnd : n + d ≤ 13) {u v : Nat → Nat} (h : ∀ k, k < 52 → u k = v k) : P4 L k n d u = P4 L k n d v := by
  unfold P4
  rw [colL_congr (c := 0) (fun m _ _ => h _ (by omega)), colL_congr (c := 1) (fun m _ _ => h _ (by omega)), colL_congr (c := 2) (fun m _ _ => h _ (by omega)), colL_congr (c := 3) (fun m _ _ => h _ (by omega))]
theorem DD_NR {L hh : Nat} {t : Nat → Nat} (hL : L = 3 ∨ L = 4) (h13 : hh ≤ 13) (h2 : ∀ k, k < 52 → t k ≤ 2) (h0 : ∀ k, k < 52 → hh ≤ k % 13 → t k = 0) : DD L t 0 = NR L t hh 0 0 := by
  have vz : vlM L 0 = true := by rcases hL with rfl | rfl <;> decide
  unfold DD
  rw [CC_perm svC (cd_perm L (in01 hL)), CC_GS 13 (by decide) t h2, NR_GS hL h2 hh 0 0 (by omega)]
  have e1 : GS 13 (13 - 13) t (CC svC (rnA L)) = GS 13 0 t (P4 L 0 0 13) := by
    refine GS_congr 13 0 t t _ _ (by decide) h2 (fun _ _ _ => rfl) (fun u u' q0 q1 _ _ _ => ?_)
    rw [run_all hL q0]
    have ew : ∀ c, c < 4 → WR L 13 (colL c 0 13 u) = PR L 0 (colL c 0 13 u') := fun c hc => by
      rw [colL_congr (t := u') (u := u) (fun m _ hm => (q1 _ (by omega) (Nat.zero_le _)).symm), PR_WR hL (colL_le hc (by omega) q0), colL_len]
    unfold P4
    rw [ew 0 (by decide), ew 1 (by decide), ew 2 (by decide), ew 3 (by decide)]
    rfl
  rw [e1]
  obtain ⟨d, hd⟩ : ∃ d, 13 = hh + d := ⟨13 - hh, by omega⟩
  have e2 : GS 13 0 t (P4 L 0 0 13) = GS hh 0 t (fun u => GS d (0 + hh) u (P4 L 0 0 13)) := by
    have := GS_app (P4 L 0 0 13) hh d 0 t
    rw [← hd] at this
    exact this
  rw [e2]
  refine GS_congr hh 0 t t _ _ (by omega) h2 (fun _ _ _ => rfl) (fun u u' q0 q1 _ q3 _ => ?_)
  have u0 : ∀ k, k < 52 → hh ≤ k % 13 → u k = 0 := fun k hk hnk => by rw [q3 k hk (by omega)]; exact h0 k hk hnk
  rw [GS_none (P4 L 0 0 13) (fun a b h => P4_congr (by decide) h) d (0 + hh) u (by omega) (fun k hk hnk => u0 k hk (by omega))]
  have ec : ∀ c, c < 4 → PR L (nib 0 c) (colL c 0 13 u) = PR L (nib 0 c) (colL c 0 hh u') := fun c hc => by
    rw [nib0, show colL c 0 13 u = colL c 0 (hh + d) u by rw [← hd], colL_split c 0 hh d u (fun m h1 h3 => u0 _ (by omega) (by omega)), PR_zeros hL d _ 0 (by decide) vz (colL_le hc (by omega) q0)]
    exact congrArg (PR L 0) (colL_congr fun m _ hm => q1 _ (by omega) (Nat.zero_le _))
  unfold P4
  rw [ec 0 (by decide), ec 1 (by decide), ec 2 (by decide), ec 3 (by decide)]
/-- the reference's count, and the class's piece by piece -/
theorem anew_cnt {L hh : Nat} {t : Nat → Nat} (hL : L = 3 ∨ L = 4) (h13 : hh ≤ 13) (h2 : ∀ k, t k ≤ 2) (h0 : ∀ k, k < 52 → hh ≤ k % 13 → t k = 0) (ht : tot t ≤ 14) : DD L t 0 < 1000000007 ∧ DD L t 0 = match cntR L hh t with
    | none => 0
    | some w => w.1 := by
  have hle : DD L t 0 ≤ 19 ^ 4 := DD_le hL 4 t 0 (fun k _ => h2 k) (by omega) (by decide)
  have hlt : DD L t 0 < 1000000007 := Nat.lt_of_le_of_lt hle (by decide)
  refine ⟨hlt, ?_⟩
  have hN := DD_NR hL h13 (fun k _ => h2 k) h0
  obtain ⟨f1, f2⟩ := FR_NR (L := L) (bs := t) hh 0 0 (1, 0, 0) (by decide)
  unfold cntR
  cases hc : FR L t hh 0 (0, (1, 0, 0)) with
  | none =>
    dsimp only
    rw [hN, f1.mp hc]
  | some w =>
    dsimp only
    rw [f2 w hc, ← hN, Nat.one_mul, Nat.mod_eq_of_lt hlt]
