/-! the class: whole and plans at the end -/
theorem clT_1 {L md : Nat} (h : md = 1 ∨ md = 3 ∨ md = 4) : clT L md = clT L 1 := by
  rcases h with rfl | rfl | rfl <;> rfl
theorem lft_end {lo : Nat → Nat} {hh : Nat} {x : Nat → Nat → Nat} {pt : Nat → V4} (hx : ∀ m, hh ≤ m → ∀ c, c < 4 → x m c = 0) {m c : Nat} (hm : hh ≤ m) (hc : c < 4) : lft (tC lo hh x) pt c m = 0 := by
  unfold lft tC
  rw [loC_ge hm, hx m hm c hc]
  simp
theorem end_in {L hh md k : Nat} {lo hi : Nat → Nat} {x : Nat → Nat → Nat} {pt : Nat → V4} (H : LhC lo hi) (hL : L = 3 ∨ L = 4) (hmd : md = 1 ∨ md = 3 ∨ md = 4) (hx : bdC md lo hi hh x (hh + 1)) (h : Pth (clT L md) (tC lo hh x) pt (hh + 1) k) : k = 0 ∧ AccR L (tN lo x) hh := by
  rw [clT_1 hmd] at h
  have hz : ∀ c, c < 4 → lft (tC lo hh x) pt c hh = 0 := fun c hc => by
    have := hx hh (by omega) c hc
    rw [moC_ge (Nat.le_refl _)] at this
    unfold lft tC
    rw [loC_ge (Nat.le_refl _)]
    omega
  have e0 : ∀ c, c < 4 → nib k c = 0 ∧ ∃ d, colR (clT L 1) (lft (tC lo hh x) pt c) hh d ∧ 0 ∈ clT L 1 d 0 := fun c hc => by
    obtain ⟨s, a, b⟩ := h.2.2 c hc
    rw [hz c hc] at b
    have e := fend L (in01 hL) 1 (by simp) s (in16 (colR_lt clT_lt' a)) _ b
    rw [e] at b
    exact ⟨e, s, a, b⟩
  refine ⟨?_, ?_⟩
  · have := pk_nib h.2.1
    rw [(e0 0 (by decide)).1, (e0 1 (by decide)).1, (e0 2 (by decide)).1, (e0 3 (by decide)).1] at this
    exact this.symm
  · refine AccR_congr (t := tC lo hh x) (fun m hm c _ => by unfold tC tN; rw [loC_lt hm]) ⟨pt, fun m hm => h.1 m (by omega), fun c hc => ?_⟩
    exact jo_rf hL (fun m hm => by
      have := (tC_le H hx (show m < hh + 1 by omega) hc).2
      unfold lft
      omega) (e0 c hc).2
theorem pat0 : pat4 (0, 0, 0, 0) := ⟨0, by decide, rfl⟩
theorem nib0 (c : Nat) : nib 0 c = 0 := by unfold nib; simp
theorem at40 (c : Nat) (hc : c < 4) : at4 (0, 0, 0, 0) c = 0 := by
  revert c
  exact c4 rfl rfl rfl rfl
theorem end_of {L hh md : Nat} {lo hi : Nat → Nat} {x : Nat → Nat → Nat} (H : LhC lo hi) (hL : L = 3 ∨ L = 4) (hmd : md = 1 ∨ md = 3 ∨ md = 4) (hx : bdC md lo hi hh x hh) (hx0 : ∀ m, hh ≤ m → ∀ c, c < 4 → x m c = 0) (h : AccR L (tN lo x) hh) : ∃ pt, Pth (clT L md) (tC lo hh x) pt (hh + 1) 0 ∧ liveC L md lo hh x pt (hh + 1) 0 := by
  obtain ⟨pt, h1, h2⟩ := h
  have agr : ∀ m, m < hh → pt m = upx pt hh (0, 0, 0, 0) m ∧ ∀ c, c < 4 → tN lo x m c = tC lo hh x m c := fun m hm => ⟨(upx_o _ _ _ hm).symm, fun c _ => by unfold tC tN; rw [loC_lt hm]⟩
  refine ⟨upx pt hh (0, 0, 0, 0), ⟨up_x (fitP_congr agr h1) ⟨by rw [upx_s]; exact pat0, fun c hc => by rw [upx_s, at40 c hc]; exact Nat.zero_le _⟩, by decide, fun c hc => ?_⟩, fun c hc => ⟨0, ?_⟩⟩
  · obtain ⟨s, a, b⟩ := h2 c hc
    obtain ⟨d, a2, b2⟩ := rf_jo hL (fun m hm => by
      have e := (agr m hm).2 c hc
      have := (tC_le H hx hm hc).2
      unfold lft
      omega) ⟨s, a, b⟩
    rw [nib0, clT_1 hmd]
    exact ⟨d, (colR_congr (lft_congr agr hc)).mp a2, by rw [lft_end hx0 (Nat.le_refl _) hc]; exact b2⟩
  · have f := f00 L (in01 hL) 1 (by simp)
    rw [nib0, clT_1 hmd]
    refine ⟨0, by rw [lft_end hx0 (by omega) hc]; exact f, 0, by rw [lft_end hx0 (by omega) hc]; exact f, 0, by rw [lft_end hx0 (by omega) hc]; exact f, rfl⟩
/-- tiles besides up to the highest number alone -/
def cutX (hh : Nat) (x : Nat → Nat → Nat) (m c : Nat) : Nat := if m < hh then x m c else 0
theorem cutX_lt {hh : Nat} {x : Nat → Nat → Nat} {m c : Nat} (h : m < hh) : cutX hh x m c = x m c := if_pos h
theorem cutX_ge {hh : Nat} {x : Nat → Nat → Nat} {m c : Nat} (h : hh ≤ m) : cutX hh x m c = 0 := if_neg (by omega)
theorem cutX_bd {md hh N : Nat} {lo hi : Nat → Nat} {x : Nat → Nat → Nat} (hx : bdC md lo hi hh x hh) : bdC md lo hi hh (cutX hh x) N := fun m _ c hc => by
  unfold cutX
  split
  · rename_i h; exact hx m h c hc
  · exact Nat.zero_le _
theorem cutX_acc {L hh : Nat} {lo : Nat → Nat} {x : Nat → Nat → Nat} (h : AccR L (tN lo x) hh) : AccR L (tN lo (cutX hh x)) hh := AccR_congr (fun m hm c _ => by unfold tN; rw [cutX_lt hm]) h
/-- the last list of the class has one state at most -/
theorem itL_end {L hh md : Nat} {bw : Bool} {lo hi : Nat → Nat} {v0 : Int64} (H : LhC lo hi) (hL : L = 3 ∨ L = 4) (hmd : md = 1 ∨ md = 4) (hv : md = 4 → v0 = 0) (h13 : hh ≤ 13) : itL L hh md bw lo hi (tbM L md) v0 (hh + 1) = [] ∨ ∃ v x, itL L hh md bw lo hi (tbM L md) v0 (hh + 1) = [(0, v)] ∧ bdC md lo hi hh x (hh + 1) ∧ AccR L (tN lo x) hh ∧ (md = 4 → v = enC bw x (hh + 1)) := by
  have hs := itL_sound (L := L) (bw := bw) (v0 := v0) H (show md014 md by rcases hmd with rfl | rfl; exact Or.inr (Or.inl rfl); exact Or.inr (Or.inr rfl)) hv (Nat.le_refl (hh + 1)) h13
  have hn := itL_nd L hh md bw lo hi (tbM L md) v0 (hh + 1)
  cases hl : itL L hh md bw lo hi (tbM L md) v0 (hh + 1) with
  | nil => exact Or.inl rfl
  | cons p l =>
    rw [hl] at hs hn
    obtain ⟨pt, x, h1, h2, h3⟩ := hs p List.mem_cons_self
    obtain ⟨e, ha⟩ := end_in H hL (by omega) h1 h2
    cases l with
    | nil => exact Or.inr ⟨p.2, x, by rw [← e], h1, ha, h3⟩
    | cons q l =>
      obtain ⟨pt2, x2, g1, g2, -⟩ := hs q (by simp)
      have e2 := (end_in H hL (by omega) g1 g2).1
      exact absurd hn (by unfold nd; simp [e, e2])
theorem itL_has {L hh md : Nat} {bw : Bool} {lo hi : Nat → Nat} {v0 : Int64} (H : LhC lo hi) (hL : L = 3 ∨ L = 4) (hmd : md = 1 ∨ md = 4) (hv : md = 4 → v0 = 0) (hs : md = 4 → ∀ y n, bdC md lo hi hh y n → n ≤ 13 → xsum y n ≤ 24) (h13 : hh ≤ 13) {x : Nat → Nat → Nat} (hx : bdC md lo hi hh x hh) (h : AccR L (tN lo x) hh) : ∃ v, (0, v) ∈ itL L hh md bw lo hi (tbM L md) v0 (hh + 1) ∧ (md = 4 → leP (enC bw (cutX hh x) (hh + 1)) v) := by
  obtain ⟨pt, h1, h2⟩ := end_of (md := md) (x := cutX hh x) H hL (by omega) (cutX_bd hx) (fun m hm c _ => cutX_ge hm) (cutX_acc h)
  exact itL_compl H hL (show md014 md by rcases hmd with rfl | rfl; exact Or.inr (Or.inl rfl); exact Or.inr (Or.inr rfl)) hv (N := hh + 1) (cutX_bd hx) hs h13 (Nat.le_refl _) (Nat.le_refl _) h1 (fun _ => h2)
/-- whole -/
theorem itL_whole {L hh : Nat} {bw : Bool} {lo : Nat → Nat} (h2 : ∀ k, lo k ≤ 2) (hL : L = 3 ∨ L = 4) (h13 : hh ≤ 13) : (itL L hh 1 bw lo lo (tbM L 1) (v0W 1) (hh + 1)).length = 0 ∧ ¬ AccR L (tN lo xZ) hh ∨ (itL L hh 1 bw lo lo (tbM L 1) (v0W 1) (hh + 1)).length = 1 ∧ AccR L (tN lo xZ) hh := by
  have H : LhC lo lo := fun k => ⟨h2 k, h2 k, Nat.le_refl _⟩
  rcases itL_end (bw := bw) (v0 := v0W 1) H hL (Or.inl rfl) (fun q => absurd q (by decide)) h13 with e | ⟨v, x, e, hx, ha, -⟩
  · refine Or.inl ⟨by rw [e]; rfl, fun h => ?_⟩
    obtain ⟨v, hv, -⟩ := itL_has (md := 1) (bw := bw) (v0 := v0W 1) (x := xZ) H hL (Or.inl rfl) (fun q => absurd q (by decide)) (fun q => absurd q (by decide)) h13 (fun m _ c _ => Nat.zero_le _) h
    rw [e] at hv
    exact absurd hv (by simp)
  · refine Or.inr ⟨by rw [e]; rfl, AccR_congr (fun m hm c hc => ?_) ha⟩
    have := hx m (by omega) c hc
    rw [moC_lt hm, loC_lt hm, if_neg (by decide)] at this
    unfold tN xZ
    omega
/-- plans -/
theorem itL_plan {L hh : Nat} {bw : Bool} {lo hi : Nat → Nat} (H : LhC lo hi) (hL : L = 3 ∨ L = 4) (hs : ∀ y n, bdC 4 lo hi hh y n → n ≤ 13 → xsum y n ≤ 24) (h13 : hh ≤ 13) : (itL L hh 4 bw lo hi (tbM L 4) (v0W 4) (hh + 1) = [] ∧ ∀ x, bdC 4 lo hi hh x hh → ¬ AccR L (tN lo x) hh) ∨ ∃ x, itL L hh 4 bw lo hi (tbM L 4) (v0W 4) (hh + 1) = [(0, enC bw x (hh + 1))] ∧ bdC 4 lo hi hh x (hh + 1) ∧ AccR L (tN lo x) hh ∧ ∀ y, bdC 4 lo hi hh y hh → AccR L (tN lo y) hh → leP (enC bw (cutX hh y) (hh + 1)) (enC bw x (hh + 1)) := by
  rcases itL_end (bw := bw) (v0 := v0W 4) H hL (Or.inr rfl) (fun _ => rfl) h13 with e | ⟨v, x, e, hx, ha, hv⟩
  · refine Or.inl ⟨e, fun x hx h => ?_⟩
    obtain ⟨v, hv, -⟩ := itL_has (bw := bw) (v0 := v0W 4) H hL (Or.inr rfl) (fun _ => rfl) (fun _ => hs) h13 hx h
    rw [e] at hv
    exact absurd hv (by simp)
  · have ev := hv rfl
    subst ev
    refine Or.inr ⟨x, e, hx, ha, fun y hy h => ?_⟩
    obtain ⟨v, hv, hle⟩ := itL_has (bw := bw) (v0 := v0W 4) H hL (Or.inr rfl) (fun _ => rfl) (fun _ => hs) h13 hy h
    rw [e, List.mem_singleton] at hv
    have hle := hle rfl
    rw [(Prod.mk.inj hv).2] at hle
    exact hle
