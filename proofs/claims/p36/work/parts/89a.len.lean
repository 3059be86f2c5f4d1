/-! the class's lists are short enough for a layer -/
theorem emW_in {tb op : Nat → Int32} {s u : Nat} {e : Nat × Int32} (h : e ∈ emW tb op s u) : ∃ i0 i1 i2 i3 z0 z1 z2 z3, i0 + 2 < 256 ∧ i1 + 2 < 256 ∧ i2 + 2 < 256 ∧ i3 + 2 < 256 ∧ z0 ∈ stL tb i0 ∧ z1 ∈ stL tb i1 ∧ z2 ∈ stL tb i2 ∧ z3 ∈ stL tb i3 ∧ e.1 = kO z0 z1 z2 z3 := by
  unfold emW em0 em1 em2 em3 at h
  simp only [List.mem_flatMap, List.mem_map, List.mem_filter] at h
  obtain ⟨a, ⟨ha, -⟩, b, ⟨hb, -⟩, c, ⟨hc, -⟩, d, ⟨hd, -⟩, e⟩ := h
  exact ⟨_, _, _, _, a, b, c, d, aT_lt _ _, aT_lt _ _, aT_lt _ _, aT_lt _ _, ha, hb, hc, hd, by rw [← e]⟩
theorem f14 : ∀ L ∈ [3, 4], ∀ md ∈ [0, 1], ((List.range 254).all fun i => (stL (tbM L md) i).all fun z => decide (nb z < 15)) = true := by decide +kernel
theorem nb14 {L md i : Nat} {z : Int32} (hL : L = 3 ∨ L = 4) (hmd : md = 0 ∨ md = 1 ∨ md = 3 ∨ md = 4) (hi : i + 2 < 256) (hz : z ∈ stL (tbM L md) i) : nb z < 15 := by
  have key : ∀ md ∈ [0, 1], z ∈ stL (tbM L md) i → nb z < 15 := fun md hmd hz => of_decide_eq_true (List.all_eq_true.mp (List.all_eq_true.mp (f14 L (in01 hL) md hmd) i (List.mem_range.mpr (by omega))) z hz)
  rcases hmd with rfl | rfl | rfl | rfl
  · exact key 0 (by simp) hz
  · exact key 1 (by simp) hz
  · exact key 1 (by simp) hz
  · exact key 1 (by simp) hz
def ks15 : List Nat := (List.range 15).flatMap fun a => (List.range 15).flatMap fun b => (List.range 15).flatMap fun c => (List.range 15).map fun d => pk4 a b c d
theorem ks15_len : ks15.length ≤ 50625 := by
  have h := fl_len (N := 15 * 15 * 15) (f := fun a => (List.range 15).flatMap fun b => (List.range 15).flatMap fun c => (List.range 15).map fun d => pk4 a b c d) (fun a => by
    have h := fl_len (N := 15 * 15) (f := fun b => (List.range 15).flatMap fun c => (List.range 15).map fun d => pk4 a b c d) (fun b => by
      have h := fl_len (N := 15) (f := fun c => (List.range 15).map fun d => pk4 a b c d) (fun c => by rw [List.length_map, List.length_range]; exact Nat.le_refl _) (List.range 15)
      rw [List.length_range] at h
      exact h) (List.range 15)
    rw [List.length_range] at h
    exact h) (List.range 15)
  rw [List.length_range] at h
  exact h
theorem acC_key {md : Nat} {su : Nat → Int32} {v w : Int64 × Int64} {e : Nat × Int32} {q : Nat × Int64 × Int64} (h : q ∈ acC md su v w e) : q.1 = e.1 := by
  unfold acC at h
  split at h
  · exact absurd h (by simp)
  · rw [List.mem_singleton.mp h]
theorem itL_len {L hh md : Nat} {bw : Bool} {lo hi : Nat → Nat} {v0 : Int64} (hL : L = 3 ∨ L = 4) (hmd : md = 0 ∨ md = 1 ∨ md = 3 ∨ md = 4) (n : Nat) : (itL L hh md bw lo hi (tbM L md) v0 n).length ≤ 65455 := by
  cases n with
  | zero => rw [itL_0]; exact (by decide : (1 : Nat) ≤ 65455)
  | succ n =>
    have hnd := itL_nd L hh md bw lo hi (tbM L md) v0 (n + 1)
    have hk : ∀ p ∈ itL L hh md bw lo hi (tbM L md) v0 (n + 1), p.1 ∈ ks15 := by
      rw [itL_mrg]
      refine mrg_sound (P := fun k _ => k ∈ ks15) (fun _ _ _ a _ => a) (fun p hp => absurd hp (by simp)) (fun q hq => ?_)
      obtain ⟨p, hp, hq⟩ := List.mem_flatMap.mp hq
      obtain ⟨w, hw, hq⟩ := List.mem_flatMap.mp hq
      obtain ⟨e, he, hq⟩ := List.mem_flatMap.mp hq
      rw [acC_key hq]
      obtain ⟨i0, i1, i2, i3, z0, z1, z2, z3, a0, a1, a2, a3, b0, b1, b2, b3, ee⟩ := emW_in he
      rw [ee, kO_pk]
      unfold ks15
      refine List.mem_flatMap.mpr ⟨nb z0, List.mem_range.mpr (nb14 hL hmd a0 b0), List.mem_flatMap.mpr ⟨nb z1, List.mem_range.mpr (nb14 hL hmd a1 b1), List.mem_flatMap.mpr ⟨nb z2, List.mem_range.mpr (nb14 hL hmd a2 b2), List.mem_map.mpr ⟨nb z3, List.mem_range.mpr (nb14 hL hmd a3 b3), rfl⟩⟩⟩⟩
    have := nodup_len (l := ((itL L hh md bw lo hi (tbM L md) v0 (n + 1)).map (fun p => p.1) : List Nat)) (m := ks15) (show ((itL L hh md bw lo hi (tbM L md) v0 (n + 1)).map (fun p => p.1)).Nodup from hnd) (fun a ha => by
      obtain ⟨p, hp, rfl⟩ := List.mem_map.mp ha
      exact hk p hp)
    rw [List.length_map] at this
    have := ks15_len
    omega
/-- the codes of a colour with so many tiles -/
def cL (r : Nat) : List Nat := if r = 0 then [0] else if r = 1 then [1, 3, 6, 10] else [2, 4, 5, 7, 8, 9, 11, 12, 13, 14, 15]
def cN (r : Nat) : Nat := if r = 0 then 1 else if r = 1 then 4 else 11
theorem cL_len (r : Nat) : (cL r).length = cN r := by
  unfold cL cN
  split
  · rfl
  · split <;> rfl
theorem fcL : ∀ L ∈ [3, 4], ∀ s ∈ r16, ∀ r ∈ [0, 1, 2], ∀ q ∈ clT L 2 s r, q ∈ cL r := by decide +kernel
def kL4 (r : V4) : List Nat := (cL r.1).flatMap fun a => (cL r.2.1).flatMap fun b => (cL r.2.2.1).flatMap fun c => (cL r.2.2.2).map fun d => pk4 a b c d
def kN4 (r : V4) : Nat := cN r.2.2.2 * (cL r.2.2.1).length * (cL r.2.1).length * (cL r.1).length
theorem kL4_len (r : V4) : (kL4 r).length ≤ kN4 r := by
  unfold kL4 kN4
  exact fl_len (fun a => fl_len (fun b => fl_len (fun c => by rw [List.length_map, cL_len]; exact Nat.le_refl _) _) _) _
def kP (t : V4) (g : Nat) : List Nat := if fit4 t (gd g) then kL4 (sub4 t (gd g)) else []
def kPn (t : V4) (g : Nat) : Nat := if fit4 t (gd g) then kN4 (sub4 t (gd g)) else 0
theorem fl_sum {α : Type} {f : Nat → List α} {g : Nat → Nat} (h : ∀ a, (f a).length ≤ g a) (n : Nat) : ((List.range n).flatMap f).length ≤ natSum g n := by
  induction n with
  | zero => exact Nat.zero_le _
  | succ n ih =>
    rw [List.range_succ, List.flatMap_append, List.length_append, List.flatMap_cons, List.flatMap_nil, List.append_nil]
    simp only [natSum]
    have := h n
    omega
theorem kP_sum : ∀ t ∈ all4, natSum (kPn t) 21 ≤ 65455 := by decide +kernel
theorem itL_len2 {L hh : Nat} {bw : Bool} {lo : Nat → Nat} (hL : L = 3 ∨ L = 4) (h2 : ∀ k, lo k ≤ 2) {n : Nat} (hn : n ≤ 20) : (itL L hh 2 bw lo lo (tbM L 2) (v0W 2) n).length ≤ 65455 := by
  rw [itL_ph hL h2 hn, List.length_map]
  cases n with
  | zero => exact (by decide : (1 : Nat) ≤ 65455)
  | succ n =>
    have hnd : nd (clN L hh lo (n + 1)) := mrg_nd _ List.nodup_nil
    have ht := loV_le h2 hh n
    have hk : ∀ p ∈ clN L hh lo (n + 1), p.1 ∈ (List.range 21).flatMap (kP (loV lo hh n)) := by
      refine mrg_sound (P := fun k _ => k ∈ (List.range 21).flatMap (kP (loV lo hh n))) (fun _ _ _ a _ => a) (fun p hp => absurd hp (by simp)) (fun q hq => ?_)
      obtain ⟨p, hp, hq⟩ := List.mem_flatMap.mp hq
      obtain ⟨g, hg, hq⟩ := List.mem_flatMap.mp hq
      refine List.mem_flatMap.mpr ⟨g, hg, ?_⟩
      unfold cgC at hq
      unfold kP
      split at hq
      · rename_i hf
        rw [if_pos hf]
        obtain ⟨e, he, rfl⟩ := List.mem_map.mp hq
        have hr := sub4_le ht (g := gd g)
        obtain ⟨s0, ⟨a0, -⟩, s1, ⟨a1, -⟩, s2, ⟨a2, -⟩, s3, ⟨a3, -⟩, rfl⟩ := (emW_mem hr).mp he
        dsimp only
        rw [kO_pk]
        unfold kL4
        have q0 := fcL L (in01 hL) _ (in16 (nib_lt p.1 0)) _ (in3 (at4_le hr 0)) _ (List.mem_map_of_mem a0)
        have q1 := fcL L (in01 hL) _ (in16 (nib_lt p.1 1)) _ (in3 (at4_le hr 1)) _ (List.mem_map_of_mem a1)
        have q2 := fcL L (in01 hL) _ (in16 (nib_lt p.1 2)) _ (in3 (at4_le hr 2)) _ (List.mem_map_of_mem a2)
        have q3 := fcL L (in01 hL) _ (in16 (nib_lt p.1 3)) _ (in3 (at4_le hr 3)) _ (List.mem_map_of_mem a3)
        exact List.mem_flatMap.mpr ⟨_, q0, List.mem_flatMap.mpr ⟨_, q1, List.mem_flatMap.mpr ⟨_, q2, List.mem_map.mpr ⟨_, q3, rfl⟩⟩⟩⟩
      · exact absurd hq (by simp)
    have h1 := nodup_len (l := ((clN L hh lo (n + 1)).map (fun p => p.1) : List Nat)) (m := (List.range 21).flatMap (kP (loV lo hh n))) (show ((clN L hh lo (n + 1)).map (fun p => p.1)).Nodup from hnd) (fun a ha => by
      obtain ⟨p, hp, rfl⟩ := List.mem_map.mp ha
      exact hk p hp)
    rw [List.length_map] at h1
    have h2 := fl_sum (f := kP (loV lo hh n)) (g := kPn (loV lo hh n)) (fun g => by
      unfold kP kPn
      split
      · exact kL4_len _
      · exact Nat.le_refl _) 21
    have h3 := kP_sum _ (all4_in ht)
    omega
