/-! counting: the class's list over numbers -/
theorem mrg_id {V : Type} (m : V → V → V) {l C : List (Nat × V)} (h : nd (l ++ C)) : mrg m l C = l ++ C := by
  unfold mrg
  induction C generalizing l with
  | nil => rw [List.append_nil]; rfl
  | cons c C ih =>
    rw [List.foldl_cons]
    have hc : c.1 ∉ l.map (fun p => p.1) := fun q => by
      unfold nd at h
      rw [List.map_append, List.map_cons] at h
      exact (List.nodup_append.mp h).2.2 c.1 q c.1 List.mem_cons_self rfl
    have e : ins m l c.1 c.2 = l ++ [c] := ins_out c.2 hc
    rw [e, ih (by rw [List.append_assoc]; exact h), List.append_assoc]
    rfl
theorem gd_nd : ((List.range 21).map gd).Nodup := by decide +kernel
theorem gd_inj {a b : Nat} (ha : a < 21) (hb : b < 21) (h : gd a = gd b) : a = b := by
  have h0 : ((List.range 21).all fun a => (List.range 21).all fun b => !(gd a == gd b) || a == b) = true := by decide +kernel
  have h1 := List.all_eq_true.mp (List.all_eq_true.mp h0 a (List.mem_range.mpr ha)) b (List.mem_range.mpr hb)
  rw [h, beq_self_eq_true] at h1
  exact eq_of_beq (by simpa using h1)
theorem sub4_inj {t u v : V4} (hu : fit4 t u = true) (hv : fit4 t v = true) (h : sub4 t u = sub4 t v) : u = v := by
  rw [fit4_iff] at hu hv
  refine v4_ext fun c hc => ?_
  have h1 := at_sub4 t u c hc
  have h2 := at_sub4 t v c hc
  rw [h] at h1
  have := hu c hc
  have := hv c hc
  omega
theorem nd_flat1 {V : Type} {f : Nat → List (Nat × V)} {key : Nat → Nat} (l : List Nat) (hl : l.Nodup) (h1 : ∀ g ∈ l, ∀ p ∈ f g, p.1 = key g) (h2 : ∀ g ∈ l, (f g).length ≤ 1) (h3 : ∀ g ∈ l, ∀ g' ∈ l, f g ≠ [] → f g' ≠ [] → key g = key g' → g = g') : nd (l.flatMap f) := by
  induction l with
  | nil => exact List.nodup_nil
  | cons x l ih =>
    obtain ⟨hx, hl2⟩ := List.nodup_cons.mp hl
    unfold nd
    rw [List.flatMap_cons, List.map_append]
    refine List.nodup_append.mpr ⟨?_, ih hl2 (fun g hg => h1 g (List.mem_cons_of_mem _ hg)) (fun g hg => h2 g (List.mem_cons_of_mem _ hg)) (fun g hg g' hg' => h3 g (List.mem_cons_of_mem _ hg) g' (List.mem_cons_of_mem _ hg')), fun a ha b hb e => ?_⟩
    · have := h2 x List.mem_cons_self
      cases hfx : f x with
      | nil => exact List.nodup_nil
      | cons p r =>
        rw [hfx] at this
        cases r with
        | nil => simp
        | cons q r => simp at this
    · obtain ⟨p, hp, rfl⟩ := List.mem_map.mp ha
      obtain ⟨q, hq, rfl⟩ := List.mem_map.mp hb
      obtain ⟨g', hg', hq⟩ := List.mem_flatMap.mp hq
      have k1 := h1 x List.mem_cons_self p hp
      have k2 := h1 g' (List.mem_cons_of_mem _ hg') q hq
      have := h3 x List.mem_cons_self g' (List.mem_cons_of_mem _ hg') (fun z => by rw [z] at hp; exact absurd hp (by simp)) (fun z => by rw [z] at hq; exact absurd hq (by simp)) (by rw [← k1, ← k2, e])
      exact hx (this ▸ hg')
theorem xs4_2 (lo : Nat → Nat) (hh n : Nat) : xs4 2 lo lo hh (n + 1) = (0, 0, 0, 0) := v4_ext fun c hc => by
  rw [at_xs4 2 lo lo hh n c hc, at40 c hc]
  by_cases h : n < hh
  · rw [moC_lt h, loC_lt h, if_neg (by decide)]; omega
  · rw [moC_ge (by omega)]; omega
theorem add4_0 (t : V4) : add4 t (0, 0, 0, 0) = t := rfl
theorem gwL_2 {lo : Nat → Nat} (h2 : ∀ k, lo k ≤ 2) (bw : Bool) (hh n : Nat) : gwL 2 bw (n + 1) (lo4 lo hh (n + 1)) (xs4 2 lo lo hh (n + 1)) = (List.range 21).flatMap (gaC 2 (loV lo hh n) (gF 2 bw (n + 1) (0, 0, 0, 0) 4) (gS 2 (n + 1) (0, 0, 0, 0) 4)) := by
  have ht : le4 (loV lo hh n) := le4_iff.mpr fun c hc => by
    unfold loV
    rw [at_lo4 lo hh n c hc]
    have := lm_le (md := 1) (lo := lo) (hi := lo) (fun k => ⟨h2 k, h2 k, Nat.le_refl _⟩) hh n c
    omega
  rw [gwL_mrg, xs4_2]
  have e : wyC 2 bw (n + 1) (lo4 lo hh (n + 1)) (0, 0, 0, 0) = (List.range 21).flatMap (gaC 2 (loV lo hh n) (gF 2 bw (n + 1) (0, 0, 0, 0) 4) (gS 2 (n + 1) (0, 0, 0, 0) 4)) := by
    unfold wyC
    simp only [Nat.zero_add, show List.range 1 = [0] from rfl, List.flatMap_cons, List.flatMap_nil, List.append_nil]
    unfold woC
    rw [if_neg (fun q => absurd q.1 (by decide)), add4_0]
    rfl
  rw [e, mrg_id _ (l := [])]
  · rfl
  · rw [List.nil_append]
    refine nd_flat1 (key := fun g => cd4 (sub4 (loV lo hh n) (gd g))) _ List.nodup_range (fun g _ p hp => ?_) (fun g _ => ?_) (fun g hg g' hg' q1 q2 e => ?_)
    · unfold gaC at hp
      split at hp
      · rw [List.mem_singleton.mp hp]
      · exact absurd hp (by simp)
    · unfold gaC
      split
      · exact Nat.le_refl _
      · exact Nat.zero_le _
    · have f1 : fit4 (loV lo hh n) (gd g) = true := by
        unfold gaC at q1
        split at q1
        · assumption
        · exact absurd rfl q1
      have f2 : fit4 (loV lo hh n) (gd g') = true := by
        unfold gaC at q2
        split at q2
        · assumption
        · exact absurd rfl q2
      exact gd_inj (List.mem_range.mp hg) (List.mem_range.mp hg') (sub4_inj f1 f2 (cd4_inj (sub4_le ht) (sub4_le ht) e))
theorem setsG_le (g : Nat) : setsG g ≤ 2 := by
  unfold setsG
  split
  · omega
  · split <;> omega
theorem zs_of {L k : Nat} {r : V4} (hL : L = 3 ∨ L = 4) (hr : le4 r) {op : Nat → Int32} {e : Nat × Int32} (he : e ∈ emW (tbM L 2) op k (cd4 r)) : (∃ w, e.2 = nI w ∧ w < 2 ^ 31 ∧ tw1 e.2 = w / 256 % 8 ∧ bg1 e.2 = w / 65536 % 16) ∧ tw1 e.2 ≤ 4 ∧ bg1 e.2 ≤ 8 := by
  obtain ⟨s0, ⟨a0, -⟩, s1, ⟨a1, -⟩, s2, ⟨a2, -⟩, s3, ⟨a3, -⟩, rfl⟩ := (emW_mem hr).mp he
  have q0 := fz L (in01 hL) _ (in16 (nib_lt k 0)) _ (in3 (at4_le hr 0)) s0 a0
  have q1 := fz L (in01 hL) _ (in16 (nib_lt k 1)) _ (in3 (at4_le hr 1)) s1 a1
  have q2 := fz L (in01 hL) _ (in16 (nib_lt k 2)) _ (in3 (at4_le hr 2)) s2 a2
  have q3 := fz L (in01 hL) _ (in16 (nib_lt k 3)) _ (in3 (at4_le hr 3)) s3 a3
  obtain ⟨t1, t2, t3⟩ := bgS (a := s0) (b := s1) (c := s2) (d := s3) (fun z hz => by
    simp only [List.mem_cons, List.not_mem_nil, or_false] at hz
    rcases hz with rfl | rfl | rfl | rfl <;> assumption)
  refine ⟨t3, ?_, ?_⟩
  · dsimp only; omega
  · dsimp only; omega
theorem loV_le {lo : Nat → Nat} (h2 : ∀ k, lo k ≤ 2) (hh n : Nat) : le4 (loV lo hh n) := le4_iff.mpr fun c hc => by
  unfold loV
  rw [at_lo4 lo hh n c hc]
  have := lm_le (md := 1) (lo := lo) (hi := lo) (fun k => ⟨h2 k, h2 k, Nat.le_refl _⟩) hh n c
  omega
theorem clC_bd {L hh n : Nat} {lo : Nat → Nat} (hL : L = 3 ∨ L = 4) (h2 : ∀ k, lo k ≤ 2) {p : Nat × N3} (hp : bdN n p.2) : ∀ q ∈ clC L hh n lo p, bdN (n + 1) q.2 := by
  intro q hq
  obtain ⟨g, hg, hq⟩ := List.mem_flatMap.mp hq
  unfold cgC at hq
  split at hq
  · obtain ⟨e, he, rfl⟩ := List.mem_map.mp hq
    have := (zs_of hL (sub4_le (loV_le h2 hh n)) he).2.2
    have := setsG_le g
    obtain ⟨b1, b2, b3⟩ := hp
    refine ⟨Nat.mod_lt _ (by decide), ?_, ?_⟩
    · unfold acN; dsimp only; omega
    · unfold acN; dsimp only; omega
  · exact absurd hq (by simp)
theorem clN_bd {L hh : Nat} {lo : Nat → Nat} (hL : L = 3 ∨ L = 4) (h2 : ∀ k, lo k ≤ 2) (n : Nat) : ∀ p ∈ clN L hh lo n, bdN n p.2 := by
  induction n with
  | zero =>
    intro p hp
    rw [show clN L hh lo 0 = [(0, (1, 0, 0))] from rfl] at hp
    rw [List.mem_singleton.mp hp]
    exact ⟨(by decide : (1 : Nat) < 1000000007), Nat.le_refl _, Nat.le_refl _⟩
  | succ n ih =>
    refine mrg_sound (P := fun _ v => bdN (n + 1) v) (fun _ v w a b => bdN_m2 a b) (fun p hp => absurd hp (by simp)) (fun q hq => ?_)
    obtain ⟨p, hp, hq⟩ := List.mem_flatMap.mp hq
    exact clC_bd hL h2 (ih p hp) q hq
theorem flatMap_assoc' {α β γ : Type} (f : α → List β) (g : β → List γ) (l : List α) : (l.flatMap f).flatMap g = l.flatMap (fun a => (f a).flatMap g) := by
  induction l with
  | nil => rfl
  | cons x l ih => rw [List.flatMap_cons, List.flatMap_append, List.flatMap_cons, ih]
theorem flatMap_single {α β : Type} (f : α → β) (l : List α) : l.flatMap (fun a => [f a]) = l.map f := by
  induction l with
  | nil => rfl
  | cons x l ih => rw [List.flatMap_cons, List.map_cons, ih]; rfl
theorem ctW_ph {L hh n : Nat} {lo : Nat → Nat} {bw : Bool} (hL : L = 3 ∨ L = 4) (h2 : ∀ k, lo k ≤ 2) (hn : n ≤ 20) {p : Nat × N3} (hp : bdN n p.2) : ctW 2 (tbM L 2) (opW 2 L lo lo hh (n + 1)) (suW L lo hh (n + 1)) (gwL 2 bw (n + 1) (lo4 lo hh (n + 1)) (xs4 2 lo lo hh (n + 1))) (p.1, phC p.2) = (clC L hh n lo p).map (fun q => (q.1, phC q.2)) := by
  unfold ctW
  rw [gwL_2 h2, flatMap_assoc']
  unfold clC
  rw [map_flatMap']
  refine flatMap_congr' fun g hg => ?_
  unfold gaC cgC
  split
  · rw [List.flatMap_cons, List.flatMap_nil, List.append_nil, List.map_map]
    dsimp only
    rw [if_pos rfl, ← flatMap_single]
    refine flatMap_congr' fun e he => ?_
    obtain ⟨q1, q2, q3⟩ := zs_of hL (sub4_le (loV_le h2 hh n)) he
    unfold acC
    rw [act2_ph hp hn q1 q2 (setsG_le g)]
    rfl
  · rfl
theorem itL_ph {L hh : Nat} {lo : Nat → Nat} {bw : Bool} (hL : L = 3 ∨ L = 4) (h2 : ∀ k, lo k ≤ 2) {n : Nat} (hn : n ≤ 20) : itL L hh 2 bw lo lo (tbM L 2) (v0W 2) n = (clN L hh lo n).map (fun p => (p.1, phC p.2)) := by
  induction n with
  | zero => rfl
  | succ n ih =>
    rw [itL_mrg, ih (by omega), flatMap_map']
    have e : (clN L hh lo n).flatMap (fun p => ctW 2 (tbM L 2) (opW 2 L lo lo hh (n + 1)) (suW L lo hh (n + 1)) (gwL 2 bw (n + 1) (lo4 lo hh (n + 1)) (xs4 2 lo lo hh (n + 1))) (p.1, phC p.2)) = ((clN L hh lo n).flatMap (clC L hh n lo)).map (fun p => (p.1, phC p.2)) := by
      rw [map_flatMap']
      exact flatMap_congr' fun p hp => ctW_ph hL h2 (by omega) (clN_bd hL h2 n p hp)
    rw [e]
    exact (mrg_map (φ := phC) (m := mgL 2) (m' := m2) (P := bdN (n + 1)) (fun x y a b => ⟨mgL_ph (by omega) a b, bdN_m2 a b⟩) (l := []) (C := (clN L hh lo n).flatMap (clC L hh n lo)) (fun p hp => absurd hp (by simp)) (fun q hq => by
      obtain ⟨p, hp, hq⟩ := List.mem_flatMap.mp hq
      exact clC_bd hL h2 (clN_bd hL h2 n p hp) q hq)).1
