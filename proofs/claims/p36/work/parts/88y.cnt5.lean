/-! counting: the step, and the end -/
theorem val_nib {L : Nat} (hL : L = 3 ∨ L = 4) {k : Nat} {r : V4} (hr : le4 r) (hv : ∀ c, c < 4 → valC L (nib k c) = true) {z0 z1 z2 z3 : Int32} (h0 : z0 ∈ csW (tbM L 2) (nib k 0) (at4 r 0)) (h1 : z1 ∈ csW (tbM L 2) (nib k 1) (at4 r 1)) (h2 : z2 ∈ csW (tbM L 2) (nib k 2) (at4 r 2)) (h3 : z3 ∈ csW (tbM L 2) (nib k 3) (at4 r 3)) : kO z0 z1 z2 z3 < 65536 ∧ ∀ c, c < 4 → valC L (nib (kO z0 z1 z2 z3) c) = true := by
  obtain ⟨k1, k2, k3, k4, k5⟩ := nib_pk (nb_lt z0) (nb_lt z1) (nb_lt z2) (nb_lt z3)
  refine ⟨k1, ?_⟩
  rw [kO_pk]
  refine c4 ?_ ?_ ?_ ?_
  · rw [k2]; exact (fzv L (in01 hL) _ (in16 (nib_lt k 0)) (hv 0 (by decide)) _ (in3 (at4_le hr 0))).1 z0 h0
  · rw [k3]; exact (fzv L (in01 hL) _ (in16 (nib_lt k 1)) (hv 1 (by decide)) _ (in3 (at4_le hr 1))).1 z1 h1
  · rw [k4]; exact (fzv L (in01 hL) _ (in16 (nib_lt k 2)) (hv 2 (by decide)) _ (in3 (at4_le hr 2))).1 z2 h2
  · rw [k5]; exact (fzv L (in01 hL) _ (in16 (nib_lt k 3)) (hv 3 (by decide)) _ (in3 (at4_le hr 3))).1 z3 h3
theorem kap4_kO (z0 z1 z2 z3 : Int32) : kap4 (kO z0 z1 z2 z3) = pk4 (kap (nb z0)) (kap (nb z1)) (kap (nb z2)) (kap (nb z3)) := by
  obtain ⟨k1, k2, k3, k4, k5⟩ := nib_pk (nb_lt z0) (nb_lt z1) (nb_lt z2) (nb_lt z3)
  unfold kap4
  rw [kO_pk, k2, k3, k4, k5]
theorem FC_FR {L hh : Nat} {lo : Nat → Nat} (hL : L = 3 ∨ L = 4) (h2 : ∀ k, lo k ≤ 2) (d : Nat) : ∀ n k v, n + d = hh → k < 65536 → (∀ c, c < 4 → valC L (nib k c) = true) → v.1 < 1000000007 → FC L hh lo (d + 1) n (k, v) = FR L lo d n (kap4 k, v) := by
  induction d with
  | zero =>
    intro n k v hn hk hv hv1
    have e : n = hh := by omega
    subst e
    exact FC_end hL hv hv1
  | succ d ih =>
    intro n k v hn hk hv hv1
    show sm m2 (FC L hh lo (d + 1) (n + 1)) (clC L hh n lo (k, v)) = sm m2 (FR L lo d (n + 1)) (reC L n lo (kap4 k, v))
    unfold clC reC
    rw [sm_flatMap m2_CA, sm_flatMap m2_CA]
    have ep : sm m2 (fun g => sm m2 (FC L hh lo (d + 1) (n + 1)) (cgC L hh n lo (k, v) (gd g) (setsG g))) (List.range 21) = sm m2 (fun g => sm m2 (FC L hh lo (d + 1) (n + 1)) (cgC L hh n lo (k, v) (usG g) (usN g))) (List.range 21) := by
      have a := sm_map m2 (fun x : V4 × Nat => sm m2 (FC L hh lo (d + 1) (n + 1)) (cgC L hh n lo (k, v) x.1 x.2)) (fun g => (gd g, setsG g)) (List.range 21)
      have b := sm_map m2 (fun x : V4 × Nat => sm m2 (FC L hh lo (d + 1) (n + 1)) (cgC L hh n lo (k, v) x.1 x.2)) (fun g => (usG g, usN g)) (List.range 21)
      rw [← a, ← b]
      exact sm_perm m2_CA _ sGL
    rw [ep]
    refine sm_congr fun g hg => ?_
    obtain ⟨u, hu⟩ : ∃ u, u = usG g := ⟨_, rfl⟩
    obtain ⟨s, hs⟩ : ∃ s, s = usN g := ⟨_, rfl⟩
    rw [← hu, ← hs]
    have hnh : n < hh := by omega
    have hlo : ∀ c, c < 4 → at4 (loV lo hh n) c = lo (13 * c + n) := fun c hc => by
      unfold loV
      rw [at_lo4 lo hh n c hc, loC_lt hnh]
    have hfit : (fit4 (loV lo hh n) u = true) = (fiM (fun c => lo (13 * c + n)) (fun _ => 0) u 4 = true) := by
      refine propext ?_
      rw [fit4_iff, fiM_iff]
      exact ⟨fun q c hc => by have := q c hc; rw [hlo c hc] at this; omega, fun q c hc => by have := q c hc; rw [hlo c hc]; omega⟩
    unfold cgC rgC
    by_cases hf : fit4 (loV lo hh n) u = true
    · rw [if_pos hf, if_pos (hfit ▸ hf)]
      have hr : le4 (sub4 (loV lo hh n) u) := sub4_le (loV_le h2 hh n)
      have hru : ∀ c, c < 4 → ruM (fun c => lo (13 * c + n)) (fun _ => 0) u c = at4 (sub4 (loV lo hh n) u) c := fun c hc => by
        rw [at_sub4 _ _ c hc, hlo c hc]
        rfl
      obtain ⟨r, er⟩ : ∃ r, r = sub4 (loV lo hh n) u := ⟨_, rfl⟩
      rw [← er] at hr hru ⊢
      rw [sm_emW _ hr, sm_emM]
      have nk := (nib_kap4 k).2
      rw [nk 0 (by decide), nk 1 (by decide), nk 2 (by decide), nk 3 (by decide), hru 0 (by decide), hru 1 (by decide), hru 2 (by decide), hru 3 (by decide)]
      -- the reference's side, over the class's steps
      rw [sm_opts hL (nib_lt k 0) (hv 0 (by decide)) (at4_le hr 0)]
      have hop : ∀ c, opW 2 L lo lo hh (n + 1) c = sHo L (loC lo hh (n + 1) c) (loC lo hh (n + 2) c) (loC lo hh (n + 3) c) := fun c => by
        unfold opW
        rw [if_neg (by decide)]
        rw [show sMo 2 lo lo hh c (n + 1 + 1) = loC lo hh (n + 1) c from moC2 lo hh (n + 1) c, show sMo 2 lo lo hh c (n + 1 + 2) = loC lo hh (n + 2) c from moC2 lo hh (n + 2) c, show sMo 2 lo lo hh c (n + 1 + 3) = loC lo hh (n + 3) c from moC2 lo hh (n + 3) c]
      -- the worth of four steps
      obtain ⟨X, hX⟩ : ∃ X : Int32 → Int32 → Int32 → Int32 → Option N3, X = fun z0 z1 z2 z3 => FR L lo d (n + 1) (pk4 (kap (nb z0)) (kap (nb z1)) (kap (nb z2)) (kap (nb z3)), agN (s + bg1 z0 + bg1 z1 + bg1 z2 + bg1 z3) v) := ⟨_, rfl⟩
      have dead : ∀ z0 z1 z2 z3, z0 ∈ csW (tbM L 2) (nib k 0) (at4 r 0) → z1 ∈ csW (tbM L 2) (nib k 1) (at4 r 1) → z2 ∈ csW (tbM L 2) (nib k 2) (at4 r 2) → z3 ∈ csW (tbM L 2) (nib k 3) (at4 r 3) → (opB (opW 2 L lo lo hh (n + 1) 0) z0 = false ∨ opB (opW 2 L lo lo hh (n + 1) 1) z1 = false ∨ opB (opW 2 L lo lo hh (n + 1) 2) z2 = false ∨ opB (opW 2 L lo lo hh (n + 1) 3) z3 = false) → X z0 z1 z2 z3 = none := by
        intro z0 z1 z2 z3 m0 m1 m2' m3 hq
        apply Classical.byContradiction
        intro hne
        rw [hX] at hne
        dsimp only at hne
        rw [← kap4_kO] at hne
        obtain ⟨kb, kv⟩ := val_nib hL hr hv m0 m1 m2' m3
        have hall := FR_dead hL h2 (show n + 1 + d = hh by omega) kv hne
        obtain ⟨k1, k2, k3, k4, k5⟩ := nib_pk (nb_lt z0) (nb_lt z1) (nb_lt z2) (nb_lt z3)
        have w0 := hall 0 (by decide)
        have w1 := hall 1 (by decide)
        have w2 := hall 2 (by decide)
        have w3 := hall 3 (by decide)
        rw [kO_pk, k2, ← opB_ho, ← hop 0] at w0
        rw [kO_pk, k3, ← opB_ho, ← hop 1] at w1
        rw [kO_pk, k4, ← opB_ho, ← hop 2] at w2
        rw [kO_pk, k5, ← opB_ho, ← hop 3] at w3
        rcases hq with q | q | q | q
        · rw [w0] at q; exact absurd q (by decide)
        · rw [w1] at q; exact absurd q (by decide)
        · rw [w2] at q; exact absurd q (by decide)
        · rw [w3] at q; exact absurd q (by decide)
      have val : ∀ z0 z1 z2 z3, z0 ∈ csW (tbM L 2) (nib k 0) (at4 r 0) → z1 ∈ csW (tbM L 2) (nib k 1) (at4 r 1) → z2 ∈ csW (tbM L 2) (nib k 2) (at4 r 2) → z3 ∈ csW (tbM L 2) (nib k 3) (at4 r 3) → FC L hh lo (d + 1) (n + 1) (kO z0 z1 z2 z3, acN (z0 + z1 + z2 + z3) s v) = TN (tw1 z0) (TN (tw1 z1) (TN (tw1 z2) (TN (tw1 z3) (X z0 z1 z2 z3)))) := by
        intro z0 z1 z2 z3 m0 m1 m2' m3
        obtain ⟨kb, kv⟩ := val_nib hL hr hv m0 m1 m2' m3
        rw [ih (n + 1) _ _ (by omega) kb kv (Nat.mod_lt _ (by decide)), F_ac (FR_add L lo d (n + 1)) _ _ _ _ hv1]
        obtain ⟨t1, t2, -⟩ := bgS (a := z0) (b := z1) (c := z2) (d := z3) (fun z hz => by
          simp only [List.mem_cons, List.not_mem_nil, or_false] at hz
          rcases hz with rfl | rfl | rfl | rfl
          · exact fz L (in01 hL) _ (in16 (nib_lt k 0)) _ (in3 (at4_le hr 0)) _ m0
          · exact fz L (in01 hL) _ (in16 (nib_lt k 1)) _ (in3 (at4_le hr 1)) _ m1
          · exact fz L (in01 hL) _ (in16 (nib_lt k 2)) _ (in3 (at4_le hr 2)) _ m2'
          · exact fz L (in01 hL) _ (in16 (nib_lt k 3)) _ (in3 (at4_le hr 3)) _ m3)
        rw [t1, t2, kap4_kO, TN_add, TN_add, TN_add, hX]
        dsimp only
        rw [show bg1 z0 + bg1 z1 + bg1 z2 + bg1 z3 + s = s + bg1 z0 + bg1 z1 + bg1 z2 + bg1 z3 by omega]
      -- both are the sum over all steps
      have lhs : sm m2 (fun z0 => sm m2 (fun z1 => sm m2 (fun z2 => sm m2 (fun z3 => FC L hh lo (d + 1) (n + 1) (kO z0 z1 z2 z3, acN (z0 + z1 + z2 + z3) s v)) ((csW (tbM L 2) (nib k 3) (at4 r 3)).filter (opB (opW 2 L lo lo hh (n + 1) 3)))) ((csW (tbM L 2) (nib k 2) (at4 r 2)).filter (opB (opW 2 L lo lo hh (n + 1) 2)))) ((csW (tbM L 2) (nib k 1) (at4 r 1)).filter (opB (opW 2 L lo lo hh (n + 1) 1)))) ((csW (tbM L 2) (nib k 0) (at4 r 0)).filter (opB (opW 2 L lo lo hh (n + 1) 0))) = sm m2 (fun z0 => sm m2 (fun z1 => sm m2 (fun z2 => sm m2 (fun z3 => TN (tw1 z0) (TN (tw1 z1) (TN (tw1 z2) (TN (tw1 z3) (X z0 z1 z2 z3))))) (csW (tbM L 2) (nib k 3) (at4 r 3))) (csW (tbM L 2) (nib k 2) (at4 r 2))) (csW (tbM L 2) (nib k 1) (at4 r 1))) (csW (tbM L 2) (nib k 0) (at4 r 0)) := by
        have z4 : ∀ z0 z1 z2 z3, X z0 z1 z2 z3 = none → TN (tw1 z0) (TN (tw1 z1) (TN (tw1 z2) (TN (tw1 z3) (X z0 z1 z2 z3)))) = none := fun z0 z1 z2 z3 q => by rw [q, TN_none, TN_none, TN_none, TN_none]
        have s3 : ∀ z0 z1 z2, z0 ∈ csW (tbM L 2) (nib k 0) (at4 r 0) → z1 ∈ csW (tbM L 2) (nib k 1) (at4 r 1) → z2 ∈ csW (tbM L 2) (nib k 2) (at4 r 2) → sm m2 (fun z3 => FC L hh lo (d + 1) (n + 1) (kO z0 z1 z2 z3, acN (z0 + z1 + z2 + z3) s v)) ((csW (tbM L 2) (nib k 3) (at4 r 3)).filter (opB (opW 2 L lo lo hh (n + 1) 3))) = sm m2 (fun z3 => TN (tw1 z0) (TN (tw1 z1) (TN (tw1 z2) (TN (tw1 z3) (X z0 z1 z2 z3))))) (csW (tbM L 2) (nib k 3) (at4 r 3)) := fun z0 z1 z2 m0 m1 m2' => by
          rw [← sm_drop (p := opB (opW 2 L lo lo hh (n + 1) 3)) (fun z3 m3 q => z4 z0 z1 z2 z3 (dead z0 z1 z2 z3 m0 m1 m2' m3 (Or.inr (Or.inr (Or.inr q)))))]
          exact sm_congr fun z3 m3 => val z0 z1 z2 z3 m0 m1 m2' (List.mem_filter.mp m3).1
        have s2 : ∀ z0 z1, z0 ∈ csW (tbM L 2) (nib k 0) (at4 r 0) → z1 ∈ csW (tbM L 2) (nib k 1) (at4 r 1) → sm m2 (fun z2 => sm m2 (fun z3 => FC L hh lo (d + 1) (n + 1) (kO z0 z1 z2 z3, acN (z0 + z1 + z2 + z3) s v)) ((csW (tbM L 2) (nib k 3) (at4 r 3)).filter (opB (opW 2 L lo lo hh (n + 1) 3)))) ((csW (tbM L 2) (nib k 2) (at4 r 2)).filter (opB (opW 2 L lo lo hh (n + 1) 2))) = sm m2 (fun z2 => sm m2 (fun z3 => TN (tw1 z0) (TN (tw1 z1) (TN (tw1 z2) (TN (tw1 z3) (X z0 z1 z2 z3))))) (csW (tbM L 2) (nib k 3) (at4 r 3))) (csW (tbM L 2) (nib k 2) (at4 r 2)) := fun z0 z1 m0 m1 => by
          rw [← sm_drop (p := opB (opW 2 L lo lo hh (n + 1) 2)) (l := csW (tbM L 2) (nib k 2) (at4 r 2)) (fun z2 m2' q => sm_allnone fun z3 m3 => z4 z0 z1 z2 z3 (dead z0 z1 z2 z3 m0 m1 m2' m3 (Or.inr (Or.inr (Or.inl q)))))]
          exact sm_congr fun z2 m2' => s3 z0 z1 z2 m0 m1 (List.mem_filter.mp m2').1
        have s1 : ∀ z0, z0 ∈ csW (tbM L 2) (nib k 0) (at4 r 0) → sm m2 (fun z1 => sm m2 (fun z2 => sm m2 (fun z3 => FC L hh lo (d + 1) (n + 1) (kO z0 z1 z2 z3, acN (z0 + z1 + z2 + z3) s v)) ((csW (tbM L 2) (nib k 3) (at4 r 3)).filter (opB (opW 2 L lo lo hh (n + 1) 3)))) ((csW (tbM L 2) (nib k 2) (at4 r 2)).filter (opB (opW 2 L lo lo hh (n + 1) 2)))) ((csW (tbM L 2) (nib k 1) (at4 r 1)).filter (opB (opW 2 L lo lo hh (n + 1) 1))) = sm m2 (fun z1 => sm m2 (fun z2 => sm m2 (fun z3 => TN (tw1 z0) (TN (tw1 z1) (TN (tw1 z2) (TN (tw1 z3) (X z0 z1 z2 z3))))) (csW (tbM L 2) (nib k 3) (at4 r 3))) (csW (tbM L 2) (nib k 2) (at4 r 2))) (csW (tbM L 2) (nib k 1) (at4 r 1)) := fun z0 m0 => by
          rw [← sm_drop (p := opB (opW 2 L lo lo hh (n + 1) 1)) (l := csW (tbM L 2) (nib k 1) (at4 r 1)) (fun z1 m1 q => sm_allnone fun z2 m2' => sm_allnone fun z3 m3 => z4 z0 z1 z2 z3 (dead z0 z1 z2 z3 m0 m1 m2' m3 (Or.inr (Or.inl q))))]
          exact sm_congr fun z1 m1 => s2 z0 z1 m0 (List.mem_filter.mp m1).1
        rw [← sm_drop (p := opB (opW 2 L lo lo hh (n + 1) 0)) (l := csW (tbM L 2) (nib k 0) (at4 r 0)) (fun z0 m0 q => sm_allnone fun z1 m1 => sm_allnone fun z2 m2' => sm_allnone fun z3 m3 => z4 z0 z1 z2 z3 (dead z0 z1 z2 z3 m0 m1 m2' m3 (Or.inl q)))]
        exact sm_congr fun z0 m0 => s1 z0 (List.mem_filter.mp m0).1
      rw [lhs]
      refine sm_congr fun z0 m0 => ?_
      dsimp only
      rw [sm_opts hL (nib_lt k 1) (hv 1 (by decide)) (at4_le hr 1), TN_sm]
      refine sm_congr fun z1 m1 => ?_
      rw [sm_opts hL (nib_lt k 2) (hv 2 (by decide)) (at4_le hr 2), TN_sm, TN_sm]
      refine sm_congr fun z2 m2' => ?_
      rw [sm_opts hL (nib_lt k 3) (hv 3 (by decide)) (at4_le hr 3), TN_sm, TN_sm, TN_sm]
      refine sm_congr fun z3 m3 => ?_
      rw [hX]
    · rw [if_neg hf, if_neg (fun q => hf (hfit ▸ q))]
      rfl
/-- the class's last list of counts -/
theorem itL_count {L hh : Nat} {bw : Bool} {lo : Nat → Nat} (hL : L = 3 ∨ L = 4) (h2 : ∀ k, lo k ≤ 2) (h13 : hh ≤ 13) : (itL L hh 2 bw lo lo (tbM L 2) (v0W 2) (hh + 1) = [] ∧ cntR L hh lo = none) ∨ ∃ v, itL L hh 2 bw lo lo (tbM L 2) (v0W 2) (hh + 1) = [(0, phC v)] ∧ cntR L hh lo = some v ∧ bdN hh v := by
  have hz : ∀ p ∈ clN L hh lo (hh + 1), p.1 = 0 := by
    refine mrg_sound (P := fun k _ => k = 0) (fun _ _ _ a _ => a) (fun p hp => absurd hp (by simp)) (fun q hq => ?_)
    obtain ⟨p, hp, hq⟩ := List.mem_flatMap.mp hq
    obtain ⟨g, hg, hq⟩ := List.mem_flatMap.mp hq
    unfold cgC at hq
    split at hq
    · obtain ⟨e, he, rfl⟩ := List.mem_map.mp hq
      have h0 : loV lo hh hh = (0, 0, 0, 0) := v4_ext fun c hc => by
        unfold loV
        rw [at_lo4 lo hh hh c hc, at40 c hc, loC_ge (Nat.le_refl _)]
      have hr0 : ∀ c, c < 4 → at4 (sub4 (loV lo hh hh) (gd g)) c = 0 := fun c hc => by rw [at_sub4 _ _ c hc, h0, at40 c hc]; omega
      obtain ⟨s0, ⟨a0, -⟩, s1, ⟨a1, -⟩, s2, ⟨a2, -⟩, s3, ⟨a3, -⟩, rfl⟩ := (emW_mem (sub4_le (loV_le h2 hh hh))).mp he
      rw [hr0 0 (by decide)] at a0
      rw [hr0 1 (by decide)] at a1
      rw [hr0 2 (by decide)] at a2
      rw [hr0 3 (by decide)] at a3
      dsimp only
      rw [kO_pk, fend L (in01 hL) 2 (by simp) _ (in16 (nib_lt p.1 0)) _ (List.mem_map_of_mem a0), fend L (in01 hL) 2 (by simp) _ (in16 (nib_lt p.1 1)) _ (List.mem_map_of_mem a1), fend L (in01 hL) 2 (by simp) _ (in16 (nib_lt p.1 2)) _ (List.mem_map_of_mem a2), fend L (in01 hL) 2 (by simp) _ (in16 (nib_lt p.1 3)) _ (List.mem_map_of_mem a3)]
      rfl
    · exact absurd hq (by simp)
  have hnd : nd (clN L hh lo (hh + 1)) := mrg_nd _ List.nodup_nil
  have ht := FC_total L hh lo 0 (hh + 1)
  have v0 : ∀ c, c < 4 → valC L (nib 0 c) = true := fun c _ => by
    rw [nib0]
    rcases hL with rfl | rfl <;> decide
  have he : FC L hh lo (0 + (hh + 1)) 0 (0, (1, 0, 0)) = cntR L hh lo := by
    rw [Nat.zero_add]
    have := FC_FR (hh := hh) hL h2 hh 0 0 (1, 0, 0) (by omega) (by decide) v0 (by decide)
    rw [this]
    rfl
  rw [he] at ht
  have hb := (rs_cnt (L := L) (N := hh) (ex := lo) (bw := false) h2 h13).2
  cases hl : clN L hh lo (hh + 1) with
  | nil =>
    refine Or.inl ⟨by rw [itL_ph hL h2 (by omega), hl]; rfl, ?_⟩
    rw [hl] at ht
    exact ht.symm
  | cons p l =>
    cases l with
    | nil =>
      rw [hl] at ht hz
      have e0 := hz p List.mem_cons_self
      have e1 : cntR L hh lo = some p.2 := by
        rw [← ht]
        show some p.2 = opO m2 (some p.2) none
        rfl
      refine Or.inr ⟨p.2, ?_, e1, hb _ e1⟩
      rw [itL_ph hL h2 (by omega), hl]
      show [(p.1, phC p.2)] = _
      rw [e0]
    | cons q l =>
      rw [hl] at hz hnd
      have e1 := hz p (by simp)
      have e2 := hz q (by simp)
      exact absurd hnd (by unfold nd; simp [e1, e2])
