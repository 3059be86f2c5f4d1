/-! the class: the kinds that are alone -/
theorem acC3_mem {su : Nat → Int32} {v w : Int64 × Int64} {e : Nat × Int32} {q : Nat × Int64 × Int64} : q ∈ acC 3 su v w e ↔ ¬ lg_cmp (wxW su v.1 w.1 (nI e.1)) 0 = 0 ∧ q = (e.1, wxW su v.1 w.1 (nI e.1), v.2) := by
  unfold acC actW
  rw [if_neg (by decide), if_neg (by decide), if_pos rfl]
  by_cases h : lg_cmp (wxW su v.1 w.1 (nI e.1)) 0 = 0
  · rw [if_pos h]
    exact ⟨fun q => absurd q (by simp), fun q => absurd h q.1⟩
  · rw [if_neg h]
    exact ⟨fun q => ⟨h, List.mem_singleton.mp q⟩, fun q => List.mem_singleton.mpr q.2⟩
theorem labX_up0 {x : Nat → Nat → Nat} {n i : Nat} (h : labX x n i) : labX (upx x n (at4 (0, 0, 0, 0))) (n + 1) i := by
  rcases h with ⟨e, h⟩ | ⟨m0, c0, h1, h2, h3, h4, h5⟩
  · exact Or.inl ⟨e, up_x (fun m hm c hc => by rw [upx_o _ _ _ hm]; exact h m hm c hc) (fun c hc => by rw [upx_s]; exact at40 c hc)⟩
  · refine Or.inr ⟨m0, c0, by omega, h2, h3, h4, up_x (fun m hm c hc => by rw [upx_o _ _ _ hm]; exact h5 m hm c hc) (fun c hc => ?_)⟩
    rw [upx_s, at40 c hc, if_neg (by omega)]
theorem labX_up1 {x : Nat → Nat → Nat} {n c : Nat} (hc : c < 4) (hn : n < 13) (h : labX x n 52) : labX (upx x n (at4 (un4 c))) (n + 1) (13 * c + n) := by
  rcases h with ⟨-, h⟩ | ⟨m0, c0, h1, h2, h3, h4, h5⟩
  · refine Or.inr ⟨n, c, by omega, hc, rfl, by omega, up_x (fun m hm d hd => ?_) (fun d hd => ?_)⟩
    · rw [upx_o _ _ _ hm, h m hm d hd, if_neg (by omega)]
    · rw [upx_s, un4_at c d hd]
      by_cases e : d = c
      · rw [if_pos e, if_pos ⟨rfl, e⟩]
      · rw [if_neg e, if_neg (fun q => e q.2)]
  · omega
theorem itL3_sound {L hh : Nat} {bw : Bool} {lo hi : Nat → Nat} (H : LhC lo hi) {n : Nat} (hn : n ≤ hh + 1) (h13 : hh ≤ 13) : ∀ p ∈ itL L hh 3 bw lo hi (tbM L 3) (v0W 3) n, (∃ pt x, bdC 3 lo hi hh x n ∧ Pth (clT L 3) (tC lo hh x) pt n p.1) ∧ ∀ i, hb p.2.1 i → ∃ pt x, bdC 3 lo hi hh x n ∧ Pth (clT L 3) (tC lo hh x) pt n p.1 ∧ labX x n i := by
  induction n with
  | zero =>
    intro p hp
    rw [itL_0] at hp
    rw [List.mem_singleton.mp hp]
    have h0 : ∀ x : Nat → Nat → Nat, Pth (clT L 3) (tC lo hh x) (fun _ => (0, 0, 0, 0)) 0 0 := fun x => ⟨fun m hm => absurd hm (Nat.not_lt_zero m), by decide, fun c hc => nib0 c⟩
    refine ⟨⟨_, fun _ _ => 0, fun m hm => absurd hm (Nat.not_lt_zero m), h0 _⟩, fun i hi => ⟨_, fun _ _ => 0, fun m hm => absurd hm (Nat.not_lt_zero m), h0 _, Or.inl ⟨?_, fun m hm => absurd hm (Nat.not_lt_zero m)⟩⟩⟩
    exact (hb_bare i (hb_lt hi)).mp hi
  | succ n ih =>
    rw [itL_mrg]
    refine mrg_sound (P := fun k (v : Int64 × Int64) => (∃ pt x, bdC 3 lo hi hh x (n + 1) ∧ Pth (clT L 3) (tC lo hh x) pt (n + 1) k) ∧ ∀ i, hb v.1 i → ∃ pt x, bdC 3 lo hi hh x (n + 1) ∧ Pth (clT L 3) (tC lo hh x) pt (n + 1) k ∧ labX x (n + 1) i) ?_ (fun p hp => absurd hp (by simp)) ?_
    · intro k v w hv hw
      refine ⟨hv.1, fun i hi => ?_⟩
      rcases (mgL3_bit v w i).mp hi with h | h
      · exact hv.2 i h
      · exact hw.2 i h
    · intro q hq
      obtain ⟨p, hp, hq⟩ := List.mem_flatMap.mp hq
      obtain ⟨⟨pt0, x0, b0, P0⟩, hbits⟩ := ih (by omega) p hp
      obtain ⟨w, hw, hq⟩ := List.mem_flatMap.mp hq
      obtain ⟨e, he, hq⟩ := List.mem_flatMap.mp hq
      obtain ⟨-, rfl⟩ := acC3_mem.mp hq
      obtain ⟨⟨m', hm'0, g', hg', hf', ew'⟩, wbits⟩ := gw3_sound h13 w hw
      -- a step that takes m besides
      have step : ∀ m : V4, (∀ c, c < 4 → at4 m c ≤ moC 3 lo hi hh n c - loC lo hh n c) → (∃ g, g < 21 ∧ fit4 (add4 (lo4 lo hh (n + 1)) m) (gd g) = true ∧ w.1 = cd4 (sub4 (add4 (lo4 lo hh (n + 1)) m) (gd g))) → ∀ pt x, bdC 3 lo hi hh x n → Pth (clT L 3) (tC lo hh x) pt n p.1 → bdC 3 lo hi hh (upx x n (at4 m)) (n + 1) ∧ ∃ pt', Pth (clT L 3) (tC lo hh (upx x n (at4 m))) pt' (n + 1) e.1 := by
        rintro m hm ⟨g, hg, hf, ew⟩ pt x hx hP
        have hlo : ∀ c, c < 4 → loC lo hh n c + at4 m c ≤ 2 := fun c hc => by
          have := hm c hc
          have := lm_le (md := 3) H hh n c
          omega
        obtain ⟨pp, hpp, egp, -⟩ := fg1 g hg
        rw [egp] at hf ew
        rw [fit4_iff] at hf
        have hr4 : le4 (sub4 (add4 (lo4 lo hh (n + 1)) m) (usG pp)) := le4_iff.mpr fun c hc => by
          rw [at_sub4 _ _ c hc, at_add4 _ _ c hc, at_lo4 lo hh n c hc]
          have := hlo c hc
          omega
        have he2 := he
        rw [ew] at he2
        obtain ⟨s0, ⟨a0, -⟩, s1, ⟨a1, -⟩, s2, ⟨a2, -⟩, s3, ⟨a3, -⟩, ee⟩ := (emW_mem hr4).mp he2
        have er : ∀ c, c < 4 → at4 (sub4 (add4 (lo4 lo hh (n + 1)) m) (usG pp)) c = loC lo hh n c + at4 m c - at4 (usG pp) c := fun c hc => by rw [at_sub4 _ _ c hc, at_add4 _ _ c hc, at_lo4 lo hh n c hc]
        rw [er 0 (by decide)] at a0
        rw [er 1 (by decide)] at a1
        rw [er 2 (by decide)] at a2
        rw [er 3 (by decide)] at a3
        have hU := Pth_up (q := fun c => match c with | 0 => nb s0 | 1 => nb s1 | 2 => nb s2 | _ => nb s3) clT_lt' hP hpp (fun c hc => by
          have := hf c hc
          rw [at_add4 _ _ c hc, at_lo4 lo hh n c hc] at this
          exact this) (c4 (List.mem_map_of_mem a0) (List.mem_map_of_mem a1) (List.mem_map_of_mem a2) (List.mem_map_of_mem a3))
        refine ⟨up_x (fun j hj c hc => by rw [upx_o _ _ _ hj]; exact hx j hj c hc) (fun c hc => by rw [upx_s]; exact hm c hc), upx pt n (usG pp), ?_⟩
        rw [ee]; exact hU
      obtain ⟨q1, pt', q2⟩ := step m' hm'0 ⟨g', hg', hf', ew'⟩ pt0 x0 b0 P0
      have hk : e.1 < 65536 := q2.2.1
      refine ⟨⟨pt', _, q1, q2⟩, fun i hi => ?_⟩
      rcases (wx_bit _ p.2.1 w.2.1 hk i).1 hi with ⟨hy, hx⟩ | ⟨hx, hy, hne⟩
      · obtain ⟨pt, x, c1, c2, c3⟩ := hbits i hx
        obtain ⟨m, hm, hg, hd⟩ := wbits 52 hy
        have em : m = (0, 0, 0, 0) := by
          rcases hd with ⟨-, e⟩ | ⟨c, hc, -, e, hn2⟩
          · exact e
          · omega
        subst em
        obtain ⟨r1, pt2, r2⟩ := step _ hm hg pt x c1 c2
        exact ⟨pt2, _, r1, r2, labX_up0 c3⟩
      · obtain ⟨pt, x, c1, c2, c3⟩ := hbits 52 hx
        obtain ⟨m, hm, hg, hd⟩ := wbits i hy
        rcases hd with ⟨e, -⟩ | ⟨c, hc, em, e, hn2⟩
        · exact absurd e hne
        · subst em
          obtain ⟨r1, pt2, r2⟩ := step _ hm hg pt x c1 c2
          exact ⟨pt2, _, r1, r2, e ▸ labX_up1 hc (by omega) c3⟩
/-- one tile of a kind besides -/
def unX (kk m c : Nat) : Nat := if m = kk % 13 ∧ c = kk / 13 then 1 else 0
def lbl (kk n : Nat) : Nat := if n ≤ kk % 13 then 52 else kk
theorem itL3_compl {L hh : Nat} {bw : Bool} {lo hi : Nat → Nat} (H : LhC lo hi) (hL : L = 3 ∨ L = 4) (h13 : hh ≤ 13) {kk : Nat} (hkk : kk < 52) (hx : ∀ N, bdC 3 lo hi hh (unX kk) N) {n : Nat} (hn1 : n ≤ hh + 1) {k : Nat} {pt : Nat → V4} (h : Pth (clT L 3) (tC lo hh (unX kk)) pt n k) (hl : liveC L 3 lo hh (unX kk) pt n k) : ∃ v, (k, v) ∈ itL L hh 3 bw lo hi (tbM L 3) (v0W 3) n ∧ hb v.1 (lbl kk n) := by
  induction n generalizing k with
  | zero =>
    obtain ⟨-, hk, hc⟩ := h
    have e : k = 0 := by
      have h0 : nib k 0 = 0 := hc 0 (by decide)
      have h1 : nib k 1 = 0 := hc 1 (by decide)
      have h2 : nib k 2 = 0 := hc 2 (by decide)
      have h3 : nib k 3 = 0 := hc 3 (by decide)
      have := pk_nib hk
      rw [h0, h1, h2, h3] at this
      exact this.symm
    subst e
    refine ⟨_, by rw [itL_0]; exact List.mem_singleton.mpr rfl, ?_⟩
    unfold lbl
    rw [if_pos (Nat.zero_le _)]
    exact (hb_bare 52 (by decide)).mpr rfl
  | succ n ih =>
    obtain ⟨hfit, hk, hc⟩ := h
    obtain ⟨s0, a0, b0⟩ := hc 0 (by decide)
    obtain ⟨s1, a1, b1⟩ := hc 1 (by decide)
    obtain ⟨s2, a2, b2⟩ := hc 2 (by decide)
    obtain ⟨s3, a3, b3⟩ := hc 3 (by decide)
    have hlt : ∀ {r : Nat → Nat} {s : Nat}, colR (clT L 3) r n s → s < 16 := fun h => colR_lt clT_lt' h
    obtain ⟨k1, k2, k3, k4, k5⟩ := nib_pk (hlt a0) (hlt a1) (hlt a2) (hlt a3)
    have hpre : ∀ c, c < 4 → ∀ s, nib k c ∈ clT L 3 s (lft (tC lo hh (unX kk)) pt c n) → ∃ e, colP (clT L 3) (lft (tC lo hh (unX kk)) pt c) n 3 s e := fun c hc s hs => by
      obtain ⟨e, he⟩ := hl c hc
      obtain ⟨e2, he2⟩ := colP_cut he
      exact ⟨e2, nib k c, hs, he2⟩
    obtain ⟨v, hv1, hv2⟩ := ih (by omega) (k := pk4 s0 s1 s2 s3) ⟨fun m hm => hfit m (by omega), k1, c4 (by rw [k2]; exact a0) (by rw [k3]; exact a1) (by rw [k4]; exact a2) (by rw [k5]; exact a3)⟩ (c4 (by rw [k2]; exact hpre 0 (by decide) _ b0) (by rw [k3]; exact hpre 1 (by decide) _ b1) (by rw [k4]; exact hpre 2 (by decide) _ b2) (by rw [k5]; exact hpre 3 (by decide) _ b3))
    obtain ⟨⟨p, hp, eg⟩, hgf⟩ := hfit n (by omega)
    obtain ⟨g, hg, egp, -⟩ := fg2 p hp
    have hxn := hx (n + 1) n (by omega)
    have hmc : ∀ c, c < 4 → at4 (mk4 (unX kk n)) c = unX kk n c := at_mk4 _
    have hfg : fit4 (add4 (lo4 lo hh (n + 1)) (mk4 (unX kk n))) (gd g) = true := fit4_iff.mpr fun c hc => by
      rw [egp, at_add4 _ _ c hc, at_lo4 lo hh n c hc, hmc c hc, ← eg]
      exact hgf c hc
    -- the way's label
    have hj : (n = kk % 13 ∧ mk4 (unX kk n) = un4 (kk / 13) ∧ n < hh) ∨ (n ≠ kk % 13 ∧ mk4 (unX kk n) = (0, 0, 0, 0)) := by
      by_cases e : n = kk % 13
      · refine Or.inl ⟨e, v4_ext fun c hc => by rw [hmc c hc, un4_at _ c hc]; unfold unX; by_cases e2 : c = kk / 13; rw [if_pos ⟨e, e2⟩, if_pos e2]; rw [if_neg (fun q => e2 q.2), if_neg e2], ?_⟩
        apply Classical.byContradiction
        intro q
        have := hxn (kk / 13) (by omega)
        rw [moC_ge (by omega)] at this
        unfold unX at this
        rw [if_pos ⟨e, rfl⟩] at this
        omega
      · refine Or.inr ⟨e, v4_ext fun c hc => by rw [hmc c hc, at40 c hc]; unfold unX; rw [if_neg (fun q => e q.1)]⟩
    obtain ⟨w, hw1, hw2⟩ := gw3_compl (bw := bw) (n := n) (hh := hh) (lo := lo) (hi := hi) (m := mk4 (unX kk n)) (fun c hc => by rw [hmc c hc]; exact hxn c hc) hg hfg (i := if n = kk % 13 then kk else 52) h13 (by
      rcases hj with ⟨e, em, hnh⟩ | ⟨e, em⟩
      · rw [if_pos e]
        exact Or.inr ⟨kk / 13, by omega, em, by omega, hnh⟩
      · rw [if_neg e]
        exact Or.inl ⟨rfl, em⟩)
    have hr4 : le4 (sub4 (add4 (lo4 lo hh (n + 1)) (mk4 (unX kk n))) (gd g)) := le4_iff.mpr fun c hc => by
      rw [at_sub4 _ _ c hc, at_add4 _ _ c hc, at_lo4 lo hh n c hc, hmc c hc]
      have := (tC_le H (hx (n + 1)) (show n < n + 1 by omega) hc).2
      unfold tC at this
      omega
    have er : ∀ c, c < 4 → at4 (sub4 (add4 (lo4 lo hh (n + 1)) (mk4 (unX kk n))) (gd g)) c = lft (tC lo hh (unX kk)) pt c n := fun c hc => by
      rw [at_sub4 _ _ c hc, at_add4 _ _ c hc, at_lo4 lo hh n c hc, hmc c hc, egp, ← eg]
      rfl
    obtain ⟨z0, m0, e0⟩ := mem_csW b0
    obtain ⟨z1, m1, e1⟩ := mem_csW b1
    obtain ⟨z2, m2, e2⟩ := mem_csW b2
    obtain ⟨z3, m3, e3⟩ := mem_csW b3
    have hop : ∀ c, c < 4 → ∀ z, nb z = nib k c → opB (opW 3 L lo hi hh (n + 1) c) z = true := fun c hc z hz => by
      rw [opB_ho, hz]
      exact op_ok (x := unX kk) (pt := pt) H hL (by omega) hc (nib_lt k c) (hx _) (fun _ => hl c hc)
    have hem : (k, z0 + z1 + z2 + z3) ∈ emW (tbM L 3) (opW 3 L lo hi hh (n + 1)) (pk4 s0 s1 s2 s3) (cd4 (sub4 (add4 (lo4 lo hh (n + 1)) (mk4 (unX kk n))) (gd g))) := by
      refine (emW_mem hr4).mpr ⟨z0, ⟨by rw [k2, er 0 (by decide)]; exact m0, hop 0 (by decide) z0 e0⟩, z1, ⟨by rw [k3, er 1 (by decide)]; exact m1, hop 1 (by decide) z1 e1⟩, z2, ⟨by rw [k4, er 2 (by decide)]; exact m2, hop 2 (by decide) z2 e2⟩, z3, ⟨by rw [k5, er 3 (by decide)]; exact m3, hop 3 (by decide) z3 e3⟩, ?_⟩
      rw [kO_pk, e0, e1, e2, e3, pk_nib hk]
    -- which colours are sure
    have sure : ∀ c, c < 4 → (c ≠ kk / 13 ∨ kk % 13 ≤ n) → lkB (suW L lo hh (n + 1)) k c = 0 := fun c hc hq => by
      unfold lkB
      rw [if_pos]
      obtain ⟨e, he⟩ := hl c hc
      have hcl : clT L 3 = clT L 1 := rfl
      rw [hcl] at he
      have hbd : ∀ j, n + 1 ≤ j → lft (tC lo hh (unX kk)) pt c j ≤ loC lo hh j c := fun j hj => by
        have : unX kk j c = 0 := by unfold unX; rw [if_neg (by omega)]
        unfold lft tC
        rw [this]
        omega
      unfold suW
      have l2 : ∀ j, loC lo hh j c ≤ 2 := fun j => by have := lm_le (md := 3) H hh j c; omega
      exact hope_of (md := 1) hL (Or.inl rfl) (nib_lt k c) he (hbd (n + 1) (by omega)) (hbd (n + 2) (by omega)) (hbd (n + 3) (by omega)) (l2 _) (l2 _) (l2 _)
    have lk1 : lkB (suW L lo hh (n + 1)) k 0 + lkB (suW L lo hh (n + 1)) k 1 + lkB (suW L lo hh (n + 1)) k 2 + lkB (suW L lo hh (n + 1)) k 3 ≤ 1 := by
      have l1 : ∀ c, lkB (suW L lo hh (n + 1)) k c ≤ 1 := fun c => by unfold lkB; split <;> omega
      have q0 : 0 ≠ kk / 13 → lkB (suW L lo hh (n + 1)) k 0 = 0 := fun q => sure 0 (by decide) (Or.inl q)
      have q1 : 1 ≠ kk / 13 → lkB (suW L lo hh (n + 1)) k 1 = 0 := fun q => sure 1 (by decide) (Or.inl q)
      have q2 : 2 ≠ kk / 13 → lkB (suW L lo hh (n + 1)) k 2 = 0 := fun q => sure 2 (by decide) (Or.inl q)
      have q3 : 3 ≠ kk / 13 → lkB (suW L lo hh (n + 1)) k 3 = 0 := fun q => sure 3 (by decide) (Or.inl q)
      have r0 := l1 0
      have r1 := l1 1
      have r2 := l1 2
      have r3 := l1 3
      have : kk / 13 = 0 ∨ kk / 13 = 1 ∨ kk / 13 = 2 ∨ kk / 13 = 3 := by omega
      rcases this with e | e | e | e <;> rw [e] at q0 q1 q2 q3
      · rw [q1 (by decide), q2 (by decide), q3 (by decide)]; omega
      · rw [q0 (by decide), q2 (by decide), q3 (by decide)]; omega
      · rw [q0 (by decide), q1 (by decide), q3 (by decide)]; omega
      · rw [q0 (by decide), q1 (by decide), q2 (by decide)]; omega
    have lk0 : kk % 13 ≤ n → lkB (suW L lo hh (n + 1)) k 0 + lkB (suW L lo hh (n + 1)) k 1 + lkB (suW L lo hh (n + 1)) k 2 + lkB (suW L lo hh (n + 1)) k 3 = 0 := fun q => by
      rw [sure 0 (by decide) (Or.inr q), sure 1 (by decide) (Or.inr q), sure 2 (by decide) (Or.inr q), sure 3 (by decide) (Or.inr q)]
    have wb := wx_bit (suW L lo hh (n + 1)) v.1 w.1 hk (lbl kk (n + 1))
    have hfin : hb (wxW (suW L lo hh (n + 1)) v.1 w.1 (nI k)) (lbl kk (n + 1)) := by
      by_cases e : n = kk % 13
      · rw [if_pos e] at hw2
        have e1 : lbl kk n = 52 := by unfold lbl; rw [if_pos (by omega)]
        have e2 : lbl kk (n + 1) = kk := by unfold lbl; rw [if_neg (by omega)]
        rw [e1] at hv2
        refine wb.2.1 (lk0 (by omega)) (Or.inr ⟨hv2, ?_, by omega⟩)
        rw [e2]; exact hw2
      · rw [if_neg e] at hw2
        by_cases hlt2 : n < kk % 13
        · have e1 : lbl kk n = 52 := by unfold lbl; rw [if_pos (by omega)]
          have e2 : lbl kk (n + 1) = 52 := by unfold lbl; rw [if_pos (by omega)]
          rw [e1] at hv2
          rw [e2]
          exact wb.2.2 lk1 hw2 hv2
        · have e1 : lbl kk n = kk := by unfold lbl; rw [if_neg (by omega)]
          have e2 : lbl kk (n + 1) = kk := by unfold lbl; rw [if_neg (by omega)]
          rw [e1] at hv2
          refine wb.2.1 (lk0 (by omega)) (Or.inl ⟨hw2, ?_⟩)
          rw [e2]; exact hv2
    rw [itL_mrg]
    exact mrg_new (Q := fun _ (v : Int64 × Int64) => hb v.1 (lbl kk (n + 1))) (fun _ v w q => (mgL3_bit v w _).mpr (Or.inl q)) (fun _ v w q => (mgL3_bit v w _).mpr (Or.inr q)) (k := k) (v := (wxW (suW L lo hh (n + 1)) v.1 w.1 (nI k), v.2)) (List.mem_flatMap.mpr ⟨_, hv1, List.mem_flatMap.mpr ⟨_, hw1, List.mem_flatMap.mpr ⟨_, hem, acC3_mem.mpr ⟨hb_some hfin, rfl⟩⟩⟩⟩) hfin
/-- the first value of a list -/
def exV (l : List (Nat × Int64 × Int64)) : Int64 := match l with
  | [] => 0
  | p :: _ => p.2.1
theorem itL_extra {L hh : Nat} {bw : Bool} {lo hi : Nat → Nat} (H : LhC lo hi) (hL : L = 3 ∨ L = 4) (h13 : hh ≤ 13) : (itL L hh 3 bw lo hi (tbM L 3) (v0W 3) (hh + 1)).length ≤ 1 ∧ ∀ kk, kk < 52 → (hb (exV (itL L hh 3 bw lo hi (tbM L 3) (v0W 3) (hh + 1))) kk ↔ kk % 13 < hh ∧ lo kk ≤ 1 ∧ AccR L (tN lo (unX kk)) hh) := by
  have hs := itL3_sound (L := L) (bw := bw) H (Nat.le_refl (hh + 1)) h13
  have hn := itL_nd L hh 3 bw lo hi (tbM L 3) (v0W 3) (hh + 1)
  have hz : ∀ p ∈ itL L hh 3 bw lo hi (tbM L 3) (v0W 3) (hh + 1), p.1 = 0 := fun p hp => by
    obtain ⟨⟨pt, x, a, b⟩, -⟩ := hs p hp
    exact (end_in H hL (by omega) a b).1
  have hlen : (itL L hh 3 bw lo hi (tbM L 3) (v0W 3) (hh + 1)).length ≤ 1 := by
    cases hl : itL L hh 3 bw lo hi (tbM L 3) (v0W 3) (hh + 1) with
    | nil => simp
    | cons p l =>
      cases l with
      | nil => simp
      | cons q l =>
        rw [hl] at hz hn
        have e1 := hz p (by simp)
        have e2 := hz q (by simp)
        exact absurd hn (by unfold nd; simp [e1, e2])
  refine ⟨hlen, fun kk hkk => ⟨fun hq => ?_, fun ⟨g1, g2, g3⟩ => ?_⟩⟩
  · cases hl : itL L hh 3 bw lo hi (tbM L 3) (v0W 3) (hh + 1) with
    | nil => rw [hl] at hq; exact absurd hq (hb_0 kk)
    | cons p l =>
      rw [hl] at hq hs
      obtain ⟨pt, x, a, b, hlab⟩ := (hs p (by simp)).2 kk hq
      have hacc := (end_in H hL (by omega) a b).2
      rcases hlab with ⟨e, -⟩ | ⟨m0, c0, h1, h2, h3, h4, h5⟩
      · omega
      · have hm0 : m0 < hh := by
          apply Classical.byContradiction
          intro q
          have := a m0 h1 c0 h2
          rw [moC_ge (by omega), h5 m0 h1 c0 h2, if_pos ⟨rfl, rfl⟩] at this
          omega
        have em : kk % 13 = m0 := by omega
        have ec : kk / 13 = c0 := by omega
        refine ⟨by omega, ?_, AccR_congr (fun m hm c hc => ?_) hacc⟩
        · have := a m0 h1 c0 h2
          rw [moC_lt hm0, loC_lt hm0, if_pos rfl, h5 m0 h1 c0 h2, if_pos ⟨rfl, rfl⟩] at this
          have ek : 13 * c0 + m0 = kk := by omega
          rw [ek] at this
          omega
        · unfold tN unX
          rw [h5 m (by omega) c hc, em, ec]
  · have hx : ∀ N, bdC 3 lo hi hh (unX kk) N := fun N m _ c hc => by
      unfold unX
      split
      · rename_i h
        rw [h.1, h.2, moC_lt g1, loC_lt g1, if_pos rfl, show 13 * (kk / 13) + kk % 13 = kk by omega]
        omega
      · exact Nat.zero_le _
    obtain ⟨pt, h1, h2⟩ := end_of (md := 3) (x := unX kk) H hL (by omega) (hx _) (fun m hm c hc => by unfold unX; rw [if_neg (by omega)]) g3
    obtain ⟨v, q1, q2⟩ := itL3_compl (bw := bw) H hL h13 hkk hx (Nat.le_refl (hh + 1)) h1 h2
    have e : lbl kk (hh + 1) = kk := by unfold lbl; rw [if_neg (by omega)]
    rw [e] at q2
    cases hl : itL L hh 3 bw lo hi (tbM L 3) (v0W 3) (hh + 1) with
    | nil => rw [hl] at q1; exact absurd q1 (by simp)
    | cons p l =>
      cases l with
      | nil =>
        rw [hl, List.mem_singleton] at q1
        rw [← q1]
        exact q2
      | cons q l => rw [hl] at hlen; simp at hlen
