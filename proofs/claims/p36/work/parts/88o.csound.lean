/-! the class's lists hold the ways (whole, states, plans) -/
def md014 (md : Nat) : Prop := md = 0 ∨ md = 1 ∨ md = 4
theorem acC_eq {md : Nat} (h : md014 md) (su : Nat → Int32) (v w : Int64 × Int64) (e : Nat × Int32) : acC md su v w e = [(e.1, if md = 4 then (v.1 + w.1, v.2 + w.2) else v)] := by
  unfold acC actW
  rcases h with rfl | rfl | rfl <;> rfl
theorem mgL_pick {md : Nat} (h : md014 md) (x y : Int64 × Int64) : mgL md x y = x ∨ mgL md x y = y := by
  rcases h with rfl | rfl | rfl
  · exact Or.inl rfl
  · exact Or.inl rfl
  · exact (mgL4_le x y).2.2
/-- one way more, in the state's terms -/
theorem up_x {P : Nat → Prop} {n : Nat} (h1 : ∀ m, m < n → P m) (h2 : P n) : ∀ m, m < n + 1 → P m := fun m hm => by
  by_cases e : m = n
  · rw [e]; exact h2
  · exact h1 m (by omega)
def upx {α : Type} (f : Nat → α) (n : Nat) (a : α) (m : Nat) : α := if m = n then a else f m
theorem upx_s {α : Type} (f : Nat → α) (n : Nat) (a : α) : upx f n a n = a := if_pos rfl
theorem upx_o {α : Type} (f : Nat → α) (n : Nat) (a : α) {m : Nat} (h : m < n) : upx f n a m = f m := if_neg (by omega)
theorem Pth_up {st : Nat → Nat → List Nat} (hst : ∀ s r q, q ∈ st s r → q < 16) {lo : Nat → Nat} {hh n k : Nat} {x : Nat → Nat → Nat} {pt : Nat → V4} (h : Pth st (tC lo hh x) pt n k) {m : V4} {p : Nat} (hp : p < 21) (hf : ∀ c, c < 4 → at4 (usG p) c ≤ loC lo hh n c + at4 m c) {q : Nat → Nat} (hq : ∀ c, c < 4 → q c ∈ st (nib k c) (loC lo hh n c + at4 m c - at4 (usG p) c)) : Pth st (tC lo hh (upx x n (at4 m))) (upx pt n (usG p)) (n + 1) (pk4 (q 0) (q 1) (q 2) (q 3)) := by
  have agr : ∀ j, j < n → pt j = upx pt n (usG p) j ∧ ∀ c, c < 4 → tC lo hh x j c = tC lo hh (upx x n (at4 m)) j c := fun j hj => ⟨(upx_o _ _ _ hj).symm, fun c _ => by unfold tC; rw [upx_o _ _ _ hj]⟩
  have hl : ∀ c, c < 4 → q c < 16 := fun c hc => hst _ _ _ (hq c hc)
  obtain ⟨k1, k2, k3, k4, k5⟩ := nib_pk (hl 0 (by decide)) (hl 1 (by decide)) (hl 2 (by decide)) (hl 3 (by decide))
  have et : ∀ c, tC lo hh (upx x n (at4 m)) n c = loC lo hh n c + at4 m c := fun c => by unfold tC; rw [upx_s]
  have col : ∀ c, c < 4 → colR st (lft (tC lo hh (upx x n (at4 m))) (upx pt n (usG p)) c) (n + 1) (q c) := fun c hc => ⟨nib k c, (colR_congr (lft_congr agr hc)).mp (h.2.2 c hc), by
    unfold lft
    rw [et, upx_s]
    exact hq c hc⟩
  refine ⟨up_x (fitP_congr agr h.1) ⟨⟨p, hp, upx_s _ _ _⟩, fun c hc => ?_⟩, k1, c4 ?_ ?_ ?_ ?_⟩
  · rw [et, upx_s]; exact hf c hc
  · rw [k2]; exact col 0 (by decide)
  · rw [k3]; exact col 1 (by decide)
  · rw [k4]; exact col 2 (by decide)
  · rw [k5]; exact col 3 (by decide)
theorem clT_lt' {L md : Nat} : ∀ s r q, q ∈ clT L md s r → q < 16 := fun _ _ _ h => clT_lt h
theorem itL_sound {L hh md : Nat} {bw : Bool} {lo hi : Nat → Nat} {v0 : Int64} (H : LhC lo hi) (hmd : md014 md) (hv : md = 4 → v0 = 0) {n : Nat} (hn : n ≤ hh + 1) (h13 : hh ≤ 13) : ∀ p ∈ itL L hh md bw lo hi (tbM L md) v0 n, ∃ pt x, bdC md lo hi hh x n ∧ Pth (clT L md) (tC lo hh x) pt n p.1 ∧ (md = 4 → p.2 = enC bw x n) := by
  induction n with
  | zero =>
    intro p hp
    rw [itL_0] at hp
    rw [List.mem_singleton.mp hp]
    refine ⟨fun _ => (0, 0, 0, 0), fun _ _ => 0, fun m hm => absurd hm (Nat.not_lt_zero m), ⟨fun m hm => absurd hm (Nat.not_lt_zero m), (by decide : (0 : Nat) < 65536), fun c hc => ?_⟩, fun h => by rw [hv h]; rfl⟩
    show nib 0 c = 0
    unfold nib; simp
  | succ n ih =>
    rw [itL_mrg]
    refine mrg_sound (P := fun k v => ∃ pt x, bdC md lo hi hh x (n + 1) ∧ Pth (clT L md) (tC lo hh x) pt (n + 1) k ∧ (md = 4 → v = enC bw x (n + 1))) ?_ (fun p hp => absurd hp (by simp)) ?_
    · intro k v w hv hw
      rcases mgL_pick hmd v w with e | e <;> rw [e]
      · exact hv
      · exact hw
    · intro q hq
      obtain ⟨p, hp, hq⟩ := List.mem_flatMap.mp hq
      obtain ⟨pt, x, h1, h2, h3⟩ := ih (by omega) p hp
      obtain ⟨w, hw, hq⟩ := List.mem_flatMap.mp hq
      obtain ⟨e, he, hq⟩ := List.mem_flatMap.mp hq
      rw [acC_eq hmd, List.mem_singleton] at hq
      obtain ⟨m, hm, g, hg, hf, ew1, ew2⟩ := gw_sound (show md ≠ 3 by rcases hmd with h | h | h <;> omega) w hw
      have hm' : ∀ c, c < 4 → at4 m c ≤ moC md lo hi hh n c - loC lo hh n c := fun c hc => by rw [← at_xs4 md lo hi hh n c hc]; exact hm c hc
      have hlo : ∀ c, c < 4 → loC lo hh n c + at4 m c ≤ 2 := fun c hc => by
        have := hm' c hc
        have := lm_le (md := md) H hh n c
        omega
      obtain ⟨pp, hpp, egp, -⟩ := fg1 g hg
      rw [egp] at hf ew1
      rw [fit4_iff] at hf
      have hr4 : le4 (sub4 (add4 (lo4 lo hh (n + 1)) m) (usG pp)) := le4_iff.mpr fun c hc => by
        rw [at_sub4 _ _ c hc, at_add4 _ _ c hc, at_lo4 lo hh n c hc]
        have := hlo c hc
        omega
      rw [ew1] at he
      obtain ⟨s0, ⟨a0, -⟩, s1, ⟨a1, -⟩, s2, ⟨a2, -⟩, s3, ⟨a3, -⟩, rfl⟩ := (emW_mem hr4).mp he
      have er : ∀ c, c < 4 → at4 (sub4 (add4 (lo4 lo hh (n + 1)) m) (usG pp)) c = loC lo hh n c + at4 m c - at4 (usG pp) c := fun c hc => by rw [at_sub4 _ _ c hc, at_add4 _ _ c hc, at_lo4 lo hh n c hc]
      rw [er 0 (by decide)] at a0
      rw [er 1 (by decide)] at a1
      rw [er 2 (by decide)] at a2
      rw [er 3 (by decide)] at a3
      have hU := Pth_up (q := fun c => match c with | 0 => nb s0 | 1 => nb s1 | 2 => nb s2 | _ => nb s3) clT_lt' h2 hpp (fun c hc => by
        have := hf c hc
        rw [at_add4 _ _ c hc, at_lo4 lo hh n c hc] at this
        exact this) (c4 (List.mem_map_of_mem a0) (List.mem_map_of_mem a1) (List.mem_map_of_mem a2) (List.mem_map_of_mem a3))
      rw [hq]
      refine ⟨_, _, up_x (fun j hj c hc => by rw [upx_o _ _ _ hj]; exact h1 j hj c hc) (fun c hc => by rw [upx_s]; exact hm' c hc), hU, fun h4 => ?_⟩
      dsimp only
      rw [if_pos h4, h3 h4, ew2]
      unfold wyV
      rw [h4, if_neg (by decide)]
      dsimp only
      by_cases hnh : n < hh
      · have em4 : le4 m := le4_iff.mpr fun c hc => by have := hlo c hc; omega
        rw [← enC_s (x := upx x n (at4 m)) (by omega) em4 (fun c _ => by rw [upx_s]), enC_congr (bw := bw) (x := upx x n (at4 m)) (y := x) fun j hj c _ => by rw [upx_o _ _ _ hj]]
      · have em : ∀ c, c < 4 → at4 m c = 0 := fun c hc => by
          have := hm' c hc
          rw [moC_ge (by omega)] at this
          omega
        have em0 : m = (0, 0, 0, 0) := v4_ext (c4 (em 0 (by decide)) (em 1 (by decide)) (em 2 (by decide)) (em 3 (by decide)))
        have e1 : f1C bw (upx x n (at4 m)) (n + 1) = f1C bw x n := by
          unfold f1C
          simp only [natSum]
          rw [natSum_congr (g := x1C bw x) fun j hj => (x1C_congr (bw := bw) (x := upx x n (at4 m)) (y := x) fun c _ => by rw [upx_o _ _ _ hj]).1]
          have : x1C bw (upx x n (at4 m)) n = 0 := by
            unfold x1C
            rw [upx_s, em 0 (by decide), em 1 (by decide), em 2 (by decide), em 3 (by decide)]
            simp
          omega
        have e2 : f2C (upx x n (at4 m)) (n + 1) = f2C x n := by
          unfold f2C
          simp only [natSum]
          rw [natSum_congr (g := x2C x) fun j hj => (x1C_congr (bw := bw) (x := upx x n (at4 m)) (y := x) fun c _ => by rw [upx_o _ _ _ hj]).2]
          have : x2C (upx x n (at4 m)) n = 0 := by
            unfold x2C
            rw [upx_s, em 0 (by decide), em 1 (by decide), em 2 (by decide), em 3 (by decide)]
            simp
          omega
        unfold enC
        rw [e1, e2, em0]
        have z1 : gF 4 bw (n + 1) (0, 0, 0, 0) 4 = 0 := by unfold gF; rw [range4]; rfl
        have z2 : gS 4 (n + 1) (0, 0, 0, 0) 4 = 0 := by unfold gS; rw [range4]; rfl
        rw [z1, z2, l64_z, l64_z]
/-- a way that goes on three numbers more -/
def liveC (L md : Nat) (lo : Nat → Nat) (hh : Nat) (x : Nat → Nat → Nat) (pt : Nat → V4) (n k : Nat) : Prop := ∀ c, c < 4 → ∃ e, colP (clT L md) (lft (tC lo hh x) pt c) n 3 (nib k c) e
theorem colP_cut {st : Nat → Nat → List Nat} {r : Nat → Nat} {m d s e : Nat} (h : colP st r m (d + 1) s e) : ∃ e2, colP st r m d s e2 := by
  induction d generalizing m s with
  | zero => exact ⟨s, rfl⟩
  | succ d ih =>
    obtain ⟨s', h1, h2⟩ := h
    obtain ⟨e2, h3⟩ := ih h2
    exact ⟨e2, s', h1, h3⟩
theorem hoAll : ∀ q ∈ r16, hoB 65535 q = true := by decide +kernel
theorem op_ok {L md : Nat} {lo hi : Nat → Nat} (H : LhC lo hi) (hL : L = 3 ∨ L = 4) (hmd : md = 0 ∨ md = 1 ∨ md = 3 ∨ md = 4) {hh n c s : Nat} {x : Nat → Nat → Nat} {pt : Nat → V4} (hc : c < 4) (hs : s < 16) (hx : bdC md lo hi hh x (n + 4)) (hl : md ≠ 0 → ∃ e, colP (clT L md) (lft (tC lo hh x) pt c) (n + 1) 3 s e) : hoB (opW md L lo hi hh (n + 1) c) s = true := by
  unfold opW
  by_cases h0 : md = 0
  · rw [if_pos h0]
    exact hoAll s (in16 hs)
  · rw [if_neg h0]
    obtain ⟨e, he⟩ := hl h0
    have hcl : clT L md = clT L 1 := by
      rcases hmd with rfl | rfl | rfl | rfl
      · exact absurd rfl h0
      · rfl
      · rfl
      · rfl
    rw [hcl] at he
    have hb : ∀ j, j < n + 4 → lft (tC lo hh x) pt c j ≤ moC md lo hi hh j c := fun j hj => by
      have := (tC_le H hx hj hc).1
      unfold lft
      omega
    exact hope_of (md := 1) hL (Or.inl rfl) hs he (hb (n + 1) (by omega)) (hb (n + 2) (by omega)) (hb (n + 3) (by omega)) (lm_le H hh _ c).2 (lm_le H hh _ c).2 (lm_le H hh _ c).2
theorem mem_csW {L md s r q : Nat} (h : q ∈ clT L md s r) : ∃ z, z ∈ csW (tbM L md) s r ∧ nb z = q := by
  obtain ⟨z, a, b⟩ := List.mem_map.mp h
  exact ⟨z, a, b⟩
theorem itL_compl {L hh md : Nat} {bw : Bool} {lo hi : Nat → Nat} {v0 : Int64} (H : LhC lo hi) (hL : L = 3 ∨ L = 4) (hmd : md014 md) (hv : md = 4 → v0 = 0) {N : Nat} {x : Nat → Nat → Nat} (hx : bdC md lo hi hh x (N + 3)) (hs : md = 4 → ∀ y n, bdC md lo hi hh y n → n ≤ 13 → xsum y n ≤ 24) (h13 : hh ≤ 13) {n : Nat} (hn : n ≤ N) (hn1 : n ≤ hh + 1) {k : Nat} {pt : Nat → V4} (h : Pth (clT L md) (tC lo hh x) pt n k) (hl : md ≠ 0 → liveC L md lo hh x pt n k) : ∃ v, (k, v) ∈ itL L hh md bw lo hi (tbM L md) v0 n ∧ (md = 4 → leP (enC bw x n) v) := by
  induction n generalizing k with
  | zero =>
    obtain ⟨-, hk, hc⟩ := h
    have e : k = 0 := by
      have h0 : nib k 0 = 0 := hc 0 (by decide)
      have h1 : nib k 1 = 0 := hc 1 (by decide)
      have h2 : nib k 2 = 0 := hc 2 (by decide)
      have h3 : nib k 3 = 0 := hc 3 (by decide)
      have := pk_nib hk
      rw [h0, h1, h2, h3] at this
      exact this.symm
    subst e
    refine ⟨_, by rw [itL_0]; exact List.mem_singleton.mpr rfl, fun h4 => ?_⟩
    rw [hv h4]
    exact leP_rf _
  | succ n ih =>
    obtain ⟨hfit, hk, hc⟩ := h
    obtain ⟨s0, a0, b0⟩ := hc 0 (by decide)
    obtain ⟨s1, a1, b1⟩ := hc 1 (by decide)
    obtain ⟨s2, a2, b2⟩ := hc 2 (by decide)
    obtain ⟨s3, a3, b3⟩ := hc 3 (by decide)
    have hlt : ∀ {r : Nat → Nat} {s : Nat}, colR (clT L md) r n s → s < 16 := fun h => colR_lt clT_lt' h
    obtain ⟨k1, k2, k3, k4, k5⟩ := nib_pk (hlt a0) (hlt a1) (hlt a2) (hlt a3)
    have hpre : ∀ c, c < 4 → ∀ s, nib k c ∈ clT L md s (lft (tC lo hh x) pt c n) → md ≠ 0 → ∃ e, colP (clT L md) (lft (tC lo hh x) pt c) n 3 s e := fun c hc s hs h0 => by
      obtain ⟨e, he⟩ := hl h0 c hc
      obtain ⟨e2, he2⟩ := colP_cut he
      exact ⟨e2, nib k c, hs, he2⟩
    obtain ⟨v, hv1, hv2⟩ := ih (by omega) (by omega) (k := pk4 s0 s1 s2 s3) ⟨fun m hm => hfit m (by omega), k1, c4 (by rw [k2]; exact a0) (by rw [k3]; exact a1) (by rw [k4]; exact a2) (by rw [k5]; exact a3)⟩ (fun h0 => c4 (by rw [k2]; exact hpre 0 (by decide) _ b0 h0) (by rw [k3]; exact hpre 1 (by decide) _ b1 h0) (by rw [k4]; exact hpre 2 (by decide) _ b2 h0) (by rw [k5]; exact hpre 3 (by decide) _ b3 h0))
    obtain ⟨⟨p, hp, eg⟩, hgf⟩ := hfit n (by omega)
    obtain ⟨g, hg, egp, -⟩ := fg2 p hp
    have hxn := hx n (by omega)
    have hmc : ∀ c, c < 4 → at4 (mk4 (x n)) c = x n c := at_mk4 _
    have hfg : fit4 (add4 (lo4 lo hh (n + 1)) (mk4 (x n))) (gd g) = true := fit4_iff.mpr fun c hc => by
      rw [egp, at_add4 _ _ c hc, at_lo4 lo hh n c hc, hmc c hc, ← eg]
      exact hgf c hc
    obtain ⟨w, hw1, hw2⟩ := gw_compl (md := md) (bw := bw) (n := n + 1) (lo := lo4 lo hh (n + 1)) (x := xs4 md lo hi hh (n + 1)) (show md ≠ 3 by rcases hmd with h | h | h <;> omega) (m := mk4 (x n)) (fun c hc => by rw [hmc c hc, at_xs4 md lo hi hh n c hc]; exact hxn c hc) hg hfg
    have hr4 : le4 (sub4 (add4 (lo4 lo hh (n + 1)) (mk4 (x n))) (gd g)) := le4_iff.mpr fun c hc => by
      rw [at_sub4 _ _ c hc, at_add4 _ _ c hc, at_lo4 lo hh n c hc, hmc c hc]
      have := (tC_le H hx (show n < N + 3 by omega) hc).2
      unfold tC at this
      omega
    have er : ∀ c, c < 4 → at4 (sub4 (add4 (lo4 lo hh (n + 1)) (mk4 (x n))) (gd g)) c = lft (tC lo hh x) pt c n := fun c hc => by
      rw [at_sub4 _ _ c hc, at_add4 _ _ c hc, at_lo4 lo hh n c hc, hmc c hc, egp, ← eg]
      rfl
    obtain ⟨z0, m0, e0⟩ := mem_csW b0
    obtain ⟨z1, m1, e1⟩ := mem_csW b1
    obtain ⟨z2, m2, e2⟩ := mem_csW b2
    obtain ⟨z3, m3, e3⟩ := mem_csW b3
    have hop : ∀ c, c < 4 → ∀ z, nb z = nib k c → opB (opW md L lo hi hh (n + 1) c) z = true := fun c hc z hz => by
      rw [opB_ho, hz]
      exact op_ok (x := x) (pt := pt) H hL (by rcases hmd with h | h | h <;> omega) hc (nib_lt k c) (fun m hm => hx m (by omega)) (fun h0 => hl h0 c hc)
    have hem : (k, z0 + z1 + z2 + z3) ∈ emW (tbM L md) (opW md L lo hi hh (n + 1)) (pk4 s0 s1 s2 s3) (cd4 (sub4 (add4 (lo4 lo hh (n + 1)) (mk4 (x n))) (gd g))) := by
      refine (emW_mem hr4).mpr ⟨z0, ⟨by rw [k2, er 0 (by decide)]; exact m0, hop 0 (by decide) z0 e0⟩, z1, ⟨by rw [k3, er 1 (by decide)]; exact m1, hop 1 (by decide) z1 e1⟩, z2, ⟨by rw [k4, er 2 (by decide)]; exact m2, hop 2 (by decide) z2 e2⟩, z3, ⟨by rw [k5, er 3 (by decide)]; exact m3, hop 3 (by decide) z3 e3⟩, ?_⟩
      rw [kO_pk, e0, e1, e2, e3, pk_nib hk]
    rw [itL_mrg]
    refine mrg_new (Q := fun _ v => md = 4 → leP (enC bw x (n + 1)) v) (fun _ v w hq h4 => ?_) (fun _ v w hq h4 => ?_) (k := k) (v := if md = 4 then (v.1 + w.1, v.2 + w.2) else v) (List.mem_flatMap.mpr ⟨_, hv1, List.mem_flatMap.mpr ⟨_, hw1, List.mem_flatMap.mpr ⟨_, hem, by rw [acC_eq hmd]; exact List.mem_singleton.mpr rfl⟩⟩⟩) (fun h4 => ?_)
    · rw [h4]; exact leP_tr (hq h4) (mgL4_le v w).1
    · rw [h4]; exact leP_tr (hq h4) (mgL4_le v w).2.1
    · rw [if_pos h4]
      obtain ⟨pt2, y, y1, -, y4⟩ := itL_sound (bw := bw) (v0 := v0) H hmd hv (n := n) (by omega) h13 _ hv1
      have ey := y4 h4
      dsimp only at ey
      have hle := hv2 h4
      rw [ey] at hle ⊢
      -- the way that was taken
      obtain ⟨m, hm, g2, hg2, hf2, ew1, ew2⟩ := gw_sound (show md ≠ 3 by omega) _ hw1
      dsimp only at ew2
      have hm' : ∀ c, c < 4 → at4 m c ≤ moC md lo hi hh n c - loC lo hh n c := fun c hc => by rw [← at_xs4 md lo hi hh n c hc]; exact hm c hc
      have l2 : ∀ c, c < 4 → moC md lo hi hh n c ≤ 2 := fun c _ => (lm_le H hh n c).2
      by_cases hnh : n < hh
      · have em4 : le4 m := le4_iff.mpr fun c hc => by have := hm' c hc; have := l2 c hc; omega
        have ex4 : le4 (mk4 (x n)) := le4_iff.mpr fun c hc => by rw [hmc c hc]; have := hxn c hc; have := l2 c hc; omega
        have q1 := gF_eq (bw := bw) (show n < 13 by omega) em4
        have q2 := gF_eq (bw := bw) (show n < 13 by omega) ex4
        rw [ew2] at hw2 ⊢
        unfold wyV at hw2 ⊢
        rw [h4, if_neg (by decide)] at hw2 ⊢
        dsimp only at hw2 ⊢
        rw [if_neg (by decide), q1.1, q1.2] at hw2
        rw [q2.1, q2.2] at hw2
        rw [q1.1, q1.2]
        have hys := hs h4 (upx y n (at4 m)) (n + 1) (up_x (fun j hj c hc => by rw [upx_o _ _ _ hj]; exact y1 j hj c hc) (fun c hc => by rw [upx_s]; exact hm' c hc)) (by omega)
        have hxs := hs h4 x (n + 1) (fun j hj => hx j (by omega)) (by omega)
        have fy := f_le (bw := bw) (x := upx y n (at4 m)) (n := n + 1) (by omega)
        have fx := f_le (bw := bw) (x := x) (n := n + 1) (by omega)
        have y1' : f1C bw (upx y n (at4 m)) (n + 1) = f1C bw y n + x1C bw (fun _ c => at4 m c) n := by
          unfold f1C
          simp only [natSum]
          rw [natSum_congr fun j hj => (x1C_congr (bw := bw) (x := upx y n (at4 m)) (y := y) fun c _ => by rw [upx_o _ _ _ hj]).1, (x1C_congr (bw := bw) (x := upx y n (at4 m)) (y := fun _ c => at4 m c) fun c _ => by rw [upx_s]).1]
        have y2' : f2C (upx y n (at4 m)) (n + 1) = f2C y n + x2C (fun _ c => at4 m c) n := by
          unfold f2C
          simp only [natSum]
          rw [natSum_congr fun j hj => (x1C_congr (bw := bw) (x := upx y n (at4 m)) (y := y) fun c _ => by rw [upx_o _ _ _ hj]).2, (x1C_congr (bw := bw) (x := upx y n (at4 m)) (y := fun _ c => at4 m c) fun c _ => by rw [upx_s]).2]
        have x1' : f1C bw x (n + 1) = f1C bw x n + x1C bw (fun _ c => at4 (mk4 (x n)) c) n := by
          unfold f1C
          simp only [natSum]
          rw [(x1C_congr (bw := bw) (x := x) (y := fun _ c => at4 (mk4 (x n)) c) fun c hc => by rw [hmc c hc]).1]
        have x2' : f2C x (n + 1) = f2C x n + x2C (fun _ c => at4 (mk4 (x n)) c) n := by
          unfold f2C
          simp only [natSum]
          rw [(x1C_congr (bw := bw) (x := x) (y := fun _ c => at4 (mk4 (x n)) c) fun c hc => by rw [hmc c hc]).2]
        obtain ⟨A1, hA1⟩ : ∃ z, z = x1C bw (fun _ c => at4 m c) n := ⟨_, rfl⟩
        obtain ⟨A2, hA2⟩ : ∃ z, z = x2C (fun _ c => at4 m c) n := ⟨_, rfl⟩
        obtain ⟨B1, hB1⟩ : ∃ z, z = x1C bw (fun _ c => at4 (mk4 (x n)) c) n := ⟨_, rfl⟩
        obtain ⟨B2, hB2⟩ : ∃ z, z = x2C (fun _ c => at4 (mk4 (x n)) c) n := ⟨_, rfl⟩
        rw [← hA1, ← hA2, ← hB1, ← hB2] at hw2
        rw [← hA1, ← hA2]
        rw [← hA1] at y1'
        rw [← hA2] at y2'
        rw [← hB1] at x1'
        rw [← hB2] at x2'
        have k1 : xsum (upx y n (at4 m)) (n + 1) * (526 * 2 ^ 48) ≤ 24 * (526 * 2 ^ 48) := Nat.mul_le_mul_right _ hys
        have k2 : xsum (upx y n (at4 m)) (n + 1) * 2 ^ 54 ≤ 24 * 2 ^ 54 := Nat.mul_le_mul_right _ hys
        have k3 : xsum x (n + 1) * (526 * 2 ^ 48) ≤ 24 * (526 * 2 ^ 48) := Nat.mul_le_mul_right _ hxs
        have k4 : xsum x (n + 1) * 2 ^ 54 ≤ 24 * 2 ^ 54 := Nat.mul_le_mul_right _ hxs
        have t1 := Nat.le_trans fy.1 k1
        have t2 := Nat.le_trans fy.2 k2
        have t3 := Nat.le_trans fx.1 k3
        have t4 := Nat.le_trans fx.2 k4
        clear k1 k2 k3 k4 fy fx hys hxs
        unfold enC at hle ⊢
        simp only [lN_add]
        unfold leP at hle hw2 ⊢
        dsimp only at hle hw2 ⊢
        rw [y1'] at t1
        rw [y2'] at t2
        rw [x1'] at t3
        rw [x2'] at t4
        rw [x1', x2']
        rw [lN_toInt' (by omega), lN_toInt' (by omega), lN_toInt' (by omega), lN_toInt' (by omega)] at hle
        rw [lN_toInt' (by omega), lN_toInt' (by omega), lN_toInt' (by omega), lN_toInt' (by omega)] at hw2
        rw [lN_toInt' (by omega), lN_toInt' (by omega), lN_toInt' (by omega), lN_toInt' (by omega)]
        omega
      · have z : ∀ (u : V4), (∀ c, c < 4 → at4 u c ≤ moC md lo hi hh n c - loC lo hh n c) → u = (0, 0, 0, 0) := fun u hu => by
          have em : ∀ c, c < 4 → at4 u c = 0 := fun c hc => by
            have := hu c hc
            rw [moC_ge (by omega)] at this
            omega
          exact v4_ext (c4 (em 0 (by decide)) (em 1 (by decide)) (em 2 (by decide)) (em 3 (by decide)))
        have ez := z m hm'
        have z1 : gF 4 bw (n + 1) (0, 0, 0, 0) 4 = 0 := by unfold gF; rw [range4]; rfl
        have z2 : gS 4 (n + 1) (0, 0, 0, 0) 4 = 0 := by unfold gS; rw [range4]; rfl
        rw [ew2]
        unfold wyV
        rw [h4, if_neg (by decide), ez, z1, z2, l64_z, l64_z]
        have hx0 : ∀ c, c < 4 → x n c = 0 := fun c hc => by
          have := hxn c hc
          rw [moC_ge (by omega)] at this
          omega
        have e1 : f1C bw x (n + 1) = f1C bw x n := by
          unfold f1C
          simp only [natSum]
          have : x1C bw x n = 0 := by
            unfold x1C
            rw [hx0 0 (by decide), hx0 1 (by decide), hx0 2 (by decide), hx0 3 (by decide)]
            simp
          omega
        have e2 : f2C x (n + 1) = f2C x n := by
          unfold f2C
          simp only [natSum]
          have : x2C x n = 0 := by
            unfold x2C
            rw [hx0 0 (by decide), hx0 1 (by decide), hx0 2 (by decide), hx0 3 (by decide)]
            simp
          omega
        have e3 : enC bw x (n + 1) = enC bw x n := by unfold enC; rw [e1, e2]
        rw [e3]
        exact hle
