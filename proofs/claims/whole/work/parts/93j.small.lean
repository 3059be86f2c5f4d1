/-! claims, signs, players and rules as calls of the game -/
theorem Gm_m {t : Nat} {B : Bd} {E : List Ent} {dl : Option (Nat × Nat × Nat)} {m m' : Mem} {B0 : Bd} {D : List (Nat × Nat)} {hh L jk ml pn n wr wr' : Nat} (S : GmS t B E dl m B0 D hh L jk ml pn n wr) (h : ∀ x k, ((x = 67 ∧ ((1 ≤ k ∧ k ≤ 6) ∨ k = 24 ∨ k = 25)) ∨ x = 71 ∨ x = 72 ∨ x = 74 ∨ x = 76) → m' x k = m x k) (h34 : m' 67 34 = nI wr') (h40 : wr' ≤ 40) (t' : Nat) (hle : wr' ≤ t' ∧ E.length + wr' ≤ t' + tot (tjB B0)) : GmS t' B E dl m' B0 D hh L jk ml pn n wr' := by
  obtain ⟨r, T, se, ⟨c1, c2, c3, c4⟩, rp⟩ := S
  refine ⟨RuM_cg r fun i _ _ => h _ _ (by omega), ⟨T.1, ?_⟩, ⟨LaI_cg se.1 fun k => h _ _ (by omega), fun i hi => by rw [h _ _ (by omega)]; exact se.2.1 i hi, fun i hi => by rw [h _ _ (by omega)]; exact se.2.2.1 i hi, fun i hi => by rw [h _ _ (by omega)]; exact se.2.2.2 i hi⟩, ⟨h34, h40, hle, c4⟩, ?_⟩
  · rcases T.2 with ⟨h1, h2⟩ | ⟨p', on⟩
    · exact Or.inl ⟨by rw [h _ _ (by omega)]; exact h1, h2⟩
    · obtain ⟨u1, u2, u3, u4, u5, u6, c, u7, u8⟩ := on
      exact Or.inr ⟨p', u1, by rw [h _ _ (by omega)]; exact u2, u3, u4, u5, by rw [h _ _ (by omega)]; exact u6, c, u7, by rw [h _ _ (by omega)]; exact u8⟩
  · exact RpI_m rp (h _ _ (by omega))
theorem g_claim {t : Nat} {σ : rS} (G : GI t σ) (p k c : Int32) : GStep t (fun σ => f_L_claim σ p k c) (fun σ => f_X11_claim σ p k c) σ := by
  obtain ⟨B, E, dl, m, l, ch, B0, D, hh, L, jk, ml, pn, n, wr, C, M, K, hc, S⟩ := G
  obtain ⟨-, -, -, ⟨w1, w2, w3, -⟩, -⟩ := id S
  rcases claim_s C M (Kp := FrK σ) (fun _ f => f) S.1 p k c with Q | ⟨i, -, -, Q⟩
  · exact g_q Q (fun τ f => KcI_fr K f) (by omega) (GmS_s S)
  · exact g_q Q (fun τ f => KcI_m (KcI_fr K f) fun q _ => by rw [up2_at, if_neg (by omega)]) (by omega) (Gm_m S (fun x k h => by rw [up2_at, if_neg (by omega)]) (by rw [up2_at, if_neg (by omega)]; exact w1) w2 (t + 1) (by omega))
theorem g_wipe {t : Nat} {σ : rS} (G : GI t σ) : GDStep t f_X10_wipe f_X11_wipe σ := by
  obtain ⟨B, E, dl, m, l, ch, B0, D, hh, L, jk, ml, pn, n, wr, C, M, K, hc, S⟩ := G
  obtain ⟨-, -, -, ⟨w1, w2, w3, -⟩, -⟩ := id S
  exact g_d (wipe_s C M (Kp := FrK σ) (fun _ f => f)) (fun τ f => KcI_m (KcI_fr K f) fun q _ => by rw [up2_at, if_neg (by omega)]) (by omega) (Gm_m (wr' := 0) S (fun x k h => by rw [up2_at, if_neg (by omega)]) (by rw [up2_at, if_pos ⟨rfl, rfl⟩]; rfl) (by omega) (t + 1) (by omega))
theorem g_type {t : Nat} {σ : rS} (G : GI t σ) (c : Int32) : GStep t (fun σ => f_L_type σ c) (fun σ => f_X11_type σ c) σ := by
  obtain ⟨B, E, dl, m, l, ch, B0, D, hh, L, jk, ml, pn, n, wr, C, M, K, hc, S⟩ := G
  obtain ⟨-, -, -, ⟨w1, w2, w3, -⟩, -⟩ := id S
  rcases type_s C M (Kp := FrK σ) (fun _ f => f) w1 w2 c with Q | ⟨h40, Q⟩
  · exact g_q Q (fun τ f => KcI_fr K f) (by omega) (GmS_s S)
  · exact g_q Q (fun τ f => KcI_m (KcI_fr K f) fun q _ => by rw [up2_at, if_neg (by omega), up2_at, if_neg (by omega)]) (by omega) (Gm_m (wr' := wr + 1) S (fun x k h => by rw [up2_at, if_neg (by omega), up2_at, if_neg (by omega)]) (by rw [up2_at, if_pos ⟨rfl, rfl⟩]) (by omega) (t + 1) (by omega))
theorem LaI_in {m : Mem} {n : Nat} (la : LaI m n) (hn : n ≤ 3) : ∀ i, i < n → ¬ m 74 i = nI n := fun i hi e => by
  have ne : ∀ q j, q < n → m 74 j = nI q → i ≠ j := fun q j hq h z => by
    rw [← z, e] at h
    have := (nI_eq (by omega) (by omega)).mp h
    omega
  have di : ∀ q q' j j', q < n → q' < n → q ≠ q' → m 74 j = nI q → m 74 j' = nI q' → j ≠ j' := fun q q' j j' hq hq' hne h h' z => by
    rw [← z, h] at h'
    exact hne ((nI_eq (by omega) (by omega)).mp h')
  obtain rfl | rfl | rfl | rfl : n = 0 ∨ n = 1 ∨ n = 2 ∨ n = 3 := by omega
  · omega
  · obtain ⟨j0, a0, b0, -⟩ := la 0 (by omega)
    have := ne 0 j0 (by omega) b0
    omega
  · obtain ⟨j0, a0, b0, -⟩ := la 0 (by omega)
    obtain ⟨j1, a1, b1, -⟩ := la 1 (by omega)
    have h0 := ne 0 j0 (by omega) b0
    have h1 := ne 1 j1 (by omega) b1
    have h2 := di 0 1 j0 j1 (by omega) (by omega) (by omega) b0 b1
    omega
  · obtain ⟨j0, a0, b0, -⟩ := la 0 (by omega)
    obtain ⟨j1, a1, b1, -⟩ := la 1 (by omega)
    obtain ⟨j2, a2, b2, -⟩ := la 2 (by omega)
    have h0 := ne 0 j0 (by omega) b0
    have h1 := ne 1 j1 (by omega) b1
    have h2 := ne 2 j2 (by omega) b2
    have h3 := di 0 1 j0 j1 (by omega) (by omega) (by omega) b0 b1
    have h4 := di 0 2 j0 j2 (by omega) (by omega) (by omega) b0 b2
    have h5 := di 1 2 j1 j2 (by omega) (by omega) (by omega) b1 b2
    omega
theorem BoI_n {B : Bd} {hh L jk n : Nat} (b : BoI B hh L jk n) : BoI B hh L jk (n + 1) := ⟨b.1, ⟨fun i hi hn => b.2.1.1 i hi (by omega), b.2.1.2⟩, b.2.2⟩
theorem g_player {t : Nat} {σ : rS} (G : GI t σ) (a b : Int32) : GStep t (fun σ => f_L_player σ a b) (fun σ => f_X11_player σ a b) σ := by
  obtain ⟨B, E, dl, m, l, ch, B0, D, hh, L, jk, ml, pn, n, wr, C, M, K, hc, S⟩ := G
  obtain ⟨r, T, se, ⟨w1, w2, w3, w4⟩, rp⟩ := id S
  have tp : m 67 24 = -1 ∨ ∃ p, p < n ∧ m 67 24 = nI p := by
    rcases T.2 with ⟨h, -⟩ | ⟨p, on⟩
    · exact Or.inl h
    · exact Or.inr ⟨p, on.1, on.2.1⟩
  rcases player_s C M (Kp := FrK σ) (fun _ f => f) S.1 tp a b with Q | ⟨h4, off, -, -, Q⟩
  · exact g_q Q (fun τ f => KcI_fr K f) (by omega) (GmS_s S)
  · have at' : ∀ x k, ¬ (x = 68 ∨ x = 69 ∨ x = 74 ∨ (x = 67 ∧ k = 6)) → up2 (up2 (up2 (up2 m 68 n a) 69 n b) 74 n (nI n)) 67 6 (nI (n + 1)) x k = m x k := fun x k h => by
      rw [up2_at, if_neg (by omega), up2_at, if_neg (by omega), up2_at, if_neg (by omega), up2_at, if_neg (by omega)]
    have a74 : ∀ k, up2 (up2 (up2 (up2 m 68 n a) 69 n b) 74 n (nI n)) 67 6 (nI (n + 1)) 74 k = if k = n then nI n else m 74 k := fun k => by
      rw [up2_at, if_neg (by omega), up2_at]
      by_cases c : k = n
      · rw [if_pos ⟨rfl, c⟩, if_pos c]
      · rw [if_neg (fun z => c z.2), if_neg c, up2_at, if_neg (by omega), up2_at, if_neg (by omega)]
    have la : LaI (up2 (up2 (up2 (up2 m 68 n a) 69 n b) 74 n (nI n)) 67 6 (nI (n + 1))) (n + 1) := fun q hq => by
      by_cases c : q = n
      · subst c
        refine ⟨q, by omega, by rw [a74, if_pos rfl], fun i hi => ?_⟩
        rw [a74, if_neg (by omega)]
        exact LaI_in se.1 (by omega) i hi
      · obtain ⟨j, g1, g2, g3⟩ := se.1 q (by omega)
        refine ⟨j, by omega, by rw [a74, if_neg (by omega)]; exact g2, fun i hi => ?_⟩
        rw [a74, if_neg (by omega)]
        exact g3 i hi
    refine g_q Q (fun τ f => KcI_m (KcI_fr K f) fun q _ => at' _ _ (by omega)) (by omega) (B0 := B0) (D := D) (hh := hh) (L := L) (jk := jk) (ml := ml) (pn := pn) (n := n + 1) (wr := wr) ⟨?_, ⟨BoI_n T.1, ?_⟩, SeI_cg (n := n + 1) ⟨la, fun p hp => by rw [at' _ _ (by omega)]; exact se.2.1 p hp, fun p hp => by rw [at' _ _ (by omega)]; exact se.2.2.1 p hp, fun p hp => by rw [at' _ _ (by omega)]; exact se.2.2.2 p hp⟩ la fun p _ => ⟨Or.inl rfl, Or.inl rfl, rfl⟩, ⟨by rw [at' _ _ (by omega)]; exact w1, w2, by omega, w4⟩, ?_⟩
    · obtain ⟨⟨r1, r2, r3, r4, r5, r6⟩, r7⟩ := r
      exact ⟨⟨by rw [at' _ _ (by omega)]; exact r1, by rw [at' _ _ (by omega)]; exact r2, by rw [at' _ _ (by omega)]; exact r3, by rw [at' _ _ (by omega)]; exact r4, by rw [at' _ _ (by omega)]; exact r5, by rw [up2_at, if_pos ⟨rfl, rfl⟩]⟩, r7.1, r7.2.1, r7.2.2.1, r7.2.2.2.1, r7.2.2.2.2.1, r7.2.2.2.2.2.1, r7.2.2.2.2.2.2.1, by omega⟩
    · rcases T.2 with ⟨h1, h2⟩ | ⟨p', on⟩
      · exact Or.inl ⟨by rw [at' _ _ (by omega)]; exact h1, h2⟩
      · exact absurd (on.2.1.symm.trans off) (n_m1 (by have := on.1; omega))
    · exact RpI_m rp (at' _ _ (by omega))
/-- an empty table is whole -/
theorem acc_0 {L hh : Nat} {f : Nat → Nat → Nat} (hL : L = 3 ∨ L = 4) (h : ∀ m c, f m c = 0) : AccR L f hh := by
  have u0 : usG 0 = (0, 0, 0, 0) := by decide
  refine ⟨fun _ => (0, 0, 0, 0), fun m _ => ⟨⟨0, by decide, u0.symm⟩, fun c hc => ?_⟩, fun c hc => ⟨0, ?_, ?_⟩⟩
  · have : at4 (0, 0, 0, 0) c = 0 := by
      rcases (by omega : c = 0 ∨ c = 1 ∨ c = 2 ∨ c = 3) with rfl | rfl | rfl | rfl <;> rfl
    rw [this]
    exact Nat.zero_le _
  · have z : ∀ n, colR (rfT L) (lft f (fun _ => (0, 0, 0, 0)) c) n 0 := by
      intro n
      induction n with
      | zero => exact rfl
      | succ n ih =>
        refine ⟨0, ih, ?_⟩
        have e : lft f (fun _ => (0, 0, 0, 0)) c n = 0 := by
          unfold lft
          rw [h, Nat.zero_sub]
        rw [e]
        rcases hL with rfl | rfl
        · exact (by decide : (0 : Nat) ∈ rfT 3 0 0)
        · exact (by decide : (0 : Nat) ∈ rfT 4 0 0)
    exact z hh
  · rcases hL with rfl | rfl <;> decide
theorem BoI_z {X hh L jk n : Nat} (hX : X < 65536) (hL : L = 3 ∨ L = 4) : BoI (zB X) hh L jk n := by
  have s0 : ∀ n, natSum (fun _ => 0) n = 0 := fun n => natSum_zero fun _ _ => rfl
  refine ⟨⟨⟨⟨?_, fun p _ => ?_, hX⟩, fun k _ => by show 0 + 0 ≤ 2; omega, by show 0 ≤ 64; omega⟩, rfl, rfl⟩, ⟨fun _ _ _ _ _ => rfl, ⟨fun k _ => ?_, ?_⟩, fun _ _ _ => rfl⟩, ?_⟩
  · show natSum (fun _ => 0) 53 ≤ 1000
    rw [s0]; omega
  · show natSum (fun _ => 0) 53 ≤ 24
    rw [s0]; omega
  · show 0 + natSum (fun _ => 0) 4 + 0 ≤ _
    rw [s0]; omega
  · show 0 + natSum (fun _ => 0) 4 + natSum (fun _ => 0) 52 + 0 ≤ _
    rw [s0, s0]; omega
  · refine accB_iff.mpr (acc_0 hL fun m c => ?_)
    unfold tN tjB xZ
    split <;> rfl
theorem g_rules {t : Nat} {σ : rS} (G : GI t σ) (ht : t ≤ 512) (a b c d e : Int32) : GStep t (fun σ => f_L_rules σ a b c d e) (fun σ => f_X11_rules σ a b c d e) σ := by
  obtain ⟨B, E, dl, m, l, ch, B0, D, hh, L, jk, ml, pn, n, wr, C, M, K, hc, S⟩ := G
  obtain ⟨r, T, se, ⟨w1, w2, w3, w4⟩, rp⟩ := id S
  have hn4 := r.2.2.2.2.2.2.2.2
  have tp : m 67 24 = -1 ∨ ∃ p, p < n ∧ m 67 24 = nI p := by
    rcases T.2 with ⟨h, -⟩ | ⟨p, on⟩
    · exact Or.inl h
    · exact Or.inr ⟨p, on.1, on.2.1⟩
  rcases rules_s C M (Kp := FrK σ) (fun _ f => f) hn4 tp a b c d e with Q | ⟨off, h1, h2, h3, h4, h5, Q⟩
  · exact g_q Q (fun τ f => KcI_fr K f) (by omega) (GmS_s S)
  · have hX : bX B < 65536 := by
      rcases T.2 with ⟨-, -, hB⟩ | ⟨p, on⟩
      · rw [hB]; exact T.1.1.1.1.2.2
      · exact absurd (on.2.1.symm.trans off) (n_m1 (by have := on.1; omega))
    obtain ⟨hh', a1, a2, rfl⟩ := vIn_of (a := 5) (b := 13) (by decide) h1 (by decide)
    obtain ⟨L', b1, b2, rfl⟩ := vIn_of (a := 3) (b := 4) (by decide) h2 (by decide)
    obtain ⟨jk', -, c2, rfl⟩ := vIn_of (a := 0) (b := 3) (by decide) h3 (by decide)
    obtain ⟨ml', -, d2, rfl⟩ := vIn_of (a := 0) (b := 99) (by decide) h4 (by decide)
    obtain ⟨pn', e1, e2, rfl⟩ := vIn_of (a := 1) (b := 9) (by decide) h5 (by decide)
    have hL' : L' = 3 ∨ L' = 4 := by omega
    have at' : ∀ x k, ¬ (x = 67 ∧ 1 ≤ k ∧ k ≤ 5) → ruU m (nI hh') (nI L') (nI jk') (nI ml') (nI pn') x k = m x k := fun x k h => by
      unfold ruU
      rw [up2_at, if_neg (by omega), up2_at, if_neg (by omega), up2_at, if_neg (by omega), up2_at, if_neg (by omega), up2_at, if_neg (by omega)]
    refine g_q Q (fun τ f => KcI_up (KcI_fr K f) (by omega) (by omega)) (by omega) (B0 := zB (bX B)) (D := []) (hh := hh') (L := L') (jk := jk') (ml := ml') (pn := pn') (n := n) (wr := wr) ⟨⟨⟨?_, ?_, ?_, ?_, ?_, ?_⟩, a1, a2, hL', c2, d2, e1, e2, hn4⟩, ⟨BoI_z hX hL', Or.inl ⟨by rw [at' _ _ (by omega)]; exact off, rfl, rfl⟩⟩, ⟨LaI_cg se.1 fun k => at' _ _ (by omega), fun i hi => by rw [at' _ _ (by omega)]; exact se.2.1 i hi, fun i hi => by rw [at' _ _ (by omega)]; exact se.2.2.1 i hi, fun i hi => by rw [at' _ _ (by omega)]; exact se.2.2.2 i hi⟩, ⟨by rw [at' _ _ (by omega)]; exact w1, w2, ?_, fun x hx => absurd hx List.not_mem_nil⟩, ⟨by rw [at' _ _ (by omega)]; exact off, rfl, rfl, bX B, rfl⟩⟩
    · unfold ruU
      rw [up2_at, if_neg (by omega), up2_at, if_neg (by omega), up2_at, if_neg (by omega), up2_at, if_neg (by omega), up2_at, if_pos ⟨rfl, rfl⟩]
    · unfold ruU
      rw [up2_at, if_neg (by omega), up2_at, if_neg (by omega), up2_at, if_neg (by omega), up2_at, if_pos ⟨rfl, rfl⟩]
    · unfold ruU
      rw [up2_at, if_neg (by omega), up2_at, if_neg (by omega), up2_at, if_pos ⟨rfl, rfl⟩]
    · unfold ruU
      rw [up2_at, if_neg (by omega), up2_at, if_pos ⟨rfl, rfl⟩]
    · unfold ruU
      rw [up2_at, if_pos ⟨rfl, rfl⟩]
    · rw [at' _ _ (by omega)]; exact r.1.2.2.2.2.2
    · show wr ≤ t + 1 ∧ 0 + wr ≤ t + 1 + _
      omega
