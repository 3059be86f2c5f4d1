/-! gatherWays; lookAhead -/
theorem gw_3 {σ : rS} {L h md : Nat} {bw : Bool} {lo hi : Nat → Nat} (S : SwC σ L h md bw lo hi) {n : Nat} (hn : n ≤ 40) {x : V4} (hx : ∀ c, c < 4 → at4 x c = sMo md lo hi h c n - sLo lo h c n) {a b : Nat} (ha : a ≤ x.1) (hb : b ≤ x.2.1) {s11 s12 : Int32 × rS} (e1 : s11.1 = nI a) (e2 : s12.1 = nI b) {l : List (Nat × Int64 × Int64)} {τ : rS} (H : WaK σ l τ) : ∃ υ, oLoop (b_X9_gatherWays_148 (nI n) (nI x.2.2.1) (nI x.2.2.2) s11 s12) oFuel (0, τ) = some (.inr (nI (b + 1), υ)) ∧ WaK σ ((List.range (x.2.2.1 + 1)).foldl (fun l c => (List.range (x.2.2.2 + 1)).foldl (fun l d => gwOne md bw n (lo4 lo h n) l (a, b, c, d)) l) l) υ := by
  have hl : ∀ c, c < 4 → at4 x c ≤ 2 := fun c hc => by
    have := loN_le S (c := c) (n := n)
    have := hx c hc
    omega
  have l2 := hl 2 (by omega)
  rw [at4_2] at l2
  refine oL_run (fun k υ => WaK σ ((List.range k).foldl (fun l c => (List.range (x.2.2.2 + 1)).foldl (fun l d => gwOne md bw n (lo4 lo h n) l (a, b, c, d)) l) l) υ) (N := x.2.2.1 + 1) (fun υ => Sum.inr (nI (b + 1), υ)) (fun k υ hd hP => ?_) (fun υ hP => ?_) (by have : oFuel = 100000 := rfl; omega) H
  · unfold b_X9_gatherWays_148
    dsimp only
    have c1 : ¬ nI x.2.2.1 < nI k := fun q => by have := (nI_lt' (by omega) (by omega)).mp q; omega
    rw [if_neg c1, range_foldl]
    exact gw_4 S hn hx ha hb (by omega) e1 e2 rfl hP
  · unfold b_X9_gatherWays_148
    dsimp only
    have c1 : nI x.2.2.1 < nI (x.2.2.1 + 1) := (nI_lt' (by omega) (by omega)).mpr (by omega)
    rw [if_pos c1, e2, show nI b + 1 = nI (b + 1) from nI_1 b]
theorem gw_2 {σ : rS} {L h md : Nat} {bw : Bool} {lo hi : Nat → Nat} (S : SwC σ L h md bw lo hi) {n : Nat} (hn : n ≤ 40) {x : V4} (hx : ∀ c, c < 4 → at4 x c = sMo md lo hi h c n - sLo lo h c n) {a : Nat} (ha : a ≤ x.1) {s11 : Int32 × rS} (e1 : s11.1 = nI a) {l : List (Nat × Int64 × Int64)} {τ : rS} (H : WaK σ l τ) : ∃ υ, oLoop (b_X9_gatherWays_139 (nI n) (nI x.2.1) (nI x.2.2.1) (nI x.2.2.2) s11) oFuel (0, τ) = some (.inr (nI (a + 1), υ)) ∧ WaK σ ((List.range (x.2.1 + 1)).foldl (fun l b => (List.range (x.2.2.1 + 1)).foldl (fun l c => (List.range (x.2.2.2 + 1)).foldl (fun l d => gwOne md bw n (lo4 lo h n) l (a, b, c, d)) l) l) l) υ := by
  have hl : ∀ c, c < 4 → at4 x c ≤ 2 := fun c hc => by
    have := loN_le S (c := c) (n := n)
    have := hx c hc
    omega
  have l2 := hl 1 (by omega)
  rw [at4_1] at l2
  refine oL_run (fun k υ => WaK σ ((List.range k).foldl (fun l b => (List.range (x.2.2.1 + 1)).foldl (fun l c => (List.range (x.2.2.2 + 1)).foldl (fun l d => gwOne md bw n (lo4 lo h n) l (a, b, c, d)) l) l) l) υ) (N := x.2.1 + 1) (fun υ => Sum.inr (nI (a + 1), υ)) (fun k υ hd hP => ?_) (fun υ hP => ?_) (by have : oFuel = 100000 := rfl; omega) H
  · unfold b_X9_gatherWays_139
    dsimp only
    have c1 : ¬ nI x.2.1 < nI k := fun q => by have := (nI_lt' (by omega) (by omega)).mp q; omega
    rw [if_neg c1, range_foldl]
    exact gw_3 S hn hx ha (by omega) e1 rfl hP
  · unfold b_X9_gatherWays_139
    dsimp only
    have c1 : nI x.2.1 < nI (x.2.1 + 1) := (nI_lt' (by omega) (by omega)).mpr (by omega)
    rw [if_pos c1, e1, show nI a + 1 = nI (a + 1) from nI_1 a]
theorem gw_1 {σ : rS} {L h md : Nat} {bw : Bool} {lo hi : Nat → Nat} (S : SwC σ L h md bw lo hi) {n : Nat} (hn : n ≤ 40) {x : V4} (hx : ∀ c, c < 4 → at4 x c = sMo md lo hi h c n - sLo lo h c n) {l : List (Nat × Int64 × Int64)} {τ : rS} (H : WaK σ l τ) : ∃ υ, oLoop (b_X9_gatherWays_130 (nI n) (nI x.1) (nI x.2.1) (nI x.2.2.1) (nI x.2.2.2)) oFuel (0, τ) = some ((), υ) ∧ WaK σ ((List.range (x.1 + 1)).foldl (fun l a => (List.range (x.2.1 + 1)).foldl (fun l b => (List.range (x.2.2.1 + 1)).foldl (fun l c => (List.range (x.2.2.2 + 1)).foldl (fun l d => gwOne md bw n (lo4 lo h n) l (a, b, c, d)) l) l) l) l) υ := by
  have hl : ∀ c, c < 4 → at4 x c ≤ 2 := fun c hc => by
    have := loN_le S (c := c) (n := n)
    have := hx c hc
    omega
  have l2 := hl 0 (by omega)
  rw [at4_0] at l2
  refine oL_run (fun k υ => WaK σ ((List.range k).foldl (fun l a => (List.range (x.2.1 + 1)).foldl (fun l b => (List.range (x.2.2.1 + 1)).foldl (fun l c => (List.range (x.2.2.2 + 1)).foldl (fun l d => gwOne md bw n (lo4 lo h n) l (a, b, c, d)) l) l) l) l) υ) (N := x.1 + 1) (fun υ => ((), υ)) (fun k υ hd hP => ?_) (fun υ hP => ?_) (by have : oFuel = 100000 := rfl; omega) H
  · unfold b_X9_gatherWays_130
    dsimp only
    have c1 : ¬ nI x.1 < nI k := fun q => by have := (nI_lt' (by omega) (by omega)).mp q; omega
    rw [if_neg c1, range_foldl]
    exact gw_2 S hn hx (by omega) rfl hP
  · unfold b_X9_gatherWays_130
    dsimp only
    have c1 : nI x.1 < nI (x.1 + 1) := (nI_lt' (by omega) (by omega)).mpr (by omega)
    rw [if_pos c1]
theorem va_upI_eq (σ : rS) (a : Nat) (f : Nat → Int32) (b j : Nat) : rI (rowI σ a f) b j = if b = a then f j else rI σ b j := q_rI σ a f b j
theorem gw_0 {σ : rS} {l : List (Nat × Int64 × Int64)} (H : WaR σ l) (HK : KeyW l) : ∃ τ, oLoop b_X9_gatherWays_2 oFuel (0, σ) = some (.inr τ) ∧ FrW σ τ ∧ ∀ t, t ≤ 8738 → rI τ 62 t = 0 := by
  obtain ⟨h1, h2, h3, h4, h5⟩ := H
  have hlen := HK.len h2
  have hs : ∀ k τ, k < l.length → (FrW σ τ ∧ rI τ 37 11 = nI l.length ∧ (∀ i p, l[i]? = some p → rI τ 59 i = nI p.1) ∧ ∀ t, t ≤ 8738 → t ∉ (l.drop k).map (fun p => p.1) → rI τ 62 t = 0) → ∃ υ, b_X9_gatherWays_2 (nI k, τ) = some (.inr (nI (k + 1), υ)) ∧ (FrW σ υ ∧ rI υ 37 11 = nI l.length ∧ (∀ i p, l[i]? = some p → rI υ 59 i = nI p.1) ∧ ∀ t, t ≤ 8738 → t ∉ (l.drop (k + 1)).map (fun p => p.1) → rI υ 62 t = 0) := by
    intro k τ hk hP
    obtain ⟨g1, g2, g3, g4⟩ := hP
    unfold b_X9_gatherWays_2
    dsimp only
    rw [g2]
    have c1 : ¬ nI l.length ≤ nI k := fun q => by have := (nI_leI (by omega) (by omega)).mp q; omega
    have c2 : ¬ (81 : Int32) ≤ nI k := fun q => by have := (nI_leI (a := 81) (by omega) (by omega)).mp q; omega
    rw [if_neg (by rw [if_neg c1, if_neg c2]; exact Bool.false_ne_true), if_pos (inB_nI (by decide) (by omega)), nI_clamp (by omega)]
    obtain ⟨p, hp⟩ : ∃ p, l[k]? = some p := ⟨l[k], List.getElem?_eq_getElem hk⟩
    have hp3 := h3 p (List.mem_of_getElem? hp)
    rw [g3 k p hp]
    simp only [oLet_eq]
    rw [vSet_nI (by decide) (by omega)]
    refine ⟨_, by rw [show nI k + 1 = nI (k + 1) from nI_1 k], ?_, ?_, ?_, ?_⟩
    · refine g1.tr ⟨rfl, rfl, rfl, fun a j k1 k2 k3 => ?_, fun a j k1 k2 => rfl⟩
      rw [q_rI, if_neg k2]
    · rw [q_rI, if_neg (by decide)]; exact g2
    · intro i q hi
      rw [q_rI, if_neg (by decide)]; exact g3 i q hi
    · intro t ht hn
      rw [q_rI, if_pos rfl, up_at]
      split
      · rfl
      · rename_i hne
        refine g4 t ht (fun hm => hn ?_)
        have ed : l.drop k = p :: l.drop (k + 1) := by
          rw [List.drop_eq_getElem_cons hk]
          congr 1
          rw [List.getElem?_eq_getElem hk] at hp
          exact Option.some.inj hp
        rw [ed, List.map_cons] at hm
        rcases List.mem_cons.mp hm with q | q
        · exact absurd q hne
        · exact q
  have he : ∀ τ, (rI τ 37 11 = nI l.length) → b_X9_gatherWays_2 (nI l.length, τ) = some (.inl (.inr τ)) := by
    intro τ g2
    unfold b_X9_gatherWays_2
    dsimp only
    rw [g2, if_pos (by rw [if_pos ((nI_leI (by omega) (by omega)).mpr (Nat.le_refl _))])]
  obtain ⟨τ, k1, k2, k3, k4, k5⟩ := oL_run (body := b_X9_gatherWays_2) (fun k τ => FrW σ τ ∧ rI τ 37 11 = nI l.length ∧ (∀ i p, l[i]? = some p → rI τ 59 i = nI p.1) ∧ ∀ t, t ≤ 8738 → t ∉ (l.drop k).map (fun p => p.1) → rI τ 62 t = 0) (N := l.length) (fun τ => Sum.inr τ) (n := oFuel) (σ := σ) hs (fun τ hP => he τ hP.2.1) (by have : oFuel = 100000 := rfl; omega) ⟨FrW.rf σ, h1, fun i p hi => (h4 i p hi).1, fun t ht hn => h5 t ht hn⟩
  exact ⟨τ, k1, k2, fun t ht => k5 t ht (by rw [List.drop_length]; simp)⟩
/-- the most that can be besides, of a number's four colours -/
def xs4 (md : Nat) (lo hi : Nat → Nat) (h n : Nat) : V4 := (sMo md lo hi h 0 n - sLo lo h 0 n, sMo md lo hi h 1 n - sLo lo h 1 n, sMo md lo hi h 2 n - sLo lo h 2 n, sMo md lo hi h 3 n - sLo lo h 3 n)
theorem gather_eq {σ : rS} {L h md : Nat} {bw : Bool} {lo hi : Nat → Nat} (S : SwC σ L h md bw lo hi) {n : Nat} (hn : n ≤ 40) {l : List (Nat × Int64 × Int64)} (H : WaR σ l) (HK : KeyW l) : ∃ τ, f_X9_gatherWays σ (nI n) = some ((), τ) ∧ WaK σ (gwL md bw n (lo4 lo h n) (xs4 md lo hi h n)) τ := by
  obtain ⟨τ, k1, k2, k3⟩ := gw_0 H HK
  unfold f_X9_gatherWays
  rw [k1, oJ_inr]
  have F : FrW σ (wI τ 37 11 0) := k2.tr ⟨rfl, rfl, rfl, fun a j q1 q2 q3 => by rw [q_II, if_neg (fun q => q3 q.1 q.2)], fun _ _ _ _ => rfl⟩
  have S2 := S.fr F
  have W : WaR (wI τ 37 11 0) [] := by
    refine ⟨?_, List.nodup_nil, fun p hp => absurd hp List.not_mem_nil, fun i p hi => absurd hi (by simp), fun t ht _ => ?_⟩
    · rw [q_II, if_pos ⟨rfl, rfl⟩]; rfl
    · rw [q_II, if_neg (fun q => absurd q.1 (by decide))]; exact k3 t ht
  simp only [oLet_eq]
  have ed : ∀ c, c < 4 → v_X9_mostOf (wI τ 37 11 0) (nI c) (nI n) - vAt (rI (wI τ 37 11 0) 48) 52 (v_X9_kindOf (wI τ 37 11 0) (nI c) (nI n)) = nI (sMo md lo hi h c n - sLo lo h c n) := fun c hc => by
    rw [mostOf_eq S2 hc hn, lo_eq S2 hc hn, nI_sub (loN_le S).1]
  have d0 := ed 0 (by decide)
  have d1 := ed 1 (by decide)
  have d2 := ed 2 (by decide)
  have d3 := ed 3 (by decide)
  rw [show nI 0 = (0 : Int32) from rfl] at d0
  rw [show nI 1 = (1 : Int32) from rfl] at d1
  rw [show nI 2 = (2 : Int32) from rfl] at d2
  rw [show nI 3 = (3 : Int32) from rfl] at d3
  rw [d0, d1, d2, d3]
  obtain ⟨υ, g1, g2, g3, g4⟩ := gw_1 S2 hn (x := xs4 md lo hi h n) (fun c hc => by
    have : c = 0 ∨ c = 1 ∨ c = 2 ∨ c = 3 := by omega
    rcases this with rfl | rfl | rfl | rfl <;> rfl) (τ := wI τ 37 11 0) ⟨W, fun p hp => absurd hp (List.not_mem_nil), FrW.rf _⟩
  exact ⟨υ, g1, g2, g3, F.tr g4⟩
/-- nothing but the rows of what lies ahead changes -/
def FrA (σ τ : rS) : Prop := rK τ = rK σ ∧ rR τ = rR σ ∧ rN τ = rN σ ∧ rL τ = rL σ ∧ ∀ a j, a ≠ 63 → a ≠ 64 → rI τ a j = rI σ a j
theorem SwC.frA {σ τ : rS} {L h md : Nat} {bw : Bool} {lo hi : Nat → Nat} (S : SwC σ L h md bw lo hi) (f : FrA σ τ) : SwC τ L h md bw lo hi := by
  have d2 := f.2.2.2.2
  obtain ⟨⟨s1, s2⟩, ⟨s3, s4⟩, s5, s6, s7, s8, s9, s10, s11, s12⟩ := S
  refine ⟨⟨(d2 37 16 (by decide) (by decide)).trans s1, s2⟩, ⟨(d2 37 17 (by decide) (by decide)).trans s3, s4⟩, (d2 37 18 (by decide) (by decide)).trans s5, fun k hk => (d2 48 k (by decide) (by decide)).trans (s6 k hk), fun k hk => (d2 49 k (by decide) (by decide)).trans (s7 k hk), s8, fun k hk => (d2 1 k (by decide) (by decide)).trans (s9 k hk), s10, by rw [f.2.1]; exact s11, fun i hi => ?_⟩
  rw [f.2.1, ← s12 i hi]
  have e : rR σ 37 14 = 43 ∨ rR σ 37 14 = 38 := by rw [s11]; split <;> simp
  exact d2 _ _ (by omega) (by omega)
/-- the states that are worth going on from -/
def opW (md L : Nat) (lo hi : Nat → Nat) (h n c : Nat) : Int32 := if md = 0 then 65535 else sHo L (sMo md lo hi h c (n + 1)) (sMo md lo hi h c (n + 2)) (sMo md lo hi h c (n + 3))
def suW (L : Nat) (lo : Nat → Nat) (h n c : Nat) : Int32 := sHo L (sLo lo h c (n + 1)) (sLo lo h c (n + 2)) (sLo lo h c (n + 3))
theorem look_eq {σ : rS} {L h md : Nat} {bw : Bool} {lo hi : Nat → Nat} (S : SwC σ L h md bw lo hi) {n : Nat} (hn : n ≤ 30) : ∃ τ, f_X9_lookAhead σ (nI n) = some ((), τ) ∧ FrA σ τ ∧ ∀ c, c < 4 → rI τ 63 c = opW md L lo hi h n c ∧ rI τ 64 c = suW L lo h n c := by
  unfold f_X9_lookAhead
  refine oL_run (fun k τ => FrA σ τ ∧ ∀ c, c < k → rI τ 63 c = opW md L lo hi h n c ∧ rI τ 64 c = suW L lo h n c) (N := 4) (fun τ => ((), τ)) (fun k τ hk hP => ?_) (fun τ hP => ?_) (by decide) ⟨⟨rfl, rfl, rfl, rfl, fun _ _ _ _ => rfl⟩, fun c hc => absurd hc (Nat.not_lt_zero c)⟩
  · obtain ⟨g1, g2⟩ := hP
    have S2 := S.frA g1
    unfold b_X9_lookAhead_2
    dsimp only
    have c1 : ¬ (4 : Int32) ≤ nI k := fun q => by have := (nI_leI (a := 4) (by omega) (by omega)).mp q; omega
    rw [if_neg c1]
    simp only [oLet_eq]
    rw [if_pos (inB_nI (by decide) hk), nI_clamp (by omega)]
    have n1 : nI n + 1 = nI (n + 1) := nI_1 n
    have n2 : nI n + 2 = nI (n + 2) := nI_add n 2
    have n3 : nI n + 3 = nI (n + 3) := nI_add n 3
    rw [n1, n2, n3]
    have lle : ∀ m, sLo lo h k m ≤ 2 := fun m => Nat.le_trans (loN_le S).1 (loN_le S).2
    have mle : ∀ m, sMo md lo hi h k m ≤ 2 := fun m => (loN_le S).2
    rw [lo_eq S2 hk (by omega), lo_eq S2 hk (by omega), lo_eq S2 hk (by omega), hope_eq S2 (lle _) (lle _) (lle _)]
    have G : FrA σ (wI τ 64 k (suW L lo h n k)) := ⟨g1.1, g1.2.1, g1.2.2.1, g1.2.2.2.1, fun a j q1 q2 => by rw [q_II, if_neg (fun q => q2 q.1)]; exact g1.2.2.2.2 a j q1 q2⟩
    have S3 := S.frA G
    rw [show sHo L (sLo lo h k (n + 1)) (sLo lo h k (n + 2)) (sLo lo h k (n + 3)) = suW L lo h n k from rfl]
    have e0 : (rI (wI τ 64 k (suW L lo h n k)) 37 17 = 0) = (md = 0) := by
      rw [S3.mode]
      have := S.m4
      exact propext (nI_eq (b := 0) (by omega) (by omega))
    have eh : v_X8_hopefulWith (wI τ 64 k (suW L lo h n k)) (rR (wI τ 64 k (suW L lo h n k)) 37 14) (v_X9_mostOf (wI τ 64 k (suW L lo h n k)) (nI k) (nI (n + 1))) (v_X9_mostOf (wI τ 64 k (suW L lo h n k)) (nI k) (nI (n + 2))) (v_X9_mostOf (wI τ 64 k (suW L lo h n k)) (nI k) (nI (n + 3))) = sHo L (sMo md lo hi h k (n + 1)) (sMo md lo hi h k (n + 2)) (sMo md lo hi h k (n + 3)) := by
      rw [mostOf_eq S3 hk (by omega), mostOf_eq S3 hk (by omega), mostOf_eq S3 hk (by omega), hope_eq S3 (mle _) (mle _) (mle _)]
    have ev : (if rI (wI τ 64 k (suW L lo h n k)) 37 17 = 0 then (65535 : Int32) else v_X8_hopefulWith (wI τ 64 k (suW L lo h n k)) (rR (wI τ 64 k (suW L lo h n k)) 37 14) (v_X9_mostOf (wI τ 64 k (suW L lo h n k)) (nI k) (nI (n + 1))) (v_X9_mostOf (wI τ 64 k (suW L lo h n k)) (nI k) (nI (n + 2))) (v_X9_mostOf (wI τ 64 k (suW L lo h n k)) (nI k) (nI (n + 3)))) = opW md L lo hi h n k := by
      rw [eh]
      unfold opW
      simp only [e0]
    rw [ev]
    refine ⟨wI (wI τ 64 k (suW L lo h n k)) 63 k (opW md L lo hi h n k), by rw [nI_1 k], ⟨G.1, G.2.1, G.2.2.1, G.2.2.2.1, fun a j q1 q2 => by rw [q_II, if_neg (fun q => q1 q.1)]; exact G.2.2.2.2 a j q1 q2⟩, fun c hc => ?_⟩
    by_cases hck : c = k
    · subst hck
      refine ⟨?_, ?_⟩
      · rw [q_II, if_pos ⟨rfl, rfl⟩]
      · rw [q_II, if_neg (by simp), q_II, if_pos ⟨rfl, rfl⟩]
    · obtain ⟨r1, r2⟩ := g2 c (by omega)
      refine ⟨?_, ?_⟩
      · rw [q_II, if_neg (fun q => hck q.2), q_II, if_neg (by simp)]; exact r1
      · rw [q_II, if_neg (by simp), q_II, if_neg (fun q => hck q.2)]; exact r2
  · rfl
