/-! what a sweep reads; groupAway and gatherWays as lists -/
theorem oL_run {R : Type} {body : Int32 × rS → Option (R ⊕ (Int32 × rS))} (P : Nat → rS → Prop) {N : Nat} (r : rS → R) (hs : ∀ k τ, k < N → P k τ → ∃ υ, body (nI k, τ) = some (.inr (nI (k + 1), υ)) ∧ P (k + 1) υ) (he : ∀ τ, P N τ → body (nI N, τ) = some (.inl (r τ))) {n : Nat} (hn : N < n) {σ : rS} (h0 : P 0 σ) : ∃ τ, oLoop body n (0, σ) = some (r τ) ∧ P N τ := by
  have key : ∀ d k n τ, k + d = N → d < n → P k τ → ∃ υ, oLoop body n (nI k, τ) = some (r υ) ∧ P N υ := by
    intro d
    induction d with
    | zero =>
      intro k n τ hk hn hP
      obtain ⟨n, rfl⟩ : ∃ m, n = m + 1 := ⟨n - 1, by omega⟩
      have e : k = N := by omega
      subst e
      exact ⟨τ, oLoop_l (he τ hP), hP⟩
    | succ d ih =>
      intro k n τ hk hn hP
      obtain ⟨n, rfl⟩ : ∃ m, n = m + 1 := ⟨n - 1, by omega⟩
      obtain ⟨υ, h1, h2⟩ := hs k τ (by omega) hP
      rw [oLoop_r h1]
      exact ih (k + 1) n υ (by omega) (by omega) h2
  exact key N 0 n σ (by omega) hn h0
def fWt (b : Bool) (k : Int32) : Int64 := if (if b then (1 : Int32) else 0) = 0 then (if 24 ≤ k then (((((512 + ((iRem k 13) + 1) : Int32)).toInt64) <<< (((48 : Int32)).toInt64 &&& 63)) + (0 : Int64)) else (((((512 + ((iRem k 13) + 1) : Int32)).toInt64) <<< (((48 : Int32)).toInt64 &&& 63)) + ((1 : Int64) <<< (((2 * (23 - k) : Int32)).toInt64 &&& 63)))) else (if 24 ≤ k then ((((((32 * ((iRem k 13) + 1)) + 1 : Int32)).toInt64) <<< (((48 : Int32)).toInt64 &&& 63)) + (0 : Int64)) else ((((((32 * ((iRem k 13) + 1)) + 1 : Int32)).toInt64) <<< (((48 : Int32)).toInt64 &&& 63)) + ((1 : Int64) <<< (((2 * (23 - k) : Int32)).toInt64 &&& 63))))
def sWt (k : Int32) : Int64 := if 24 ≤ k then ((1 : Int64) <<< (((2 * (51 - k) : Int32)).toInt64 &&& 63)) else (0 : Int64)
def lo4 (lo : Nat → Nat) (h n : Nat) : V4 := (sLo lo h 0 n, sLo lo h 1 n, sLo lo h 2 n, sLo lo h 3 n)
theorem SwC.mode {σ : rS} {L h md : Nat} {bw : Bool} {lo hi : Nat → Nat} (S : SwC σ L h md bw lo hi) : rI σ 37 17 = nI md := S.2.1.1
theorem SwC.m4 {σ : rS} {L h md : Nat} {bw : Bool} {lo hi : Nat → Nat} (S : SwC σ L h md bw lo hi) : md ≤ 4 := S.2.1.2
theorem SwC.top {σ : rS} {L h md : Nat} {bw : Bool} {lo hi : Nat → Nat} (S : SwC σ L h md bw lo hi) : rI σ 37 16 = nI h := S.1.1
theorem SwC.h13 {σ : rS} {L h md : Nat} {bw : Bool} {lo hi : Nat → Nat} (S : SwC σ L h md bw lo hi) : h ≤ 13 := S.1.2
theorem SwC.worth {σ : rS} {L h md : Nat} {bw : Bool} {lo hi : Nat → Nat} (S : SwC σ L h md bw lo hi) : rI σ 37 18 = (if bw then 1 else 0) := S.2.2.1
theorem SwC.grp {σ : rS} {L h md : Nat} {bw : Bool} {lo hi : Nat → Nat} (S : SwC σ L h md bw lo hi) : ∀ g, g < 21 → rI σ 1 g = gr g := S.2.2.2.2.2.2.1
theorem SwC.fr {σ τ : rS} {L h md : Nat} {bw : Bool} {lo hi : Nat → Nat} (S : SwC σ L h md bw lo hi) (f : FrW σ τ) : SwC τ L h md bw lo hi := by
  have g := f.2.2.2.1
  have d1 : ∀ j, j ≠ 11 → rI τ 37 j = rI σ 37 j := fun j hj => g 37 j (by decide) (by decide) (fun _ => hj)
  have d2 : ∀ a j, a ≠ 59 → a ≠ 62 → a ≠ 37 → rI τ a j = rI σ a j := fun a j h1 h2 h3 => g a j h1 h2 (fun q => absurd q h3)
  obtain ⟨⟨s1, s2⟩, ⟨s3, s4⟩, s5, s6, s7, s8, s9, s10, s11, s12⟩ := S
  refine ⟨⟨(d1 16 (by decide)).trans s1, s2⟩, ⟨(d1 17 (by decide)).trans s3, s4⟩, (d1 18 (by decide)).trans s5, fun k hk => (d2 48 k (by decide) (by decide) (by decide)).trans (s6 k hk), fun k hk => (d2 49 k (by decide) (by decide) (by decide)).trans (s7 k hk), s8, fun k hk => (d2 1 k (by decide) (by decide) (by decide)).trans (s9 k hk), s10, by rw [f.2.1]; exact s11, fun i hi => ?_⟩
  rw [f.2.1, ← s12 i hi]
  have e : rR σ 37 14 = 43 ∨ rR σ 37 14 = 38 := by rw [s11]; split <;> simp
  exact d2 _ _ (by omega) (by omega) (by omega)
theorem loN_le {σ : rS} {L h md : Nat} {bw : Bool} {lo hi : Nat → Nat} (S : SwC σ L h md bw lo hi) {c n : Nat} : sLo lo h c n ≤ sMo md lo hi h c n ∧ sMo md lo hi h c n ≤ 2 := by
  have h8 := S.2.2.2.2.2.1
  exact ⟨sLo_sMo (fun k => ⟨(h8 k).1, (h8 k).2.2⟩), sMo_le (fun k => (h8 k).2.1)⟩
theorem kindW {σ : rS} {L h md : Nat} {bw : Bool} {lo hi : Nat → Nat} (S : SwC σ L h md bw lo hi) {c n : Nat} (hc : c < 4) (hn : n ≤ 40) : v_X9_kindOf σ (nI c) (nI n) = if 1 ≤ n ∧ n ≤ h then nI (13 * c + n - 1) else -1 := by
  rw [kindOf_eq S.top S.h13 hc hn]
  unfold sKd
  split <;> rfl
theorem at4_0 (v : V4) : at4 v 0 = v.1 := rfl
theorem at4_1 (v : V4) : at4 v 1 = v.2.1 := rfl
theorem at4_2 (v : V4) : at4 v 2 = v.2.2.1 := rfl
theorem at4_3 (v : V4) : at4 v 3 = v.2.2.2 := rfl
/-- what two numbers a row of tiles besides is worth -/
def gF (md : Nat) (bw : Bool) (n : Nat) (m : V4) (c : Nat) : Int64 := (List.range c).foldl (fun f c => if at4 m c = 0 then f else if md = 3 then f ||| ((1 : Int64) <<< ((nI (13 * c + n - 1)).toInt64 &&& 63)) else f + (nI (at4 m c)).toInt64 * fWt bw (nI (13 * c + n - 1))) (if md = 3 ∧ cd4 m = 0 then 4503599627370496 else 0)
def gS (md n : Nat) (m : V4) (c : Nat) : Int64 := (List.range c).foldl (fun f c => if at4 m c = 0 then f else if md = 3 then f else f + (nI (at4 m c)).toInt64 * sWt (nI (13 * c + n - 1))) 0
def cdT (lo : Nat → Nat) (h n : Nat) (m : V4) (c : Nat) : Nat := (List.range c).foldl (fun t c => t + sLo lo h c n * 16 ^ c) (cd4 m)
theorem at4_le {t : V4} (S : le4 t) (c : Nat) : at4 t c ≤ 2 := by
  obtain ⟨h1, h2, h3, h4⟩ := S
  unfold at4; split <;> assumption
theorem cdT_4 (lo : Nat → Nat) (h n : Nat) (m : V4) : cdT lo h n m 4 = cd4 (add4 (lo4 lo h n) m) := by
  unfold cdT cd4 add4 lo4
  simp only [List.range_succ, List.range_zero, List.nil_append, List.foldl_append, List.foldl_cons, List.foldl_nil, List.cons_append]
  omega
theorem ga_head {σ : rS} {L h md : Nat} {bw : Bool} {lo hi : Nat → Nat} (S : SwC σ L h md bw lo hi) {n : Nat} (hn : n ≤ 40) {m : V4} (hm : le4 m) (hmk : ∀ c, c < 4 → at4 m c ≠ 0 → 1 ≤ n ∧ n ≤ h) {f0 : Int64} (hf : f0 = if md = 3 ∧ cd4 m = 0 then 4503599627370496 else 0) : oLoop (b_X9_groupAway_29 σ (nI n) (nI (cd4 m))) oFuel (nI (cd4 m), f0, 0, 0) = some (.inr (nI (cdT lo h n m 4), gF md bw n m 4, gS md n m 4)) := by
  have h4 := S.m4
  have e0 : (nI (cd4 m), f0, (0 : Int64), (0 : Int32)) = (fun c => (nI (cdT lo h n m c), gF md bw n m c, gS md n m c, nI c)) 0 := by
    rw [hf]; rfl
  rw [e0]
  refine oL_up (N := 4) (fun c => (nI (cdT lo h n m c), gF md bw n m c, gS md n m c, nI c)) 0 (by omega) (fun c _ hc => ?_) ?_ (by decide)
  · unfold b_X9_groupAway_29
    dsimp only
    have c1 : ¬ (4 : Int32) ≤ nI c := fun q => by have := (nI_leI (a := 4) (by omega) (by omega)).mp q; omega
    rw [if_neg c1, lo_eq S hc hn, more_at hm hc]
    have hl := loN_le S (c := c) (n := n)
    rw [sh_at (by omega) hc]
    simp only [oLet_eq]
    have e1 : nI (cdT lo h n m c) + nI (sLo lo h c n * 16 ^ c) = nI (cdT lo h n m (c + 1)) := by
      rw [nI_add]; unfold cdT; rw [range_foldl]
    have e2 : nI c + 1 = nI (c + 1) := nI_1 c
    have ha := at4_le hm c
    have e3 : (nI (at4 m c) ≤ 0) = (at4 m c = 0) := propext ⟨fun q => by have := (nI_leI (b := 0) (by omega) (by omega)).mp q; omega, fun q => by rw [q]; decide⟩
    have e4 : (rI σ 37 17 = 3) = (md = 3) := by rw [S.mode]; exact propext (nI_eq (b := 3) (by omega) (by omega))
    have eF : gF md bw n m (c + 1) = if at4 m c = 0 then gF md bw n m c else if md = 3 then gF md bw n m c ||| ((1 : Int64) <<< ((nI (13 * c + n - 1)).toInt64 &&& 63)) else gF md bw n m c + (nI (at4 m c)).toInt64 * fWt bw (nI (13 * c + n - 1)) := by
      conv => lhs; unfold gF; rw [range_foldl]
      rfl
    have eS : gS md n m (c + 1) = if at4 m c = 0 then gS md n m c else if md = 3 then gS md n m c else gS md n m c + (nI (at4 m c)).toInt64 * sWt (nI (13 * c + n - 1)) := by
      conv => lhs; unfold gS; rw [range_foldl]
      rfl
    rw [e1, e2, eF, eS]
    simp only [e3, e4]
    by_cases c2 : at4 m c = 0
    · simp only [if_pos c2]
    · simp only [if_neg c2]
      have hk := kindW S hc hn
      rw [if_pos (hmk c hc c2)] at hk
      have eW : v_X9_firstWeight σ (nI (13 * c + n - 1)) = fWt bw (nI (13 * c + n - 1)) := by
        unfold v_X9_firstWeight; rw [S.worth]; rfl
      rw [hk, eW]
      rfl
  · unfold b_X9_groupAway_29
    rfl
theorem ga_eq {σ : rS} {L h md : Nat} {bw : Bool} {lo hi : Nat → Nat} (S : SwC σ L h md bw lo hi) {n : Nat} (hn : n ≤ 40) {m : V4} (hm : ∀ c, c < 4 → at4 m c ≤ sMo md lo hi h c n - sLo lo h c n) {l : List (Nat × Int64 × Int64)} (H : WaR σ l) (HK : KeyW l) : ∃ τ, f_X9_groupAway σ (nI n) (nI (cd4 m)) = some ((), τ) ∧ WaR τ (gaL md (add4 (lo4 lo h n) m) (gF md bw n m 4) (gS md n m 4) l) ∧ KeyW (gaL md (add4 (lo4 lo h n) m) (gF md bw n m 4) (gS md n m 4) l) ∧ FrW σ τ := by
  have h4 := S.m4
  have hl : ∀ c, c < 4 → at4 m c + sLo lo h c n ≤ 2 := fun c hc => by
    have := loN_le S (c := c) (n := n)
    have := hm c hc
    omega
  have l0 := hl 0 (by omega)
  have l1 := hl 1 (by omega)
  have l2 := hl 2 (by omega)
  have l3 := hl 3 (by omega)
  rw [at4_0] at l0
  rw [at4_1] at l1
  rw [at4_2] at l2
  rw [at4_3] at l3
  have hle : le4 m := by unfold le4; omega
  have ht : le4 (add4 (lo4 lo h n) m) := by unfold le4 add4 lo4; dsimp only; omega
  have hmk : ∀ c, c < 4 → at4 m c ≠ 0 → 1 ≤ n ∧ n ≤ h := fun c hc h0 => by
    have h1 := hm c hc
    by_cases q : 1 ≤ n ∧ n ≤ h
    · exact q
    · have : sMo md lo hi h c n = 0 := by unfold sMo sKd; rw [if_neg q]
      omega
  obtain ⟨τ, k1, k2⟩ := ga_loop (σ := σ) (f := gF md bw n m 4) (s := gS md n m 4) S.mode h4 S.grp ht H HK
  refine ⟨τ, ?_, k2⟩
  unfold f_X9_groupAway
  have e3 : (rI σ 37 17 = 3) = (md = 3) := by rw [S.mode]; exact propext (nI_eq (b := 3) (by omega) (by omega))
  have hc := cd4_le hle
  have e4 : (nI (cd4 m) = 0) = (cd4 m = 0) := propext (nI_eq (b := 0) (by omega) (by omega))
  simp only [oLet_eq, e3, e4]
  rw [ga_head S hn hle hmk (by by_cases c1 : md = 3 <;> by_cases c2 : cd4 m = 0 <;> simp [c1, c2]), cdT_4]
  exact k1
/-- the ways of a number -/
def gwOne (md : Nat) (bw : Bool) (n : Nat) (lo : V4) (l : List (Nat × Int64 × Int64)) (m : V4) : List (Nat × Int64 × Int64) := if md = 3 ∧ 1 < m.1 + m.2.1 + m.2.2.1 + m.2.2.2 then l else gaL md (add4 lo m) (gF md bw n m 4) (gS md n m 4) l
def gwL (md : Nat) (bw : Bool) (n : Nat) (lo x : V4) : List (Nat × Int64 × Int64) := (List.range (x.1 + 1)).foldl (fun l a => (List.range (x.2.1 + 1)).foldl (fun l b => (List.range (x.2.2.1 + 1)).foldl (fun l c => (List.range (x.2.2.2 + 1)).foldl (fun l d => gwOne md bw n lo l (a, b, c, d)) l) l) l) []
theorem cd_or {m : V4} (hm : le4 m) : (((nI m.1 ||| (nI m.2.1 <<< ((4 : Int32) &&& 31))) ||| (nI m.2.2.1 <<< ((8 : Int32) &&& 31))) ||| (nI m.2.2.2 <<< ((12 : Int32) &&& 31))) = nI (cd4 m) := by
  have S : ∀ m ∈ all4, (((nI m.1 ||| (nI m.2.1 <<< ((4 : Int32) &&& 31))) ||| (nI m.2.2.1 <<< ((8 : Int32) &&& 31))) ||| (nI m.2.2.2 <<< ((12 : Int32) &&& 31))) = nI (cd4 m) := by decide +kernel
  exact S m (all4_in hm)
/-- what a nest of loops over rows of tiles keeps -/
def WaK (σ : rS) (l : List (Nat × Int64 × Int64)) (τ : rS) : Prop := WaR τ l ∧ KeyW l ∧ FrW σ τ
theorem gw_4 {σ : rS} {L h md : Nat} {bw : Bool} {lo hi : Nat → Nat} (S : SwC σ L h md bw lo hi) {n : Nat} (hn : n ≤ 40) {x : V4} (hx : ∀ c, c < 4 → at4 x c = sMo md lo hi h c n - sLo lo h c n) {a b c : Nat} (ha : a ≤ x.1) (hb : b ≤ x.2.1) (hc : c ≤ x.2.2.1) {s11 s12 s13 : Int32 × rS} (e1 : s11.1 = nI a) (e2 : s12.1 = nI b) (e3 : s13.1 = nI c) {l : List (Nat × Int64 × Int64)} {τ : rS} (H : WaK σ l τ) : ∃ υ, oLoop (b_X9_gatherWays_158 (nI n) (nI x.2.2.2) s11 s12 s13) oFuel (0, τ) = some (.inr (nI (c + 1), υ)) ∧ WaK σ ((List.range (x.2.2.2 + 1)).foldl (fun l d => gwOne md bw n (lo4 lo h n) l (a, b, c, d)) l) υ := by
  have hl : ∀ c, c < 4 → at4 x c ≤ 2 := fun c hc => by
    have := loN_le S (c := c) (n := n)
    have := hx c hc
    omega
  have l0 := hl 0 (by omega)
  have l1 := hl 1 (by omega)
  have l2 := hl 2 (by omega)
  have l3 := hl 3 (by omega)
  rw [at4_0] at l0
  rw [at4_1] at l1
  rw [at4_2] at l2
  rw [at4_3] at l3
  refine oL_run (fun d υ => WaK σ ((List.range d).foldl (fun l d => gwOne md bw n (lo4 lo h n) l (a, b, c, d)) l) υ) (N := x.2.2.2 + 1) (fun υ => Sum.inr (nI (c + 1), υ)) (fun d υ hd hP => ?_) (fun υ hP => ?_) (by have : oFuel = 100000 := rfl; omega) H
  · obtain ⟨g1, g2, g3⟩ := hP
    have hm : ∀ c', c' < 4 → at4 (a, b, c, d) c' ≤ sMo md lo hi h c' n - sLo lo h c' n := by
      intro c' hc'
      rw [← hx c' hc']
      have : c' = 0 ∨ c' = 1 ∨ c' = 2 ∨ c' = 3 := by omega
      rcases this with rfl | rfl | rfl | rfl <;> simp only [at4_0, at4_1, at4_2, at4_3] <;> omega
    have hle : le4 (a, b, c, d) := ⟨by dsimp only; omega, by dsimp only; omega, by dsimp only; omega, by dsimp only; omega⟩
    have h2 := S.fr g3
    have h4 := S.m4
    unfold b_X9_gatherWays_158
    dsimp only
    have c1 : ¬ nI x.2.2.2 < nI d := fun q => by have := (nI_lt' (by omega) (by omega)).mp q; omega
    rw [if_neg c1, e1, e2, e3, range_foldl]
    have e5 : (rI υ 37 17 = 3) = (md = 3) := by rw [h2.mode]; exact propext (nI_eq (b := 3) (by omega) (by omega))
    have e6 : (1 < nI a + nI b + nI c + nI d) = (1 < a + b + c + d) := by
      rw [nI_add, nI_add, nI_add]; exact propext (nI_lt' (a := 1) (by omega) (by omega))
    have e7 : nI d + 1 = nI (d + 1) := nI_1 d
    simp only [e5, e6, e7]
    have eo := cd_or hle
    dsimp only at eo
    rw [eo]
    by_cases c2 : md = 3 ∧ 1 < a + b + c + d
    · rw [if_neg (by simp [c2.1, c2.2])]
      refine ⟨υ, rfl, ?_⟩
      unfold gwOne
      rw [if_pos c2]
      exact ⟨g1, g2, g3⟩
    · rw [if_pos (by by_cases q1 : md = 3 <;> simp_all)]
      obtain ⟨ω, k1, k2, k3, k4⟩ := ga_eq h2 hn hm g1 g2
      rw [k1]
      refine ⟨ω, rfl, ?_⟩
      unfold gwOne
      rw [if_neg c2]
      exact ⟨k2, k3, g3.tr k4⟩
  · unfold b_X9_gatherWays_158
    dsimp only
    have c1 : nI x.2.2.2 < nI (x.2.2.2 + 1) := (nI_lt' (by omega) (by omega)).mpr (by omega)
    rw [if_pos c1, e3]
    rw [show nI c + 1 = nI (c + 1) from nI_1 c]
