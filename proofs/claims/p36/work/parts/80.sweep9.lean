/-! spread: the loops over steps -/
def stL (tb : Nat → Int32) (i : Nat) : List Int32 := if tb i = 0 then [] else tb i :: (if tb (i + 1) = 0 then [] else tb (i + 1) :: (if tb (i + 2) = 0 then [] else [tb (i + 2)]))
theorem stL_len (tb : Nat → Int32) (i : Nat) : (stL tb i).length ≤ 3 := by
  unfold stL
  split
  · simp
  · split
    · simp
    · split <;> simp
theorem oL_opts {R : Type} {body : Int32 × rS → Option (R ⊕ (Int32 × rS))} {tb : Nat → Int32} {a0 : Nat} (P : List Int32 → rS → Prop) (r : rS → R) (hend : ∀ l τ, P l τ → body (nI (a0 + 3), τ) = some (.inl (r τ))) (hz : ∀ i l τ, i < 3 → P l τ → tb (a0 + i) = 0 → body (nI (a0 + i), τ) = some (.inl (r τ))) (hs : ∀ i l τ, i < 3 → l.length = i → P l τ → tb (a0 + i) ≠ 0 → ∃ υ, body (nI (a0 + i), τ) = some (.inr (nI (a0 + (i + 1)), υ)) ∧ P (l ++ [tb (a0 + i)]) υ) {n : Nat} (hn : 3 < n) {σ : rS} (h0 : P [] σ) : ∃ τ, oLoop body n (nI a0, σ) = some (r τ) ∧ P (stL tb a0) τ := by
  obtain ⟨m, rfl⟩ : ∃ m, n = m + 1 + 1 + 1 + 1 := ⟨n - 4, by omega⟩
  unfold stL
  by_cases z0 : tb a0 = 0
  · rw [if_pos z0]
    exact ⟨σ, oLoop_l (hz 0 [] σ (by decide) h0 z0), h0⟩
  · rw [if_neg z0]
    obtain ⟨σ1, e1, p1⟩ := hs 0 [] σ (by decide) rfl h0 z0
    have e1 : body (nI a0, σ) = some (.inr (nI (a0 + 1), σ1)) := e1
    have p1 : P [tb a0] σ1 := p1
    rw [oLoop_r e1]
    by_cases z1 : tb (a0 + 1) = 0
    · rw [if_pos z1]
      exact ⟨σ1, oLoop_l (hz 1 _ σ1 (by decide) p1 z1), p1⟩
    · rw [if_neg z1]
      obtain ⟨σ2, e2, p2⟩ := hs 1 _ σ1 (by decide) rfl p1 z1
      have e2 : body (nI (a0 + 1), σ1) = some (.inr (nI (a0 + 2), σ2)) := e2
      have p2 : P [tb a0, tb (a0 + 1)] σ2 := p2
      rw [oLoop_r e2]
      by_cases z2 : tb (a0 + 2) = 0
      · rw [if_pos z2]
        exact ⟨σ2, oLoop_l (hz 2 _ σ2 (by decide) p2 z2), p2⟩
      · rw [if_neg z2]
        obtain ⟨σ3, e3, p3⟩ := hs 2 _ σ2 (by decide) rfl p2 z2
        have e3 : body (nI (a0 + 2), σ2) = some (.inr (nI (a0 + 3), σ3)) := e3
        have p3 : P [tb a0, tb (a0 + 1), tb (a0 + 2)] σ3 := p3
        rw [oLoop_r e3]
        exact ⟨σ3, oLoop_l (hend _ σ3 p3), p3⟩
/-- the low bits of a number -/
theorem and_pow (s : Int32) {m : Nat} (hm : m ≤ 31) : s &&& nI (2 ^ m - 1) = nI (s.toBitVec.toNat % 2 ^ m) := by
  have hp : 2 ^ m ≤ 2 ^ 31 := Nat.pow_le_pow_right (by decide) hm
  have h1 : s.toBitVec.toNat % 2 ^ m < 2 ^ m := Nat.mod_lt _ (Nat.two_pow_pos m)
  apply Int32.toBitVec_inj.mp
  show s.toBitVec &&& BitVec.ofNat 32 (2 ^ m - 1) = BitVec.ofNat 32 (s.toBitVec.toNat % 2 ^ m)
  apply BitVec.eq_of_toNat_eq
  rw [BitVec.toNat_and, BitVec.toNat_ofNat, BitVec.toNat_ofNat, Nat.mod_eq_of_lt (show 2 ^ m - 1 < 2 ^ 32 by omega), Nat.mod_eq_of_lt (show s.toBitVec.toNat % 2 ^ m < 2 ^ 32 by omega), Nat.and_two_pow_sub_one_eq_mod]
def nb (s : Int32) : Nat := s.toBitVec.toNat % 16
theorem nb_lt (s : Int32) : nb s < 16 := Nat.mod_lt _ (by decide)
theorem nb_eq (s : Int32) : s &&& 15 = nI (nb s) := and_pow s (m := 4) (by decide)
theorem bit_01 (s : Int32) : s &&& 1 = 0 ∨ s &&& 1 = 1 := by
  have h := and_pow s (m := 1) (by decide)
  have h2 : s.toBitVec.toNat % 2 ^ 1 = 0 ∨ s.toBitVec.toNat % 2 ^ 1 = 1 := by omega
  rcases h2 with e | e
  · left; rw [e] at h; exact h
  · right; rw [e] at h; exact h
theorem nI_or (a b : Nat) : nI a ||| nI b = nI (a ||| b) := by
  apply Int32.toBitVec_inj.mp
  show BitVec.ofNat 32 a ||| BitVec.ofNat 32 b = BitVec.ofNat 32 (a ||| b)
  exact BitVec.ofNat_or.symm
theorem nI_orp {a b : Nat} (i : Nat) (h : b < 2 ^ i) : nI b ||| nI (2 ^ i * a) = nI (2 ^ i * a + b) := by
  rw [nI_or, Nat.or_comm, Nat.two_pow_add_eq_or_of_lt h]
theorem nI_sh4 {b : Nat} (hb : b < 16) : nI b <<< ((4 : Int32) &&& 31) = nI (2 ^ 4 * b) ∧ nI b <<< ((8 : Int32) &&& 31) = nI (2 ^ 8 * b) ∧ nI b <<< ((12 : Int32) &&& 31) = nI (2 ^ 12 * b) ∧ nI b <<< ((2 : Int32) &&& 31) = nI (2 ^ 2 * b) := by
  have h : ∀ b ∈ List.range 16, nI b <<< ((4 : Int32) &&& 31) = nI (2 ^ 4 * b) ∧ nI b <<< ((8 : Int32) &&& 31) = nI (2 ^ 8 * b) ∧ nI b <<< ((12 : Int32) &&& 31) = nI (2 ^ 12 * b) ∧ nI b <<< ((2 : Int32) &&& 31) = nI (2 ^ 2 * b) := by decide +kernel
  exact h b (List.mem_range.mpr hb)
/-- the state that four steps come to -/
def kO (s0 s1 s2 s3 : Int32) : Nat := nb s0 + 16 * nb s1 + 256 * nb s2 + 4096 * nb s3
theorem kO_lt (s0 s1 s2 s3 : Int32) : kO s0 s1 s2 s3 < 65536 := by
  have := nb_lt s0
  have := nb_lt s1
  have := nb_lt s2
  have := nb_lt s3
  unfold kO; omega
theorem kO_eq (s0 s1 s2 s3 : Int32) : ((((s0 &&& 15) ||| ((s1 &&& 15) <<< ((4 : Int32) &&& 31))) ||| ((s2 &&& 15) <<< ((8 : Int32) &&& 31))) ||| ((s3 &&& 15) <<< ((12 : Int32) &&& 31))) = nI (kO s0 s1 s2 s3) := by
  have h0 := nb_lt s0
  have h1 := nb_lt s1
  have h2 := nb_lt s2
  have h3 := nb_lt s3
  rw [nb_eq, nb_eq, nb_eq, nb_eq, (nI_sh4 h1).1, (nI_sh4 h2).2.1, (nI_sh4 h3).2.2.1, nI_orp 4 (by omega), nI_orp 8 (by omega), nI_orp 12 (by omega)]
  congr 1
  unfold kO; omega
def opB (o s : Int32) : Bool := decide (((o >>> ((s &&& 15) &&& 31)) &&& 1) = 1)
def em3 (tb : Nat → Int32) (op : Nat → Int32) (x3 : Nat) (s0 s1 s2 : Int32) : List (Nat × Int32) := ((stL tb x3).filter (opB (op 3))).map fun s3 => (kO s0 s1 s2 s3, s0 + s1 + s2 + s3)
def em2 (tb : Nat → Int32) (op : Nat → Int32) (x2 x3 : Nat) (s0 s1 : Int32) : List (Nat × Int32) := ((stL tb x2).filter (opB (op 2))).flatMap fun s2 => em3 tb op x3 s0 s1 s2
def em1 (tb : Nat → Int32) (op : Nat → Int32) (x1 x2 x3 : Nat) (s0 : Int32) : List (Nat × Int32) := ((stL tb x1).filter (opB (op 1))).flatMap fun s1 => em2 tb op x2 x3 s0 s1
/-- the states that a way comes to, each with the sum of its steps -/
def em0 (tb : Nat → Int32) (op : Nat → Int32) (x0 x1 x2 x3 : Nat) : List (Nat × Int32) := ((stL tb x0).filter (opB (op 0))).flatMap fun s0 => em1 tb op x1 x2 x3 s0
theorem em3_len (tb op : Nat → Int32) (x3 : Nat) (s0 s1 s2 : Int32) : (em3 tb op x3 s0 s1 s2).length ≤ 3 := by
  unfold em3
  rw [List.length_map]
  exact Nat.le_trans (List.length_filter_le _ _) (stL_len _ _)
theorem fl_len {α β : Type} {f : α → List β} {N : Nat} (h : ∀ a, (f a).length ≤ N) (l : List α) : (l.flatMap f).length ≤ N * l.length := by
  induction l with
  | nil => simp
  | cons a l ih =>
    rw [List.flatMap_cons, List.length_append, List.length_cons, Nat.mul_succ]
    have := h a
    omega
theorem ft_len (tb : Nat → Int32) (p : Int32 → Bool) (i : Nat) : ((stL tb i).filter p).length ≤ 3 := Nat.le_trans (List.length_filter_le _ _) (stL_len _ _)
theorem em2_len (tb op : Nat → Int32) (x2 x3 : Nat) (s0 s1 : Int32) : (em2 tb op x2 x3 s0 s1).length ≤ 9 := by
  have h1 := fl_len (f := fun s2 => em3 tb op x3 s0 s1 s2) (fun s2 => em3_len tb op x3 s0 s1 s2) ((stL tb x2).filter (opB (op 2)))
  have h2 := ft_len tb (opB (op 2)) x2
  unfold em2; omega
theorem em1_len (tb op : Nat → Int32) (x1 x2 x3 : Nat) (s0 : Int32) : (em1 tb op x1 x2 x3 s0).length ≤ 27 := by
  have h1 := fl_len (f := fun s1 => em2 tb op x2 x3 s0 s1) (fun s1 => em2_len tb op x2 x3 s0 s1) ((stL tb x1).filter (opB (op 1)))
  have h2 := ft_len tb (opB (op 1)) x1
  unfold em1; omega
theorem ins_len {V : Type} (m : V → V → V) (l : List (Nat × V)) (k : Nat) (v : V) : l.length ≤ (ins m l k v).length ∧ (ins m l k v).length ≤ l.length + 1 := by
  unfold ins
  split <;> simp
theorem putW_len (md : Nat) (su : Nat → Int32) (k : Nat) (p4 : Int32) (v w : Int64 × Int64) (l : List (Nat × Int64 × Int64)) : (putW md su k p4 v w l).length ≤ l.length + 1 := by
  unfold putW
  split
  · omega
  · exact (ins_len _ _ _ _).2
/-- all the puts of one way -/
def puts (md : Nat) (su : Nat → Int32) (v w : Int64 × Int64) (es : List (Nat × Int32)) (l : List (Nat × Int64 × Int64)) : List (Nat × Int64 × Int64) := es.foldl (fun l e => putW md su e.1 e.2 v w l) l
theorem puts_len (md : Nat) (su : Nat → Int32) (v w : Int64 × Int64) (es : List (Nat × Int32)) (l : List (Nat × Int64 × Int64)) : (puts md su v w es l).length ≤ l.length + es.length := by
  unfold puts
  induction es generalizing l with
  | nil => simp
  | cons e es ih =>
    rw [List.foldl_cons, List.length_cons]
    have := ih (putW md su e.1 e.2 v w l)
    have := putW_len md su e.1 e.2 v w l
    omega
theorem puts_app (md : Nat) (su : Nat → Int32) (v w : Int64 × Int64) (es es2 : List (Nat × Int32)) (l : List (Nat × Int64 × Int64)) : puts md su v w (es ++ es2) l = puts md su v w es2 (puts md su v w es l) := List.foldl_append
/-- what one way's loops read -/
def SpF (σ : rS) (t a b c n h a' b' c' n' md i j : Nat) (tb op su : Nat → Int32) (v w : Int64 × Int64) : Prop := LyF σ t a b c n h a' b' c' n' ∧ (rI σ 37 17 = nI md ∧ md ≤ 4) ∧ (∀ c, c < 4 → rI σ 63 c = op c ∧ rI σ 64 c = su c) ∧ ((rR σ 37 15 < 50 ∧ 1 < rR σ 37 15 ∧ rR σ 37 15 ≠ 37) ∧ ∀ x, x < 256 → rI σ (rR σ 37 15) x = tb x) ∧ (i < n' ∧ rL σ b' i = v.1 ∧ rL σ c' i = v.2) ∧ (j < 81 ∧ rL σ 60 j = w.1 ∧ rL σ 61 j = w.2)
theorem LyF_na {σ : rS} {t a b c n h a' b' c' n' : Nat} (F : LyF σ t a b c n h a' b' c' n') {x : Nat} (h1 : x < 67) (h2 : x ≠ 52 ∧ x ≠ 56) : x ≠ a := by
  have f3 := F.1.2.2
  have d1 := F.2.2.2.2.2.2.1.1
  clear F
  omega
theorem LyF_nb {σ : rS} {t a b c n h a' b' c' n' : Nat} (F : LyF σ t a b c n h a' b' c' n') {x : Nat} (h1 : x < 67) (h2 : x ≠ 53 ∧ x ≠ 57) : x ≠ b := by
  have f3 := F.1.2.2
  have d1 := F.2.2.2.2.2.2.1.2.1
  clear F
  omega
theorem LyF_nc {σ : rS} {t a b c n h a' b' c' n' : Nat} (F : LyF σ t a b c n h a' b' c' n') {x : Nat} (h1 : x < 67) (h2 : x ≠ 54 ∧ x ≠ 58) : x ≠ c := by
  have f3 := F.1.2.2
  have d1 := F.2.2.2.2.2.2.1.2.2.1
  clear F
  omega
theorem LyF_nt {σ : rS} {t a b c n h a' b' c' n' : Nat} (F : LyF σ t a b c n h a' b' c' n') {x : Nat} (h2 : x ≠ 51 ∧ x ≠ 55) : x ≠ t := by
  have f3 := F.1.2.2
  clear F
  omega
theorem SpF_P {σ τ : rS} {t a b c n h a' b' c' n' md i j : Nat} {tb op su : Nat → Int32} {v w : Int64 × Int64} (S : SpF σ t a b c n h a' b' c' n' md i j tb op su v w) (P : FrP σ τ t a b c) : SpF τ t a b c n h a' b' c' n' md i j tb op su v w := by
  obtain ⟨F, ⟨m1, m2⟩, o, ⟨tb1, tb2⟩, ⟨i1, i2, i3⟩, ⟨j1, j2, j3⟩⟩ := S
  have F2 := LyF_P F P
  obtain ⟨x1, x2, x3, x4, x5, x6, x7⟩ := F.2.2.2.2.2.2.2.1
  obtain ⟨p1, p2, p3, p4, p5⟩ := P
  have q : ∀ x y, x < 67 → (x ≠ 50 ∧ x ≠ 52 ∧ x ≠ 56 ∧ x ≠ 51 ∧ x ≠ 55) → rI τ x y = rI σ x y := fun x y h1 h2 => p4 x y h2.1 (LyF_na F h1 ⟨h2.2.1, h2.2.2.1⟩) (fun e => absurd e (LyF_nt F ⟨h2.2.2.2.1, h2.2.2.2.2⟩))
  have q60 := p5 60 j (LyF_nb F (by decide) (by decide)) (LyF_nc F (by decide) (by decide))
  have q61 := p5 61 j (LyF_nb F (by decide) (by decide)) (LyF_nc F (by decide) (by decide))
  have qm := q 37 17 (by decide) (by decide)
  have qo : ∀ c, c < 4 → rI τ 63 c = op c ∧ rI τ 64 c = su c := fun c hc => ⟨(q 63 c (by decide) (by decide)).trans (o c hc).1, (q 64 c (by decide) (by decide)).trans (o c hc).2⟩
  have qt : ∀ x, x < 256 → rI τ (rR τ 37 15) x = tb x := fun x hx => by
    rw [p2, q _ x (by omega) (by omega)]
    exact tb2 x hx
  have qt1 : rR τ 37 15 < 50 ∧ 1 < rR τ 37 15 ∧ rR τ 37 15 ≠ 37 := by rw [p2]; exact tb1
  exact ⟨F2, ⟨qm.trans m1, m2⟩, qo, ⟨qt1, qt⟩, ⟨i1, (p5 b' i (Ne.symm x4) (Ne.symm x6)).trans i2, (p5 c' i (Ne.symm x5) (Ne.symm x7)).trans i3⟩, ⟨j1, q60.trans j2, q61.trans j3⟩⟩
def InP (σ : rS) (t a b c : Nat) (l : List (Nat × Int64 × Int64)) (τ : rS) : Prop := StR τ t 3 a b c 50 65535 l ∧ FrP σ τ t a b c
theorem FrP.tr {σ τ υ : rS} {t a b c : Nat} (h : FrP σ τ t a b c) (g : FrP τ υ t a b c) : FrP σ υ t a b c := ⟨g.1.trans h.1, g.2.1.trans h.2.1, g.2.2.1.trans h.2.2.1, fun x j q1 q2 q3 => (g.2.2.2.1 x j q1 q2 q3).trans (h.2.2.2.1 x j q1 q2 q3), fun x j q1 q2 => (g.2.2.2.2 x j q1 q2).trans (h.2.2.2.2 x j q1 q2)⟩
theorem pl_le {x i : Nat} (hx : x < 1000) (hi : i < 3) : ¬ nI x + 3 ≤ nI (x + i) := fun q => by
  have e : nI x + 3 = nI (x + 3) := nI_add x 3
  rw [e] at q
  have := (nI_leI (by omega) (by omega)).mp q
  omega
theorem pl_le3 {x : Nat} (hx : x < 1000) : nI x + 3 ≤ nI (x + 3) := by
  have e : nI x + 3 = nI (x + 3) := nI_add x 3
  rw [e]
  exact (nI_leI (by omega) (by omega)).mpr (Nat.le_refl _)
theorem fl_snoc {f : Int32 → Bool} {l : List Int32} {s : Int32} : (l ++ [s]).filter f = l.filter f ++ (if f s then [s] else []) := by
  rw [List.filter_append]
  congr 1
  simp only [List.filter_cons, List.filter_nil]
theorem fil_len {f : Int32 → Bool} {l : List Int32} : (l.filter f).length ≤ l.length := List.length_filter_le _ _
theorem sp_3 {σ : rS} {t a b c n h a' b' c' n' md i j : Nat} {tb op su : Nat → Int32} {v w : Int64 × Int64} (S : SpF σ t a b c n h a' b' c' n' md i j tb op su v w) {x3 : Nat} (hx : x3 + 2 < 256) {s0 s1 s2 : Int32} {s3 s23 : Int32 × rS} (e3 : s3.1 = nI j) {l : List (Nat × Int64 × Int64)} (hl : l.length + 3 ≤ n) {τ : rS} (H : InP σ t a b c l τ) : ∃ υ, oLoop (b_X9_spread_341 (nI i) s3 (nI x3) s0 s1 s23 s2) oFuel (nI x3, τ) = some (.inr (s23.1 + 1, υ)) ∧ InP σ t a b c (puts md su v w (em3 tb op x3 s0 s1 s2) l) υ := by
  refine oL_opts (tb := tb) (fun es τ => InP σ t a b c (puts md su v w ((es.filter (opB (op 3))).map fun s3 => (kO s0 s1 s2 s3, s0 + s1 + s2 + s3)) l) τ) (fun υ => Sum.inr (s23.1 + 1, υ)) (fun es τ hP => ?_) (fun k es τ hk hP hz => ?_) (fun k es τ hk hlen hP hz => ?_) (by decide) H
  · unfold b_X9_spread_341
    dsimp only
    rw [if_pos (pl_le3 (by omega))]
  · have S2 := SpF_P S hP.2
    unfold b_X9_spread_341
    dsimp only
    rw [if_neg (pl_le (by omega) hk), if_pos (inB_nI (by decide) (by omega)), nI_clamp (by omega), S2.2.2.2.1.2 _ (by omega), if_pos hz]
  · have S2 := SpF_P S hP.2
    have ho := (S2.2.2.1 3 (by decide)).1
    unfold b_X9_spread_341
    dsimp only
    rw [if_neg (pl_le (by omega) hk), if_pos (inB_nI (by decide) (by omega)), nI_clamp (by omega), S2.2.2.2.1.2 _ (by omega), if_neg hz, oLet_eq, show ((3 : Int32).toNatClampNeg) = 3 from rfl, ho]
    rw [fl_snoc]
    have e1 : nI (x3 + k) + 1 = nI (x3 + (k + 1)) := nI_1 _
    by_cases hop : ((op 3 >>> ((tb (x3 + k) &&& 15) &&& 31)) &&& 1) = 1
    · have hopb : opB (op 3) (tb (x3 + k)) = true := decide_eq_true hop
      rw [if_pos hop, oLet_eq, kO_eq, e3, if_pos hopb, List.map_append, puts_app]
      have hcl := puts_len md su v w ((es.filter (opB (op 3))).map fun s3 => (kO s0 s1 s2 s3, s0 + s1 + s2 + s3)) l
      rw [List.length_map] at hcl
      have hfl : (es.filter (opB (op 3))).length ≤ es.length := fil_len
      obtain ⟨υ, g1, g2, g3⟩ := put_eq S2.1 S2.2.1.1 S2.2.1.2 (fun c hc => (S2.2.2.1 c hc).2) hP.1 (k := kO s0 s1 s2 (tb (x3 + k))) (i := i) (j := j) (v := v) (w := w) (kO_lt _ _ _ _) (fun _ => by omega) (by omega) S2.2.2.2.2.1.1 S2.2.2.2.2.2.1 S2.2.2.2.2.1.2.1 S2.2.2.2.2.1.2.2 S2.2.2.2.2.2.2.1 S2.2.2.2.2.2.2.2 (s0 + s1 + s2 + tb (x3 + k))
      rw [g1]
      exact ⟨υ, by rw [← e1]; rfl, g2, hP.2.tr g3⟩
    · have hopb : ¬ opB (op 3) (tb (x3 + k)) = true := fun q => hop (of_decide_eq_true q)
      rw [if_neg hop, if_neg hopb, e1, List.append_nil]
      exact ⟨τ, rfl, hP⟩
