/-! the runs of one colour: both kinds of steps as automata -/
def rfT (L s r : Nat) : List Nat := (optsM L s r).map (fun o => o.1)
def clT (L md s r : Nat) : List Nat := (csW (tbM L md) s r).map nb
/-- the states that runs of one colour can come to -/
def colR (st : Nat → Nat → List Nat) (r : Nat → Nat) : Nat → Nat → Prop
  | 0, s => s = 0
  | n + 1, s' => ∃ s, colR st r n s ∧ s' ∈ st s (r n)
theorem colR_congr {st : Nat → Nat → List Nat} {r q : Nat → Nat} {n : Nat} (h : ∀ m, m < n → r m = q m) {s : Nat} : colR st r n s ↔ colR st q n s := by
  induction n generalizing s with
  | zero => exact Iff.rfl
  | succ n ih =>
    simp only [colR]
    rw [h n (Nat.lt_succ_self n)]
    exact ⟨fun ⟨a, b, c⟩ => ⟨a, (ih (fun m hm => h m (by omega))).mp b, c⟩, fun ⟨a, b, c⟩ => ⟨a, (ih (fun m hm => h m (by omega))).mpr b, c⟩⟩
theorem colR_sim {st1 st2 : Nat → Nat → List Nat} (R : Nat → Nat → Prop) (h0 : R 0 0) (hs : ∀ a b r a', r ≤ 2 → R a b → a' ∈ st1 a r → ∃ b' ∈ st2 b r, R a' b') {r : Nat → Nat} {n : Nat} (hr : ∀ m, m < n → r m ≤ 2) {a : Nat} (h : colR st1 r n a) : ∃ b, colR st2 r n b ∧ R a b := by
  induction n generalizing a with
  | zero =>
    have h : a = 0 := h
    subst h
    exact ⟨0, rfl, h0⟩
  | succ n ih =>
    obtain ⟨s, h1, h2⟩ := h
    obtain ⟨b, g1, g2⟩ := ih (fun m hm => hr m (by omega)) h1
    obtain ⟨b', k1, k2⟩ := hs _ _ _ _ (hr n (by omega)) g2 h2
    exact ⟨b', ⟨b, g1, k1⟩, k2⟩
theorem colR_uni {st : Nat → Nat → List Nat} (U : Nat → Nat → Nat → Prop) (h0 : U 0 0 0) (hs : ∀ a b c r1 r2 a' b', r1 + r2 ≤ 2 → U a b c → a' ∈ st a r1 → b' ∈ st b r2 → ∃ c' ∈ st c (r1 + r2), U a' b' c') {r1 r2 : Nat → Nat} {n : Nat} (hr : ∀ m, m < n → r1 m + r2 m ≤ 2) {a b : Nat} (h : colR st r1 n a) (g : colR st r2 n b) : ∃ c, colR st (fun m => r1 m + r2 m) n c ∧ U a b c := by
  induction n generalizing a b with
  | zero =>
    have h : a = 0 := h
    have g : b = 0 := g
    subst h
    subst g
    exact ⟨0, rfl, h0⟩
  | succ n ih =>
    obtain ⟨s, h1, h2⟩ := h
    obtain ⟨t, g1, g2⟩ := g
    obtain ⟨c, k1, k2⟩ := ih (fun m hm => hr m (by omega)) h1 g1
    obtain ⟨c', l1, l2⟩ := hs _ _ _ _ _ _ _ (hr n (by omega)) k2 h2 g2
    exact ⟨c', ⟨c, k1, l1⟩, l2⟩
/-- a way of one colour from a state on, so many numbers -/
def colP (st : Nat → Nat → List Nat) (r : Nat → Nat) : Nat → Nat → Nat → Nat → Prop
  | _, 0, s, e => e = s
  | m, d + 1, s, e => ∃ s', s' ∈ st s (r m) ∧ colP st r (m + 1) d s' e
theorem colP_R {st : Nat → Nat → List Nat} {r : Nat → Nat} {m d s e : Nat} (h : colR st r m s) (g : colP st r m d s e) : colR st r (m + d) e := by
  induction d generalizing m s with
  | zero =>
    have g : e = s := g
    subst g
    exact h
  | succ d ih =>
    obtain ⟨s', g1, g2⟩ := g
    have := ih (m := m + 1) (s := s') ⟨s, h, g1⟩ g2
    rw [show m + (d + 1) = m + 1 + d by omega]
    exact this
theorem colR_P {st : Nat → Nat → List Nat} {r : Nat → Nat} {m d e : Nat} (h : colR st r (m + d) e) : ∃ s, colR st r m s ∧ colP st r m d s e := by
  induction d generalizing e with
  | zero => exact ⟨e, h, rfl⟩
  | succ d ih =>
    obtain ⟨s', h1, h2⟩ := h
    obtain ⟨s, g1, g2⟩ := ih h1
    refine ⟨s, g1, ?_⟩
    have key : ∀ d m s, colP st r m d s s' → e ∈ st s' (r (m + d)) → colP st r m (d + 1) s e := by
      intro d
      induction d with
      | zero =>
        intro m s a b
        have a : s' = s := a
        subst a
        exact ⟨e, b, rfl⟩
      | succ d ih2 =>
        intro m s a b
        obtain ⟨t, a1, a2⟩ := a
        refine ⟨t, a1, ih2 (m + 1) t a2 ?_⟩
        rw [show m + 1 + d = m + (d + 1) by omega]
        exact b
    exact key d m s g2 h2
/-- codes of the class, as those of the reference -/
def kapT : List Nat := [0, 1, 5, 2, 6, 9, 3, 7, 10, 12, 4, 8, 11, 13, 14, 15]
def kap (d : Nat) : Nat := kapT.getD d 0
def r1L (L : Nat) : List (Nat × Nat) := if L = 4 then [(0, 0), (1, 1), (2, 5), (3, 2), (4, 6), (5, 9), (6, 3), (7, 7), (8, 10), (9, 12), (10, 4), (11, 8), (12, 11), (13, 13), (14, 14), (14, 15)] else [(0, 0), (1, 1), (2, 5), (3, 2), (4, 6), (5, 9), (6, 3), (7, 7), (8, 10), (9, 12), (9, 15)]
def r2L (L : Nat) : List (Nat × Nat) := if L = 4 then [(0, 0), (1, 1), (1, 10), (2, 3), (2, 10), (3, 6), (3, 10), (4, 10), (5, 2), (5, 11), (5, 14), (6, 4), (6, 11), (6, 12), (6, 14), (7, 7), (7, 11), (7, 13), (7, 14), (8, 11), (8, 14), (9, 5), (9, 12), (9, 14), (10, 8), (10, 12), (10, 13), (10, 14), (11, 12), (11, 14), (12, 9), (12, 13), (12, 14), (13, 13), (13, 14), (14, 14), (15, 14)] else [(0, 0), (1, 1), (1, 6), (2, 3), (2, 6), (3, 6), (5, 2), (5, 7), (5, 9), (6, 4), (6, 7), (6, 8), (6, 9), (7, 7), (7, 9), (9, 5), (9, 8), (9, 9), (10, 8), (10, 9), (12, 9), (15, 9)]
def uL (L : Nat) : List (Nat × Nat × Nat) := if L = 4 then [(0, 0, 0), (0, 1, 1), (0, 2, 2), (0, 3, 3), (0, 4, 4), (0, 5, 5), (0, 6, 6), (0, 7, 7), (0, 8, 8), (0, 9, 9), (0, 10, 10), (0, 11, 11), (0, 12, 12), (0, 13, 13), (0, 14, 14), (0, 15, 15), (1, 0, 1), (1, 1, 5), (1, 2, 6), (1, 3, 7), (1, 4, 8), (2, 0, 2), (2, 1, 6), (2, 2, 9), (2, 3, 10), (2, 4, 11), (3, 0, 3), (3, 1, 7), (3, 2, 10), (3, 3, 12), (3, 4, 13), (4, 0, 4), (4, 1, 8), (4, 2, 11), (4, 3, 13), (4, 4, 14), (4, 4, 15), (5, 0, 5), (6, 0, 6), (7, 0, 7), (8, 0, 8), (9, 0, 9), (10, 0, 10), (11, 0, 11), (12, 0, 12), (13, 0, 13), (14, 0, 14), (15, 0, 15)] else [(0, 0, 0), (0, 1, 1), (0, 2, 2), (0, 3, 3), (0, 5, 5), (0, 6, 6), (0, 7, 7), (0, 9, 9), (0, 10, 10), (0, 12, 12), (0, 15, 15), (1, 0, 1), (1, 1, 5), (1, 2, 6), (1, 3, 7), (2, 0, 2), (2, 1, 6), (2, 2, 9), (2, 3, 10), (3, 0, 3), (3, 1, 7), (3, 2, 10), (3, 3, 12), (3, 3, 15), (5, 0, 5), (6, 0, 6), (7, 0, 7), (9, 0, 9), (10, 0, 10), (12, 0, 12), (15, 0, 15)]
theorem in01 {L : Nat} (hL : L = 3 ∨ L = 4) : L ∈ [3, 4] := by rcases hL with rfl | rfl <;> simp
theorem in3 {r : Nat} (hr : r ≤ 2) : r ∈ [0, 1, 2] := by
  have : r = 0 ∨ r = 1 ∨ r = 2 := by omega
  rcases this with rfl | rfl | rfl <;> simp
theorem fj1 : ∀ L ∈ [3, 4], ∀ p ∈ r1L L, ∀ r ∈ [0, 1, 2], ∀ d ∈ clT L 1 p.1 r, ∃ s ∈ rfT L p.2 r, (d, s) ∈ r1L L := by decide +kernel
theorem fj1e : ∀ L ∈ [3, 4], ∀ p ∈ r1L L, 0 ∈ clT L 1 p.1 0 → dnM L p.2 = true := by decide +kernel
theorem fj2 : ∀ L ∈ [3, 4], ∀ p ∈ r2L L, ∀ r ∈ [0, 1, 2], ∀ s ∈ rfT L p.1 r, ∃ d ∈ clT L 1 p.2 r, (s, d) ∈ r2L L := by decide +kernel
theorem fj2e : ∀ L ∈ [3, 4], ∀ p ∈ r2L L, dnM L p.1 = true → 0 ∈ clT L 1 p.2 0 := by decide +kernel
theorem fu : ∀ L ∈ [3, 4], ∀ p ∈ uL L, ∀ r1 ∈ [0, 1, 2], ∀ r2 ∈ [0, 1, 2], r1 + r2 ≤ 2 → ∀ a ∈ rfT L p.1 r1, ∀ b ∈ rfT L p.2.1 r2, ∃ c ∈ rfT L p.2.2 (r1 + r2), (a, b, c) ∈ uL L := by decide +kernel
theorem fue : ∀ L ∈ [3, 4], ∀ p ∈ uL L, dnM L p.1 = true → dnM L p.2.1 = true → dnM L p.2.2 = true := by decide +kernel
/-- each way of the class's joined steps is one of the reference -/
theorem jo_rf {L : Nat} (hL : L = 3 ∨ L = 4) {r : Nat → Nat} {n : Nat} (hr : ∀ m, m < n → r m ≤ 2) (h : ∃ d, colR (clT L 1) r n d ∧ 0 ∈ clT L 1 d 0) : ∃ s, colR (rfT L) r n s ∧ dnM L s = true := by
  obtain ⟨d, h1, h2⟩ := h
  obtain ⟨s, g1, g2⟩ := colR_sim (st2 := rfT L) (fun a b => (a, b) ∈ r1L L) (by rcases hL with rfl | rfl <;> decide) (fun a b r a' hr hab ha => fj1 L (in01 hL) _ hab r (in3 hr) a' ha) hr h1
  exact ⟨s, g1, fj1e L (in01 hL) _ g2 h2⟩
theorem rf_jo {L : Nat} (hL : L = 3 ∨ L = 4) {r : Nat → Nat} {n : Nat} (hr : ∀ m, m < n → r m ≤ 2) (h : ∃ s, colR (rfT L) r n s ∧ dnM L s = true) : ∃ d, colR (clT L 1) r n d ∧ 0 ∈ clT L 1 d 0 := by
  obtain ⟨d, h1, h2⟩ := h
  obtain ⟨s, g1, g2⟩ := colR_sim (st2 := clT L 1) (fun a b => (a, b) ∈ r2L L) (by rcases hL with rfl | rfl <;> decide) (fun a b r a' hr hab ha => fj2 L (in01 hL) _ hab r (in3 hr) a' ha) hr h1
  exact ⟨s, g1, fj2e L (in01 hL) _ g2 h2⟩
theorem rf_uni {L : Nat} (hL : L = 3 ∨ L = 4) {r1 r2 : Nat → Nat} {n : Nat} (hr : ∀ m, m < n → r1 m + r2 m ≤ 2) (h : ∃ s, colR (rfT L) r1 n s ∧ dnM L s = true) (g : ∃ s, colR (rfT L) r2 n s ∧ dnM L s = true) : ∃ s, colR (rfT L) (fun m => r1 m + r2 m) n s ∧ dnM L s = true := by
  obtain ⟨a, h1, h2⟩ := h
  obtain ⟨b, g1, g2⟩ := g
  obtain ⟨c, k1, k2⟩ := colR_uni (fun a b c => (a, b, c) ∈ uL L) (by rcases hL with rfl | rfl <;> decide) (fun a b c r1 r2 a' b' hr hab ha hb => fu L (in01 hL) _ hab r1 (in3 (by omega)) r2 (in3 (by omega)) hr a' ha b' hb) hr h1 g1
  exact ⟨c, k1, fue L (in01 hL) _ k2 h2 g2⟩
/-- the states that can go on to an end -/
def hoB (o : Int32) (q : Nat) : Bool := decide (((o >>> (nI q &&& 31)) &&& 1) = 1)
theorem opB_ho (o s : Int32) : opB o s = hoB o (nb s) := by unfold opB hoB; rw [nb_eq]
def goB (L md s a b c : Nat) : Bool := (clT L md s a).any fun s1 => (clT L md s1 b).any fun s2 => !(clT L md s2 c).isEmpty
def r16 : List Nat := [0, 1, 2, 3, 4, 5, 6, 7, 8, 9, 10, 11, 12, 13, 14, 15]
theorem in16 {r : Nat} (hr : r < 16) : r ∈ r16 := by
  have : ∀ r, r < 16 → r ∈ r16 := by decide
  exact this r hr
theorem fh1 : ∀ L ∈ [3, 4], ∀ md ∈ [1, 2], ∀ s ∈ r16, ∀ a ∈ [0, 1, 2], ∀ b ∈ [0, 1, 2], ∀ c ∈ [0, 1, 2], goB L md s a b c = true → hoB (sHo L a b c) s = true := by decide +kernel
theorem fh2 : ∀ L ∈ [3, 4], ∀ s ∈ r16, ∀ a ∈ [0, 1, 2], ∀ b ∈ [0, 1, 2], ∀ c ∈ [0, 1, 2], ∀ d ∈ [0, 1, 2], (a ≤ d → hoB (sHo L a b c) s = true → hoB (sHo L d b c) s = true) ∧ (b ≤ d → hoB (sHo L a b c) s = true → hoB (sHo L a d c) s = true) ∧ (c ≤ d → hoB (sHo L a b c) s = true → hoB (sHo L a b d) s = true) := by decide +kernel
theorem ho_mono {L s a b c a' b' c' : Nat} (hL : L = 3 ∨ L = 4) (hs : s < 16) (ha : a ≤ a') (hb : b ≤ b') (hc : c ≤ c') (ha2 : a' ≤ 2) (hb2 : b' ≤ 2) (hc2 : c' ≤ 2) (h : hoB (sHo L a b c) s = true) : hoB (sHo L a' b' c') s = true := by
  have h1 := (fh2 L (in01 hL) s (in16 hs) a (in3 (by omega)) b (in3 (by omega)) c (in3 (by omega)) a' (in3 ha2)).1 ha h
  have h2 := (fh2 L (in01 hL) s (in16 hs) a' (in3 ha2) b (in3 (by omega)) c (in3 (by omega)) b' (in3 hb2)).2.1 hb h1
  exact (fh2 L (in01 hL) s (in16 hs) a' (in3 ha2) b' (in3 hb2) c (in3 (by omega)) c' (in3 hc2)).2.2 hc h2
theorem clT_lt {L md s r q : Nat} (h : q ∈ clT L md s r) : q < 16 := by
  obtain ⟨x, -, rfl⟩ := List.mem_map.mp h
  exact nb_lt x
/-- what still goes three numbers on is hopeful -/
theorem hope_of {L md s : Nat} {r : Nat → Nat} {m e a b c : Nat} (hL : L = 3 ∨ L = 4) (hmd : md = 1 ∨ md = 2) (hs : s < 16) (h : colP (clT L md) r m 3 s e) (ha : r m ≤ a) (hb : r (m + 1) ≤ b) (hc : r (m + 2) ≤ c) (ha2 : a ≤ 2) (hb2 : b ≤ 2) (hc2 : c ≤ 2) : hoB (sHo L a b c) s = true := by
  obtain ⟨s1, h1, s2, h2, s3, h3, -⟩ := h
  refine ho_mono hL hs ha hb hc ha2 hb2 hc2 (fh1 L (in01 hL) md (by rcases hmd with rfl | rfl <;> simp) s (in16 hs) _ (in3 (by omega)) _ (in3 (by omega)) _ (in3 (by omega)) ?_)
  unfold goB
  refine List.any_eq_true.mpr ⟨s1, h1, List.any_eq_true.mpr ⟨s2, h2, ?_⟩⟩
  cases hq : clT L md s2 (r (m + 2)) with
  | nil => rw [show m + 1 + 1 = m + 2 from rfl, hq] at h3; exact absurd h3 (by simp)
  | cons _ _ => rfl
theorem f00 : ∀ L ∈ [3, 4], ∀ md ∈ [0, 1, 2, 3, 4], 0 ∈ clT L md 0 0 := by decide +kernel
theorem fend : ∀ L ∈ [3, 4], ∀ md ∈ [0, 1, 2, 3, 4], ∀ s ∈ r16, ∀ q ∈ clT L md s 0, q = 0 := by decide +kernel
theorem clT_md {L s r : Nat} : clT L 3 s r = clT L 1 s r ∧ clT L 4 s r = clT L 1 s r := ⟨rfl, rfl⟩
/-- the groups of class and reference are the same -/
theorem fg1 : ∀ g, g < 21 → ∃ p, p < 21 ∧ gd g = usG p ∧ setsG g = usN p := by decide +kernel
theorem fg2 : ∀ p, p < 21 → ∃ g, g < 21 ∧ gd g = usG p ∧ setsG g = usN p := by decide +kernel
def pat4 (u : V4) : Prop := ∃ p, p < 21 ∧ u = usG p
theorem fgu0 : ((List.range 21).all fun p => (List.range 21).all fun q => !((List.range 4).all fun c => decide (at4 (usG p) c + at4 (usG q) c ≤ 2)) || ((List.range 21).any fun g => add4 (usG p) (usG q) == usG g)) = true := by decide +kernel
theorem fgu {p q : Nat} (hp : p < 21) (hq : q < 21) (h : ∀ c, c < 4 → at4 (usG p) c + at4 (usG q) c ≤ 2) : ∃ g, g < 21 ∧ add4 (usG p) (usG q) = usG g := by
  have h1 := List.all_eq_true.mp fgu0 p (List.mem_range.mpr hp)
  have h2 := List.all_eq_true.mp h1 q (List.mem_range.mpr hq)
  have h3 : ((List.range 4).all fun c => decide (at4 (usG p) c + at4 (usG q) c ≤ 2)) = true := List.all_eq_true.mpr fun c hc => decide_eq_true (h c (List.mem_range.mp hc))
  rw [h3] at h2
  obtain ⟨g, hg, e⟩ := List.any_eq_true.mp h2
  exact ⟨g, List.mem_range.mp hg, eq_of_beq e⟩
