/-! the reference's lists: ways, and their values -/
def fitP (t : Nat → Nat → Nat) (pt : Nat → V4) (n : Nat) : Prop := ∀ m, m < n → pat4 (pt m) ∧ ∀ c, c < 4 → at4 (pt m) c ≤ t m c
def lft (t : Nat → Nat → Nat) (pt : Nat → V4) (c m : Nat) : Nat := t m c - at4 (pt m) c
/-- a way to a state through so many numbers -/
def Pth (st : Nat → Nat → List Nat) (t : Nat → Nat → Nat) (pt : Nat → V4) (n k : Nat) : Prop := fitP t pt n ∧ k < 65536 ∧ ∀ c, c < 4 → colR st (lft t pt c) n (nib k c)
def tN (bs : Nat → Nat) (x : Nat → Nat → Nat) (m c : Nat) : Nat := bs (13 * c + m) + x m c
/-- all can be cut -/
def AccR (L : Nat) (t : Nat → Nat → Nat) (N : Nat) : Prop := ∃ pt, fitP t pt N ∧ ∀ c, c < 4 → ∃ s, colR (rfT L) (lft t pt c) N s ∧ dnM L s = true
theorem lft_congr {t u : Nat → Nat → Nat} {pt qt : Nat → V4} {n : Nat} (h : ∀ m, m < n → pt m = qt m ∧ ∀ c, c < 4 → t m c = u m c) {c : Nat} (hc : c < 4) : ∀ m, m < n → lft t pt c m = lft u qt c m := fun m hm => by
  unfold lft
  rw [(h m hm).1, (h m hm).2 c hc]
theorem fitP_congr {t u : Nat → Nat → Nat} {pt qt : Nat → V4} {n : Nat} (h : ∀ m, m < n → pt m = qt m ∧ ∀ c, c < 4 → t m c = u m c) (f : fitP t pt n) : fitP u qt n := fun m hm => by
  obtain ⟨a, b⟩ := f m hm
  obtain ⟨e1, e2⟩ := h m hm
  exact ⟨e1 ▸ a, fun c hc => by rw [← e1, ← e2 c hc]; exact b c hc⟩
theorem Pth_congr {st : Nat → Nat → List Nat} {t u : Nat → Nat → Nat} {pt qt : Nat → V4} {n k : Nat} (h : ∀ m, m < n → pt m = qt m ∧ ∀ c, c < 4 → t m c = u m c) (f : Pth st t pt n k) : Pth st u qt n k := ⟨fitP_congr h f.1, f.2.1, fun c hc => (colR_congr (lft_congr h hc)).mp (f.2.2 c hc)⟩
theorem AccR_congr {L N : Nat} {t u : Nat → Nat → Nat} (h : ∀ m, m < N → ∀ c, c < 4 → t m c = u m c) (f : AccR L t N) : AccR L u N := by
  obtain ⟨pt, f1, f2⟩ := f
  have h' : ∀ m, m < N → pt m = pt m ∧ ∀ c, c < 4 → t m c = u m c := fun m hm => ⟨rfl, h m hm⟩
  refine ⟨pt, fitP_congr h' f1, fun c hc => ?_⟩
  obtain ⟨s, a, b⟩ := f2 c hc
  exact ⟨s, (colR_congr (lft_congr h' hc)).mp a, b⟩
theorem natSum_le {f : Nat → Nat} {B n : Nat} (h : ∀ m, m < n → f m ≤ B) : natSum f n ≤ n * B := by
  induction n with
  | zero => simp [natSum]
  | succ n ih =>
    simp only [natSum]
    have h1 := ih (fun m hm => h m (by omega))
    have h2 := h n (by omega)
    rw [Nat.add_mul, Nat.one_mul]
    omega
theorem natSum_congr {f g : Nat → Nat} {n : Nat} (h : ∀ m, m < n → f m = g m) : natSum f n = natSum g n := by
  induction n with
  | zero => rfl
  | succ n ih =>
    simp only [natSum]
    rw [ih (fun m hm => h m (by omega)), h n (by omega)]
/-- what tiles besides are worth -/
def x1R (bw : Bool) (x : Nat → Nat → Nat) (m : Nat) : Nat := x m 0 * w1M bw m + x m 1 * w1M bw m + x m 2 * w1M bw m + x m 3 * w1M bw m
def x2R (x : Nat → Nat → Nat) (m : Nat) : Nat := x m 0 * w2M (13 * 0 + m) + x m 1 * w2M (13 * 1 + m) + x m 2 * w2M (13 * 2 + m) + x m 3 * w2M (13 * 3 + m)
def x3R (x : Nat → Nat → Nat) (m : Nat) : Nat := x m 0 * w3M (13 * 0 + m) + x m 1 * w3M (13 * 1 + m) + x m 2 * w3M (13 * 2 + m) + x m 3 * w3M (13 * 3 + m)
def e1R (bw : Bool) (x : Nat → Nat → Nat) (n : Nat) : Nat := natSum (x1R bw x) n
def e2R (x : Nat → Nat → Nat) (n : Nat) : Nat := natSum (x2R x) n
def e3R (x : Nat → Nat → Nat) (n : Nat) : Nat := natSum (x3R x) n
def enR (bw : Bool) (x : Nat → Nat → Nat) (n : Nat) : V3 := (lN (e1R bw x n), lN (e2R x n), lN (e3R x n))
theorem enR_congr {bw : Bool} {x y : Nat → Nat → Nat} {n : Nat} (h : ∀ m, m < n → ∀ c, c < 4 → x m c = y m c) : enR bw x n = enR bw y n := by
  have e1 : e1R bw x n = e1R bw y n := natSum_congr fun m hm => by unfold x1R; rw [h m hm 0 (by decide), h m hm 1 (by decide), h m hm 2 (by decide), h m hm 3 (by decide)]
  have e2 : e2R x n = e2R y n := natSum_congr fun m hm => by unfold x2R; rw [h m hm 0 (by decide), h m hm 1 (by decide), h m hm 2 (by decide), h m hm 3 (by decide)]
  have e3 : e3R x n = e3R y n := natSum_congr fun m hm => by unfold x3R; rw [h m hm 0 (by decide), h m hm 1 (by decide), h m hm 2 (by decide), h m hm 3 (by decide)]
  unfold enR
  rw [e1, e2, e3]
theorem pwM_le (k : Nat) : pwM k ≤ 847288609443 := by
  unfold pwM
  calc 3 ^ (25 - k % 26) ≤ 3 ^ 25 := Nat.pow_le_pow_right (by decide) (by omega)
    _ = 847288609443 := by decide
theorem w_le (bw : Bool) {n : Nat} (hn : n < 13) (k : Nat) : w1M bw n ≤ 10013 ∧ w2M k ≤ 847288609443 ∧ w3M k ≤ 847288609443 := by
  have := pwM_le k
  unfold w1M w2M w3M
  refine ⟨by cases bw <;> simp <;> omega, by split <;> omega, by split <;> omega⟩
theorem mul_le2 {a b B : Nat} (ha : a ≤ 2) (hb : b ≤ B) : a * b ≤ 2 * B := Nat.mul_le_mul ha hb
theorem x_le {bw : Bool} {x : Nat → Nat → Nat} {m : Nat} (hm : m < 13) (h : ∀ c, c < 4 → x m c ≤ 2) : x1R bw x m ≤ 80104 ∧ x2R x m ≤ 6778308875544 ∧ x3R x m ≤ 6778308875544 := by
  have a0 := h 0 (by decide)
  have a1 := h 1 (by decide)
  have a2 := h 2 (by decide)
  have a3 := h 3 (by decide)
  unfold x1R x2R x3R
  refine ⟨?_, ?_, ?_⟩
  · have b := (w_le bw hm 0).1
    have := mul_le2 a0 b
    have := mul_le2 a1 b
    have := mul_le2 a2 b
    have := mul_le2 a3 b
    omega
  · have := mul_le2 a0 (w_le bw hm (13 * 0 + m)).2.1
    have := mul_le2 a1 (w_le bw hm (13 * 1 + m)).2.1
    have := mul_le2 a2 (w_le bw hm (13 * 2 + m)).2.1
    have := mul_le2 a3 (w_le bw hm (13 * 3 + m)).2.1
    omega
  · have := mul_le2 a0 (w_le bw hm (13 * 0 + m)).2.2
    have := mul_le2 a1 (w_le bw hm (13 * 1 + m)).2.2
    have := mul_le2 a2 (w_le bw hm (13 * 2 + m)).2.2
    have := mul_le2 a3 (w_le bw hm (13 * 3 + m)).2.2
    omega
theorem eR_lt {bw : Bool} {x : Nat → Nat → Nat} {n : Nat} (hn : n ≤ 13) (h : ∀ m, m < n → ∀ c, c < 4 → x m c ≤ 2) : e1R bw x n < 2 ^ 62 ∧ e2R x n < 2 ^ 62 ∧ e3R x n < 2 ^ 62 := by
  have h1 : e1R bw x n ≤ n * 80104 := natSum_le fun m hm => (x_le (by omega) (h m hm)).1
  have h2 : e2R x n ≤ n * 6778308875544 := natSum_le fun m hm => (x_le (bw := bw) (by omega) (h m hm)).2.1
  have h3 : e3R x n ≤ n * 6778308875544 := natSum_le fun m hm => (x_le (bw := bw) (by omega) (h m hm)).2.2
  refine ⟨?_, ?_, ?_⟩ <;> omega
/-- the order of plans -/
def leL (a b : V3) : Prop := a.1.toInt < b.1.toInt ∨ (a.1.toInt = b.1.toInt ∧ (a.2.1.toInt < b.2.1.toInt ∨ (a.2.1.toInt = b.2.1.toInt ∧ a.2.2.toInt ≤ b.2.2.toInt)))
theorem leL_rf (a : V3) : leL a a := by unfold leL; omega
theorem leL_tr {a b c : V3} (h : leL a b) (g : leL b c) : leL a c := by unfold leL at *; omega
theorem lg_pos (a b : Int64) : (0 < lg_cmp a b ↔ b.toInt < a.toInt) ∧ (lg_cmp a b = 0 ↔ a.toInt = b.toInt) := by
  unfold lg_cmp
  by_cases h1 : a > b
  · have h2 := Int64.lt_iff_toInt_lt.mp h1
    rw [if_pos h1]
    exact ⟨⟨fun _ => h2, fun _ => by decide⟩, ⟨fun q => absurd q (by decide), fun q => by omega⟩⟩
  · have h2 : ¬ b.toInt < a.toInt := fun q => h1 (Int64.lt_iff_toInt_lt.mpr q)
    rw [if_neg h1]
    by_cases h3 : a = b
    · rw [if_pos h3]
      exact ⟨⟨fun q => absurd q (by decide), fun q => absurd q h2⟩, ⟨fun _ => by rw [h3], fun _ => rfl⟩⟩
    · have h4 : a.toInt ≠ b.toInt := fun q => h3 (Int64.toInt_inj.mp q)
      rw [if_neg h3]
      exact ⟨⟨fun q => absurd q (by decide), fun q => absurd q h2⟩, ⟨fun q => absurd q (by decide), fun q => absurd q h4⟩⟩
theorem mgM_le (x y : V3) : leL x (mgM true x y) ∧ leL y (mgM true x y) ∧ (mgM true x y = x ∨ mgM true x y = y) := by
  unfold mgM
  rw [if_pos rfl]
  have h1 := lg_pos y.1 x.1
  have h2 := lg_pos y.2.1 x.2.1
  have h3 := lg_pos y.2.2 x.2.2
  split
  · rename_i h
    rw [h1.1, h1.2, h2.1, h2.2, h3.1] at h
    exact ⟨by unfold leL; omega, leL_rf _, Or.inr rfl⟩
  · rename_i h
    rw [h1.1, h1.2, h2.1, h2.2, h3.1] at h
    exact ⟨leL_rf _, by unfold leL; omega, Or.inl rfl⟩
theorem dg_of {a b c d : Nat} (ha : a ≤ 2) (hb : b ≤ 2) (hc : c ≤ 2) (hd : d ≤ 2) : a + 3 * b + 9 * c + 27 * d < 81 ∧ dgM (a + 3 * b + 9 * c + 27 * d) 0 = a ∧ dgM (a + 3 * b + 9 * c + 27 * d) 1 = b ∧ dgM (a + 3 * b + 9 * c + 27 * d) 2 = c ∧ dgM (a + 3 * b + 9 * c + 27 * d) 3 = d := by
  unfold dgM
  refine ⟨by omega, ?_, ?_, ?_, ?_⟩ <;> simp <;> omega
theorem c4 {P : Nat → Prop} (h0 : P 0) (h1 : P 1) (h2 : P 2) (h3 : P 3) : ∀ c, c < 4 → P c := fun c hc => by
  have : c = 0 ∨ c = 1 ∨ c = 2 ∨ c = 3 := by omega
  rcases this with rfl | rfl | rfl | rfl <;> assumption
theorem dg_x {x : Nat → Nat} (hx : ∀ c, c < 4 → x c ≤ 2) : ∃ w, w < 81 ∧ ∀ c, c < 4 → dgM w c = x c := by
  obtain ⟨h0, h1, h2, h3, h4⟩ := dg_of (hx 0 (by decide)) (hx 1 (by decide)) (hx 2 (by decide)) (hx 3 (by decide))
  exact ⟨_, h0, c4 h1 h2 h3 h4⟩
theorem dgM_0 (c : Nat) : dgM 0 c = 0 := by unfold dgM; simp
theorem range4 {β : Type} (f : β → Nat → β) (b : β) : (List.range 4).foldl f b = f (f (f (f b 0) 1) 2) 3 := rfl
theorem vwM_en {bw : Bool} {n w : Nat} {x : Nat → Nat → Nat} (hx : ∀ c, c < 4 → dgM w c = x n c) : vwM true bw n w (enR bw x n) 4 = enR bw x (n + 1) := by
  unfold vwM
  rw [range4]
  unfold adM
  simp only [if_true, hx 0 (by decide), hx 1 (by decide), hx 2 (by decide), hx 3 (by decide)]
  unfold enR
  simp only [lN_add]
  unfold e1R e2R e3R
  simp only [natSum]
  unfold x1R x2R x3R
  refine Prod.ext ?_ (Prod.ext ?_ ?_)
  · dsimp only; congr 1; omega
  · dsimp only; congr 1; omega
  · dsimp only; congr 1; omega
theorem vwM_f (bw : Bool) (n w : Nat) (v : V3) : vwM false bw n w v 4 = v := by
  unfold vwM
  rw [range4]
  unfold adM
  simp
theorem caM_iff {n : Nat} {ex : Nat → Nat} {w : Nat} : caM n ex w 4 = true ↔ ∀ c, c < 4 → dgM w c ≤ ex (13 * c + n) := ⟨fun h c hc => caM_at h hc, fun h => List.all_eq_true.mpr fun c hc => decide_eq_true (h c (List.mem_range.mp hc))⟩
theorem fiM_iff {b e : Nat → Nat} {u : V4} : fiM b e u 4 = true ↔ ∀ c, c < 4 → at4 u c ≤ b c + e c := ⟨fun h c hc => fiM_at h hc, fun h => List.all_eq_true.mpr fun c hc => decide_eq_true (h c (List.mem_range.mp hc))⟩
theorem rfT_lt {L s r q : Nat} (hL : L = 3 ∨ L = 4) (h : q ∈ rfT L s r) : q < 16 := by
  obtain ⟨o, ho, rfl⟩ := List.mem_map.mp h
  exact optsM_lt hL o ho
theorem colR_lt {st : Nat → Nat → List Nat} (hst : ∀ s r q, q ∈ st s r → q < 16) {r : Nat → Nat} {n s : Nat} (h : colR st r n s) : s < 16 := by
  cases n with
  | zero => have h : s = 0 := h; omega
  | succ n => obtain ⟨a, -, b⟩ := h; exact hst _ _ _ b
theorem reL_0 (pl bw : Bool) (L : Nat) (bs ex : Nat → Nat) : reL pl bw L bs ex 0 = [(0, (if pl then 0 else 1, 0, 0))] := rfl
theorem reL_sound {pl bw : Bool} {L : Nat} {bs ex : Nat → Nat} (hL : L = 3 ∨ L = 4) (n : Nat) : ∀ p ∈ reL pl bw L bs ex n, ∃ pt x, (∀ m, m < n → ∀ c, c < 4 → x m c ≤ ex (13 * c + m)) ∧ (pl = false → ∀ m c, x m c = 0) ∧ Pth (rfT L) (tN bs x) pt n p.1 ∧ (pl = true → p.2 = enR bw x n) := by
  induction n with
  | zero =>
    intro p hp
    rw [reL_0] at hp
    rw [List.mem_singleton.mp hp]
    refine ⟨fun _ => (0, 0, 0, 0), fun _ _ => 0, fun m hm => absurd hm (Nat.not_lt_zero m), fun _ _ _ => rfl, ⟨fun m hm => absurd hm (Nat.not_lt_zero m), (by decide : (0 : Nat) < 65536), fun c hc => ?_⟩, fun h => by rw [h]; rfl⟩
    show nib 0 c = 0
    unfold nib; simp
  | succ n ih =>
    rw [reL_mrg]
    refine mrg_sound (P := fun k v => ∃ pt x, (∀ m, m < n + 1 → ∀ c, c < 4 → x m c ≤ ex (13 * c + m)) ∧ (pl = false → ∀ m c, x m c = 0) ∧ Pth (rfT L) (tN bs x) pt (n + 1) k ∧ (pl = true → v = enR bw x (n + 1))) ?_ (fun p hp => absurd hp (by simp)) ?_
    · intro k v w hv hw
      by_cases hp : pl = true
      · rcases (mgM_le v w).2.2 with e | e
        · rw [hp, e]; rw [hp] at hv; exact hv
        · rw [hp, e]; rw [hp] at hw; exact hw
      · obtain ⟨pt, x, a, b, c, -⟩ := hv
        exact ⟨pt, x, a, b, c, fun h => absurd h hp⟩
    · intro q hq
      obtain ⟨p, hp, hq⟩ := List.mem_flatMap.mp hq
      obtain ⟨pt, x, h1, h2, h3, h4⟩ := ih p hp
      obtain ⟨w, hw, hc, g, hg, hf, o, ho, rfl⟩ := stC_mem.mp hq
      rw [caM_iff] at hc
      rw [fiM_iff] at hf
      obtain ⟨o0, ho0, o1, ho1, o2, ho2, o3, ho3, rfl⟩ := emM_mem.mp ho
      have agr : ∀ m, m < n → pt m = (if m = n then usG g else pt m) ∧ ∀ c, c < 4 → tN bs x m c = tN bs (fun m c => if m = n then dgM w c else x m c) m c := fun m hm => by
        refine ⟨by rw [if_neg (by omega)], fun c _ => ?_⟩
        unfold tN
        dsimp only
        rw [if_neg (by omega)]
      have lb0 := optsM_lt hL o0 ho0
      have lb1 := optsM_lt hL o1 ho1
      have lb2 := optsM_lt hL o2 ho2
      have lb3 := optsM_lt hL o3 ho3
      obtain ⟨k1, k2, k3, k4, k5⟩ := nib_pk lb0 lb1 lb2 lb3
      have er : ∀ c, c < 4 → lft (tN bs (fun m c => if m = n then dgM w c else x m c)) (fun m => if m = n then usG g else pt m) c n = ruM (fun c => bs (13 * c + n)) (dgM w) (usG g) c := fun c hc => by
        unfold lft tN ruM
        dsimp only
        rw [if_pos rfl, if_pos rfl]
      refine ⟨fun m => if m = n then usG g else pt m, fun m c => if m = n then dgM w c else x m c, fun m hm c hc2 => ?_, fun hpl m c => ?_, ⟨fun m hm => ?_, k1, ?_⟩, fun hpl => ?_⟩
      · dsimp only
        by_cases e : m = n
        · subst e; rw [if_pos rfl]; exact hc c hc2
        · rw [if_neg e]; exact h1 m (by omega) c hc2
      · dsimp only
        split
        · rw [hpl] at hw
          have : w = 0 := by have : w < 1 := hw; omega
          rw [this]; exact dgM_0 c
        · exact h2 hpl m c
      · by_cases e : m = n
        · subst e
          refine ⟨⟨g, hg, by dsimp only; rw [if_pos rfl]⟩, fun c hc2 => ?_⟩
          have := hf c hc2
          unfold tN
          dsimp only
          rw [if_pos rfl, if_pos rfl]
          exact this
        · obtain ⟨a, b⟩ := fitP_congr agr h3.1 m (by omega)
          exact ⟨a, b⟩
      · have col : ∀ c, c < 4 → ∀ q, q ∈ rfT L (nib p.1 c) (ruM (fun c => bs (13 * c + n)) (dgM w) (usG g) c) → colR (rfT L) (lft (tN bs (fun m c => if m = n then dgM w c else x m c)) (fun m => if m = n then usG g else pt m) c) (n + 1) q := fun c hc2 q hq => ⟨nib p.1 c, (colR_congr (lft_congr agr hc2)).mp (h3.2.2 c hc2), by rw [er c hc2]; exact hq⟩
        refine c4 ?_ ?_ ?_ ?_
        · rw [k2]; exact col 0 (by decide) _ (List.mem_map_of_mem ho0)
        · rw [k3]; exact col 1 (by decide) _ (List.mem_map_of_mem ho1)
        · rw [k4]; exact col 2 (by decide) _ (List.mem_map_of_mem ho2)
        · rw [k5]; exact col 3 (by decide) _ (List.mem_map_of_mem ho3)
      · unfold vM
        rw [hpl, h4 hpl]
        simp only [if_true]
        have e : enR bw x n = enR bw (fun m c => if m = n then dgM w c else x m c) n := enR_congr fun m hm c _ => by rw [if_neg (by omega)]
        rw [e, vwM_en (fun c _ => by rw [if_pos rfl])]
theorem reL_compl {pl bw : Bool} {L : Nat} {bs ex : Nat → Nat} (hL : L = 3 ∨ L = 4) (hx2 : ∀ k, ex k ≤ 2) {n : Nat} (hn : n ≤ 13) {k : Nat} {pt : Nat → V4} {x : Nat → Nat → Nat} (hx : ∀ m, m < n → ∀ c, c < 4 → x m c ≤ ex (13 * c + m)) (hp0 : pl = false → ∀ m, m < n → ∀ c, c < 4 → x m c = 0) (h : Pth (rfT L) (tN bs x) pt n k) : ∃ v, (k, v) ∈ reL pl bw L bs ex n ∧ (pl = true → leL (enR bw x n) v) := by
  induction n generalizing k with
  | zero =>
    obtain ⟨-, hk, hc⟩ := h
    have e : k = 0 := by
      have h0 : nib k 0 = 0 := hc 0 (by decide)
      have h1 : nib k 1 = 0 := hc 1 (by decide)
      have h2 : nib k 2 = 0 := hc 2 (by decide)
      have h3 : nib k 3 = 0 := hc 3 (by decide)
      have := pk_nib hk
      rw [h0, h1, h2, h3] at this
      exact this.symm
    subst e
    refine ⟨_, by rw [reL_0]; exact List.mem_singleton.mpr rfl, fun hpl => ?_⟩
    rw [hpl]
    exact leL_rf _
  | succ n ih =>
    obtain ⟨hfit, hk, hc⟩ := h
    obtain ⟨s0, a0, b0⟩ := hc 0 (by decide)
    obtain ⟨s1, a1, b1⟩ := hc 1 (by decide)
    obtain ⟨s2, a2, b2⟩ := hc 2 (by decide)
    obtain ⟨s3, a3, b3⟩ := hc 3 (by decide)
    have hlt : ∀ {r : Nat → Nat} {s : Nat}, colR (rfT L) r n s → s < 16 := fun h => colR_lt (fun s r q hq => rfT_lt hL hq) h
    obtain ⟨k1, k2, k3, k4, k5⟩ := nib_pk (hlt a0) (hlt a1) (hlt a2) (hlt a3)
    obtain ⟨v, hv1, hv2⟩ := ih (by omega) (k := pk4 s0 s1 s2 s3) (fun m hm => hx m (by omega)) (fun hpl m hm => hp0 hpl m (by omega)) ⟨fun m hm => hfit m (by omega), k1, c4 (by rw [k2]; exact a0) (by rw [k3]; exact a1) (by rw [k4]; exact a2) (by rw [k5]; exact a3)⟩
    obtain ⟨⟨g, hg, eg⟩, hgf⟩ := hfit n (by omega)
    have hxn := hx n (by omega)
    obtain ⟨w, hw, hwx⟩ : ∃ w, w < (if pl then 81 else 1 : Nat) ∧ ∀ c, c < 4 → dgM w c = x n c := by
      by_cases hpl : pl = true
      · rw [if_pos hpl]
        exact dg_x (fun c hc => Nat.le_trans (hxn c hc) (hx2 _))
      · rw [if_neg hpl]
        exact ⟨0, by decide, fun c hc => by rw [dgM_0, hp0 (Bool.eq_false_iff.mpr hpl) n (by omega) c hc]⟩
    obtain ⟨o0, ho0, eo0⟩ := List.mem_map.mp b0
    obtain ⟨o1, ho1, eo1⟩ := List.mem_map.mp b1
    obtain ⟨o2, ho2, eo2⟩ := List.mem_map.mp b2
    obtain ⟨o3, ho3, eo3⟩ := List.mem_map.mp b3
    have er : ∀ c, c < 4 → lft (tN bs x) pt c n = ruM (fun c => bs (13 * c + n)) (dgM w) (usG g) c := fun c hc => by
      unfold lft tN ruM
      dsimp only
      rw [eg, hwx c hc]
    rw [er 0 (by decide)] at ho0
    rw [er 1 (by decide)] at ho1
    rw [er 2 (by decide)] at ho2
    rw [er 3 (by decide)] at ho3
    have hq : (k, vM pl (vwM pl bw n w v 4) (usN g + o0.2 + o1.2 + o2.2 + o3.2)) ∈ stC pl bw L n bs ex (pk4 s0 s1 s2 s3, v) := by
      refine stC_mem.mpr ⟨w, hw, caM_iff.mpr fun c hc => by rw [hwx c hc]; exact hxn c hc, g, hg, fiM_iff.mpr fun c hc => ?_, (k, usN g + o0.2 + o1.2 + o2.2 + o3.2), emM_mem.mpr ⟨o0, by rw [k2]; exact ho0, o1, by rw [k3]; exact ho1, o2, by rw [k4]; exact ho2, o3, by rw [k5]; exact ho3, ?_⟩, rfl⟩
      · have := hgf c hc
        unfold tN at this
        rw [hwx c hc, ← eg]
        exact this
      · rw [eo0, eo1, eo2, eo3, pk_nib hk]
    rw [reL_mrg]
    refine mrg_new (Q := fun _ v => pl = true → leL (enR bw x (n + 1)) v) (fun _ v w hq hpl => ?_) (fun _ v w hq hpl => ?_) (List.mem_flatMap.mpr ⟨_, hv1, hq⟩) (fun hpl => ?_)
    · rw [hpl]; exact leL_tr (hq hpl) (mgM_le v w).1
    · rw [hpl]; exact leL_tr (hq hpl) (mgM_le v w).2.1
    · obtain ⟨pt2, y, y1, -, -, y4⟩ := reL_sound hL n _ hv1
      have ey := y4 hpl
      dsimp only at ey
      have hle := hv2 hpl
      rw [ey] at hle
      unfold vM
      rw [ey, hpl]
      simp only [if_true]
      have e1 : enR bw y n = enR bw (fun m c => if m = n then x n c else y m c) n := enR_congr fun m hm c _ => by rw [if_neg (by omega)]
      have bx := eR_lt (bw := bw) (x := x) (n := n) (by omega) (fun m hm c hc => Nat.le_trans (hx m (by omega) c hc) (hx2 _))
      have by_ := eR_lt (bw := bw) (x := y) (n := n) (by omega) (fun m hm c hc => Nat.le_trans (y1 m hm c hc) (hx2 _))
      have bx1 := eR_lt (bw := bw) (x := x) (n := n + 1) (by omega) (fun m hm c hc => Nat.le_trans (hx m (by omega) c hc) (hx2 _))
      have by1 := eR_lt (bw := bw) (x := fun m c => if m = n then x n c else y m c) (n := n + 1) (by omega) (fun m hm c hc => by
        split
        · exact Nat.le_trans (hxn c hc) (hx2 _)
        · exact Nat.le_trans (y1 m (by omega) c hc) (hx2 _))
      rw [e1, vwM_en (fun c hc => by rw [if_pos rfl]; exact hwx c hc)]
      have ee1 : e1R bw (fun m c => if m = n then x n c else y m c) (n + 1) = e1R bw y n + x1R bw x n := by
        unfold e1R
        simp only [natSum]
        congr 1
        · exact natSum_congr fun m hm => by unfold x1R; simp only [if_neg (show ¬ m = n by omega)]
        · unfold x1R; simp only [if_true]
      have ee2 : e2R (fun m c => if m = n then x n c else y m c) (n + 1) = e2R y n + x2R x n := by
        unfold e2R
        simp only [natSum]
        congr 1
        · exact natSum_congr fun m hm => by unfold x2R; simp only [if_neg (show ¬ m = n by omega)]
        · unfold x2R; simp only [if_true]
      have ee3 : e3R (fun m c => if m = n then x n c else y m c) (n + 1) = e3R y n + x3R x n := by
        unfold e3R
        simp only [natSum]
        congr 1
        · exact natSum_congr fun m hm => by unfold x3R; simp only [if_neg (show ¬ m = n by omega)]
        · unfold x3R; simp only [if_true]
      have ex1 : e1R bw x (n + 1) = e1R bw x n + x1R bw x n := rfl
      have ex2 : e2R x (n + 1) = e2R x n + x2R x n := rfl
      have ex3 : e3R x (n + 1) = e3R x n + x3R x n := rfl
      unfold leL enR at hle ⊢
      dsimp only at hle ⊢
      rw [lN_toInt' (by omega), lN_toInt' (by omega), lN_toInt' (by omega), lN_toInt' (by omega), lN_toInt' (by omega), lN_toInt' (by omega)] at hle
      rw [lN_toInt' (by omega), lN_toInt' (by omega), lN_toInt' (by omega), lN_toInt' (by omega), lN_toInt' (by omega), lN_toInt' (by omega), ee1, ee2, ee3, ex1, ex2, ex3]
      omega
