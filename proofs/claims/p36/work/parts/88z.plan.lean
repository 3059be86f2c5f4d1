/-! plans: both orders choose the same tiles -/
theorem natSum_app (f : Nat → Nat) (a b : Nat) : natSum f (a + b) = natSum f a + natSum (fun i => f (a + i)) b := by
  induction b with
  | zero => rfl
  | succ b ih =>
    rw [← Nat.add_assoc]
    simp only [natSum, ih]
    omega
theorem natSum_plus (f g : Nat → Nat) (n : Nat) : natSum (fun i => f i + g i) n = natSum f n + natSum g n := by
  induction n with
  | zero => rfl
  | succ n ih => simp only [natSum, ih]; omega
theorem natSum_mul (f : Nat → Nat) (a n : Nat) : natSum (fun i => a * f i) n = a * natSum f n := by
  induction n with
  | zero => rfl
  | succ n ih => simp only [natSum, ih]; rw [Nat.mul_add]
theorem natSum_zero {f : Nat → Nat} {n : Nat} (h : ∀ i, i < n → f i = 0) : natSum f n = 0 := by
  induction n with
  | zero => rfl
  | succ n ih => simp only [natSum, ih (fun i hi => h i (by omega)), h n (by omega)]
/-- a number of digits -/
def HN (B : Nat) (f : Nat → Nat) : Nat → Nat
  | 0 => 0
  | n + 1 => B * HN B f n + f n
theorem HN_sum (B : Nat) (f : Nat → Nat) (n : Nat) : natSum (fun j => f j * B ^ (n - 1 - j)) n = HN B f n := by
  induction n with
  | zero => rfl
  | succ n ih =>
    simp only [natSum, HN]
    rw [← ih, ← natSum_mul]
    congr 1
    · refine natSum_congr fun j hj => ?_
      rw [show n + 1 - 1 - j = (n - 1 - j) + 1 by omega, Nat.pow_succ, ← Nat.mul_assoc, Nat.mul_comm]
    · rw [show n + 1 - 1 - n = 0 by omega, Nat.pow_zero, Nat.mul_one]
theorem HN_congr {B : Nat} {f g : Nat → Nat} {n : Nat} (h : ∀ j, j < n → f j = g j) : HN B f n = HN B g n := by
  induction n with
  | zero => rfl
  | succ n ih => simp only [HN]; rw [ih (fun j hj => h j (by omega)), h n (by omega)]
theorem HN_lt {B : Nat} {f : Nat → Nat} {n : Nat} (h : ∀ j, j < n → f j < B) : HN B f n < B ^ n := by
  induction n with
  | zero => exact Nat.one_pos
  | succ n ih =>
    simp only [HN]
    have h1 := ih fun j hj => h j (by omega)
    have h2 := h n (by omega)
    rw [Nat.pow_succ, Nat.mul_comm (B ^ n) B]
    calc B * HN B f n + f n < B * HN B f n + B := by omega
      _ = B * (HN B f n + 1) := by rw [Nat.mul_add, Nat.mul_one]
      _ ≤ B * B ^ n := Nat.mul_le_mul_left _ h1
theorem HN_div {B : Nat} {f : Nat → Nat} {m d : Nat} (h : ∀ j, j < m + d → f j < B) : HN B f (m + d) / B ^ d = HN B f m := by
  induction d with
  | zero => rw [Nat.pow_zero, Nat.div_one]; rfl
  | succ d ih =>
    have hB : 0 < B := Nat.lt_of_le_of_lt (Nat.zero_le _) (h m (by omega))
    have e : HN B f (m + (d + 1)) / B = HN B f (m + d) := by
      show (B * HN B f (m + d) + f (m + d)) / B = _
      rw [Nat.add_comm, Nat.add_mul_div_left _ _ hB, Nat.div_eq_of_lt (h (m + d) (by omega)), Nat.zero_add]
    rw [Nat.pow_succ, Nat.mul_comm, ← Nat.div_div_eq_div_mul, e]
    exact ih fun j hj => h j (by omega)
theorem HN_dig {B : Nat} {f : Nat → Nat} {m d : Nat} (h : ∀ j, j < m + 1 + d → f j < B) : HN B f (m + 1 + d) / B ^ d % B = f m := by
  rw [HN_div h]
  show (B * HN B f m + f m) % B = f m
  rw [Nat.add_comm, Nat.add_mul_mod_self_left, Nat.mod_eq_of_lt (h m (by omega))]
theorem HN_less {B : Nat} {f g : Nat → Nat} {k n : Nat} (hk : k < n) (he : ∀ j, j < k → f j = g j) (hl : f k < g k) (hf : ∀ j, j < n → f j < B) : HN B f n < HN B g n := by
  obtain ⟨d, rfl⟩ : ∃ d, n = k + 1 + d := ⟨n - (k + 1), by omega⟩
  induction d with
  | zero =>
    show B * HN B f k + f k < B * HN B g k + g k
    rw [HN_congr he]
    omega
  | succ d ih =>
    show B * HN B f (k + 1 + d) + f (k + 1 + d) < B * HN B g (k + 1 + d) + g (k + 1 + d)
    have h1 := ih (by omega) (fun j hj => hf j (by omega))
    have h2 := hf (k + 1 + d) (by omega)
    have h3 : B * (HN B f (k + 1 + d) + 1) ≤ B * HN B g (k + 1 + d) := Nat.mul_le_mul_left _ h1
    rw [Nat.mul_add, Nat.mul_one] at h3
    omega
/-- tiles besides, by kinds -/
def kv (x : Nat → Nat → Nat) (k : Nat) : Nat := x (k % 13) (k / 13)
theorem kv_at (x : Nat → Nat → Nat) {m : Nat} (hm : m < 13) (c : Nat) : kv x (13 * c + m) = x m c := by
  unfold kv
  rw [show (13 * c + m) % 13 = m by omega, show (13 * c + m) / 13 = c by omega]
theorem sum52 (G : Nat → Nat) : natSum (fun m => G (13 * 0 + m) + G (13 * 1 + m) + G (13 * 2 + m) + G (13 * 3 + m)) 13 = natSum G 52 := by
  rw [natSum_plus, natSum_plus, natSum_plus, show (52 : Nat) = 13 + 13 + 13 + 13 from rfl, natSum_app, natSum_app, natSum_app]
  have e0 : natSum (fun i => G (13 * 0 + i)) 13 = natSum G 13 := natSum_congr fun i _ => by rw [show 13 * 0 + i = i by omega]
  rw [e0]
def rkC (bw : Bool) (k : Nat) : Nat := if bw then 32 * (k % 13 + 1) + 1 else 512 + (k % 13 + 1)
def SW (w f : Nat → Nat) : Nat := natSum (fun k => f k * w k) 52
theorem f1C_kv (bw : Bool) (x : Nat → Nat → Nat) : f1C bw x 13 = SW (fw1 bw) (kv x) ∧ f2C x 13 = SW fw2 (kv x) := by
  unfold f1C f2C SW
  rw [← sum52, ← sum52]
  refine ⟨natSum_congr fun m hm => ?_, natSum_congr fun m hm => ?_⟩
  · unfold x1C
    simp only [kv_at x hm]
  · unfold x2C
    simp only [kv_at x hm]
theorem eR_kv (bw : Bool) (x : Nat → Nat → Nat) : e1R bw x 13 = SW (fun k => w1M bw (k % 13)) (kv x) ∧ e2R x 13 = SW w2M (kv x) ∧ e3R x 13 = SW w3M (kv x) := by
  unfold e1R e2R e3R SW
  rw [← sum52, ← sum52, ← sum52]
  refine ⟨natSum_congr fun m hm => ?_, natSum_congr fun m hm => ?_, natSum_congr fun m hm => ?_⟩
  · unfold x1R
    simp only [kv_at x hm]
    rw [show (13 * 0 + m) % 13 = m by omega, show (13 * 1 + m) % 13 = m by omega, show (13 * 2 + m) % 13 = m by omega, show (13 * 3 + m) % 13 = m by omega]
  · unfold x2R
    simp only [kv_at x hm]
  · unfold x3R
    simp only [kv_at x hm]
theorem xsum_kv (x : Nat → Nat → Nat) : xsum x 13 = natSum (kv x) 52 := by
  unfold xsum
  rw [← sum52]
  refine natSum_congr fun m hm => ?_
  simp only [kv_at x hm]
theorem SW_cut {w f : Nat → Nat} {n : Nat} (hn : n ≤ 52) (h : ∀ k, n ≤ k → k < 52 → w k = 0) : SW w f = natSum (fun k => f k * w k) n := by
  unfold SW
  obtain ⟨d, hd⟩ : ∃ d, 52 = n + d := ⟨52 - n, by omega⟩
  rw [hd, natSum_app, natSum_zero (f := fun i => f (n + i) * w (n + i)) (fun i hi => by rw [h (n + i) (by omega) (by omega), Nat.mul_zero]), Nat.add_zero]
theorem SW_from {w f : Nat → Nat} {n : Nat} (hn : n ≤ 52) (h : ∀ k, k < n → w k = 0) : SW w f = natSum (fun i => f (n + i) * w (n + i)) (52 - n) := by
  unfold SW
  have e : 52 = n + (52 - n) := by omega
  rw [e, natSum_app, natSum_zero (f := fun i => f i * w i) (fun i hi => by rw [h i hi, Nat.mul_zero]), Nat.zero_add]
  congr 1
  omega
/-- the worth of tiles, and how many they are -/
def wtK (f : Nat → Nat) : Nat := SW (fun k => k % 13 + 1) f
def ctK (f : Nat → Nat) : Nat := natSum f 52
theorem rk_sum (bw : Bool) (f : Nat → Nat) : SW (rkC bw) f = (if bw then 32 * wtK f + ctK f else 512 * ctK f + wtK f) ∧ SW (fun k => w1M bw (k % 13)) f = (if bw then 100 * wtK f + ctK f else 10000 * ctK f + wtK f) := by
  unfold wtK ctK SW
  cases bw
  · rw [if_neg (by decide), if_neg (by decide), ← natSum_mul, ← natSum_mul, ← natSum_plus, ← natSum_plus]
    refine ⟨natSum_congr fun k _ => ?_, natSum_congr fun k _ => ?_⟩
    · unfold rkC
      rw [if_neg (by decide), Nat.mul_add, Nat.mul_comm (f k) 512]
    · unfold w1M
      dsimp only
      rw [if_neg (by decide), Nat.add_assoc, Nat.mul_add, Nat.mul_comm (f k) 10000]
  · rw [if_pos rfl, if_pos rfl, ← natSum_mul, ← natSum_mul, ← natSum_plus, ← natSum_plus]
    refine ⟨natSum_congr fun k _ => ?_, natSum_congr fun k _ => ?_⟩
    · unfold rkC
      rw [if_pos rfl, Nat.mul_add, Nat.mul_one, ← Nat.mul_assoc, ← Nat.mul_assoc, Nat.mul_comm (f k) 32]
    · unfold w1M
      dsimp only
      rw [if_pos rfl, Nat.mul_add, Nat.mul_one, ← Nat.mul_assoc, ← Nat.mul_assoc, Nat.mul_comm (f k) 100]
theorem wt_le (f : Nat → Nat) : wtK f ≤ 13 * ctK f := by
  unfold wtK ctK SW
  rw [← natSum_mul]
  have : ∀ n, natSum (fun k => f k * (k % 13 + 1)) n ≤ natSum (fun k => 13 * f k) n := by
    intro n
    induction n with
    | zero => exact Nat.le_refl _
    | succ n ih =>
      simp only [natSum]
      have : f n * (n % 13 + 1) ≤ f n * 13 := Nat.mul_le_mul_left _ (by omega)
      omega
  exact this 52
theorem fw1_sum (bw : Bool) (f : Nat → Nat) : SW (fw1 bw) f = SW (rkC bw) f * 2 ^ 48 + HN 4 f 24 := by
  have e : SW (fw1 bw) f = SW (fun k => rkC bw k * 2 ^ 48) f + SW (fun k => if k < 24 then 4 ^ (23 - k) else 0) f := by
    unfold SW
    rw [← natSum_plus]
    refine natSum_congr fun k _ => ?_
    rw [← Nat.mul_add]
    rfl
  have ea : SW (fun k => rkC bw k * 2 ^ 48) f = SW (rkC bw) f * 2 ^ 48 := by
    unfold SW
    rw [Nat.mul_comm, ← natSum_mul]
    refine natSum_congr fun k _ => ?_
    rw [← Nat.mul_assoc, Nat.mul_comm]
  have eb : SW (fun k => if k < 24 then 4 ^ (23 - k) else 0) f = HN 4 f 24 := by
    rw [SW_cut (n := 24) (by decide) (fun k h _ => if_neg (by omega)), ← HN_sum]
    refine natSum_congr fun k hk => ?_
    rw [if_pos hk]
  rw [e, ea, eb]
theorem fw2_sum (f : Nat → Nat) : SW fw2 f = HN 4 (fun i => f (24 + i)) 28 := by
  rw [SW_from (w := fw2) (n := 24) (by decide) (fun k h => if_pos h), ← HN_sum]
  refine natSum_congr fun k hk => ?_
  unfold fw2
  rw [if_neg (by omega), show 51 - (24 + k) = 28 - 1 - k by omega]
theorem w2_sum (f : Nat → Nat) : SW w2M f = HN 3 f 26 := by
  rw [SW_cut (w := w2M) (n := 26) (by decide) (fun k h _ => if_neg (by omega)), ← HN_sum]
  refine natSum_congr fun k hk => ?_
  unfold w2M pwM
  rw [if_pos hk, Nat.mod_eq_of_lt hk]
theorem w3_sum (f : Nat → Nat) : SW w3M f = HN 3 (fun i => f (26 + i)) 26 := by
  rw [SW_from (w := w3M) (n := 26) (by decide) (fun k h => if_pos h), ← HN_sum]
  refine natSum_congr fun k hk => ?_
  unfold w3M pwM
  rw [if_neg (by omega), show (26 + k) % 26 = k by omega]
/-- where two rows of digits begin to differ -/
theorem first_diff (f g : Nat → Nat) (n : Nat) : (∀ k, k < n → f k = g k) ∨ ∃ k, k < n ∧ (∀ j, j < k → f j = g j) ∧ f k ≠ g k := by
  induction n with
  | zero => exact Or.inl fun k hk => absurd hk (Nat.not_lt_zero k)
  | succ n ih =>
    rcases ih with h | ⟨k, h1, h2, h3⟩
    · by_cases e : f n = g n
      · exact Or.inl (up_x h e)
      · exact Or.inr ⟨n, by omega, h, e⟩
    · exact Or.inr ⟨k, by omega, h2, h3⟩
theorem same_plan {bw : Bool} {f g : Nat → Nat} (hf : ∀ k, k < 52 → f k ≤ 2) (hg : ∀ k, k < 52 → g k ≤ 2) (cf : ctK f ≤ 24) (cg : ctK g ≤ 24) (h1 : SW (fw1 bw) g < SW (fw1 bw) f ∨ (SW (fw1 bw) g = SW (fw1 bw) f ∧ SW fw2 g ≤ SW fw2 f)) (h2 : SW (fun k => w1M bw (k % 13)) f < SW (fun k => w1M bw (k % 13)) g ∨ (SW (fun k => w1M bw (k % 13)) f = SW (fun k => w1M bw (k % 13)) g ∧ (SW w2M f < SW w2M g ∨ (SW w2M f = SW w2M g ∧ SW w3M f ≤ SW w3M g)))) : ∀ k, k < 52 → f k = g k := by
  rw [fw1_sum, fw1_sum, fw2_sum, fw2_sum, (rk_sum bw f).1, (rk_sum bw g).1] at h1
  rw [w2_sum, w2_sum, w3_sum, w3_sum, (rk_sum bw f).2, (rk_sum bw g).2] at h2
  have lf : HN 4 f 24 < 4 ^ 24 := HN_lt fun j hj => by have := hf j (by omega); omega
  have lg : HN 4 g 24 < 4 ^ 24 := HN_lt fun j hj => by have := hg j (by omega); omega
  have wf := wt_le f
  have wg := wt_le g
  have eq : wtK f = wtK g ∧ ctK f = ctK g := by
    cases bw
    · simp only [Bool.false_eq_true, if_false] at h1 h2
      omega
    · simp only [if_true] at h1 h2
      omega
  rw [eq.1, eq.2] at h1 h2
  have h1' : HN 4 g 24 < HN 4 f 24 ∨ (HN 4 g 24 = HN 4 f 24 ∧ HN 4 (fun i => g (24 + i)) 28 ≤ HN 4 (fun i => f (24 + i)) 28) := by omega
  have h2' : HN 3 f 26 < HN 3 g 26 ∨ (HN 3 f 26 = HN 3 g 26 ∧ HN 3 (fun i => f (26 + i)) 26 ≤ HN 3 (fun i => g (26 + i)) 26) := by omega
  rcases first_diff f g 52 with h | ⟨k, hk, he, hne⟩
  · exact h
  · exfalso
    by_cases hlt : f k < g k
    · by_cases hk24 : k < 24
      · have := HN_less (B := 4) (n := 24) hk24 he hlt (fun j hj => by have := hf j (by omega); omega)
        omega
      · have e1 : HN 4 f 24 = HN 4 g 24 := HN_congr fun j hj => he j (by omega)
        have := HN_less (B := 4) (f := fun i => f (24 + i)) (g := fun i => g (24 + i)) (k := k - 24) (n := 28) (by omega) (fun j hj => he _ (by omega)) (by rw [show 24 + (k - 24) = k by omega]; exact hlt) (fun j hj => by have := hf (24 + j) (by omega); omega)
        omega
    · have hgt : g k < f k := by omega
      have he' : ∀ j, j < k → g j = f j := fun j hj => (he j hj).symm
      by_cases hk26 : k < 26
      · have := HN_less (B := 3) (n := 26) hk26 he' hgt (fun j hj => by have := hg j (by omega); omega)
        omega
      · have e1 : HN 3 f 26 = HN 3 g 26 := HN_congr fun j hj => he j (by omega)
        have := HN_less (B := 3) (f := fun i => g (26 + i)) (g := fun i => f (26 + i)) (k := k - 26) (n := 26) (by omega) (fun j hj => he' _ (by omega)) (by rw [show 26 + (k - 26) = k by omega]; exact hgt) (fun j hj => by have := hg (26 + j) (by omega); omega)
        omega
