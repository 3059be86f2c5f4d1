/-! longs as numbers: remainders, shifts, halves -/
theorem lN_div {a b : Nat} (ha : a < 2 ^ 63) (hb : b < 2 ^ 63) : lN a / lN b = lN (a / b) := (Int64.ofNat_div ha hb).symm
theorem lN_sub' {a b : Nat} (h : b ≤ a) : lN a - lN b = lN (a - b) := lN_sub h
theorem lRem_lN {a b : Nat} (ha : a < 2 ^ 63) (hb : b < 2 ^ 63) : lRem (lN a) (lN b) = lN (a % b) := by
  unfold lRem
  rw [lN_div ha hb, lN_mul, lN_sub' (by have := Nat.div_mul_le_self a b; omega)]
  congr 1
  have := Nat.div_add_mod a b
  rw [Nat.mul_comm] at this
  omega
theorem lN_shlG (a : Nat) (b : Int64) (m : Nat) (hb : b.toBitVec.smod 64 = BitVec.ofNat 64 m) (hm : m < 64) : lN a <<< b = lN (a * 2 ^ m) := by
  apply Int64.toBitVec_inj.mp
  show (BitVec.ofNat 64 a) <<< (b.toBitVec.smod 64) = BitVec.ofNat 64 (a * 2 ^ m)
  rw [hb]
  apply BitVec.eq_of_toNat_eq
  rw [BitVec.shiftLeft_eq', BitVec.toNat_shiftLeft, BitVec.toNat_ofNat, BitVec.toNat_ofNat, BitVec.toNat_ofNat, Nat.mod_eq_of_lt (show m < 2 ^ 64 by omega), Nat.shiftLeft_eq, Nat.mod_mul_mod]
theorem lN_ushr {n : Nat} (hn : n < 2 ^ 64) (b : UInt64) (m : Nat) (hb : b.toBitVec % 64#64 = BitVec.ofNat 64 m) (hm : m < 64) : ((lN n).toUInt64 >>> b).toInt64 = lN (n / 2 ^ m) := by
  apply Int64.toBitVec_inj.mp
  show (BitVec.ofNat 64 n) >>> (b.toBitVec % 64#64) = BitVec.ofNat 64 (n / 2 ^ m)
  rw [hb]
  apply BitVec.eq_of_toNat_eq
  have h2 : n / 2 ^ m < 2 ^ 64 := Nat.lt_of_le_of_lt (Nat.div_le_self _ _) hn
  rw [BitVec.ushiftRight_eq', BitVec.toNat_ushiftRight, BitVec.toNat_ofNat, BitVec.toNat_ofNat, BitVec.toNat_ofNat, Nat.mod_eq_of_lt (show m < 2 ^ 64 by omega), Nat.mod_eq_of_lt hn, Nat.mod_eq_of_lt h2, Nat.shiftRight_eq_div_pow]
theorem lN_or (a b : Nat) : lN a ||| lN b = lN (a ||| b) := by
  apply Int64.toBitVec_inj.mp
  rw [Int64.toBitVec_or]
  show BitVec.ofNat 64 a ||| BitVec.ofNat 64 b = BitVec.ofNat 64 (a ||| b)
  exact BitVec.ofNat_or.symm
theorem lN_and (a b : Nat) : lN a &&& lN b = lN (a &&& b) := by
  apply Int64.toBitVec_inj.mp
  rw [Int64.toBitVec_and]
  show BitVec.ofNat 64 a &&& BitVec.ofNat 64 b = BitVec.ofNat 64 (a &&& b)
  exact BitVec.ofNat_and.symm
theorem lN_orp {a b : Nat} (i : Nat) (h : b < 2 ^ i) : lN (2 ^ i * a) ||| lN b = lN (2 ^ i * a + b) := by
  rw [lN_or, Nat.two_pow_add_eq_or_of_lt h]
/-- two numbers in one long -/
def two32 (b c : Nat) : Nat := 2 ^ 32 * b + c
theorem hiW_2 {b c : Nat} (hb : b < 2 ^ 31) (hc : c < 2 ^ 32) : hiW (lN (two32 b c)) = lN b := by
  unfold hiW two32
  rw [lN_ushr (by omega) _ 32 (by decide) (by decide)]
  congr 1
  omega
theorem nI_mod32 (n : Nat) : nI (n % 2 ^ 32) = nI n := by
  apply Int32.toBitVec_inj.mp
  show BitVec.ofNat 32 (n % 2 ^ 32) = BitVec.ofNat 32 n
  apply BitVec.eq_of_toNat_eq
  rw [BitVec.toNat_ofNat, BitVec.toNat_ofNat, Nat.mod_mod]
theorem lo_2 {b c : Nat} (hc : c < 2 ^ 32) : (lN (two32 b c)).toInt32 = nI c := by
  rw [lN_i, ← nI_mod32]
  congr 1
  unfold two32
  omega
theorem mk_2 {b c : Nat} (hc : c < 2 ^ 32) : ((lN b) <<< (((32 : Int32)).toInt64 &&& 63)) ||| lN c = lN (two32 b c) := by
  rw [lN_shlG _ _ 32 (by decide) (by decide), Nat.mul_comm, lN_orp 32 hc]
  rfl
/-- counts, fewest and most -/
abbrev N3 : Type := Nat × Nat × Nat
def m2 (x y : N3) : N3 := ((x.1 + y.1) % 1000000007, min x.2.1 y.2.1, max x.2.2 y.2.2)
theorem m2_CA : CA m2 := by
  constructor
  · intro a b
    unfold m2
    rw [Nat.add_comm, Nat.min_comm, Nat.max_comm]
  · intro a b c
    unfold m2
    dsimp only
    rw [Nat.min_assoc, Nat.max_assoc]
    congr 1
    omega
def agN (s : Nat) (v : N3) : N3 := (v.1, v.2.1 + s, v.2.2 + s)
theorem agN_m2 (s : Nat) (v w : N3) : agN s (m2 v w) = m2 (agN s v) (agN s w) := by
  unfold agN m2
  dsimp only
  rw [Nat.add_min_add_right, Nat.add_max_add_right]
def bdN (n : Nat) (v : N3) : Prop := v.1 < 1000000007 ∧ v.2.1 ≤ v.2.2 ∧ v.2.2 ≤ 20 * n
theorem bdN_m2 {n : Nat} {v w : N3} (h : bdN n v) (g : bdN n w) : bdN n (m2 v w) := by
  obtain ⟨h1, h2, h3⟩ := h
  obtain ⟨g1, g2, g3⟩ := g
  unfold bdN m2
  dsimp only
  refine ⟨Nat.mod_lt _ (by decide), ?_, ?_⟩
  · omega
  · omega
theorem bdN_ag {n s : Nat} {v : N3} (h : bdN n v) (hs : s ≤ 20) : bdN (n + 1) (agN s v) := by
  obtain ⟨h1, h2, h3⟩ := h
  unfold bdN agN
  dsimp only
  omega
def phR (v : N3) : V3 := (lN v.1, lN v.2.1, lN v.2.2)
def phC (v : N3) : Int64 × Int64 := (lN v.1, lN (two32 v.2.1 v.2.2))
theorem mgM_ph {n : Nat} (hn : n ≤ 20) {v w : N3} (h : bdN n v) (g : bdN n w) : mgM false (phR v) (phR w) = phR (m2 v w) := by
  obtain ⟨h1, h2, h3⟩ := h
  obtain ⟨g1, g2, g3⟩ := g
  unfold mgM phR m2
  rw [if_neg (by decide)]
  dsimp only
  have c1 := lN_cmp (a := w.2.1) (b := v.2.1) (by omega) (by omega)
  have c2 := lN_cmp (a := w.2.2) (b := v.2.2) (by omega) (by omega)
  rw [lN_add, show (1000000007 : Int64) = lN 1000000007 from rfl, lRem_lN (by omega) (by decide)]
  refine Prod.ext rfl (Prod.ext ?_ ?_)
  · dsimp only
    by_cases q : v.2.1 ≤ w.2.1
    · rw [if_pos (c1.2.2.1.mpr q), Nat.min_eq_left q]
    · rw [if_neg (fun z => q (c1.2.2.1.mp z)), Nat.min_eq_right (by omega)]
  · dsimp only
    by_cases q : w.2.2 ≤ v.2.2
    · rw [if_pos (c2.2.2.2.mpr q), Nat.max_eq_left q]
    · rw [if_neg (fun z => q (c2.2.2.2.mp z)), Nat.max_eq_right (by omega)]
theorem mgL_ph {n : Nat} (hn : n ≤ 20) {v w : N3} (h : bdN n v) (g : bdN n w) : mgL 2 (phC v) (phC w) = phC (m2 v w) := by
  obtain ⟨h1, h2, h3⟩ := h
  obtain ⟨g1, g2, g3⟩ := g
  unfold mgL phC m2
  rw [if_neg (by decide), if_pos rfl]
  dsimp only
  rw [lN_add, show (1000000007 : Int64) = lN 1000000007 from rfl, lRem_lN (by omega) (by decide), hiW_2 (by omega) (by omega), hiW_2 (by omega) (by omega), lo_2 (by omega), lo_2 (by omega), nI_l (by omega), nI_l (by omega)]
  have c1 := lN_cmp (a := v.2.1) (b := w.2.1) (by omega) (by omega)
  have c2 : nI v.2.2 ≤ nI w.2.2 ↔ v.2.2 ≤ w.2.2 := nI_leI (by omega) (by omega)
  refine Prod.ext rfl ?_
  dsimp only
  have e1 : (if 0 ≤ lg_cmp (lN v.2.1) (lN w.2.1) then lN w.2.1 else lN v.2.1) = lN (min v.2.1 w.2.1) := by
    by_cases q : w.2.1 ≤ v.2.1
    · rw [if_pos (c1.2.2.1.mpr q), Nat.min_eq_right q]
    · rw [if_neg (fun z => q (c1.2.2.1.mp z)), Nat.min_eq_left (by omega)]
  have e2 : (if nI v.2.2 ≤ nI w.2.2 then lN w.2.2 else lN v.2.2) = lN (max v.2.2 w.2.2) := by
    by_cases q : v.2.2 ≤ w.2.2
    · rw [if_pos (c2.mpr q), Nat.max_eq_right q]
    · rw [if_neg (fun z => q (c2.mp z)), Nat.max_eq_left (by omega)]
  rw [e1, e2, mk_2 (by omega)]
/-- lists whose values are read in another way -/
theorem ins_map {V U : Type} {φ : U → V} {m : V → V → V} {m' : U → U → U} {P : U → Prop} (h : ∀ x y, P x → P y → m (φ x) (φ y) = φ (m' x y) ∧ P (m' x y)) {l : List (Nat × U)} (hl : ∀ p ∈ l, P p.2) {k : Nat} {v : U} (hv : P v) : ins m (l.map fun p => (p.1, φ p.2)) k (φ v) = (ins m' l k v).map (fun p => (p.1, φ p.2)) ∧ ∀ p ∈ ins m' l k v, P p.2 := by
  refine ⟨?_, ins_sound (P := fun _ v => P v) (fun _ v w a b => (h v w a b).2) hl hv⟩
  have ek : (l.map fun p => (p.1, φ p.2)).map (fun p => p.1) = l.map (fun p => p.1) := by
    rw [List.map_map]
    rfl
  unfold ins
  rw [ek]
  split
  · rw [List.map_map, List.map_map]
    refine List.map_congr_left fun p hp => ?_
    simp only [Function.comp]
    by_cases e : p.1 = k
    · rw [if_pos e, if_pos e]
      rw [(h p.2 v (hl p hp) hv).1]
    · rw [if_neg e, if_neg e]
  · rw [List.map_append]
    rfl
theorem mrg_map {V U : Type} {φ : U → V} {m : V → V → V} {m' : U → U → U} {P : U → Prop} (h : ∀ x y, P x → P y → m (φ x) (φ y) = φ (m' x y) ∧ P (m' x y)) {l C : List (Nat × U)} (hl : ∀ p ∈ l, P p.2) (hC : ∀ p ∈ C, P p.2) : mrg m (l.map fun p => (p.1, φ p.2)) (C.map fun p => (p.1, φ p.2)) = (mrg m' l C).map (fun p => (p.1, φ p.2)) ∧ ∀ p ∈ mrg m' l C, P p.2 := by
  unfold mrg
  induction C generalizing l with
  | nil => exact ⟨rfl, hl⟩
  | cons c C ih =>
    obtain ⟨h1, h2⟩ := ins_map h hl (hC c List.mem_cons_self) (k := c.1)
    rw [List.map_cons, List.foldl_cons, List.foldl_cons]
    dsimp only
    rw [h1]
    exact ih h2 (fun p hp => hC p (List.mem_cons_of_mem _ hp))
