/-! counting: both lists over numbers -/
theorem opts_le (L code next : Nat) (h : next ≤ 2) : ∀ o ∈ optsM L code next, o.2 ≤ 2 := by
  intro o ho
  unfold optsM at ho
  simp only [List.mem_append] at ho
  rcases ho with ((ho | ho) | ho) | ho
  · unfold o1M at ho; split at ho
    · rw [List.mem_singleton.mp ho]; exact h
    · exact absurd ho (by simp)
  · unfold o2M at ho; split at ho
    · rw [List.mem_singleton.mp ho]; dsimp only; omega
    · exact absurd ho (by simp)
  · unfold o3M at ho; split at ho
    · rw [List.mem_singleton.mp ho]; dsimp only; omega
    · exact absurd ho (by simp)
  · unfold o4M at ho; split at ho
    · rw [List.mem_singleton.mp ho]; exact Nat.zero_le _
    · exact absurd ho (by simp)
theorem usN_le (p : Nat) : usN p ≤ 2 := by
  by_cases h : p < 21
  · have : ∀ p, p < 21 → usN p ≤ 2 := by decide
    exact this p h
  · unfold usN
    rw [List.getD_eq_getElem?_getD, List.getElem?_eq_none (by show (21 : Nat) ≤ p; omega)]
    exact Nat.zero_le _
/-- the reference's steps, for counts -/
def rgC (L n : Nat) (bs : Nat → Nat) (p : Nat × N3) (u : V4) (s : Nat) : List (Nat × N3) := if fiM (fun c => bs (13 * c + n)) (fun _ => 0) u 4 then (emM L p.1 (ruM (fun c => bs (13 * c + n)) (fun _ => 0) u) s).map (fun o => (o.1, agN o.2 p.2)) else []
def reC (L n : Nat) (bs : Nat → Nat) (p : Nat × N3) : List (Nat × N3) := (List.range 21).flatMap fun g => rgC L n bs p (usG g) (usN g)
def reN (L : Nat) (bs : Nat → Nat) : Nat → List (Nat × N3)
  | 0 => [(0, (1, 0, 0))]
  | n + 1 => mrg m2 [] ((reN L bs n).flatMap (reC L n bs))
theorem em_le {L k : Nat} {ru : Nat → Nat} {s : Nat} (hs : s ≤ 2) (hr : ∀ c, c < 4 → ru c ≤ 2) : ∀ o ∈ emM L k ru s, o.2 ≤ 20 := by
  intro o ho
  obtain ⟨o0, h0, o1, h1, o2, h2, o3, h3, rfl⟩ := emM_mem.mp ho
  have := opts_le L _ _ (hr 0 (by decide)) _ h0
  have := opts_le L _ _ (hr 1 (by decide)) _ h1
  have := opts_le L _ _ (hr 2 (by decide)) _ h2
  have := opts_le L _ _ (hr 3 (by decide)) _ h3
  dsimp only
  omega
theorem reC_bd {L n : Nat} {bs : Nat → Nat} (h2 : ∀ k, bs k ≤ 2) {p : Nat × N3} (hp : bdN n p.2) : ∀ q ∈ reC L n bs p, bdN (n + 1) q.2 := by
  intro q hq
  obtain ⟨g, hg, hq⟩ := List.mem_flatMap.mp hq
  unfold rgC at hq
  split at hq
  · obtain ⟨o, ho, rfl⟩ := List.mem_map.mp hq
    refine bdN_ag hp (em_le (usN_le g) (fun c _ => ?_) o ho)
    unfold ruM
    have := h2 (13 * c + n)
    dsimp only
    omega
  · exact absurd hq (by simp)
theorem reN_bd {L : Nat} {bs : Nat → Nat} (h2 : ∀ k, bs k ≤ 2) (n : Nat) : ∀ p ∈ reN L bs n, bdN n p.2 := by
  induction n with
  | zero =>
    intro p hp
    rw [show reN L bs 0 = [(0, (1, 0, 0))] from rfl] at hp
    rw [List.mem_singleton.mp hp]
    exact ⟨(by decide : (1 : Nat) < 1000000007), Nat.le_refl _, Nat.le_refl _⟩
  | succ n ih =>
    refine mrg_sound (P := fun _ v => bdN (n + 1) v) (fun _ v w a b => bdN_m2 a b) (fun p hp => absurd hp (by simp)) (fun q hq => ?_)
    obtain ⟨p, hp, hq⟩ := List.mem_flatMap.mp hq
    exact reC_bd h2 (ih p hp) q hq
theorem flatMap_map' {α β γ : Type} (f : α → β) (g : β → List γ) (l : List α) : (l.map f).flatMap g = l.flatMap (fun a => g (f a)) := by
  induction l with
  | nil => rfl
  | cons x l ih => rw [List.map_cons, List.flatMap_cons, List.flatMap_cons, ih]
theorem map_flatMap' {α β γ : Type} (f : β → γ) (g : α → List β) (l : List α) : (l.flatMap g).map f = l.flatMap (fun a => (g a).map f) := by
  induction l with
  | nil => rfl
  | cons x l ih => rw [List.flatMap_cons, List.map_append, List.flatMap_cons, ih]
theorem flatMap_congr' {α β : Type} {f g : α → List β} {l : List α} (h : ∀ a ∈ l, f a = g a) : l.flatMap f = l.flatMap g := by
  induction l with
  | nil => rfl
  | cons x l ih => rw [List.flatMap_cons, List.flatMap_cons, h x List.mem_cons_self, ih (fun a ha => h a (List.mem_cons_of_mem _ ha))]
theorem agN_ph (s : Nat) (v : N3) (hs : s < 2 ^ 31) : vM false (phR v) s = phR (agN s v) := by
  unfold vM phR agN
  simp only [Bool.false_eq_true, if_false]
  rw [nI_l hs, lN_add, lN_add]
theorem reC_ph {L n : Nat} {bs ex : Nat → Nat} {bw : Bool} (h2 : ∀ k, bs k ≤ 2) (p : Nat × N3) : stC false bw L n bs ex (p.1, phR p.2) = (reC L n bs p).map (fun q => (q.1, phR q.2)) := by
  have ed : dgM 0 = fun _ => 0 := by funext c; exact dgM_0 c
  unfold stC nuC
  rw [if_neg (by decide), show List.range 1 = [0] from rfl, List.flatMap_cons, List.flatMap_nil, List.append_nil, if_pos (caM_iff.mpr fun c _ => by rw [dgM_0]; exact Nat.zero_le _), vwM_f, ed]
  unfold reC
  rw [map_flatMap']
  refine flatMap_congr' fun g hg => ?_
  unfold grC rgC
  split
  · rw [List.map_map]
    refine List.map_congr_left fun o ho => ?_
    simp only [Function.comp]
    rw [agN_ph]
    have := em_le (usN_le g) (fun c _ => by
      unfold ruM
      have := h2 (13 * c + n)
      dsimp only
      omega) o ho
    omega
  · rfl
theorem reL_ph {L : Nat} {bs ex : Nat → Nat} {bw : Bool} (h2 : ∀ k, bs k ≤ 2) {n : Nat} (hn : n ≤ 20) : reL false bw L bs ex n = (reN L bs n).map (fun p => (p.1, phR p.2)) := by
  induction n with
  | zero => rfl
  | succ n ih =>
    rw [reL_mrg, ih (by omega), flatMap_map']
    have e : (reN L bs n).flatMap (fun p => stC false bw L n bs ex (p.1, phR p.2)) = ((reN L bs n).flatMap (reC L n bs)).map (fun p => (p.1, phR p.2)) := by
      rw [map_flatMap']
      exact flatMap_congr' fun p _ => reC_ph h2 p
    rw [e]
    have := (mrg_map (φ := phR) (m := mgM false) (m' := m2) (P := bdN (n + 1)) (fun x y a b => ⟨mgM_ph (by omega) a b, bdN_m2 a b⟩) (l := []) (C := (reN L bs n).flatMap (reC L n bs)) (fun p hp => absurd hp (by simp)) (fun q hq => by
      obtain ⟨p, hp, hq⟩ := List.mem_flatMap.mp hq
      exact reC_bd h2 (reN_bd h2 n p hp) q hq)).1
    exact this
/-- the class's steps, for counts -/
def tw1 (z : Int32) : Nat := z.toBitVec.toNat / 256 % 8
def bg1 (z : Int32) : Nat := z.toBitVec.toNat / 65536 % 16
def acN (z : Int32) (s : Nat) (v : N3) : N3 := ((v.1 * 2 ^ tw1 z) % 1000000007, v.2.1 + (bg1 z + s), v.2.2 + (bg1 z + s))
def loV (lo : Nat → Nat) (hh n : Nat) : V4 := lo4 lo hh (n + 1)
def cgC (L hh n : Nat) (lo : Nat → Nat) (p : Nat × N3) (u : V4) (s : Nat) : List (Nat × N3) := if fit4 (loV lo hh n) u then (emW (tbM L 2) (opW 2 L lo lo hh (n + 1)) p.1 (cd4 (sub4 (loV lo hh n) u))).map (fun e => (e.1, acN e.2 s p.2)) else []
def clC (L hh n : Nat) (lo : Nat → Nat) (p : Nat × N3) : List (Nat × N3) := (List.range 21).flatMap fun g => cgC L hh n lo p (gd g) (setsG g)
def clN (L hh : Nat) (lo : Nat → Nat) : Nat → List (Nat × N3)
  | 0 => [(0, (1, 0, 0))]
  | n + 1 => mrg m2 [] ((clN L hh lo n).flatMap (clC L hh n lo))
def valC (L d : Nat) : Bool := decide (d < dmx L ∨ d = 15)
theorem fz : ∀ L ∈ [3, 4], ∀ d ∈ r16, ∀ r ∈ [0, 1, 2], ∀ z ∈ csW (tbM L 2) d r, (z = nI (nb z + 256 * tw1 z + 65536 * bg1 z + 16777216) ∧ tw1 z ≤ 1 ∧ bg1 z ≤ 2) := by decide +kernel
theorem fzv : ∀ L ∈ [3, 4], ∀ d ∈ r16, valC L d = true → ∀ r ∈ [0, 1, 2], (∀ z ∈ csW (tbM L 2) d r, valC L (nb z) = true) ∧ optsM L (kap d) r = (csW (tbM L 2) d r).flatMap (fun z => List.replicate (1 + tw1 z) (kap (nb z), bg1 z)) := by decide +kernel
theorem bgS {a b c d : Int32} (h : ∀ z ∈ [a, b, c, d], z = nI (nb z + 256 * tw1 z + 65536 * bg1 z + 16777216) ∧ tw1 z ≤ 1 ∧ bg1 z ≤ 2) : tw1 (a + b + c + d) = tw1 a + tw1 b + tw1 c + tw1 d ∧ bg1 (a + b + c + d) = bg1 a + bg1 b + bg1 c + bg1 d ∧ ∃ w, a + b + c + d = nI w ∧ w < 2 ^ 31 ∧ tw1 (a + b + c + d) = w / 256 % 8 ∧ bg1 (a + b + c + d) = w / 65536 % 16 := by
  obtain ⟨ha, a1, a2⟩ := h a (by simp)
  obtain ⟨hb, b1, b2⟩ := h b (by simp)
  obtain ⟨hc, c1, c2⟩ := h c (by simp)
  obtain ⟨hd, d1, d2⟩ := h d (by simp)
  have na := nb_lt a
  have nb' := nb_lt b
  have nc := nb_lt c
  have nd' := nb_lt d
  have e : a + b + c + d = nI ((nb a + nb b + nb c + nb d) + 256 * (tw1 a + tw1 b + tw1 c + tw1 d) + 65536 * (bg1 a + bg1 b + bg1 c + bg1 d) + 67108864) := by
    have : a + b + c + d = nI (nb a + 256 * tw1 a + 65536 * bg1 a + 16777216) + nI (nb b + 256 * tw1 b + 65536 * bg1 b + 16777216) + nI (nb c + 256 * tw1 c + 65536 * bg1 c + 16777216) + nI (nb d + 256 * tw1 d + 65536 * bg1 d + 16777216) := by rw [← ha, ← hb, ← hc, ← hd]
    rw [this, nI_add, nI_add, nI_add]
    exact congrArg nI (by omega)
  have et : ∀ w, w < 2 ^ 31 → (nI w).toBitVec.toNat = w := fun w hw => by
    show (BitVec.ofNat 32 w).toNat = w
    rw [BitVec.toNat_ofNat]
    omega
  obtain ⟨w, hw⟩ : ∃ w, w = (nb a + nb b + nb c + nb d) + 256 * (tw1 a + tw1 b + tw1 c + tw1 d) + 65536 * (bg1 a + bg1 b + bg1 c + bg1 d) + 67108864 := ⟨_, rfl⟩
  rw [← hw] at e
  have t1 : tw1 (a + b + c + d) = w / 256 % 8 := by
    show (a + b + c + d).toBitVec.toNat / 256 % 8 = _
    rw [e, et w (by omega)]
  have t2 : bg1 (a + b + c + d) = w / 65536 % 16 := by
    show (a + b + c + d).toBitVec.toNat / 65536 % 16 = _
    rw [e, et w (by omega)]
  refine ⟨by rw [t1]; omega, by rw [t2]; omega, w, e, by omega, t1, t2⟩
theorem act2_ph {su : Nat → Int32} {k : Int32} {s n : Nat} {p4 : Int32} {v : N3} (hv : bdN n v) (hn : n ≤ 20) (hp : ∃ w, p4 = nI w ∧ w < 2 ^ 31 ∧ tw1 p4 = w / 256 % 8 ∧ bg1 p4 = w / 65536 % 16) (ht : tw1 p4 ≤ 4) (hs : s ≤ 2) (y : Int64) : actW 2 su k p4 (phC v) ((nI s).toInt64, y) = some (phC (acN p4 s v)) := by
  obtain ⟨w, e, hw, t1, t2⟩ := hp
  obtain ⟨h1, h2, h3⟩ := hv
  unfold actW
  rw [if_neg (by decide), if_pos rfl]
  have e1 : (p4 >>> ((8 : Int32) &&& 31)) &&& 7 = nI (tw1 p4) := by
    rw [t1, e, nI_shrG hw _ 8 (by decide) (by decide)]
    exact nI_mod (w / 2 ^ 8) 3
  have e2 : (p4 >>> ((16 : Int32) &&& 31)) &&& 15 = nI (bg1 p4) := by
    rw [t2, e, nI_shrG hw _ 16 (by decide) (by decide)]
    exact nI_mod (w / 2 ^ 16) 4
  rw [e1, e2]
  have e3 : ∀ t, t ≤ 4 → ((nI t).toInt64 &&& 63).toBitVec.smod 64 = BitVec.ofNat 64 t := by
    have : ∀ t, t < 5 → ((nI t).toInt64 &&& 63).toBitVec.smod 64 = BitVec.ofNat 64 t := by decide
    intro t ht
    exact this t (by omega)
  have hbg : bg1 p4 < 16 := by rw [t2]; omega
  unfold phC acN
  dsimp only
  rw [lN_shlG _ _ (tw1 p4) (e3 _ ht) (by omega), show (1000000007 : Int64) = lN 1000000007 from rfl, nI_l (by omega), nI_l (by omega), lN_add, show (4294967297 : Int64) = lN 4294967297 from rfl, lN_mul, lN_add]
  have hpw : 2 ^ tw1 p4 ≤ 16 := by
    calc 2 ^ tw1 p4 ≤ 2 ^ 4 := Nat.pow_le_pow_right (by decide) ht
      _ = 16 := rfl
  have hm : v.1 * 2 ^ tw1 p4 ≤ 1000000007 * 16 := Nat.mul_le_mul (by omega) hpw
  rw [lRem_lN (by omega) (by decide)]
  have e5 : two32 v.2.1 v.2.2 + 4294967297 * (bg1 p4 + s) = two32 (v.2.1 + (bg1 p4 + s)) (v.2.2 + (bg1 p4 + s)) := by
    unfold two32
    omega
  rw [e5]
