/-! how many multisets of pieces make a table -/
def leV (u t : Nat → Nat) : Bool := (List.range 52).all fun k => decide (u k ≤ t k)
theorem leV_iff {u t : Nat → Nat} : leV u t = true ↔ ∀ k, k < 52 → u k ≤ t k := by
  unfold leV
  rw [List.all_eq_true]
  exact ⟨fun h k hk => of_decide_eq_true (h k (List.mem_range.mpr hk)), fun h k hk => decide_eq_true (h k (List.mem_range.mp hk))⟩
def sbV (t u : Nat → Nat) (k : Nat) : Nat := t k - u k
def adV (t u : Nat → Nat) (k : Nat) : Nat := t k + u k
def zeV (t : Nat → Nat) : Bool := leV t (fun _ => 0)
theorem zeV_iff {t : Nat → Nat} : zeV t = true ↔ ∀ k, k < 52 → t k = 0 := by
  unfold zeV
  rw [leV_iff]
  exact ⟨fun h k hk => Nat.le_zero.mp (h k hk), fun h k hk => Nat.le_of_eq (h k hk)⟩
def gV (u : Nat → Nat) (h : (Nat → Nat) → Nat) (t : Nat → Nat) : Nat := if leV u t then h (sbV t u) else 0
theorem gV_add (u : Nat → Nat) (h g : (Nat → Nat) → Nat) (t : Nat → Nat) : gV u (fun t => h t + g t) t = gV u h t + gV u g t := by
  unfold gV
  split <;> rfl
theorem gV_gV (u v : Nat → Nat) (h : (Nat → Nat) → Nat) (t : Nat → Nat) : gV u (gV v h) t = gV (adV u v) h t := by
  unfold gV
  have e : sbV (sbV t u) v = sbV t (adV u v) := by
    funext k
    unfold sbV adV
    omega
  by_cases h1 : leV u t = true
  · rw [if_pos h1]
    by_cases h2 : leV v (sbV t u) = true
    · rw [if_pos h2, if_pos, e]
      rw [leV_iff] at *
      intro k hk
      have := h1 k hk
      have := h2 k hk
      unfold sbV at this
      unfold adV
      omega
    · rw [if_neg h2, if_neg]
      intro q
      refine h2 ?_
      rw [leV_iff] at *
      intro k hk
      have := q k hk
      unfold adV at this
      unfold sbV
      omega
  · rw [if_neg h1, if_neg]
    intro q
    refine h1 ?_
    rw [leV_iff] at *
    intro k hk
    have := q k hk
    unfold adV at this
    omega
theorem adV_comm (u v : Nat → Nat) : adV u v = adV v u := by
  funext k
  unfold adV
  omega
theorem adV_assoc (u v w : Nat → Nat) : adV (adV u v) w = adV u (adV v w) := by
  funext k
  unfold adV
  omega
/-- none, one or two of a piece -/
def tV (u : Nat → Nat) (h : (Nat → Nat) → Nat) (t : Nat → Nat) : Nat := h t + gV u h t + gV (adV u u) h t
theorem gV_t (w u : Nat → Nat) (h : (Nat → Nat) → Nat) (t : Nat → Nat) : gV w (tV u h) t = gV w h t + gV (adV w u) h t + gV (adV w (adV u u)) h t := by
  show gV w (fun t => h t + gV u h t + gV (adV u u) h t) t = _
  rw [gV_add, gV_add]
  have e1 : gV w (fun t => gV u h t) t = gV (adV w u) h t := gV_gV w u h t
  have e2 : gV w (fun t => gV (adV u u) h t) t = gV (adV w (adV u u)) h t := gV_gV w (adV u u) h t
  rw [e1, e2]
theorem tV_comm (u v : Nat → Nat) (h : (Nat → Nat) → Nat) (t : Nat → Nat) : tV u (tV v h) t = tV v (tV u h) t := by
  have a : tV u (tV v h) t = tV v h t + gV u (tV v h) t + gV (adV u u) (tV v h) t := rfl
  have b : tV v (tV u h) t = tV u h t + gV v (tV u h) t + gV (adV v v) (tV u h) t := rfl
  rw [a, b, gV_t, gV_t, gV_t, gV_t]
  have c : tV v h t = h t + gV v h t + gV (adV v v) h t := rfl
  have d : tV u h t = h t + gV u h t + gV (adV u u) h t := rfl
  rw [c, d, adV_comm v u, adV_comm v (adV u u), adV_comm (adV v v) u, adV_comm (adV v v) (adV u u)]
  omega
def CC (sv : Nat → Nat → Nat) : List Nat → (Nat → Nat) → Nat
  | [] => fun t => if zeV t then 1 else 0
  | c :: cs => tV (sv c) (CC sv cs)
theorem CC_perm (sv : Nat → Nat → Nat) {a b : List Nat} (h : a.Perm b) : CC sv a = CC sv b := by
  induction h with
  | nil => rfl
  | cons x _ ih => simp only [CC, ih]
  | swap x y l =>
    funext t
    exact tV_comm _ _ _ t
  | trans _ _ ih1 ih2 => exact ih1.trans ih2
theorem leV_congr {u v s t : Nat → Nat} (h : ∀ k, k < 52 → u k = v k) (g : ∀ k, k < 52 → s k = t k) : leV u s = leV v t := by
  rw [Bool.eq_iff_iff, leV_iff, leV_iff]
  exact ⟨fun q k hk => by rw [← h k hk, ← g k hk]; exact q k hk, fun q k hk => by rw [h k hk, g k hk]; exact q k hk⟩
theorem CC_congr {sv sv' : Nat → Nat → Nat} {cs : List Nat} (hs : ∀ c ∈ cs, ∀ k, k < 52 → sv c k = sv' c k) {s t : Nat → Nat} (g : ∀ k, k < 52 → s k = t k) : CC sv cs s = CC sv' cs t := by
  induction cs generalizing s t with
  | nil =>
    simp only [CC]
    unfold zeV
    rw [leV_congr g (fun _ _ => rfl)]
  | cons c cs ih =>
    have hc := hs c List.mem_cons_self
    have hs' : ∀ c ∈ cs, ∀ k, k < 52 → sv c k = sv' c k := fun d hd => hs d (List.mem_cons_of_mem _ hd)
    have gvc : ∀ {u v : Nat → Nat}, (∀ k, k < 52 → u k = v k) → gV u (CC sv cs) s = gV v (CC sv' cs) t := fun huv => by
      unfold gV
      rw [leV_congr huv g, ih hs' (s := sbV s _) (t := sbV t _) (fun k hk => by unfold sbV; rw [huv k hk, g k hk])]
    simp only [CC]
    unfold tV
    rw [ih hs' g, gvc hc, gvc (u := adV (sv c) (sv c)) (v := adV (sv' c) (sv' c)) (fun k hk => by unfold adV; rw [hc k hk])]
theorem gV_not {u : Nat → Nat} {h : (Nat → Nat) → Nat} {t : Nat → Nat} {k : Nat} (hk : k < 52) (hu : t k < u k) : gV u h t = 0 := by
  unfold gV
  rw [if_neg (fun q => by have := leV_iff.mp q k hk; omega)]
/-- the coins' recursion -/
theorem CC_coin (sv : Nat → Nat → Nat) (c : Nat) (cs : List Nat) {t : Nat → Nat} {k : Nat} (hk : k < 52) (h1 : 1 ≤ sv c k) (h2 : t k ≤ 2) : CC sv (c :: cs) t = CC sv cs t + gV (sv c) (CC sv (c :: cs)) t := by
  show tV (sv c) (CC sv cs) t = CC sv cs t + gV (sv c) (tV (sv c) (CC sv cs)) t
  rw [gV_t, gV_not (u := adV (sv c) (adV (sv c) (sv c))) hk (by unfold adV; omega)]
  unfold tV
  omega
/-- what no piece touches -/
theorem CC_no {sv : Nat → Nat → Nat} {cs : List Nat} {k : Nat} (hk : k < 52) (hs : ∀ c ∈ cs, sv c k = 0) {t : Nat → Nat} (ht : t k ≠ 0) : CC sv cs t = 0 := by
  induction cs generalizing t with
  | nil =>
    simp only [CC]
    rw [if_neg (fun q => ht (zeV_iff.mp q k hk))]
  | cons c cs ih =>
    have hc := hs c List.mem_cons_self
    have ih' := fun {t : Nat → Nat} => ih (t := t) (fun d hd => hs d (List.mem_cons_of_mem _ hd))
    have gz : ∀ {u : Nat → Nat}, u k = 0 → gV u (CC sv cs) t = 0 := fun hu => by
      unfold gV
      split
      · exact ih' (by unfold sbV; rw [hu]; exact ht)
      · rfl
    simp only [CC]
    unfold tV
    rw [ih' ht, gz hc, gz (u := adV (sv c) (sv c)) (by unfold adV; omega)]
theorem CC_zero {sv : Nat → Nat → Nat} {cs : List Nat} (hs : ∀ c ∈ cs, ∃ k, k < 52 ∧ 1 ≤ sv c k) {t : Nat → Nat} (ht : ∀ k, k < 52 → t k = 0) : CC sv cs t = 1 := by
  induction cs with
  | nil =>
    simp only [CC]
    rw [if_pos (zeV_iff.mpr ht)]
  | cons c cs ih =>
    obtain ⟨k, hk, h1⟩ := hs c List.mem_cons_self
    simp only [CC]
    unfold tV
    rw [ih (fun d hd => hs d (List.mem_cons_of_mem _ hd)), gV_not hk (by rw [ht k hk]; omega), gV_not (u := adV (sv c) (sv c)) hk (by rw [ht k hk]; unfold adV; omega)]
def tot (t : Nat → Nat) : Nat := natSum t 52
theorem natSum_mono {f g : Nat → Nat} {n : Nat} (h : ∀ k, k < n → f k ≤ g k) : natSum f n ≤ natSum g n := by
  induction n with
  | zero => exact Nat.le_refl _
  | succ n ih =>
    simp only [natSum]
    have := ih (fun k hk => h k (by omega))
    have := h n (by omega)
    omega
theorem tot_sb {t u : Nat → Nat} (h : leV u t = true) : tot (sbV t u) + tot u = tot t := by
  unfold tot
  rw [← natSum_plus]
  refine natSum_congr fun k hk => ?_
  have := leV_iff.mp h k hk
  unfold sbV
  omega
theorem CC_few {sv : Nat → Nat → Nat} {cs : List Nat} (hs : ∀ c ∈ cs, 3 ≤ tot (sv c)) {t : Nat → Nat} (ht : tot t < 3) (hne : ∃ k, k < 52 ∧ t k ≠ 0) : CC sv cs t = 0 := by
  induction cs with
  | nil =>
    obtain ⟨k, hk, h⟩ := hne
    simp only [CC]
    rw [if_neg (fun q => h (zeV_iff.mp q k hk))]
  | cons c cs ih =>
    have hc := hs c List.mem_cons_self
    have gz : ∀ {u : Nat → Nat}, 3 ≤ tot u → gV u (CC sv cs) t = 0 := fun hu => by
      unfold gV
      rw [if_neg (fun q => by have := tot_sb q; omega)]
    simp only [CC]
    unfold tV
    rw [ih (fun d hd => hs d (List.mem_cons_of_mem _ hd)), gz hc, gz (u := adV (sv c) (sv c)) (by
      have : tot (adV (sv c) (sv c)) = tot (sv c) + tot (sv c) := natSum_plus _ _ _
      omega)]
/-- the pieces: 19 for each kind, a run by its length, behind them the groups -/
def svC (i k : Nat) : Nat := if i % 19 < 14 then (if i / 19 ≤ k ∧ k < i / 19 + i % 19 then 1 else 0) else (if k % 13 = i / 19 % 13 then at4 (gd (i % 19 - 13)) (k / 13) else 0)
def fcol (g : Nat) : Nat := if (gd g).1 = 1 then 0 else 1
def vlC (L i : Nat) : Bool := if i % 19 < 14 then decide (L ≤ i % 19 ∧ i / 19 % 13 + i % 19 ≤ 13) else decide (fcol (i % 19 - 13) = i / 19 / 13)
def cdL (L i : Nat) : List Nat := (List.range' i (988 - i)).filter (vlC L)
theorem fsv0 : ((List.range 988).all fun i => !(vlC 3 i) || (svC i (i / 19) == 1 && ((List.range (i / 19)).all fun k => svC i k == 0) && decide (3 ≤ natSum (svC i) 52) && (List.range 52).all fun k => decide (svC i k ≤ 1))) = true := by decide +kernel
theorem vl34 {i : Nat} (h : vlC 4 i = true) : vlC 3 i = true := by
  unfold vlC at *
  split
  · rename_i hq
    rw [if_pos hq] at h
    exact decide_eq_true (by have := of_decide_eq_true h; omega)
  · rename_i hq
    rw [if_neg hq] at h
    exact h
theorem fsv {L i : Nat} (hL : L = 3 ∨ L = 4) (hi : i < 988) (hv : vlC L i = true) : svC i (i / 19) = 1 ∧ (∀ k, k < i / 19 → svC i k = 0) ∧ 3 ≤ tot (svC i) ∧ ∀ k, k < 52 → svC i k ≤ 1 := by
  have h3 : vlC 3 i = true := by
    rcases hL with rfl | rfl
    · exact hv
    · exact vl34 hv
  have h := List.all_eq_true.mp fsv0 i (List.mem_range.mpr hi)
  rw [h3] at h
  simp only [Bool.not_true, Bool.false_or, Bool.and_eq_true, beq_iff_eq, decide_eq_true_eq] at h
  obtain ⟨⟨⟨a, b⟩, c⟩, d⟩ := h
  exact ⟨a, fun k hk => eq_of_beq (List.all_eq_true.mp b k (List.mem_range.mpr hk)), c, fun k hk => of_decide_eq_true (List.all_eq_true.mp d k (List.mem_range.mpr hk))⟩
theorem cdL_s {L i : Nat} (hi : i < 988) : cdL L i = if vlC L i then i :: cdL L (i + 1) else cdL L (i + 1) := by
  unfold cdL
  rw [show 988 - i = (988 - (i + 1)) + 1 by omega, List.range'_succ, List.filter_cons]
theorem cdL_mem {L i c : Nat} (h : c ∈ cdL L i) : i ≤ c ∧ c < 988 ∧ vlC L c = true := by
  unfold cdL at h
  rw [List.mem_filter, List.mem_range'_1] at h
  exact ⟨h.1.1, by omega, h.2⟩
/-- how many cuts take pieces from this one on alone -/
def DD (L : Nat) (t : Nat → Nat) (i : Nat) : Nat := CC svC (cdL L i) t
theorem DD_s {L i : Nat} (hL : L = 3 ∨ L = 4) (hi : i < 988) {t : Nat → Nat} (h2 : ∀ k, k < 52 → t k ≤ 2) : DD L t i = DD L t (i + 1) + (if vlC L i = true ∧ leV (svC i) t = true then DD L (sbV t (svC i)) i else 0) := by
  unfold DD
  by_cases hv : vlC L i = true
  · obtain ⟨f1, -⟩ := fsv hL hi hv
    rw [cdL_s hi, if_pos hv, CC_coin (k := i / 19) svC i _ (by omega) (by omega) (h2 _ (by omega))]
    unfold gV
    by_cases hl : leV (svC i) t = true
    · rw [if_pos hl, if_pos ⟨hv, hl⟩]
    · rw [if_neg hl, if_neg (fun q => hl q.2)]
  · rw [cdL_s hi, if_neg hv, if_neg (fun q => hv q.1)]
    rfl
theorem DD_high {L i k : Nat} (hL : L = 3 ∨ L = 4) (hk : k < 52) (hi : 19 * (k + 1) ≤ i) {t : Nat → Nat} (ht : t k ≠ 0) : DD L t i = 0 := CC_no hk (fun c hc => by
  obtain ⟨a, b, v⟩ := cdL_mem hc
  exact (fsv hL b v).2.1 k (by omega)) ht
theorem DD_low {L : Nat} (hL : L = 3 ∨ L = 4) {t : Nat → Nat} (h2 : ∀ k, k < 52 → t k ≤ 2) {i j : Nat} (hij : i ≤ j) (hj : j ≤ 988) (h0 : ∀ k, i / 19 ≤ k → k < 52 → 19 * k < j → t k = 0) : DD L t i = DD L t j := by
  obtain ⟨d, rfl⟩ : ∃ d, j = i + d := ⟨j - i, by omega⟩
  induction d generalizing i with
  | zero => rfl
  | succ d ih =>
    rw [DD_s hL (by omega) h2, if_neg, Nat.add_zero, show i + (d + 1) = i + 1 + d by omega]
    · exact ih (by omega) (by omega) (fun k a b c => h0 k (by omega) b (by omega))
    · rintro ⟨q1, q2⟩
      have f := (fsv hL (by omega) q1).1
      have := leV_iff.mp q2 (i / 19) (by omega)
      rw [f, h0 (i / 19) (Nat.le_refl _) (by omega) (by omega)] at this
      omega
theorem DD_zero {L i : Nat} (hL : L = 3 ∨ L = 4) {t : Nat → Nat} (ht : ∀ k, k < 52 → t k = 0) : DD L t i = 1 := CC_zero (fun c hc => by
  obtain ⟨a, b, v⟩ := cdL_mem hc
  exact ⟨c / 19, by omega, by rw [(fsv hL b v).1]; exact Nat.le_refl _⟩) ht
theorem DD_few {L i : Nat} (hL : L = 3 ∨ L = 4) {t : Nat → Nat} (ht : tot t < 3) (hne : ∃ k, k < 52 ∧ t k ≠ 0) : DD L t i = 0 := CC_few (fun c hc => by
  obtain ⟨a, b, v⟩ := cdL_mem hc
  exact (fsv hL b v).2.2.1) ht hne
