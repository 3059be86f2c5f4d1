/-! the runs of one colour: ways through states, and multisets of runs -/
def smn {α : Type} (f : α → Nat) : List α → Nat
  | [] => 0
  | a :: l => f a + smn f l
theorem smn_congr {α : Type} {f g : α → Nat} {l : List α} (h : ∀ a ∈ l, f a = g a) : smn f l = smn g l := by
  induction l with
  | nil => rfl
  | cons x l ih => simp only [smn]; rw [h x List.mem_cons_self, ih (fun a ha => h a (List.mem_cons_of_mem _ ha))]
theorem smn_add {α : Type} (f g : α → Nat) (l : List α) : smn (fun a => f a + g a) l = smn f l + smn g l := by
  induction l with
  | nil => rfl
  | cons x l ih => simp only [smn, ih]; omega
theorem smn_app {α : Type} (f : α → Nat) (a b : List α) : smn f (a ++ b) = smn f a + smn f b := by
  induction a with
  | nil => simp [smn]
  | cons x a ih => simp only [List.cons_append, smn, ih]; omega
theorem smn_zero {α : Type} {f : α → Nat} {l : List α} (h : ∀ a ∈ l, f a = 0) : smn f l = 0 := by
  induction l with
  | nil => rfl
  | cons x l ih => simp only [smn]; rw [h x List.mem_cons_self, ih (fun a ha => h a (List.mem_cons_of_mem _ ha))]
theorem smn_map {α β : Type} (f : β → Nat) (g : α → β) (l : List α) : smn f (l.map g) = smn (fun a => f (g a)) l := by
  induction l with
  | nil => rfl
  | cons x l ih => simp only [List.map_cons, smn, ih]
theorem smn_perm {α : Type} (f : α → Nat) {a b : List α} (h : a.Perm b) : smn f a = smn f b := by
  induction h with
  | nil => rfl
  | cons x _ ih => simp only [smn, ih]
  | swap x y l => simp only [smn]; omega
  | trans _ _ ih1 ih2 => exact ih1.trans ih2
theorem smn_flatMap {α β : Type} (f : β → Nat) (g : α → List β) (l : List α) : smn f (l.flatMap g) = smn (fun a => smn f (g a)) l := by
  induction l with
  | nil => rfl
  | cons x l ih => simp only [List.flatMap_cons, smn_app, smn, ih]
theorem smn_mul {α : Type} (f : α → Nat) (c : Nat) (l : List α) : smn (fun a => c * f a) l = c * smn f l := by
  induction l with
  | nil => rfl
  | cons x l ih => simp only [smn, ih]; rw [Nat.mul_add]
/-- one tile less of each of so many numbers -/
def dec : Nat → List Nat → Option (List Nat)
  | 0, r => some r
  | _ + 1, [] => none
  | e + 1, x :: r => if 1 ≤ x then (dec e r).map (fun q => (x - 1) :: q) else none
def oS (o : Option (List Nat)) (k : List Nat → Nat) : Nat := match o with
  | none => 0
  | some q => k q
theorem dec_len {e : Nat} {r q : List Nat} (h : dec e r = some q) : q.length = r.length := by
  induction e generalizing r q with
  | zero => cases h; rfl
  | succ e ih =>
    cases r with
    | nil => cases h
    | cons x r =>
      simp only [dec] at h
      split at h
      · obtain ⟨p, hp, rfl⟩ := Option.map_eq_some_iff.mp h
        rw [List.length_cons, List.length_cons, ih hp]
      · cases h
def es (lo n : Nat) : List Nat := List.range' lo (n + 1 - lo)
/-- one run more, that has so many tiles at least -/
def M1 (lo : Nat) (r : List Nat) (k : List Nat → Nat) : Nat := smn (fun e => oS (dec e r) k) (es lo r.length)
/-- two alike, the one no longer than the other -/
def M2 (lo : Nat) (r : List Nat) (k : List Nat → Nat) : Nat := smn (fun e1 => oS (dec e1 r) (fun q => smn (fun e2 => oS (dec e2 q) k) (es e1 r.length))) (es lo r.length)
theorem es_0 (n : Nat) : es 0 (n + 1) = 0 :: (es 0 n).map (· + 1) := by
  unfold es
  rw [Nat.sub_zero, Nat.sub_zero, List.range'_succ, show (fun x : Nat => x + 1) = (fun x => 1 + x) from funext fun x => Nat.add_comm x 1, List.map_add_range']
theorem es_s (lo n : Nat) : es (lo + 1) (n + 1) = (es lo n).map (· + 1) := by
  unfold es
  rw [show n + 1 + 1 - (lo + 1) = n + 1 - lo by omega, show (fun x : Nat => x + 1) = (fun x => 1 + x) from funext fun x => Nat.add_comm x 1, List.map_add_range', Nat.add_comm]
theorem oS_map (o : Option (List Nat)) (f : List Nat → List Nat) (k : List Nat → Nat) : oS (o.map f) k = oS o (fun q => k (f q)) := by cases o <;> rfl
theorem oS_dec_s (e x : Nat) (r : List Nat) (k : List Nat → Nat) : oS (dec (e + 1) (x :: r)) k = if 1 ≤ x then oS (dec e r) (fun q => k ((x - 1) :: q)) else 0 := by
  simp only [dec]
  split
  · rw [oS_map]
  · rfl
theorem smn_if {α : Type} (c : Prop) [Decidable c] (f : α → Nat) (l : List α) : smn (fun a => if c then f a else 0) l = if c then smn f l else 0 := by
  split
  · rfl
  · exact smn_zero fun _ _ => rfl
theorem M1_0 (x : Nat) (r : List Nat) (k : List Nat → Nat) : M1 0 (x :: r) k = k (x :: r) + (if 1 ≤ x then M1 0 r (fun q => k ((x - 1) :: q)) else 0) := by
  unfold M1
  rw [List.length_cons, es_0]
  simp only [smn]
  rw [smn_map]
  congr 1
  rw [← smn_if]
  exact smn_congr fun e _ => oS_dec_s e x r k
theorem M1_s (lo x : Nat) (r : List Nat) (k : List Nat → Nat) : M1 (lo + 1) (x :: r) k = if 1 ≤ x then M1 lo r (fun q => k ((x - 1) :: q)) else 0 := by
  unfold M1
  rw [List.length_cons, es_s, smn_map, ← smn_if]
  exact smn_congr fun e _ => oS_dec_s e x r k
theorem oS_congr {o : Option (List Nat)} {k j : List Nat → Nat} (h : ∀ q, o = some q → k q = j q) : oS o k = oS o j := by
  cases o with
  | none => rfl
  | some q => exact h q rfl
theorem M2_in (e x : Nat) (r : List Nat) (k : List Nat → Nat) : oS (dec (e + 1) (x :: r)) (fun q => smn (fun e2 => oS (dec e2 q) k) (es (e + 1) (r.length + 1))) = if 1 ≤ x then (if 1 ≤ x - 1 then oS (dec e r) (fun q => smn (fun e2 => oS (dec e2 q) (fun q => k ((x - 2) :: q))) (es e r.length)) else 0) else 0 := by
  rw [oS_dec_s]
  split
  · by_cases h : 1 ≤ x - 1
    · rw [if_pos h]
      refine oS_congr fun q _ => ?_
      rw [es_s, smn_map]
      refine smn_congr fun e2 _ => ?_
      rw [oS_dec_s, if_pos h]
      rfl
    · rw [if_neg h]
      have : ∀ q, smn (fun e2 => oS (dec e2 ((x - 1) :: q)) k) (es (e + 1) (r.length + 1)) = 0 := fun q => by
        rw [es_s, smn_map]
        refine smn_zero fun e2 _ => ?_
        rw [oS_dec_s, if_neg h]
      cases dec e r with
      | none => rfl
      | some q => exact this q
  · rfl
theorem M2_s (lo x : Nat) (r : List Nat) (k : List Nat → Nat) : M2 (lo + 1) (x :: r) k = if 2 ≤ x then M2 lo r (fun q => k ((x - 2) :: q)) else 0 := by
  unfold M2
  rw [List.length_cons, es_s, smn_map, ← smn_if]
  refine smn_congr fun e _ => ?_
  rw [M2_in]
  by_cases h1 : 1 ≤ x
  · rw [if_pos h1]
    by_cases h2 : 1 ≤ x - 1
    · rw [if_pos h2, if_pos (by omega)]
    · rw [if_neg h2, if_neg (by omega)]
  · rw [if_neg h1, if_neg (by omega)]
theorem M2_0 (x : Nat) (r : List Nat) (k : List Nat → Nat) : M2 0 (x :: r) k = M1 0 (x :: r) k + (if 2 ≤ x then M2 0 r (fun q => k ((x - 2) :: q)) else 0) := by
  unfold M2
  rw [List.length_cons, es_0]
  have e0 : smn (fun e1 => oS (dec e1 (x :: r)) (fun q => smn (fun e2 => oS (dec e2 q) k) (es e1 (r.length + 1)))) (0 :: (es 0 r.length).map (· + 1)) = M1 0 (x :: r) k + smn (fun e1 => oS (dec (e1 + 1) (x :: r)) (fun q => smn (fun e2 => oS (dec e2 q) k) (es (e1 + 1) (r.length + 1)))) (es 0 r.length) := by
    simp only [smn]
    rw [smn_map]
    rfl
  rw [e0]
  congr 1
  rw [← smn_if]
  refine smn_congr fun e _ => ?_
  rw [M2_in]
  by_cases h1 : 1 ≤ x
  · rw [if_pos h1]
    by_cases h2 : 1 ≤ x - 1
    · rw [if_pos h2, if_pos (by omega)]
    · rw [if_neg h2, if_neg (by omega)]
  · rw [if_neg h1, if_neg (by omega)]
theorem M1_congr {lo : Nat} {r : List Nat} {k j : List Nat → Nat} (h : ∀ q, q.length = r.length → k q = j q) : M1 lo r k = M1 lo r j := by
  unfold M1
  exact smn_congr fun e _ => oS_congr fun q hq => h q (dec_len hq)
theorem M2_congr {lo : Nat} {r : List Nat} {k j : List Nat → Nat} (h : ∀ q, q.length = r.length → k q = j q) : M2 lo r k = M2 lo r j := by
  unfold M2
  exact smn_congr fun e _ => oS_congr fun q hq => smn_congr fun e2 _ => oS_congr fun p hp => h p ((dec_len hp).trans (dec_len hq))
theorem M1_add (lo : Nat) (r : List Nat) (k j : List Nat → Nat) : M1 lo r (fun q => k q + j q) = M1 lo r k + M1 lo r j := by
  unfold M1
  rw [← smn_add]
  refine smn_congr fun e _ => ?_
  cases dec e r <;> rfl
theorem M1_zero (lo : Nat) (r : List Nat) : M1 lo r (fun _ => 0) = 0 := by
  unfold M1
  refine smn_zero fun e _ => ?_
  cases dec e r <;> rfl
/-- multisets of runs, of LEAST tiles or more -/
def WR (L : Nat) : Nat → List Nat → Nat
  | _, [] => 1
  | 0, _ :: _ => 0
  | f + 1, x :: r => if x = 0 then WR L f r else if x = 1 then M1 (L - 1) r (WR L f) else if x = 2 then M2 (L - 1) r (WR L f) else 0
theorem WR_nil (L f : Nat) : WR L f [] = 1 := by cases f <;> rfl
theorem WR_s (L f x : Nat) (r : List Nat) : WR L (f + 1) (x :: r) = if x = 0 then WR L f r else if x = 1 then M1 (L - 1) r (WR L f) else if x = 2 then M2 (L - 1) r (WR L f) else 0 := rfl
/-- ways through states -/
def PR (L : Nat) : Nat → List Nat → Nat
  | s, [] => if dnM L s then 1 else 0
  | s, x :: r => smn (fun o => PR L o.1 r) (optsM L s x)
/-- what a state is worth, in runs -/
def QR (L s f : Nat) (r : List Nat) : Nat := if bM L s = 0 then WR L f r else if aM L s = 0 then M1 (L - bM L s) r (WR L f) else if unM L s then M1 (L - bM L s) r (fun q => M1 (L - aM L s) q (WR L f)) else M2 (L - aM L s) r (WR L f)
def vlM (L s : Nat) : Bool := decide (s = 15 ∨ (s < 15 ∧ loT s ≤ L))
theorem fvl : ∀ L ∈ [3, 4], ∀ s ∈ r16, vlM L s = true → ∀ x ∈ [0, 1, 2], ∀ o ∈ optsM L s x, vlM L o.1 = true ∧ o.1 < 16 := by decide +kernel
theorem M1_nil (lo : Nat) (k : List Nat → Nat) : M1 lo [] k = if lo = 0 then k [] else 0 := by
  unfold M1 es
  by_cases h : lo = 0
  · subst h
    rw [if_pos rfl]
    rfl
  · rw [if_neg h, show ([] : List Nat).length + 1 - lo = 0 by simp; omega]
    rfl
theorem M2_nil (lo : Nat) (k : List Nat → Nat) : M2 lo [] k = if lo = 0 then k [] else 0 := by
  unfold M2 es
  by_cases h : lo = 0
  · subst h
    rw [if_pos rfl]
    rfl
  · rw [if_neg h, show ([] : List Nat).length + 1 - lo = 0 by simp; omega]
    rfl
theorem fnil : ∀ L ∈ [3, 4], ∀ s ∈ r16, vlM L s = true → (if dnM L s then 1 else 0) = (if bM L s = 0 then 1 else if aM L s = 0 then (if L - bM L s = 0 then 1 else 0) else if unM L s then (if L - bM L s = 0 then (if L - aM L s = 0 then 1 else 0) else 0) else (if L - aM L s = 0 then 1 else 0)) := by decide +kernel
theorem pq_3_0_0 (n : Nat) (r : List Nat) : smn (fun o => QR 3 o.1 n r) (optsM 3 0 0) = QR 3 0 (n + 1) (0 :: r) := by
  have e : optsM 3 0 0 = [(0, 0)] := by decide
  rw [e]
  show WR 3 n r + 0 = WR 3 (n + 1) (0 :: r)
  simp [M1_0, M1_s, M2_0, M2_s, WR_s, M1_add, M1_zero]
  try first | omega | rw [Nat.add_assoc]
theorem pq_3_0_1 (n : Nat) (r : List Nat) : smn (fun o => QR 3 o.1 n r) (optsM 3 0 1) = QR 3 0 (n + 1) (1 :: r) := by
  have e : optsM 3 0 1 = [(1, 1)] := by decide
  rw [e]
  show M1 2 r (WR 3 n) + 0 = WR 3 (n + 1) (1 :: r)
  simp [M1_0, M1_s, M2_0, M2_s, WR_s, M1_add, M1_zero]
  try first | omega | rw [Nat.add_assoc]
theorem pq_3_0_2 (n : Nat) (r : List Nat) : smn (fun o => QR 3 o.1 n r) (optsM 3 0 2) = QR 3 0 (n + 1) (2 :: r) := by
  have e : optsM 3 0 2 = [(5, 2)] := by decide
  rw [e]
  show M2 2 r (WR 3 n) + 0 = WR 3 (n + 1) (2 :: r)
  simp [M1_0, M1_s, M2_0, M2_s, WR_s, M1_add, M1_zero]
  try first | omega | rw [Nat.add_assoc]
theorem pq_3_1_0 (n : Nat) (r : List Nat) : smn (fun o => QR 3 o.1 n r) (optsM 3 1 0) = QR 3 1 (n + 1) (0 :: r) := by
  have e : optsM 3 1 0 = [] := by decide
  rw [e]
  show 0 = M1 2 (0 :: r) (WR 3 (n + 1))
  simp [M1_0, M1_s, M2_0, M2_s, WR_s, M1_add, M1_zero]
  try first | omega | rw [Nat.add_assoc]
theorem pq_3_1_1 (n : Nat) (r : List Nat) : smn (fun o => QR 3 o.1 n r) (optsM 3 1 1) = QR 3 1 (n + 1) (1 :: r) := by
  have e : optsM 3 1 1 = [(2, 0)] := by decide
  rw [e]
  show M1 1 r (WR 3 n) + 0 = M1 2 (1 :: r) (WR 3 (n + 1))
  simp [M1_0, M1_s, M2_0, M2_s, WR_s, M1_add, M1_zero]
  try first | omega | rw [Nat.add_assoc]
theorem pq_3_1_2 (n : Nat) (r : List Nat) : smn (fun o => QR 3 o.1 n r) (optsM 3 1 2) = QR 3 1 (n + 1) (2 :: r) := by
  have e : optsM 3 1 2 = [(6, 1)] := by decide
  rw [e]
  show M1 1 r (fun q => M1 2 q (WR 3 n)) + 0 = M1 2 (2 :: r) (WR 3 (n + 1))
  simp [M1_0, M1_s, M2_0, M2_s, WR_s, M1_add, M1_zero]
  try first | omega | rw [Nat.add_assoc]
theorem pq_3_2_0 (n : Nat) (r : List Nat) : smn (fun o => QR 3 o.1 n r) (optsM 3 2 0) = QR 3 2 (n + 1) (0 :: r) := by
  have e : optsM 3 2 0 = [] := by decide
  rw [e]
  show 0 = M1 1 (0 :: r) (WR 3 (n + 1))
  simp [M1_0, M1_s, M2_0, M2_s, WR_s, M1_add, M1_zero]
  try first | omega | rw [Nat.add_assoc]
theorem pq_3_2_1 (n : Nat) (r : List Nat) : smn (fun o => QR 3 o.1 n r) (optsM 3 2 1) = QR 3 2 (n + 1) (1 :: r) := by
  have e : optsM 3 2 1 = [(3, 0)] := by decide
  rw [e]
  show M1 0 r (WR 3 n) + 0 = M1 1 (1 :: r) (WR 3 (n + 1))
  simp [M1_0, M1_s, M2_0, M2_s, WR_s, M1_add, M1_zero]
  try first | omega | rw [Nat.add_assoc]
theorem pq_3_2_2 (n : Nat) (r : List Nat) : smn (fun o => QR 3 o.1 n r) (optsM 3 2 2) = QR 3 2 (n + 1) (2 :: r) := by
  have e : optsM 3 2 2 = [(7, 1)] := by decide
  rw [e]
  show M1 0 r (fun q => M1 2 q (WR 3 n)) + 0 = M1 1 (2 :: r) (WR 3 (n + 1))
  simp [M1_0, M1_s, M2_0, M2_s, WR_s, M1_add, M1_zero]
  try first | omega | rw [Nat.add_assoc]
theorem pq_3_3_0 (n : Nat) (r : List Nat) : smn (fun o => QR 3 o.1 n r) (optsM 3 3 0) = QR 3 3 (n + 1) (0 :: r) := by
  have e : optsM 3 3 0 = [(0, 0)] := by decide
  rw [e]
  show WR 3 n r + 0 = M1 0 (0 :: r) (WR 3 (n + 1))
  simp [M1_0, M1_s, M2_0, M2_s, WR_s, M1_add, M1_zero]
  try first | omega | rw [Nat.add_assoc]
theorem pq_3_3_1 (n : Nat) (r : List Nat) : smn (fun o => QR 3 o.1 n r) (optsM 3 3 1) = QR 3 3 (n + 1) (1 :: r) := by
  have e : optsM 3 3 1 = [(1, 1), (3, 0)] := by decide
  rw [e]
  show M1 2 r (WR 3 n) + (M1 0 r (WR 3 n) + 0) = M1 0 (1 :: r) (WR 3 (n + 1))
  simp [M1_0, M1_s, M2_0, M2_s, WR_s, M1_add, M1_zero]
  try first | omega | rw [Nat.add_assoc]
theorem pq_3_3_2 (n : Nat) (r : List Nat) : smn (fun o => QR 3 o.1 n r) (optsM 3 3 2) = QR 3 3 (n + 1) (2 :: r) := by
  have e : optsM 3 3 2 = [(5, 2), (7, 1)] := by decide
  rw [e]
  show M2 2 r (WR 3 n) + (M1 0 r (fun q => M1 2 q (WR 3 n)) + 0) = M1 0 (2 :: r) (WR 3 (n + 1))
  simp [M1_0, M1_s, M2_0, M2_s, WR_s, M1_add, M1_zero]
  try first | omega | rw [Nat.add_assoc]
theorem pq_3_5_0 (n : Nat) (r : List Nat) : smn (fun o => QR 3 o.1 n r) (optsM 3 5 0) = QR 3 5 (n + 1) (0 :: r) := by
  have e : optsM 3 5 0 = [] := by decide
  rw [e]
  show 0 = M2 2 (0 :: r) (WR 3 (n + 1))
  simp [M1_0, M1_s, M2_0, M2_s, WR_s, M1_add, M1_zero]
  try first | omega | rw [Nat.add_assoc]
theorem pq_3_5_1 (n : Nat) (r : List Nat) : smn (fun o => QR 3 o.1 n r) (optsM 3 5 1) = QR 3 5 (n + 1) (1 :: r) := by
  have e : optsM 3 5 1 = [] := by decide
  rw [e]
  show 0 = M2 2 (1 :: r) (WR 3 (n + 1))
  simp [M1_0, M1_s, M2_0, M2_s, WR_s, M1_add, M1_zero]
  try first | omega | rw [Nat.add_assoc]
theorem pq_3_5_2 (n : Nat) (r : List Nat) : smn (fun o => QR 3 o.1 n r) (optsM 3 5 2) = QR 3 5 (n + 1) (2 :: r) := by
  have e : optsM 3 5 2 = [(9, 0)] := by decide
  rw [e]
  show M2 1 r (WR 3 n) + 0 = M2 2 (2 :: r) (WR 3 (n + 1))
  simp [M1_0, M1_s, M2_0, M2_s, WR_s, M1_add, M1_zero]
  try first | omega | rw [Nat.add_assoc]
theorem pq_3_6_0 (n : Nat) (r : List Nat) : smn (fun o => QR 3 o.1 n r) (optsM 3 6 0) = QR 3 6 (n + 1) (0 :: r) := by
  have e : optsM 3 6 0 = [] := by decide
  rw [e]
  show 0 = M1 1 (0 :: r) (fun q => M1 2 q (WR 3 (n + 1)))
  simp [M1_0, M1_s, M2_0, M2_s, WR_s, M1_add, M1_zero]
  try first | omega | rw [Nat.add_assoc]
theorem pq_3_6_1 (n : Nat) (r : List Nat) : smn (fun o => QR 3 o.1 n r) (optsM 3 6 1) = QR 3 6 (n + 1) (1 :: r) := by
  have e : optsM 3 6 1 = [] := by decide
  rw [e]
  show 0 = M1 1 (1 :: r) (fun q => M1 2 q (WR 3 (n + 1)))
  simp [M1_0, M1_s, M2_0, M2_s, WR_s, M1_add, M1_zero]
  try first | omega | rw [Nat.add_assoc]
theorem pq_3_6_2 (n : Nat) (r : List Nat) : smn (fun o => QR 3 o.1 n r) (optsM 3 6 2) = QR 3 6 (n + 1) (2 :: r) := by
  have e : optsM 3 6 2 = [(10, 0)] := by decide
  rw [e]
  show M1 0 r (fun q => M1 1 q (WR 3 n)) + 0 = M1 1 (2 :: r) (fun q => M1 2 q (WR 3 (n + 1)))
  simp [M1_0, M1_s, M2_0, M2_s, WR_s, M1_add, M1_zero]
  try first | omega | rw [Nat.add_assoc]
theorem pq_3_7_0 (n : Nat) (r : List Nat) : smn (fun o => QR 3 o.1 n r) (optsM 3 7 0) = QR 3 7 (n + 1) (0 :: r) := by
  have e : optsM 3 7 0 = [] := by decide
  rw [e]
  show 0 = M1 0 (0 :: r) (fun q => M1 2 q (WR 3 (n + 1)))
  simp [M1_0, M1_s, M2_0, M2_s, WR_s, M1_add, M1_zero]
  try first | omega | rw [Nat.add_assoc]
theorem pq_3_7_1 (n : Nat) (r : List Nat) : smn (fun o => QR 3 o.1 n r) (optsM 3 7 1) = QR 3 7 (n + 1) (1 :: r) := by
  have e : optsM 3 7 1 = [(2, 0)] := by decide
  rw [e]
  show M1 1 r (WR 3 n) + 0 = M1 0 (1 :: r) (fun q => M1 2 q (WR 3 (n + 1)))
  simp [M1_0, M1_s, M2_0, M2_s, WR_s, M1_add, M1_zero]
  try first | omega | rw [Nat.add_assoc]
theorem pq_3_7_2 (n : Nat) (r : List Nat) : smn (fun o => QR 3 o.1 n r) (optsM 3 7 2) = QR 3 7 (n + 1) (2 :: r) := by
  have e : optsM 3 7 2 = [(6, 1), (10, 0)] := by decide
  rw [e]
  show M1 1 r (fun q => M1 2 q (WR 3 n)) + (M1 0 r (fun q => M1 1 q (WR 3 n)) + 0) = M1 0 (2 :: r) (fun q => M1 2 q (WR 3 (n + 1)))
  simp [M1_0, M1_s, M2_0, M2_s, WR_s, M1_add, M1_zero]
  try first | omega | rw [Nat.add_assoc]
theorem pq_3_9_0 (n : Nat) (r : List Nat) : smn (fun o => QR 3 o.1 n r) (optsM 3 9 0) = QR 3 9 (n + 1) (0 :: r) := by
  have e : optsM 3 9 0 = [] := by decide
  rw [e]
  show 0 = M2 1 (0 :: r) (WR 3 (n + 1))
  simp [M1_0, M1_s, M2_0, M2_s, WR_s, M1_add, M1_zero]
  try first | omega | rw [Nat.add_assoc]
theorem pq_3_9_1 (n : Nat) (r : List Nat) : smn (fun o => QR 3 o.1 n r) (optsM 3 9 1) = QR 3 9 (n + 1) (1 :: r) := by
  have e : optsM 3 9 1 = [] := by decide
  rw [e]
  show 0 = M2 1 (1 :: r) (WR 3 (n + 1))
  simp [M1_0, M1_s, M2_0, M2_s, WR_s, M1_add, M1_zero]
  try first | omega | rw [Nat.add_assoc]
theorem pq_3_9_2 (n : Nat) (r : List Nat) : smn (fun o => QR 3 o.1 n r) (optsM 3 9 2) = QR 3 9 (n + 1) (2 :: r) := by
  have e : optsM 3 9 2 = [(12, 0)] := by decide
  rw [e]
  show M2 0 r (WR 3 n) + 0 = M2 1 (2 :: r) (WR 3 (n + 1))
  simp [M1_0, M1_s, M2_0, M2_s, WR_s, M1_add, M1_zero]
  try first | omega | rw [Nat.add_assoc]
theorem pq_3_10_0 (n : Nat) (r : List Nat) : smn (fun o => QR 3 o.1 n r) (optsM 3 10 0) = QR 3 10 (n + 1) (0 :: r) := by
  have e : optsM 3 10 0 = [] := by decide
  rw [e]
  show 0 = M1 0 (0 :: r) (fun q => M1 1 q (WR 3 (n + 1)))
  simp [M1_0, M1_s, M2_0, M2_s, WR_s, M1_add, M1_zero]
  try first | omega | rw [Nat.add_assoc]
theorem pq_3_10_1 (n : Nat) (r : List Nat) : smn (fun o => QR 3 o.1 n r) (optsM 3 10 1) = QR 3 10 (n + 1) (1 :: r) := by
  have e : optsM 3 10 1 = [(3, 0)] := by decide
  rw [e]
  show M1 0 r (WR 3 n) + 0 = M1 0 (1 :: r) (fun q => M1 1 q (WR 3 (n + 1)))
  simp [M1_0, M1_s, M2_0, M2_s, WR_s, M1_add, M1_zero]
  try first | omega | rw [Nat.add_assoc]
theorem pq_3_10_2 (n : Nat) (r : List Nat) : smn (fun o => QR 3 o.1 n r) (optsM 3 10 2) = QR 3 10 (n + 1) (2 :: r) := by
  have e : optsM 3 10 2 = [(7, 1), (15, 0)] := by decide
  rw [e]
  show M1 0 r (fun q => M1 2 q (WR 3 n)) + (M1 0 r (fun q => M1 0 q (WR 3 n)) + 0) = M1 0 (2 :: r) (fun q => M1 1 q (WR 3 (n + 1)))
  simp [M1_0, M1_s, M2_0, M2_s, WR_s, M1_add, M1_zero]
  try first | omega | rw [Nat.add_assoc]
theorem pq_3_12_0 (n : Nat) (r : List Nat) : smn (fun o => QR 3 o.1 n r) (optsM 3 12 0) = QR 3 12 (n + 1) (0 :: r) := by
  have e : optsM 3 12 0 = [(0, 0)] := by decide
  rw [e]
  show WR 3 n r + 0 = M2 0 (0 :: r) (WR 3 (n + 1))
  simp [M1_0, M1_s, M2_0, M2_s, WR_s, M1_add, M1_zero]
  try first | omega | rw [Nat.add_assoc]
theorem pq_3_12_1 (n : Nat) (r : List Nat) : smn (fun o => QR 3 o.1 n r) (optsM 3 12 1) = QR 3 12 (n + 1) (1 :: r) := by
  have e : optsM 3 12 1 = [(1, 1), (3, 0)] := by decide
  rw [e]
  show M1 2 r (WR 3 n) + (M1 0 r (WR 3 n) + 0) = M2 0 (1 :: r) (WR 3 (n + 1))
  simp [M1_0, M1_s, M2_0, M2_s, WR_s, M1_add, M1_zero]
  try first | omega | rw [Nat.add_assoc]
theorem pq_3_12_2 (n : Nat) (r : List Nat) : smn (fun o => QR 3 o.1 n r) (optsM 3 12 2) = QR 3 12 (n + 1) (2 :: r) := by
  have e : optsM 3 12 2 = [(5, 2), (7, 1), (12, 0)] := by decide
  rw [e]
  show M2 2 r (WR 3 n) + (M1 0 r (fun q => M1 2 q (WR 3 n)) + (M2 0 r (WR 3 n) + 0)) = M2 0 (2 :: r) (WR 3 (n + 1))
  simp [M1_0, M1_s, M2_0, M2_s, WR_s, M1_add, M1_zero]
  try first | omega | rw [Nat.add_assoc]
theorem pq_3_15_0 (n : Nat) (r : List Nat) : smn (fun o => QR 3 o.1 n r) (optsM 3 15 0) = QR 3 15 (n + 1) (0 :: r) := by
  have e : optsM 3 15 0 = [(0, 0)] := by decide
  rw [e]
  show WR 3 n r + 0 = M1 0 (0 :: r) (fun q => M1 0 q (WR 3 (n + 1)))
  simp [M1_0, M1_s, M2_0, M2_s, WR_s, M1_add, M1_zero]
  try first | omega | rw [Nat.add_assoc]
theorem pq_3_15_1 (n : Nat) (r : List Nat) : smn (fun o => QR 3 o.1 n r) (optsM 3 15 1) = QR 3 15 (n + 1) (1 :: r) := by
  have e : optsM 3 15 1 = [(1, 1), (3, 0), (3, 0)] := by decide
  rw [e]
  show M1 2 r (WR 3 n) + (M1 0 r (WR 3 n) + (M1 0 r (WR 3 n) + 0)) = M1 0 (1 :: r) (fun q => M1 0 q (WR 3 (n + 1)))
  simp [M1_0, M1_s, M2_0, M2_s, WR_s, M1_add, M1_zero]
  try first | omega | rw [Nat.add_assoc]
theorem pq_3_15_2 (n : Nat) (r : List Nat) : smn (fun o => QR 3 o.1 n r) (optsM 3 15 2) = QR 3 15 (n + 1) (2 :: r) := by
  have e : optsM 3 15 2 = [(5, 2), (7, 1), (7, 1), (15, 0)] := by decide
  rw [e]
  show M2 2 r (WR 3 n) + (M1 0 r (fun q => M1 2 q (WR 3 n)) + (M1 0 r (fun q => M1 2 q (WR 3 n)) + (M1 0 r (fun q => M1 0 q (WR 3 n)) + 0))) = M1 0 (2 :: r) (fun q => M1 0 q (WR 3 (n + 1)))
  simp [M1_0, M1_s, M2_0, M2_s, WR_s, M1_add, M1_zero]
  try first | omega | rw [Nat.add_assoc]
theorem pq_4_0_0 (n : Nat) (r : List Nat) : smn (fun o => QR 4 o.1 n r) (optsM 4 0 0) = QR 4 0 (n + 1) (0 :: r) := by
  have e : optsM 4 0 0 = [(0, 0)] := by decide
  rw [e]
  show WR 4 n r + 0 = WR 4 (n + 1) (0 :: r)
  simp [M1_0, M1_s, M2_0, M2_s, WR_s, M1_add, M1_zero]
  try first | omega | rw [Nat.add_assoc]
theorem pq_4_0_1 (n : Nat) (r : List Nat) : smn (fun o => QR 4 o.1 n r) (optsM 4 0 1) = QR 4 0 (n + 1) (1 :: r) := by
  have e : optsM 4 0 1 = [(1, 1)] := by decide
  rw [e]
  show M1 3 r (WR 4 n) + 0 = WR 4 (n + 1) (1 :: r)
  simp [M1_0, M1_s, M2_0, M2_s, WR_s, M1_add, M1_zero]
  try first | omega | rw [Nat.add_assoc]
theorem pq_4_0_2 (n : Nat) (r : List Nat) : smn (fun o => QR 4 o.1 n r) (optsM 4 0 2) = QR 4 0 (n + 1) (2 :: r) := by
  have e : optsM 4 0 2 = [(5, 2)] := by decide
  rw [e]
  show M2 3 r (WR 4 n) + 0 = WR 4 (n + 1) (2 :: r)
  simp [M1_0, M1_s, M2_0, M2_s, WR_s, M1_add, M1_zero]
  try first | omega | rw [Nat.add_assoc]
theorem pq_4_1_0 (n : Nat) (r : List Nat) : smn (fun o => QR 4 o.1 n r) (optsM 4 1 0) = QR 4 1 (n + 1) (0 :: r) := by
  have e : optsM 4 1 0 = [] := by decide
  rw [e]
  show 0 = M1 3 (0 :: r) (WR 4 (n + 1))
  simp [M1_0, M1_s, M2_0, M2_s, WR_s, M1_add, M1_zero]
  try first | omega | rw [Nat.add_assoc]
theorem pq_4_1_1 (n : Nat) (r : List Nat) : smn (fun o => QR 4 o.1 n r) (optsM 4 1 1) = QR 4 1 (n + 1) (1 :: r) := by
  have e : optsM 4 1 1 = [(2, 0)] := by decide
  rw [e]
  show M1 2 r (WR 4 n) + 0 = M1 3 (1 :: r) (WR 4 (n + 1))
  simp [M1_0, M1_s, M2_0, M2_s, WR_s, M1_add, M1_zero]
  try first | omega | rw [Nat.add_assoc]
theorem pq_4_1_2 (n : Nat) (r : List Nat) : smn (fun o => QR 4 o.1 n r) (optsM 4 1 2) = QR 4 1 (n + 1) (2 :: r) := by
  have e : optsM 4 1 2 = [(6, 1)] := by decide
  rw [e]
  show M1 2 r (fun q => M1 3 q (WR 4 n)) + 0 = M1 3 (2 :: r) (WR 4 (n + 1))
  simp [M1_0, M1_s, M2_0, M2_s, WR_s, M1_add, M1_zero]
  try first | omega | rw [Nat.add_assoc]
theorem pq_4_2_0 (n : Nat) (r : List Nat) : smn (fun o => QR 4 o.1 n r) (optsM 4 2 0) = QR 4 2 (n + 1) (0 :: r) := by
  have e : optsM 4 2 0 = [] := by decide
  rw [e]
  show 0 = M1 2 (0 :: r) (WR 4 (n + 1))
  simp [M1_0, M1_s, M2_0, M2_s, WR_s, M1_add, M1_zero]
  try first | omega | rw [Nat.add_assoc]
theorem pq_4_2_1 (n : Nat) (r : List Nat) : smn (fun o => QR 4 o.1 n r) (optsM 4 2 1) = QR 4 2 (n + 1) (1 :: r) := by
  have e : optsM 4 2 1 = [(3, 0)] := by decide
  rw [e]
  show M1 1 r (WR 4 n) + 0 = M1 2 (1 :: r) (WR 4 (n + 1))
  simp [M1_0, M1_s, M2_0, M2_s, WR_s, M1_add, M1_zero]
  try first | omega | rw [Nat.add_assoc]
theorem pq_4_2_2 (n : Nat) (r : List Nat) : smn (fun o => QR 4 o.1 n r) (optsM 4 2 2) = QR 4 2 (n + 1) (2 :: r) := by
  have e : optsM 4 2 2 = [(7, 1)] := by decide
  rw [e]
  show M1 1 r (fun q => M1 3 q (WR 4 n)) + 0 = M1 2 (2 :: r) (WR 4 (n + 1))
  simp [M1_0, M1_s, M2_0, M2_s, WR_s, M1_add, M1_zero]
  try first | omega | rw [Nat.add_assoc]
theorem pq_4_3_0 (n : Nat) (r : List Nat) : smn (fun o => QR 4 o.1 n r) (optsM 4 3 0) = QR 4 3 (n + 1) (0 :: r) := by
  have e : optsM 4 3 0 = [] := by decide
  rw [e]
  show 0 = M1 1 (0 :: r) (WR 4 (n + 1))
  simp [M1_0, M1_s, M2_0, M2_s, WR_s, M1_add, M1_zero]
  try first | omega | rw [Nat.add_assoc]
theorem pq_4_3_1 (n : Nat) (r : List Nat) : smn (fun o => QR 4 o.1 n r) (optsM 4 3 1) = QR 4 3 (n + 1) (1 :: r) := by
  have e : optsM 4 3 1 = [(4, 0)] := by decide
  rw [e]
  show M1 0 r (WR 4 n) + 0 = M1 1 (1 :: r) (WR 4 (n + 1))
  simp [M1_0, M1_s, M2_0, M2_s, WR_s, M1_add, M1_zero]
  try first | omega | rw [Nat.add_assoc]
theorem pq_4_3_2 (n : Nat) (r : List Nat) : smn (fun o => QR 4 o.1 n r) (optsM 4 3 2) = QR 4 3 (n + 1) (2 :: r) := by
  have e : optsM 4 3 2 = [(8, 1)] := by decide
  rw [e]
  show M1 0 r (fun q => M1 3 q (WR 4 n)) + 0 = M1 1 (2 :: r) (WR 4 (n + 1))
  simp [M1_0, M1_s, M2_0, M2_s, WR_s, M1_add, M1_zero]
  try first | omega | rw [Nat.add_assoc]
theorem pq_4_4_0 (n : Nat) (r : List Nat) : smn (fun o => QR 4 o.1 n r) (optsM 4 4 0) = QR 4 4 (n + 1) (0 :: r) := by
  have e : optsM 4 4 0 = [(0, 0)] := by decide
  rw [e]
  show WR 4 n r + 0 = M1 0 (0 :: r) (WR 4 (n + 1))
  simp [M1_0, M1_s, M2_0, M2_s, WR_s, M1_add, M1_zero]
  try first | omega | rw [Nat.add_assoc]
theorem pq_4_4_1 (n : Nat) (r : List Nat) : smn (fun o => QR 4 o.1 n r) (optsM 4 4 1) = QR 4 4 (n + 1) (1 :: r) := by
  have e : optsM 4 4 1 = [(1, 1), (4, 0)] := by decide
  rw [e]
  show M1 3 r (WR 4 n) + (M1 0 r (WR 4 n) + 0) = M1 0 (1 :: r) (WR 4 (n + 1))
  simp [M1_0, M1_s, M2_0, M2_s, WR_s, M1_add, M1_zero]
  try first | omega | rw [Nat.add_assoc]
theorem pq_4_4_2 (n : Nat) (r : List Nat) : smn (fun o => QR 4 o.1 n r) (optsM 4 4 2) = QR 4 4 (n + 1) (2 :: r) := by
  have e : optsM 4 4 2 = [(5, 2), (8, 1)] := by decide
  rw [e]
  show M2 3 r (WR 4 n) + (M1 0 r (fun q => M1 3 q (WR 4 n)) + 0) = M1 0 (2 :: r) (WR 4 (n + 1))
  simp [M1_0, M1_s, M2_0, M2_s, WR_s, M1_add, M1_zero]
  try first | omega | rw [Nat.add_assoc]
theorem pq_4_5_0 (n : Nat) (r : List Nat) : smn (fun o => QR 4 o.1 n r) (optsM 4 5 0) = QR 4 5 (n + 1) (0 :: r) := by
  have e : optsM 4 5 0 = [] := by decide
  rw [e]
  show 0 = M2 3 (0 :: r) (WR 4 (n + 1))
  simp [M1_0, M1_s, M2_0, M2_s, WR_s, M1_add, M1_zero]
  try first | omega | rw [Nat.add_assoc]
theorem pq_4_5_1 (n : Nat) (r : List Nat) : smn (fun o => QR 4 o.1 n r) (optsM 4 5 1) = QR 4 5 (n + 1) (1 :: r) := by
  have e : optsM 4 5 1 = [] := by decide
  rw [e]
  show 0 = M2 3 (1 :: r) (WR 4 (n + 1))
  simp [M1_0, M1_s, M2_0, M2_s, WR_s, M1_add, M1_zero]
  try first | omega | rw [Nat.add_assoc]
theorem pq_4_5_2 (n : Nat) (r : List Nat) : smn (fun o => QR 4 o.1 n r) (optsM 4 5 2) = QR 4 5 (n + 1) (2 :: r) := by
  have e : optsM 4 5 2 = [(9, 0)] := by decide
  rw [e]
  show M2 2 r (WR 4 n) + 0 = M2 3 (2 :: r) (WR 4 (n + 1))
  simp [M1_0, M1_s, M2_0, M2_s, WR_s, M1_add, M1_zero]
  try first | omega | rw [Nat.add_assoc]
theorem pq_4_6_0 (n : Nat) (r : List Nat) : smn (fun o => QR 4 o.1 n r) (optsM 4 6 0) = QR 4 6 (n + 1) (0 :: r) := by
  have e : optsM 4 6 0 = [] := by decide
  rw [e]
  show 0 = M1 2 (0 :: r) (fun q => M1 3 q (WR 4 (n + 1)))
  simp [M1_0, M1_s, M2_0, M2_s, WR_s, M1_add, M1_zero]
  try first | omega | rw [Nat.add_assoc]
theorem pq_4_6_1 (n : Nat) (r : List Nat) : smn (fun o => QR 4 o.1 n r) (optsM 4 6 1) = QR 4 6 (n + 1) (1 :: r) := by
  have e : optsM 4 6 1 = [] := by decide
  rw [e]
  show 0 = M1 2 (1 :: r) (fun q => M1 3 q (WR 4 (n + 1)))
  simp [M1_0, M1_s, M2_0, M2_s, WR_s, M1_add, M1_zero]
  try first | omega | rw [Nat.add_assoc]
theorem pq_4_6_2 (n : Nat) (r : List Nat) : smn (fun o => QR 4 o.1 n r) (optsM 4 6 2) = QR 4 6 (n + 1) (2 :: r) := by
  have e : optsM 4 6 2 = [(10, 0)] := by decide
  rw [e]
  show M1 1 r (fun q => M1 2 q (WR 4 n)) + 0 = M1 2 (2 :: r) (fun q => M1 3 q (WR 4 (n + 1)))
  simp [M1_0, M1_s, M2_0, M2_s, WR_s, M1_add, M1_zero]
  try first | omega | rw [Nat.add_assoc]
theorem pq_4_7_0 (n : Nat) (r : List Nat) : smn (fun o => QR 4 o.1 n r) (optsM 4 7 0) = QR 4 7 (n + 1) (0 :: r) := by
  have e : optsM 4 7 0 = [] := by decide
  rw [e]
  show 0 = M1 1 (0 :: r) (fun q => M1 3 q (WR 4 (n + 1)))
  simp [M1_0, M1_s, M2_0, M2_s, WR_s, M1_add, M1_zero]
  try first | omega | rw [Nat.add_assoc]
theorem pq_4_7_1 (n : Nat) (r : List Nat) : smn (fun o => QR 4 o.1 n r) (optsM 4 7 1) = QR 4 7 (n + 1) (1 :: r) := by
  have e : optsM 4 7 1 = [] := by decide
  rw [e]
  show 0 = M1 1 (1 :: r) (fun q => M1 3 q (WR 4 (n + 1)))
  simp [M1_0, M1_s, M2_0, M2_s, WR_s, M1_add, M1_zero]
  try first | omega | rw [Nat.add_assoc]
theorem pq_4_7_2 (n : Nat) (r : List Nat) : smn (fun o => QR 4 o.1 n r) (optsM 4 7 2) = QR 4 7 (n + 1) (2 :: r) := by
  have e : optsM 4 7 2 = [(11, 0)] := by decide
  rw [e]
  show M1 0 r (fun q => M1 2 q (WR 4 n)) + 0 = M1 1 (2 :: r) (fun q => M1 3 q (WR 4 (n + 1)))
  simp [M1_0, M1_s, M2_0, M2_s, WR_s, M1_add, M1_zero]
  try first | omega | rw [Nat.add_assoc]
theorem pq_4_8_0 (n : Nat) (r : List Nat) : smn (fun o => QR 4 o.1 n r) (optsM 4 8 0) = QR 4 8 (n + 1) (0 :: r) := by
  have e : optsM 4 8 0 = [] := by decide
  rw [e]
  show 0 = M1 0 (0 :: r) (fun q => M1 3 q (WR 4 (n + 1)))
  simp [M1_0, M1_s, M2_0, M2_s, WR_s, M1_add, M1_zero]
  try first | omega | rw [Nat.add_assoc]
theorem pq_4_8_1 (n : Nat) (r : List Nat) : smn (fun o => QR 4 o.1 n r) (optsM 4 8 1) = QR 4 8 (n + 1) (1 :: r) := by
  have e : optsM 4 8 1 = [(2, 0)] := by decide
  rw [e]
  show M1 2 r (WR 4 n) + 0 = M1 0 (1 :: r) (fun q => M1 3 q (WR 4 (n + 1)))
  simp [M1_0, M1_s, M2_0, M2_s, WR_s, M1_add, M1_zero]
  try first | omega | rw [Nat.add_assoc]
theorem pq_4_8_2 (n : Nat) (r : List Nat) : smn (fun o => QR 4 o.1 n r) (optsM 4 8 2) = QR 4 8 (n + 1) (2 :: r) := by
  have e : optsM 4 8 2 = [(6, 1), (11, 0)] := by decide
  rw [e]
  show M1 2 r (fun q => M1 3 q (WR 4 n)) + (M1 0 r (fun q => M1 2 q (WR 4 n)) + 0) = M1 0 (2 :: r) (fun q => M1 3 q (WR 4 (n + 1)))
  simp [M1_0, M1_s, M2_0, M2_s, WR_s, M1_add, M1_zero]
  try first | omega | rw [Nat.add_assoc]
theorem pq_4_9_0 (n : Nat) (r : List Nat) : smn (fun o => QR 4 o.1 n r) (optsM 4 9 0) = QR 4 9 (n + 1) (0 :: r) := by
  have e : optsM 4 9 0 = [] := by decide
  rw [e]
  show 0 = M2 2 (0 :: r) (WR 4 (n + 1))
  simp [M1_0, M1_s, M2_0, M2_s, WR_s, M1_add, M1_zero]
  try first | omega | rw [Nat.add_assoc]
theorem pq_4_9_1 (n : Nat) (r : List Nat) : smn (fun o => QR 4 o.1 n r) (optsM 4 9 1) = QR 4 9 (n + 1) (1 :: r) := by
  have e : optsM 4 9 1 = [] := by decide
  rw [e]
  show 0 = M2 2 (1 :: r) (WR 4 (n + 1))
  simp [M1_0, M1_s, M2_0, M2_s, WR_s, M1_add, M1_zero]
  try first | omega | rw [Nat.add_assoc]
theorem pq_4_9_2 (n : Nat) (r : List Nat) : smn (fun o => QR 4 o.1 n r) (optsM 4 9 2) = QR 4 9 (n + 1) (2 :: r) := by
  have e : optsM 4 9 2 = [(12, 0)] := by decide
  rw [e]
  show M2 1 r (WR 4 n) + 0 = M2 2 (2 :: r) (WR 4 (n + 1))
  simp [M1_0, M1_s, M2_0, M2_s, WR_s, M1_add, M1_zero]
  try first | omega | rw [Nat.add_assoc]
theorem pq_4_10_0 (n : Nat) (r : List Nat) : smn (fun o => QR 4 o.1 n r) (optsM 4 10 0) = QR 4 10 (n + 1) (0 :: r) := by
  have e : optsM 4 10 0 = [] := by decide
  rw [e]
  show 0 = M1 1 (0 :: r) (fun q => M1 2 q (WR 4 (n + 1)))
  simp [M1_0, M1_s, M2_0, M2_s, WR_s, M1_add, M1_zero]
  try first | omega | rw [Nat.add_assoc]
theorem pq_4_10_1 (n : Nat) (r : List Nat) : smn (fun o => QR 4 o.1 n r) (optsM 4 10 1) = QR 4 10 (n + 1) (1 :: r) := by
  have e : optsM 4 10 1 = [] := by decide
  rw [e]
  show 0 = M1 1 (1 :: r) (fun q => M1 2 q (WR 4 (n + 1)))
  simp [M1_0, M1_s, M2_0, M2_s, WR_s, M1_add, M1_zero]
  try first | omega | rw [Nat.add_assoc]
theorem pq_4_10_2 (n : Nat) (r : List Nat) : smn (fun o => QR 4 o.1 n r) (optsM 4 10 2) = QR 4 10 (n + 1) (2 :: r) := by
  have e : optsM 4 10 2 = [(13, 0)] := by decide
  rw [e]
  show M1 0 r (fun q => M1 1 q (WR 4 n)) + 0 = M1 1 (2 :: r) (fun q => M1 2 q (WR 4 (n + 1)))
  simp [M1_0, M1_s, M2_0, M2_s, WR_s, M1_add, M1_zero]
  try first | omega | rw [Nat.add_assoc]
theorem pq_4_11_0 (n : Nat) (r : List Nat) : smn (fun o => QR 4 o.1 n r) (optsM 4 11 0) = QR 4 11 (n + 1) (0 :: r) := by
  have e : optsM 4 11 0 = [] := by decide
  rw [e]
  show 0 = M1 0 (0 :: r) (fun q => M1 2 q (WR 4 (n + 1)))
  simp [M1_0, M1_s, M2_0, M2_s, WR_s, M1_add, M1_zero]
  try first | omega | rw [Nat.add_assoc]
theorem pq_4_11_1 (n : Nat) (r : List Nat) : smn (fun o => QR 4 o.1 n r) (optsM 4 11 1) = QR 4 11 (n + 1) (1 :: r) := by
  have e : optsM 4 11 1 = [(3, 0)] := by decide
  rw [e]
  show M1 1 r (WR 4 n) + 0 = M1 0 (1 :: r) (fun q => M1 2 q (WR 4 (n + 1)))
  simp [M1_0, M1_s, M2_0, M2_s, WR_s, M1_add, M1_zero]
  try first | omega | rw [Nat.add_assoc]
theorem pq_4_11_2 (n : Nat) (r : List Nat) : smn (fun o => QR 4 o.1 n r) (optsM 4 11 2) = QR 4 11 (n + 1) (2 :: r) := by
  have e : optsM 4 11 2 = [(7, 1), (13, 0)] := by decide
  rw [e]
  show M1 1 r (fun q => M1 3 q (WR 4 n)) + (M1 0 r (fun q => M1 1 q (WR 4 n)) + 0) = M1 0 (2 :: r) (fun q => M1 2 q (WR 4 (n + 1)))
  simp [M1_0, M1_s, M2_0, M2_s, WR_s, M1_add, M1_zero]
  try first | omega | rw [Nat.add_assoc]
theorem pq_4_12_0 (n : Nat) (r : List Nat) : smn (fun o => QR 4 o.1 n r) (optsM 4 12 0) = QR 4 12 (n + 1) (0 :: r) := by
  have e : optsM 4 12 0 = [] := by decide
  rw [e]
  show 0 = M2 1 (0 :: r) (WR 4 (n + 1))
  simp [M1_0, M1_s, M2_0, M2_s, WR_s, M1_add, M1_zero]
  try first | omega | rw [Nat.add_assoc]
theorem pq_4_12_1 (n : Nat) (r : List Nat) : smn (fun o => QR 4 o.1 n r) (optsM 4 12 1) = QR 4 12 (n + 1) (1 :: r) := by
  have e : optsM 4 12 1 = [] := by decide
  rw [e]
  show 0 = M2 1 (1 :: r) (WR 4 (n + 1))
  simp [M1_0, M1_s, M2_0, M2_s, WR_s, M1_add, M1_zero]
  try first | omega | rw [Nat.add_assoc]
theorem pq_4_12_2 (n : Nat) (r : List Nat) : smn (fun o => QR 4 o.1 n r) (optsM 4 12 2) = QR 4 12 (n + 1) (2 :: r) := by
  have e : optsM 4 12 2 = [(14, 0)] := by decide
  rw [e]
  show M2 0 r (WR 4 n) + 0 = M2 1 (2 :: r) (WR 4 (n + 1))
  simp [M1_0, M1_s, M2_0, M2_s, WR_s, M1_add, M1_zero]
  try first | omega | rw [Nat.add_assoc]
theorem pq_4_13_0 (n : Nat) (r : List Nat) : smn (fun o => QR 4 o.1 n r) (optsM 4 13 0) = QR 4 13 (n + 1) (0 :: r) := by
  have e : optsM 4 13 0 = [] := by decide
  rw [e]
  show 0 = M1 0 (0 :: r) (fun q => M1 1 q (WR 4 (n + 1)))
  simp [M1_0, M1_s, M2_0, M2_s, WR_s, M1_add, M1_zero]
  try first | omega | rw [Nat.add_assoc]
theorem pq_4_13_1 (n : Nat) (r : List Nat) : smn (fun o => QR 4 o.1 n r) (optsM 4 13 1) = QR 4 13 (n + 1) (1 :: r) := by
  have e : optsM 4 13 1 = [(4, 0)] := by decide
  rw [e]
  show M1 0 r (WR 4 n) + 0 = M1 0 (1 :: r) (fun q => M1 1 q (WR 4 (n + 1)))
  simp [M1_0, M1_s, M2_0, M2_s, WR_s, M1_add, M1_zero]
  try first | omega | rw [Nat.add_assoc]
theorem pq_4_13_2 (n : Nat) (r : List Nat) : smn (fun o => QR 4 o.1 n r) (optsM 4 13 2) = QR 4 13 (n + 1) (2 :: r) := by
  have e : optsM 4 13 2 = [(8, 1), (15, 0)] := by decide
  rw [e]
  show M1 0 r (fun q => M1 3 q (WR 4 n)) + (M1 0 r (fun q => M1 0 q (WR 4 n)) + 0) = M1 0 (2 :: r) (fun q => M1 1 q (WR 4 (n + 1)))
  simp [M1_0, M1_s, M2_0, M2_s, WR_s, M1_add, M1_zero]
  try first | omega | rw [Nat.add_assoc]
theorem pq_4_14_0 (n : Nat) (r : List Nat) : smn (fun o => QR 4 o.1 n r) (optsM 4 14 0) = QR 4 14 (n + 1) (0 :: r) := by
  have e : optsM 4 14 0 = [(0, 0)] := by decide
  rw [e]
  show WR 4 n r + 0 = M2 0 (0 :: r) (WR 4 (n + 1))
  simp [M1_0, M1_s, M2_0, M2_s, WR_s, M1_add, M1_zero]
  try first | omega | rw [Nat.add_assoc]
theorem pq_4_14_1 (n : Nat) (r : List Nat) : smn (fun o => QR 4 o.1 n r) (optsM 4 14 1) = QR 4 14 (n + 1) (1 :: r) := by
  have e : optsM 4 14 1 = [(1, 1), (4, 0)] := by decide
  rw [e]
  show M1 3 r (WR 4 n) + (M1 0 r (WR 4 n) + 0) = M2 0 (1 :: r) (WR 4 (n + 1))
  simp [M1_0, M1_s, M2_0, M2_s, WR_s, M1_add, M1_zero]
  try first | omega | rw [Nat.add_assoc]
theorem pq_4_14_2 (n : Nat) (r : List Nat) : smn (fun o => QR 4 o.1 n r) (optsM 4 14 2) = QR 4 14 (n + 1) (2 :: r) := by
  have e : optsM 4 14 2 = [(5, 2), (8, 1), (14, 0)] := by decide
  rw [e]
  show M2 3 r (WR 4 n) + (M1 0 r (fun q => M1 3 q (WR 4 n)) + (M2 0 r (WR 4 n) + 0)) = M2 0 (2 :: r) (WR 4 (n + 1))
  simp [M1_0, M1_s, M2_0, M2_s, WR_s, M1_add, M1_zero]
  try first | omega | rw [Nat.add_assoc]
theorem pq_4_15_0 (n : Nat) (r : List Nat) : smn (fun o => QR 4 o.1 n r) (optsM 4 15 0) = QR 4 15 (n + 1) (0 :: r) := by
  have e : optsM 4 15 0 = [(0, 0)] := by decide
  rw [e]
  show WR 4 n r + 0 = M1 0 (0 :: r) (fun q => M1 0 q (WR 4 (n + 1)))
  simp [M1_0, M1_s, M2_0, M2_s, WR_s, M1_add, M1_zero]
  try first | omega | rw [Nat.add_assoc]
theorem pq_4_15_1 (n : Nat) (r : List Nat) : smn (fun o => QR 4 o.1 n r) (optsM 4 15 1) = QR 4 15 (n + 1) (1 :: r) := by
  have e : optsM 4 15 1 = [(1, 1), (4, 0), (4, 0)] := by decide
  rw [e]
  show M1 3 r (WR 4 n) + (M1 0 r (WR 4 n) + (M1 0 r (WR 4 n) + 0)) = M1 0 (1 :: r) (fun q => M1 0 q (WR 4 (n + 1)))
  simp [M1_0, M1_s, M2_0, M2_s, WR_s, M1_add, M1_zero]
  try first | omega | rw [Nat.add_assoc]
theorem pq_4_15_2 (n : Nat) (r : List Nat) : smn (fun o => QR 4 o.1 n r) (optsM 4 15 2) = QR 4 15 (n + 1) (2 :: r) := by
  have e : optsM 4 15 2 = [(5, 2), (8, 1), (8, 1), (15, 0)] := by decide
  rw [e]
  show M2 3 r (WR 4 n) + (M1 0 r (fun q => M1 3 q (WR 4 n)) + (M1 0 r (fun q => M1 3 q (WR 4 n)) + (M1 0 r (fun q => M1 0 q (WR 4 n)) + 0))) = M1 0 (2 :: r) (fun q => M1 0 q (WR 4 (n + 1)))
  simp [M1_0, M1_s, M2_0, M2_s, WR_s, M1_add, M1_zero]
  try first | omega | rw [Nat.add_assoc]
theorem pq_all {L : Nat} (hL : L = 3 ∨ L = 4) {s x : Nat} (hs : s < 16) (hv : vlM L s = true) (hx : x ≤ 2) (n : Nat) (r : List Nat) : smn (fun o => QR L o.1 n r) (optsM L s x) = QR L s (n + 1) (x :: r) := by
  have hxc : x = 0 ∨ x = 1 ∨ x = 2 := by omega
  have hsc : s = 0 ∨ s = 1 ∨ s = 2 ∨ s = 3 ∨ s = 4 ∨ s = 5 ∨ s = 6 ∨ s = 7 ∨ s = 8 ∨ s = 9 ∨ s = 10 ∨ s = 11 ∨ s = 12 ∨ s = 13 ∨ s = 14 ∨ s = 15 := by omega
  rcases hL with rfl | rfl
  · rcases hsc with rfl | rfl | rfl | rfl | rfl | rfl | rfl | rfl | rfl | rfl | rfl | rfl | rfl | rfl | rfl | rfl
    · rcases hxc with rfl | rfl | rfl
      · exact pq_3_0_0 n r
      · exact pq_3_0_1 n r
      · exact pq_3_0_2 n r
    · rcases hxc with rfl | rfl | rfl
      · exact pq_3_1_0 n r
      · exact pq_3_1_1 n r
      · exact pq_3_1_2 n r
    · rcases hxc with rfl | rfl | rfl
      · exact pq_3_2_0 n r
      · exact pq_3_2_1 n r
      · exact pq_3_2_2 n r
    · rcases hxc with rfl | rfl | rfl
      · exact pq_3_3_0 n r
      · exact pq_3_3_1 n r
      · exact pq_3_3_2 n r
    · exact absurd hv (by decide)
    · rcases hxc with rfl | rfl | rfl
      · exact pq_3_5_0 n r
      · exact pq_3_5_1 n r
      · exact pq_3_5_2 n r
    · rcases hxc with rfl | rfl | rfl
      · exact pq_3_6_0 n r
      · exact pq_3_6_1 n r
      · exact pq_3_6_2 n r
    · rcases hxc with rfl | rfl | rfl
      · exact pq_3_7_0 n r
      · exact pq_3_7_1 n r
      · exact pq_3_7_2 n r
    · exact absurd hv (by decide)
    · rcases hxc with rfl | rfl | rfl
      · exact pq_3_9_0 n r
      · exact pq_3_9_1 n r
      · exact pq_3_9_2 n r
    · rcases hxc with rfl | rfl | rfl
      · exact pq_3_10_0 n r
      · exact pq_3_10_1 n r
      · exact pq_3_10_2 n r
    · exact absurd hv (by decide)
    · rcases hxc with rfl | rfl | rfl
      · exact pq_3_12_0 n r
      · exact pq_3_12_1 n r
      · exact pq_3_12_2 n r
    · exact absurd hv (by decide)
    · exact absurd hv (by decide)
    · rcases hxc with rfl | rfl | rfl
      · exact pq_3_15_0 n r
      · exact pq_3_15_1 n r
      · exact pq_3_15_2 n r
  · rcases hsc with rfl | rfl | rfl | rfl | rfl | rfl | rfl | rfl | rfl | rfl | rfl | rfl | rfl | rfl | rfl | rfl
    · rcases hxc with rfl | rfl | rfl
      · exact pq_4_0_0 n r
      · exact pq_4_0_1 n r
      · exact pq_4_0_2 n r
    · rcases hxc with rfl | rfl | rfl
      · exact pq_4_1_0 n r
      · exact pq_4_1_1 n r
      · exact pq_4_1_2 n r
    · rcases hxc with rfl | rfl | rfl
      · exact pq_4_2_0 n r
      · exact pq_4_2_1 n r
      · exact pq_4_2_2 n r
    · rcases hxc with rfl | rfl | rfl
      · exact pq_4_3_0 n r
      · exact pq_4_3_1 n r
      · exact pq_4_3_2 n r
    · rcases hxc with rfl | rfl | rfl
      · exact pq_4_4_0 n r
      · exact pq_4_4_1 n r
      · exact pq_4_4_2 n r
    · rcases hxc with rfl | rfl | rfl
      · exact pq_4_5_0 n r
      · exact pq_4_5_1 n r
      · exact pq_4_5_2 n r
    · rcases hxc with rfl | rfl | rfl
      · exact pq_4_6_0 n r
      · exact pq_4_6_1 n r
      · exact pq_4_6_2 n r
    · rcases hxc with rfl | rfl | rfl
      · exact pq_4_7_0 n r
      · exact pq_4_7_1 n r
      · exact pq_4_7_2 n r
    · rcases hxc with rfl | rfl | rfl
      · exact pq_4_8_0 n r
      · exact pq_4_8_1 n r
      · exact pq_4_8_2 n r
    · rcases hxc with rfl | rfl | rfl
      · exact pq_4_9_0 n r
      · exact pq_4_9_1 n r
      · exact pq_4_9_2 n r
    · rcases hxc with rfl | rfl | rfl
      · exact pq_4_10_0 n r
      · exact pq_4_10_1 n r
      · exact pq_4_10_2 n r
    · rcases hxc with rfl | rfl | rfl
      · exact pq_4_11_0 n r
      · exact pq_4_11_1 n r
      · exact pq_4_11_2 n r
    · rcases hxc with rfl | rfl | rfl
      · exact pq_4_12_0 n r
      · exact pq_4_12_1 n r
      · exact pq_4_12_2 n r
    · rcases hxc with rfl | rfl | rfl
      · exact pq_4_13_0 n r
      · exact pq_4_13_1 n r
      · exact pq_4_13_2 n r
    · rcases hxc with rfl | rfl | rfl
      · exact pq_4_14_0 n r
      · exact pq_4_14_1 n r
      · exact pq_4_14_2 n r
    · rcases hxc with rfl | rfl | rfl
      · exact pq_4_15_0 n r
      · exact pq_4_15_1 n r
      · exact pq_4_15_2 n r
theorem PR_QR {L : Nat} (hL : L = 3 ∨ L = 4) (r : List Nat) : ∀ s, s < 16 → vlM L s = true → (∀ x ∈ r, x ≤ 2) → PR L s r = QR L s r.length r := by
  induction r with
  | nil =>
    intro s hs hv _
    simp only [PR]
    rw [fnil L (in01 hL) s (in16 hs) hv]
    unfold QR
    simp only [M1_nil, M2_nil, WR_nil]
  | cons x r ih =>
    intro s hs hv hx
    have hr : ∀ x ∈ r, x ≤ 2 := fun y hy => hx y (List.mem_cons_of_mem _ hy)
    have hx2 := hx x List.mem_cons_self
    have e : PR L s (x :: r) = smn (fun o => QR L o.1 r.length r) (optsM L s x) := by
      show smn (fun o => PR L o.1 r) (optsM L s x) = _
      refine smn_congr fun o ho => ?_
      obtain ⟨a, b⟩ := fvl L (in01 hL) s (in16 hs) hv x (in3 hx2) o ho
      exact ih o.1 b a hr
    rw [e, List.length_cons]
    exact pq_all hL hs hv hx2 r.length r
theorem PR_WR {L : Nat} (hL : L = 3 ∨ L = 4) {r : List Nat} (hr : ∀ x ∈ r, x ≤ 2) : PR L 0 r = WR L r.length r := PR_QR hL r 0 (by decide) (by rcases hL with rfl | rfl <;> decide) hr
