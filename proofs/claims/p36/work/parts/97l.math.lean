/-! numbers of cuts: fewest and most sets, the tiles they take; states -/
theorem sm_all {α : Type} {P : N3 → Prop} (hP : ∀ x y, P x → P y → P (m2 x y)) {f : α → Option N3} : ∀ {l : List α}, (∀ a ∈ l, ∀ w, f a = some w → P w) → ∀ w, sm m2 f l = some w → P w
  | [], _, w, h => by
    have h : (none : Option N3) = some w := h
    cases h
  | a :: l, hl, w, h => by
    have ih := sm_all hP (l := l) (fun b hb => hl b (List.mem_cons_of_mem _ hb))
    have h : opO m2 (f a) (sm m2 f l) = some w := h
    have ha := hl a List.mem_cons_self
    cases e1 : f a with
    | none =>
      cases e2 : sm m2 f l with
      | none => rw [e1, e2] at h; cases h
      | some y => rw [e1, e2] at h; cases h; exact ih _ e2
    | some x =>
      cases e2 : sm m2 f l with
      | none => rw [e1, e2] at h; cases h; exact ha _ e1
      | some y => rw [e1, e2] at h; cases h; exact hP _ _ (ha _ e1) (ih _ e2)
/-- tiles that are owed by the runs that are begun -/
def dbM (L code : Nat) : Nat := (if aM L code = 0 then 0 else 3 - aM L code) + (if bM L code = 0 then 0 else 3 - bM L code)
def dbS (L k : Nat) : Nat := dbM L (nib k 0) + dbM L (nib k 1) + dbM L (nib k 2) + dbM L (nib k 3)
theorem f_db : ∀ L ∈ [3, 4], ∀ code ∈ List.range 16, ∀ next ∈ [0, 1, 2], ∀ o ∈ optsM L code next, 3 * o.2 + dbM L code ≤ next + dbM L o.1 := by decide +kernel
theorem f_dn : ∀ L ∈ [3, 4], ∀ code ∈ List.range 16, dnM L code = true → dbM L code = 0 := by decide +kernel
theorem f_us : ∀ g ∈ List.range 21, 3 * usN g ≤ at4 (usG g) 0 + at4 (usG g) 1 + at4 (usG g) 2 + at4 (usG g) 3 := by decide +kernel
theorem L34 {L : Nat} (hL : L = 3 ∨ L = 4) : L ∈ [3, 4] := by rcases hL with rfl | rfl <;> decide
theorem n012 {n : Nat} (h : n ≤ 2) : n ∈ [0, 1, 2] := by rcases (by omega : n = 0 ∨ n = 1 ∨ n = 2) with rfl | rfl | rfl <;> decide
theorem db_o {L code next : Nat} (hL : L = 3 ∨ L = 4) (hc : code < 16) (hn : next ≤ 2) {o : Nat × Nat} (ho : o ∈ optsM L code next) : 3 * o.2 + dbM L code ≤ next + dbM L o.1 := f_db L (L34 hL) code (List.mem_range.mpr hc) next (n012 hn) o ho
/-- tiles of a number -/
def rwN (bs : Nat → Nat) (n : Nat) : Nat := bs n + bs (13 + n) + bs (26 + n) + bs (39 + n)
theorem reC_db {L n : Nat} {bs : Nat → Nat} (hL : L = 3 ∨ L = 4) (h2 : ∀ k, bs k ≤ 2) {p q : Nat × N3} (hq : q ∈ reC L n bs p) : 3 * q.2.2.2 + dbS L p.1 ≤ 3 * p.2.2.2 + rwN bs n + dbS L q.1 := by
  obtain ⟨g, hg, hq⟩ := List.mem_flatMap.mp hq
  unfold rgC at hq
  split at hq
  · rename_i hf
    have fi := fiM_iff.mp hf
    obtain ⟨o, ho, rfl⟩ := List.mem_map.mp hq
    obtain ⟨o0, h0, o1, h1, o2, h3, o3, h4, rfl⟩ := emM_mem.mp ho
    have us := f_us g hg
    have f0 := fi 0 (by decide)
    have f1 := fi 1 (by decide)
    have f2 := fi 2 (by decide)
    have f3 := fi 3 (by decide)
    have r0 : ruM (fun c => bs (13 * c + n)) (fun _ => 0) (usG g) 0 + at4 (usG g) 0 = bs n := by
      unfold ruM
      dsimp only at f0 ⊢
      rw [Nat.mul_zero, Nat.zero_add] at *
      omega
    have r1 : ruM (fun c => bs (13 * c + n)) (fun _ => 0) (usG g) 1 + at4 (usG g) 1 = bs (13 + n) := by
      unfold ruM
      dsimp only at f1 ⊢
      rw [show 13 * 1 + n = 13 + n by omega] at *
      omega
    have r2 : ruM (fun c => bs (13 * c + n)) (fun _ => 0) (usG g) 2 + at4 (usG g) 2 = bs (26 + n) := by
      unfold ruM
      dsimp only at f2 ⊢
      rw [show 13 * 2 + n = 26 + n by omega] at *
      omega
    have r3 : ruM (fun c => bs (13 * c + n)) (fun _ => 0) (usG g) 3 + at4 (usG g) 3 = bs (39 + n) := by
      unfold ruM
      dsimp only at f3 ⊢
      rw [show 13 * 3 + n = 39 + n by omega] at *
      omega
    have d0 := db_o hL (nib_lt _ _) (by have := h2 n; omega) h0
    have d1 := db_o hL (nib_lt _ _) (by have := h2 (13 + n); omega) h1
    have d2 := db_o hL (nib_lt _ _) (by have := h2 (26 + n); omega) h3
    have d3 := db_o hL (nib_lt _ _) (by have := h2 (39 + n); omega) h4
    obtain ⟨-, k0, k1, k2, k3⟩ := nib_pk (optsM_lt hL _ h0) (optsM_lt hL _ h1) (optsM_lt hL _ h3) (optsM_lt hL _ h4)
    show 3 * (p.2.2.2 + (usN g + o0.2 + o1.2 + o2.2 + o3.2)) + dbS L p.1 ≤ 3 * p.2.2.2 + rwN bs n + dbS L (pk4 o0.1 o1.1 o2.1 o3.1)
    unfold dbS rwN
    rw [k0, k1, k2, k3]
    omega
  · exact absurd hq (by simp)
theorem FR_db {L : Nat} {bs : Nat → Nat} (hL : L = 3 ∨ L = 4) (h2 : ∀ k, bs k ≤ 2) : ∀ d n (p : Nat × N3) w, FR L bs d n p = some w → 3 * w.2.2 + dbS L p.1 ≤ 3 * p.2.2.2 + natSum (fun i => rwN bs (n + i)) d
  | 0, n, p, w, h => by
    have h : (if doneM L p.1 4 then some p.2 else none) = some w := h
    split at h
    · rename_i hd
      cases h
      have dn := doneM_iff.mp hd
      have z : ∀ c, c < 4 → dbM L (nib p.1 c) = 0 := fun c hc => f_dn L (L34 hL) _ (List.mem_range.mpr (nib_lt _ _)) (dn c hc)
      unfold dbS
      rw [z 0 (by decide), z 1 (by decide), z 2 (by decide), z 3 (by decide)]
      omega
    · cases h
  | d + 1, n, p, w, h => by
    have h : sm m2 (FR L bs d (n + 1)) (reC L n bs p) = some w := h
    refine sm_all (P := fun w => 3 * w.2.2 + dbS L p.1 ≤ 3 * p.2.2.2 + natSum (fun i => rwN bs (n + i)) (d + 1)) (fun x y hx hy => ?_) (fun q hq w hw => ?_) w h
    · show 3 * max x.2.2 y.2.2 + dbS L p.1 ≤ _
      rcases Nat.le_total x.2.2 y.2.2 with e | e
      · rw [Nat.max_eq_right e]; exact hy
      · rw [Nat.max_eq_left e]; exact hx
    · have a := FR_db hL h2 d (n + 1) q w hw
      have b := reC_db hL h2 hq
      rw [natSum_hd]
      have e : natSum (fun i => rwN bs (n + 1 + i)) d = natSum (fun i => rwN bs (n + (1 + i))) d := natSum_congr fun i _ => by rw [Nat.add_assoc]
      rw [e] at a
      try dsimp only
      rw [Nat.add_zero]
      omega
theorem rw_52 (bs : Nat → Nat) {hh : Nat} (h13 : hh ≤ 13) : natSum (fun i => rwN bs (0 + i)) hh ≤ natSum bs 52 := by
  have a : natSum bs 52 = natSum bs 13 + natSum (fun i => bs (13 + i)) 13 + natSum (fun i => bs (26 + i)) 13 + natSum (fun i => bs (39 + i)) 13 := by
    rw [show (52 : Nat) = 39 + 13 by rfl, natSum_app, show (39 : Nat) = 26 + 13 by rfl, natSum_app, show (26 : Nat) = 13 + 13 by rfl, natSum_app]
  have b : natSum (fun i => rwN bs (0 + i)) 13 = natSum bs 13 + natSum (fun i => bs (13 + i)) 13 + natSum (fun i => bs (26 + i)) 13 + natSum (fun i => bs (39 + i)) 13 := by
    rw [← natSum_plus, ← natSum_plus, ← natSum_plus]
    exact natSum_congr fun i _ => by unfold rwN; rw [Nat.zero_add]
  rw [a, ← b]
  exact natSum_n h13
theorem cnt_3 {L hh : Nat} {bs : Nat → Nat} (hL : L = 3 ∨ L = 4) (h2 : ∀ k, bs k ≤ 2) (h13 : hh ≤ 13) {v : N3} (h : cntR L hh bs = some v) : v.2.1 ≤ v.2.2 ∧ 3 * v.2.2 ≤ natSum bs 52 ∧ v.1 < 1000000007 := by
  have b := (rs_cnt (ex := fun _ => 0) (bw := false) h2 h13).2 v h
  have a := FR_db hL h2 hh 0 (0, (1, 0, 0)) v h
  have c := rw_52 bs h13
  exact ⟨b.2.1, by dsimp only at a; omega, b.1⟩
theorem cnt_acc {L hh : Nat} {bs : Nat → Nat} (hL : L = 3 ∨ L = 4) (h2 : ∀ k, bs k ≤ 2) (h13 : hh ≤ 13) : (cntR L hh bs).isSome = true ↔ AccR L (tN bs xZ) hh := by
  rw [← rs_whole (bw := false) (bs := bs) (ex := fun _ => 0) hL (fun _ => by decide) h13, (rs_cnt (ex := fun _ => 0) (bw := false) h2 h13).1]
  cases cntR L hh bs <;> exact Iff.rfl
theorem reL_ne {pl bw : Bool} {L : Nat} {bs ex : Nat → Nat} {q : Nat} : ∀ d, reL pl bw L bs ex q = [] → reL pl bw L bs ex (q + d) = []
  | 0, h => h
  | d + 1, h => by
    show reL pl bw L bs ex (q + d + 1) = []
    rw [reL_mrg, reL_ne d h]
    rfl
theorem sta_pos {L hh q : Nat} {bs : Nat → Nat} (hL : L = 3 ∨ L = 4) (h13 : hh ≤ 13) (hq : q ≤ hh) (A : AccR L (tN bs xZ) hh) : 0 < (ddL ((reL false false L bs (fun _ => 0) q).map fun q => imgM L q.1)).length := by
  have h := (rs_whole (bw := false) (ex := fun _ => 0) hL (fun _ => by decide) h13).mpr A
  have ne : reL false false L bs (fun _ => 0) q ≠ [] := fun e => by
    have e2 := reL_ne (hh - q) e
    rw [show q + (hh - q) = hh by omega] at e2
    unfold rsM at h
    rw [e2] at h
    exact absurd h (show ¬ (none : Option V3).isSome = true by decide)
  obtain ⟨p, hp⟩ := List.exists_mem_of_ne_nil _ ne
  have hm := ((ddL_spec ((reL false false L bs (fun _ => 0) q).map fun q => imgM L q.1)).2 (imgM L p.1)).mpr (List.mem_map.mpr ⟨p, hp, rfl⟩)
  exact List.length_pos_of_mem hm
theorem sta_lt {L hh q : Nat} {bs : Nat → Nat} (hL : L = 3 ∨ L = 4) (h2 : ∀ k, bs k ≤ 2) (h13 : hh ≤ 13) (hq : q ≤ hh) : (ddL ((reL false false L bs (fun _ => 0) q).map fun q => imgM L q.1)).length < 2 ^ 31 := by
  rw [← states_count (bw := false) (bw2 := false) (ex := fun _ => 0) hL h2 (fun _ => by decide) h13 hq]
  exact Nat.lt_of_le_of_lt (itL_len hL (Or.inl rfl) q) (by decide)
