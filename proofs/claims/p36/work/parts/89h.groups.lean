/-! the groups among the pieces, number by number -/
def gpC (m g : Nat) : Nat := 19 * (13 * fcol g + m) + (13 + g)
def gpL (m : Nat) : List Nat := [1, 2, 3, 4, 5].map (gpC m)
def gpF : Nat → List Nat
  | 0 => []
  | d + 1 => gpL (12 - d) ++ gpF d
theorem cd_perm : ∀ L ∈ [3, 4], (cdL L 0).Perm (gpF 13 ++ rnA L) := by decide +kernel
def setc (t : Nat → Nat) (m : Nat) (v : V4) (k : Nat) : Nat := if k % 13 = m then at4 v (k / 13) else t k
def colV (t : Nat → Nat) (m : Nat) : V4 := mk4 fun c => t (13 * c + m)
theorem svC_gp {m g j : Nat} (hm : m < 13) (h1 : 1 ≤ g) (h5 : g ≤ 5) : svC (gpC m g) j = if j % 13 = m then at4 (gd g) (j / 13) else 0 := by
  unfold gpC
  have hf : fcol g ≤ 1 := by unfold fcol; split <;> omega
  rw [svC_grp (by omega) (by omega), show (13 * fcol g + m) % 13 = m by omega, show 13 + g - 13 = g by omega]
theorem leV_gp {t : Nat → Nat} {m g : Nat} (hm : m < 13) (h1 : 1 ≤ g) (h5 : g ≤ 5) : leV (svC (gpC m g)) t = fit4 (colV t m) (gd g) := by
  rw [Bool.eq_iff_iff, leV_iff, fit4_iff]
  constructor
  · intro h c hc
    have := h (13 * c + m) (by omega)
    rw [svC_gp hm h1 h5, if_pos (by omega), show (13 * c + m) / 13 = c by omega] at this
    unfold colV
    rw [at_mk4 _ c hc]
    exact this
  · intro h k hk
    rw [svC_gp hm h1 h5]
    split
    · rename_i e
      have := h (k / 13) (by omega)
      unfold colV at this
      rw [at_mk4 _ _ (by omega), show 13 * (k / 13) + m = k by omega] at this
      exact this
    · exact Nat.zero_le _
theorem colV_sb {t : Nat → Nat} {m g : Nat} (hm : m < 13) (h1 : 1 ≤ g) (h5 : g ≤ 5) : colV (sbV t (svC (gpC m g))) m = sub4 (colV t m) (gd g) := v4_ext fun c hc => by
  unfold colV
  rw [at_sub4 _ _ c hc, at_mk4 _ c hc, at_mk4 _ c hc]
  unfold sbV
  rw [svC_gp hm h1 h5, if_pos (by omega), show (13 * c + m) / 13 = c by omega]
theorem setc_sb {t : Nat → Nat} {m g : Nat} (hm : m < 13) (h1 : 1 ≤ g) (h5 : g ≤ 5) (w : V4) (k : Nat) : setc (sbV t (svC (gpC m g))) m w k = setc t m w k := by
  unfold setc
  split
  · rfl
  · rename_i e
    unfold sbV
    rw [svC_gp hm h1 h5, if_neg e]
    rfl
/-- where the groups of a number may lead -/
def PT : List V4 → V4 → List V4
  | [], v => [v]
  | u :: us, v => PT us v ++ (if fit4 v u then PT us (sub4 v u) ++ (if fit4 (sub4 v u) u then PT us (sub4 (sub4 v u) u) else []) else [])
theorem grp_PT {R : List Nat} {m : Nat} (hm : m < 13) (gs : List Nat) (hg : ∀ g ∈ gs, 1 ≤ g ∧ g ≤ 5) : ∀ t, CC svC (gs.map (gpC m) ++ R) t = smn (fun w => CC svC R (setc t m w)) (PT (gs.map gd) (colV t m)) := by
  induction gs with
  | nil =>
    intro t
    show CC svC R t = CC svC R (setc t m (colV t m)) + 0
    rw [Nat.add_zero]
    refine CC_congr (fun _ _ _ _ => rfl) fun k hk => ?_
    unfold setc
    split
    · rename_i e
      unfold colV
      rw [at_mk4 _ _ (by omega), show 13 * (k / 13) + m = k by omega]
    · rfl
  | cons g gs ih =>
    intro t
    obtain ⟨h1, h5⟩ := hg g List.mem_cons_self
    have ih' := ih fun g hg' => hg g (List.mem_cons_of_mem _ hg')
    have sbw : ∀ t l, smn (fun w => CC svC R (setc (sbV t (svC (gpC m g))) m w)) l = smn (fun w => CC svC R (setc t m w)) l := fun t l => smn_congr fun w _ => CC_congr (fun _ _ _ _ => rfl) fun k _ => setc_sb hm h1 h5 w k
    show tV (svC (gpC m g)) (CC svC (gs.map (gpC m) ++ R)) t = _
    unfold tV
    rw [← gV_gV]
    have g1 : ∀ t, gV (svC (gpC m g)) (CC svC (gs.map (gpC m) ++ R)) t = smn (fun w => CC svC R (setc t m w)) (if fit4 (colV t m) (gd g) then PT (gs.map gd) (sub4 (colV t m) (gd g)) else []) := fun t => by
      unfold gV
      rw [leV_gp hm h1 h5]
      split
      · rw [ih', colV_sb hm h1 h5, sbw]
      · rfl
    have g2 : gV (svC (gpC m g)) (gV (svC (gpC m g)) (CC svC (gs.map (gpC m) ++ R))) t = smn (fun w => CC svC R (setc t m w)) (if fit4 (colV t m) (gd g) then (if fit4 (sub4 (colV t m) (gd g)) (gd g) then PT (gs.map gd) (sub4 (sub4 (colV t m) (gd g)) (gd g)) else []) else []) := by
      have : ∀ h : (Nat → Nat) → Nat, gV (svC (gpC m g)) h t = if fit4 (colV t m) (gd g) then h (sbV t (svC (gpC m g))) else 0 := fun h => by unfold gV; rw [leV_gp hm h1 h5]
      rw [this]
      split
      · rw [g1, colV_sb hm h1 h5, sbw]
      · rfl
    rw [ih', g1, g2, List.map_cons]
    simp only [PT]
    rw [smn_app]
    split
    · rw [smn_app]
      omega
    · simp only [smn]
theorem fPT : ∀ v ∈ all4, (PT ([1, 2, 3, 4, 5].map gd) v).Perm (((List.range 21).filter fun p => fit4 v (usG p)).map fun p => sub4 v (usG p)) := by decide +kernel
theorem smn_filter {α : Type} (f : α → Nat) (p : α → Bool) (l : List α) : smn f (l.filter p) = smn (fun a => if p a then f a else 0) l := by
  induction l with
  | nil => rfl
  | cons x l ih =>
    rw [List.filter_cons]
    simp only [smn]
    by_cases h : p x = true
    · rw [if_pos h, if_pos h]
      simp only [smn, ih]
    · rw [if_neg h, if_neg h, ih, Nat.zero_add]
/-- a number's groups are taken away -/
def scV (t : Nat → Nat) (n p : Nat) : Nat → Nat := setc t n (sub4 (colV t n) (usG p))
theorem scV_at (t : Nat → Nat) {n p k : Nat} (hk : k < 52) : scV t n p k = if k % 13 = n then t k - at4 (usG p) (k / 13) else t k := by
  unfold scV setc
  split
  · rename_i e
    rw [at_sub4 _ _ _ (by omega)]
    unfold colV
    rw [at_mk4 _ _ (by omega), show 13 * (k / 13) + n = k by omega]
  · rfl
theorem scV_le {t : Nat → Nat} (h2 : ∀ k, k < 52 → t k ≤ 2) (n p : Nat) : ∀ k, k < 52 → scV t n p k ≤ 2 := fun k hk => by
  rw [scV_at t hk]
  have := h2 k hk
  split <;> omega
theorem colV_le {t : Nat → Nat} (h2 : ∀ k, k < 52 → t k ≤ 2) {n : Nat} (hn : n < 13) : le4 (colV t n) := le4_iff.mpr fun c hc => by
  unfold colV
  rw [at_mk4 _ c hc]
  exact h2 _ (by omega)
def GS : Nat → Nat → (Nat → Nat) → ((Nat → Nat) → Nat) → Nat
  | 0, _, t, F => F t
  | d + 1, n, t, F => smn (fun p => if fit4 (colV t n) (usG p) then GS d (n + 1) (scV t n p) F else 0) (List.range 21)
theorem CC_GS {R : List Nat} (d : Nat) (hd : d ≤ 13) : ∀ t, (∀ k, k < 52 → t k ≤ 2) → CC svC (gpF d ++ R) t = GS d (13 - d) t (CC svC R) := by
  induction d with
  | zero => intro t _; rfl
  | succ d ih =>
    intro t h2
    have e : gpF (d + 1) ++ R = [1, 2, 3, 4, 5].map (gpC (12 - d)) ++ (gpF d ++ R) := by
      show (gpL (12 - d) ++ gpF d) ++ R = _
      rw [List.append_assoc]
      rfl
    rw [e, grp_PT (by omega) [1, 2, 3, 4, 5] (by
      intro g hg
      simp only [List.mem_cons, List.not_mem_nil, or_false] at hg
      omega), smn_perm _ (fPT _ (all4_in (colV_le h2 (by omega)))), smn_map, smn_filter, show 13 - (d + 1) = 12 - d by omega]
    show _ = smn (fun p => if fit4 (colV t (12 - d)) (usG p) then GS d (12 - d + 1) (scV t (12 - d) p) (CC svC R) else 0) (List.range 21)
    refine smn_congr fun p _ => ?_
    split
    · have := ih (by omega) (scV t (12 - d) p) (scV_le h2 _ _)
      rw [show 13 - d = 12 - d + 1 by omega] at this
      exact this
    · rfl
/-- what the worth is asked of: rows alike from a number on, and as they were ahead of it -/
theorem GS_congr (d : Nat) : ∀ (n : Nat) (t t' : Nat → Nat) (F F' : (Nat → Nat) → Nat), n + d ≤ 13 → (∀ k, k < 52 → t k ≤ 2) → (∀ k, k < 52 → n ≤ k % 13 → t k = t' k) → (∀ u u', (∀ k, k < 52 → u k ≤ 2) → (∀ k, k < 52 → n ≤ k % 13 → u k = u' k) → (∀ k, k < 52 → k % 13 < n → u' k = t' k) → (∀ k, k < 52 → n + d ≤ k % 13 → u k = t k) → (∀ k, k < 52 → k % 13 < n → u k = t k) → F u = F' u') → GS d n t F = GS d n t' F' := by
  induction d with
  | zero =>
    intro n t t' F F' _ h2 h hF
    exact hF t t' h2 h (fun _ _ _ => rfl) (fun _ _ _ => rfl) (fun _ _ _ => rfl)
  | succ d ih =>
    intro n t t' F F' hn h2 h hF
    have hcol : colV t n = colV t' n := v4_ext fun c hc => by
      unfold colV
      rw [at_mk4 _ c hc, at_mk4 _ c hc]
      exact h _ (by omega) (by omega)
    show smn (fun p => if fit4 (colV t n) (usG p) then GS d (n + 1) (scV t n p) F else 0) (List.range 21) = smn (fun p => if fit4 (colV t' n) (usG p) then GS d (n + 1) (scV t' n p) F' else 0) (List.range 21)
    rw [hcol]
    refine smn_congr fun p _ => ?_
    split
    · refine ih (n + 1) _ _ F F' (by omega) (scV_le h2 n p) (fun k hk hnk => ?_) (fun u u' q0 q1 q2 q3 q4 => hF u u' q0 ?_ ?_ ?_ ?_)
      · rw [scV_at t hk, scV_at t' hk, if_neg (by omega), if_neg (by omega)]
        exact h k hk (by omega)
      · intro k hk hnk
        by_cases e : k % 13 = n
        · rw [q2 k hk (by omega), q4 k hk (by omega), scV_at t hk, scV_at t' hk, if_pos e, if_pos e, h k hk (by omega)]
        · exact q1 k hk (by omega)
      · intro k hk hnk
        rw [q2 k hk (by omega), scV_at t' hk, if_neg (by omega)]
      · intro k hk hnk
        rw [q3 k hk (by omega), scV_at t hk, if_neg (by omega)]
      · intro k hk hnk
        rw [q4 k hk (by omega), scV_at t hk, if_neg (by omega)]
    · rfl
theorem GS_add (F G : (Nat → Nat) → Nat) (d : Nat) : ∀ n t, GS d n t (fun u => F u + G u) = GS d n t F + GS d n t G := by
  induction d with
  | zero => intro n t; rfl
  | succ d ih =>
    intro n t
    show smn (fun p => if fit4 (colV t n) (usG p) then GS d (n + 1) (scV t n p) (fun u => F u + G u) else 0) (List.range 21) = smn (fun p => if fit4 (colV t n) (usG p) then GS d (n + 1) (scV t n p) F else 0) (List.range 21) + smn (fun p => if fit4 (colV t n) (usG p) then GS d (n + 1) (scV t n p) G else 0) (List.range 21)
    rw [← smn_add]
    refine smn_congr fun p _ => ?_
    split
    · exact ih _ _
    · rfl
theorem GS_zero (d : Nat) : ∀ n t, GS d n t (fun _ => 0) = 0 := by
  induction d with
  | zero => intro n t; rfl
  | succ d ih =>
    intro n t
    refine smn_zero fun p _ => ?_
    split
    · exact ih _ _
    · rfl
theorem GS_smn {α : Type} (F : α → (Nat → Nat) → Nat) (l : List α) (d n : Nat) (t : Nat → Nat) : smn (fun o => GS d n t (F o)) l = GS d n t (fun u => smn (fun o => F o u) l) := by
  induction l with
  | nil => exact (GS_zero d n t).symm
  | cons x l ih =>
    show GS d n t (F x) + smn (fun o => GS d n t (F o)) l = GS d n t (fun u => F x u + smn (fun o => F o u) l)
    rw [ih, GS_add]
theorem GS_app (F : (Nat → Nat) → Nat) (a b : Nat) : ∀ n t, GS (a + b) n t F = GS a n t (fun u => GS b (n + a) u F) := by
  induction a with
  | zero => intro n t; rw [Nat.zero_add]; rfl
  | succ a ih =>
    intro n t
    rw [show a + 1 + b = (a + b) + 1 by omega]
    show smn (fun p => if fit4 (colV t n) (usG p) then GS (a + b) (n + 1) (scV t n p) F else 0) (List.range 21) = smn (fun p => if fit4 (colV t n) (usG p) then GS a (n + 1) (scV t n p) (fun u => GS b (n + (a + 1)) u F) else 0) (List.range 21)
    refine smn_congr fun p _ => ?_
    rw [ih, show n + 1 + a = n + (a + 1) by omega]
theorem fit0u : ∀ p, p < 21 → (fit4 (0, 0, 0, 0) (usG p) = true ↔ p = 0) := by decide +kernel
/-- numbers without tiles -/
theorem GS_none (F : (Nat → Nat) → Nat) (hF : ∀ u v, (∀ k, k < 52 → u k = v k) → F u = F v) (d : Nat) : ∀ n t, n + d ≤ 13 → (∀ k, k < 52 → n ≤ k % 13 → t k = 0) → GS d n t F = F t := by
  induction d with
  | zero => intro n t _ _; rfl
  | succ d ih =>
    intro n t hn h0
    have hcol : colV t n = (0, 0, 0, 0) := v4_ext fun c hc => by
      unfold colV
      rw [at_mk4 _ c hc, at40 c hc]
      exact h0 _ (by omega) (by omega)
    show smn (fun p => if fit4 (colV t n) (usG p) then GS d (n + 1) (scV t n p) F else 0) (List.range 21) = F t
    rw [hcol, show List.range 21 = 0 :: (List.range 20).map (· + 1) from rfl]
    simp only [smn]
    rw [if_pos ((fit0u 0 (by decide)).mpr rfl), smn_map, smn_zero (fun p hp => by rw [if_neg (fun q => by have := (fit0u (p + 1) (by have := List.mem_range.mp hp; omega)).mp q; omega)]), Nat.add_zero]
    have e : ∀ k, k < 52 → scV t n 0 k = t k := fun k hk => by
      rw [scV_at t hk, show usG 0 = (0, 0, 0, 0) from rfl]
      split
      · rw [at40 _ (by omega)]; rfl
      · rfl
    rw [ih (n + 1) _ (by omega) (fun k hk hnk => by rw [e k hk]; exact h0 k hk (by omega))]
    exact hF _ _ e
/-- ways through the reference's states, counted whole -/
def NR (L : Nat) (bs : Nat → Nat) : Nat → Nat → Nat → Nat
  | 0, _, k => if doneM L k 4 then 1 else 0
  | d + 1, n, k => smn (fun g => if fiM (fun c => bs (13 * c + n)) (fun _ => 0) (usG g) 4 then smn (fun o => NR L bs d (n + 1) o.1) (emM L k (ruM (fun c => bs (13 * c + n)) (fun _ => 0) (usG g)) (usN g)) else 0) (List.range 21)
theorem sm_smn {α : Type} {v : Nat} {f : α → Option N3} {g : α → Nat} (l : List α) (h : ∀ a ∈ l, (f a = none ↔ g a = 0) ∧ ∀ w, f a = some w → w.1 = (v * g a) % 1000000007) : (sm m2 f l = none ↔ smn g l = 0) ∧ ∀ w, sm m2 f l = some w → w.1 = (v * smn g l) % 1000000007 := by
  induction l with
  | nil => exact ⟨⟨fun _ => rfl, fun _ => rfl⟩, fun w hw => absurd hw (by simp [sm])⟩
  | cons x l ih =>
    obtain ⟨i1, i2⟩ := ih fun a ha => h a (List.mem_cons_of_mem _ ha)
    obtain ⟨h1, h2⟩ := h x List.mem_cons_self
    simp only [sm, smn]
    cases hf : f x with
    | none =>
      have z := h1.mp hf
      rw [z, Nat.zero_add]
      cases hs : sm m2 f l with
      | none => exact ⟨⟨fun _ => i1.mp hs, fun _ => rfl⟩, fun w hw => absurd hw (by simp [opO])⟩
      | some y =>
        refine ⟨⟨fun q => absurd q (by simp [opO]), fun q => by rw [i1.mpr q] at hs; cases hs⟩, fun w hw => ?_⟩
        exact i2 w (hs.trans (by simpa [opO] using hw))
    | some y =>
      have gx : g x ≠ 0 := fun q => by rw [h1.mpr q] at hf; cases hf
      cases hs : sm m2 f l with
      | none =>
        have z := i1.mp hs
        rw [z, Nat.add_zero]
        refine ⟨⟨fun q => absurd q (by simp [opO]), fun q => absurd q gx⟩, fun w hw => ?_⟩
        exact h2 w (hf.trans (by simpa [opO] using hw))
      | some z =>
        refine ⟨⟨fun q => absurd q (by simp [opO]), fun q => absurd q (by omega)⟩, fun w hw => ?_⟩
        have e1 := h2 y hf
        have e2 := i2 z hs
        have ew : w = m2 y z := by simpa [opO] using hw.symm
        rw [ew]
        show (y.1 + z.1) % 1000000007 = _
        rw [e1, e2, ← Nat.add_mod, Nat.mul_add]
theorem FR_NR {L : Nat} {bs : Nat → Nat} (d : Nat) : ∀ n k v, v.1 < 1000000007 → (FR L bs d n (k, v) = none ↔ NR L bs d n k = 0) ∧ ∀ w, FR L bs d n (k, v) = some w → w.1 = (v.1 * NR L bs d n k) % 1000000007 := by
  induction d with
  | zero =>
    intro n k v hv
    show ((if doneM L k 4 then some v else none) = none ↔ (if doneM L k 4 then 1 else 0) = 0) ∧ ∀ w, (if doneM L k 4 then some v else none) = some w → w.1 = (v.1 * (if doneM L k 4 then 1 else 0)) % 1000000007
    split
    · refine ⟨⟨fun q => absurd q (by simp), fun q => absurd q (by decide)⟩, fun w hw => ?_⟩
      cases hw
      rw [Nat.mul_one, Nat.mod_eq_of_lt hv]
    · exact ⟨⟨fun _ => rfl, fun _ => rfl⟩, fun w hw => absurd hw (by simp)⟩
  | succ d ih =>
    intro n k v hv
    show (sm m2 (FR L bs d (n + 1)) (reC L n bs (k, v)) = none ↔ _) ∧ ∀ w, sm m2 (FR L bs d (n + 1)) (reC L n bs (k, v)) = some w → _
    unfold reC
    rw [sm_flatMap m2_CA]
    refine sm_smn (v := v.1) (List.range 21) fun g _ => ?_
    unfold rgC
    split
    · rw [sm_map]
      exact sm_smn (v := v.1) _ fun o _ => ih (n + 1) o.1 (agN o.2 v) hv
    · exact ⟨⟨fun _ => rfl, fun _ => rfl⟩, fun w hw => absurd hw (by simp [sm])⟩
/-- ways of four colours -/
def P4 (L k n d : Nat) (u : Nat → Nat) : Nat := PR L (nib k 0) (colL 0 n d u) * PR L (nib k 1) (colL 1 n d u) * PR L (nib k 2) (colL 2 n d u) * PR L (nib k 3) (colL 3 n d u)
theorem smn_em {L k g : Nat} {ru : Nat → Nat} (f0 f1 f2 f3 : Nat → Nat) (hL : L = 3 ∨ L = 4) (F : Nat → Nat) (hF : ∀ a b c d, a < 16 → b < 16 → c < 16 → d < 16 → F (pk4 a b c d) = f0 a * f1 b * f2 c * f3 d) : smn (fun o => F o.1) (emM L k ru g) = smn (fun o => f0 o.1) (optsM L (nib k 0) (ru 0)) * smn (fun o => f1 o.1) (optsM L (nib k 1) (ru 1)) * smn (fun o => f2 o.1) (optsM L (nib k 2) (ru 2)) * smn (fun o => f3 o.1) (optsM L (nib k 3) (ru 3)) := by
  unfold emM e0M e1M e2M e3M sgM
  rw [smn_flatMap, Nat.mul_assoc, Nat.mul_assoc, ← smn_mulr]
  refine smn_congr fun o0 h0 => ?_
  rw [smn_flatMap, ← smn_mulr, ← smn_mul]
  refine smn_congr fun o1 h1 => ?_
  rw [smn_flatMap, ← smn_mulr, ← smn_mul, ← smn_mul]
  refine smn_congr fun o2 h2 => ?_
  rw [smn_map, ← smn_mul, ← smn_mul, ← smn_mul]
  refine smn_congr fun o3 h3 => ?_
  have := hF o0.1 o1.1 o2.1 o3.1 (optsM_lt hL o0 h0) (optsM_lt hL o1 h1) (optsM_lt hL o2 h2) (optsM_lt hL o3 h3)
  rw [Nat.mul_assoc, Nat.mul_assoc] at this
  exact this
theorem NR_GS {L : Nat} {bs : Nat → Nat} (hL : L = 3 ∨ L = 4) (h2 : ∀ k, k < 52 → bs k ≤ 2) (d : Nat) : ∀ n k, n + d ≤ 13 → NR L bs d n k = GS d n bs (P4 L k n d) := by
  induction d with
  | zero =>
    intro n k _
    show (if doneM L k 4 then 1 else 0) = PR L (nib k 0) [] * PR L (nib k 1) [] * PR L (nib k 2) [] * PR L (nib k 3) []
    have hp : ∀ s, PR L s [] = if dnM L s then 1 else 0 := fun s => rfl
    rw [hp, hp, hp, hp]
    have hd : doneM L k 4 = (dnM L (nib k 0) && dnM L (nib k 1) && dnM L (nib k 2) && dnM L (nib k 3)) := by
      rw [Bool.eq_iff_iff, doneM_iff]
      simp only [Bool.and_eq_true]
      exact ⟨fun q => ⟨⟨⟨q 0 (by decide), q 1 (by decide)⟩, q 2 (by decide)⟩, q 3 (by decide)⟩, fun ⟨⟨⟨a, b⟩, c⟩, e⟩ => c4 a b c e⟩
    rw [hd]
    cases dnM L (nib k 0) <;> cases dnM L (nib k 1) <;> cases dnM L (nib k 2) <;> cases dnM L (nib k 3) <;> rfl
  | succ d ih =>
    intro n k hn
    show smn (fun g => if fiM (fun c => bs (13 * c + n)) (fun _ => 0) (usG g) 4 then smn (fun o => NR L bs d (n + 1) o.1) (emM L k (ruM (fun c => bs (13 * c + n)) (fun _ => 0) (usG g)) (usN g)) else 0) (List.range 21) = smn (fun p => if fit4 (colV bs n) (usG p) then GS d (n + 1) (scV bs n p) (P4 L k n (d + 1)) else 0) (List.range 21)
    refine smn_congr fun g _ => ?_
    have hfit : (fiM (fun c => bs (13 * c + n)) (fun _ => 0) (usG g) 4 = true) = (fit4 (colV bs n) (usG g) = true) := by
      refine propext ?_
      rw [fit4_iff, fiM_iff]
      unfold colV
      exact ⟨fun q c hc => by rw [at_mk4 _ c hc]; have := q c hc; omega, fun q c hc => by have := q c hc; rw [at_mk4 _ c hc] at this; omega⟩
    simp only [hfit]
    split
    · have e1 : smn (fun o => NR L bs d (n + 1) o.1) (emM L k (ruM (fun c => bs (13 * c + n)) (fun _ => 0) (usG g)) (usN g)) = GS d (n + 1) bs (fun u => smn (fun o => P4 L o.1 (n + 1) d u) (emM L k (ruM (fun c => bs (13 * c + n)) (fun _ => 0) (usG g)) (usN g))) := by
        rw [← GS_smn]
        exact smn_congr fun o _ => ih (n + 1) o.1 (by omega)
      rw [e1]
      refine GS_congr d (n + 1) bs (scV bs n g) _ _ (by omega) h2 (fun k hk hnk => by rw [scV_at bs hk, if_neg (by omega)]) (fun u u' q0 q1 q2 q3 q4 => ?_)
      have hcol : ∀ c, c < 4 → colL c n (d + 1) u' = ruM (fun c => bs (13 * c + n)) (fun _ => 0) (usG g) c :: colL c (n + 1) d u := fun c hc => by
        rw [colL_s, q2 (13 * c + n) (by omega) (by omega), scV_at bs (by omega), if_pos (by omega), show (13 * c + n) / 13 = c by omega]
        congr 1
        exact (colL_congr fun m h1 hm2 => q1 _ (by omega) (by omega)).symm
      unfold P4
      rw [hcol 0 (by decide), hcol 1 (by decide), hcol 2 (by decide), hcol 3 (by decide)]
      exact smn_em (fun a => PR L a (colL 0 (n + 1) d u)) (fun a => PR L a (colL 1 (n + 1) d u)) (fun a => PR L a (colL 2 (n + 1) d u)) (fun a => PR L a (colL 3 (n + 1) d u)) hL (fun k => PR L (nib k 0) (colL 0 (n + 1) d u) * PR L (nib k 1) (colL 1 (n + 1) d u) * PR L (nib k 2) (colL 2 (n + 1) d u) * PR L (nib k 3) (colL 3 (n + 1) d u)) (fun a b c e ha hb hc he => by
        obtain ⟨k1, k2, k3, k4, k5⟩ := nib_pk ha hb hc he
        rw [k2, k3, k4, k5])
    · rfl
