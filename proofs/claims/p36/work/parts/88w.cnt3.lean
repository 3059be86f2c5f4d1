/-! counting: what a state is worth to the end -/
def FR (L : Nat) (bs : Nat → Nat) : Nat → Nat → Nat × N3 → Option N3
  | 0, _, p => if doneM L p.1 4 then some p.2 else none
  | d + 1, n, p => sm m2 (FR L bs d (n + 1)) (reC L n bs p)
def FC (L hh : Nat) (lo : Nat → Nat) : Nat → Nat → Nat × N3 → Option N3
  | 0, _, p => some p.2
  | d + 1, n, p => sm m2 (FC L hh lo d (n + 1)) (clC L hh n lo p)
theorem FR_add (L : Nat) (bs : Nat → Nat) (d n : Nat) : Addt m2 m2 (FR L bs d n) := by
  induction d generalizing n with
  | zero =>
    intro k v w
    simp only [FR]
    split <;> rfl
  | succ d ih =>
    intro k v w
    simp only [FR]
    unfold reC
    rw [sm_flatMap m2_CA, sm_flatMap m2_CA, sm_flatMap m2_CA, ← sm_op m2_CA]
    refine sm_congr fun g _ => ?_
    unfold rgC
    split
    · rw [sm_map, sm_map, sm_map, ← sm_op m2_CA]
      refine sm_congr fun o _ => ?_
      dsimp only
      rw [agN_m2]
      exact ih (n + 1) _ _ _
    · rfl
theorem FR_step (L : Nat) (bs : Nat → Nat) (d n : Nat) : sm m2 (FR L bs d (n + 1)) (reN L bs (n + 1)) = sm m2 (FR L bs (d + 1) n) (reN L bs n) := by
  show sm m2 (FR L bs d (n + 1)) (mrg m2 [] ((reN L bs n).flatMap (reC L n bs))) = _
  rw [sm_mrg m2_CA (FR_add L bs d (n + 1)) (l := []) List.nodup_nil, sm_flatMap m2_CA]
  rfl
theorem FR_total (L : Nat) (bs : Nat → Nat) (d n : Nat) : sm m2 (FR L bs d n) (reN L bs n) = FR L bs (d + n) 0 (0, (1, 0, 0)) := by
  induction n generalizing d with
  | zero =>
    show opO m2 (FR L bs d 0 (0, (1, 0, 0))) none = _
    rw [opO_none]
    rfl
  | succ n ih =>
    rw [FR_step, ih]
    congr 1
    omega
theorem acN_m2 (z : Int32) (s : Nat) (v w : N3) : acN z s (m2 v w) = m2 (acN z s v) (acN z s w) := by
  unfold acN m2
  dsimp only
  rw [Nat.add_min_add_right, Nat.add_max_add_right, Nat.mod_mul_mod, ← Nat.add_mod, Nat.add_mul]
theorem FC_add (L hh : Nat) (lo : Nat → Nat) (d n : Nat) : Addt m2 m2 (FC L hh lo d n) := by
  induction d generalizing n with
  | zero =>
    intro k v w
    rfl
  | succ d ih =>
    intro k v w
    simp only [FC]
    unfold clC
    rw [sm_flatMap m2_CA, sm_flatMap m2_CA, sm_flatMap m2_CA, ← sm_op m2_CA]
    refine sm_congr fun g _ => ?_
    unfold cgC
    split
    · rw [sm_map, sm_map, sm_map, ← sm_op m2_CA]
      refine sm_congr fun o _ => ?_
      dsimp only
      rw [acN_m2]
      exact ih (n + 1) _ _ _
    · rfl
theorem FC_total (L hh : Nat) (lo : Nat → Nat) (d n : Nat) : sm m2 (FC L hh lo d n) (clN L hh lo n) = FC L hh lo (d + n) 0 (0, (1, 0, 0)) := by
  induction n generalizing d with
  | zero =>
    show opO m2 (FC L hh lo d 0 (0, (1, 0, 0))) none = _
    rw [opO_none]
    rfl
  | succ n ih =>
    have e : sm m2 (FC L hh lo d (n + 1)) (clN L hh lo (n + 1)) = sm m2 (FC L hh lo (d + 1) n) (clN L hh lo n) := by
      show sm m2 (FC L hh lo d (n + 1)) (mrg m2 [] ((clN L hh lo n).flatMap (clC L hh n lo))) = _
      rw [sm_mrg m2_CA (FC_add L hh lo d (n + 1)) (l := []) List.nodup_nil, sm_flatMap m2_CA]
      rfl
    rw [e, ih]
    congr 1
    omega
theorem boM_ph {L N : Nat} (hN : N ≤ 20) (bs : Nat → Nat) (l : List (Nat × N3)) : (∀ p ∈ l, bdN N p.2) → boM false L (l.map fun p => (p.1, phR p.2)) = (sm m2 (FR L bs 0 N) l).map phR ∧ ∀ v, sm m2 (FR L bs 0 N) l = some v → bdN N v := by
  refine snoc_ind (P := fun l => (∀ p ∈ l, bdN N p.2) → boM false L (l.map fun p => (p.1, phR p.2)) = (sm m2 (FR L bs 0 N) l).map phR ∧ ∀ v, sm m2 (FR L bs 0 N) l = some v → bdN N v) (fun _ => ⟨rfl, fun v hv => absurd hv (by simp [sm])⟩) ?_ l
  intro l a ih hb
  obtain ⟨h1, h2⟩ := ih fun p hp => hb p (List.mem_append_left _ hp)
  have ha := hb a (by simp)
  rw [List.map_append, List.map_cons, List.map_nil, boM_snoc, h1, sm_append m2_CA]
  have e1 : sm m2 (FR L bs 0 N) [a] = if doneM L a.1 4 then some a.2 else none := by
    show opO m2 (FR L bs 0 N a) none = _
    rw [opO_none]
    rfl
  rw [e1]
  unfold boS
  dsimp only
  cases hs : sm m2 (FR L bs 0 N) l with
  | none =>
    by_cases hd : doneM L a.1 4 = true
    · rw [if_pos hd, if_pos hd]
      refine ⟨rfl, fun v hv => ?_⟩
      cases hv
      exact ha
    · rw [if_neg hd, if_neg hd]
      exact ⟨rfl, fun v hv => absurd hv (by simp [opO])⟩
  | some x =>
    have hx := h2 x hs
    by_cases hd : doneM L a.1 4 = true
    · rw [if_pos hd, if_pos hd]
      refine ⟨?_, fun v hv => ?_⟩
      · show some (mgM false (phR x) (phR a.2)) = some (phR (m2 x a.2))
        rw [mgM_ph hN hx ha]
      · cases hv
        exact bdN_m2 hx ha
    · rw [if_neg hd, if_neg hd, opO_none]
      refine ⟨rfl, fun v hv => ?_⟩
      cases hv
      exact hx
/-- the reference's answer -/
def cntR (L N : Nat) (bs : Nat → Nat) : Option N3 := FR L bs N 0 (0, (1, 0, 0))
theorem rs_cnt {L N : Nat} {bs ex : Nat → Nat} {bw : Bool} (h2 : ∀ k, bs k ≤ 2) (hN : N ≤ 13) : rsM false bw L N bs ex = (cntR L N bs).map phR ∧ ∀ v, cntR L N bs = some v → bdN N v := by
  unfold rsM cntR
  rw [reL_ph h2 (by omega)]
  have h := boM_ph (L := L) (N := N) (by omega) bs (reN L bs N) (reN_bd h2 N)
  rw [FR_total, Nat.zero_add] at h
  exact h
/-- so many times doubled -/
def TN : Nat → Option N3 → Option N3
  | 0, x => x
  | t + 1, x => opO m2 (TN t x) (TN t x)
theorem TN_none (t : Nat) : TN t none = none := by
  induction t with
  | zero => rfl
  | succ t ih => simp only [TN, ih]; rfl
theorem TN_add (a b : Nat) (x : Option N3) : TN (a + b) x = TN a (TN b x) := by
  induction a with
  | zero => rw [Nat.zero_add]; rfl
  | succ a ih => rw [show a + 1 + b = (a + b) + 1 by omega]; simp only [TN, ih]
theorem TN_sm {α : Type} (t : Nat) (f : α → Option N3) (l : List α) : TN t (sm m2 f l) = sm m2 (fun a => TN t (f a)) l := by
  induction t with
  | zero => rfl
  | succ t ih => simp only [TN, ih]; rw [← sm_op m2_CA]
theorem F_dbl {F : Nat × N3 → Option N3} (hF : Addt m2 m2 F) (k t : Nat) (w : N3) (hw : w.1 < 1000000007) : F (k, ((w.1 * 2 ^ t) % 1000000007, w.2.1, w.2.2)) = TN t (F (k, w)) := by
  induction t with
  | zero =>
    rw [Nat.pow_zero, Nat.mul_one, Nat.mod_eq_of_lt hw]
    rfl
  | succ t ih =>
    simp only [TN]
    rw [← ih, ← hF]
    congr 2
    unfold m2
    dsimp only
    rw [Nat.min_self, Nat.max_self, ← Nat.add_mod, Nat.pow_succ, ← Nat.mul_assoc]
    congr 2
    omega
theorem F_ac {F : Nat × N3 → Option N3} (hF : Addt m2 m2 F) (k s : Nat) (z : Int32) (v : N3) (hv : v.1 < 1000000007) : F (k, acN z s v) = TN (tw1 z) (F (k, agN (bg1 z + s) v)) := F_dbl hF k (tw1 z) (agN (bg1 z + s) v) hv
theorem sm_rep {α : Type} (f : α → Option N3) (a : α) {t : Nat} (ht : t ≤ 1) : sm m2 f (List.replicate (1 + t) a) = TN t (f a) := by
  have : t = 0 ∨ t = 1 := by omega
  rcases this with rfl | rfl
  · show opO m2 (f a) none = f a
    rw [opO_none]
  · show opO m2 (f a) (opO m2 (f a) none) = opO m2 (f a) (f a)
    rw [opO_none]
theorem sm_opts {L d r : Nat} (hL : L = 3 ∨ L = 4) (hd : d < 16) (hv : valC L d = true) (hr : r ≤ 2) (h : Nat × Nat → Option N3) : sm m2 h (optsM L (kap d) r) = sm m2 (fun z => TN (tw1 z) (h (kap (nb z), bg1 z))) (csW (tbM L 2) d r) := by
  rw [(fzv L (in01 hL) d (in16 hd) hv r (in3 hr)).2, sm_flatMap m2_CA]
  refine sm_congr fun z hz => ?_
  exact sm_rep h (kap (nb z), bg1 z) (fz L (in01 hL) d (in16 hd) r (in3 hr) z hz).2.1
/-- a sum over the options of four colours -/
theorem sm_emM (F : Nat × N3 → Option N3) (L k s : Nat) (ru : Nat → Nat) (v : N3) : sm m2 F ((emM L k ru s).map fun o => (o.1, agN o.2 v)) = sm m2 (fun o0 => sm m2 (fun o1 => sm m2 (fun o2 => sm m2 (fun o3 => F (pk4 o0.1 o1.1 o2.1 o3.1, agN (s + o0.2 + o1.2 + o2.2 + o3.2) v)) (optsM L (nib k 3) (ru 3))) (optsM L (nib k 2) (ru 2))) (optsM L (nib k 1) (ru 1))) (optsM L (nib k 0) (ru 0)) := by
  unfold emM e0M e1M e2M e3M sgM
  rw [sm_map, sm_flatMap m2_CA]
  refine sm_congr fun o0 _ => ?_
  rw [sm_flatMap m2_CA]
  refine sm_congr fun o1 _ => ?_
  rw [sm_flatMap m2_CA]
  refine sm_congr fun o2 _ => ?_
  rw [sm_map]
  rfl
theorem sm_drop {α : Type} {f : α → Option N3} {p : α → Bool} {l : List α} (h : ∀ a ∈ l, p a = false → f a = none) : sm m2 f (l.filter p) = sm m2 f l := by
  rw [sm_filter]
  refine sm_congr fun a ha => ?_
  cases hp : p a
  · rw [if_neg (by simp), h a ha hp]
  · rw [if_pos rfl]
theorem sm_allnone {α : Type} {f : α → Option N3} {l : List α} (h : ∀ a ∈ l, f a = none) : sm m2 f l = none := by
  rw [sm_congr h]
  exact sm_none m2 l
theorem sm_emW (F : Nat × N3 → Option N3) {tb op : Nat → Int32} {k s : Nat} {r : V4} (hr : le4 r) (v : N3) : sm m2 F ((emW tb op k (cd4 r)).map fun e => (e.1, acN e.2 s v)) = sm m2 (fun z0 => sm m2 (fun z1 => sm m2 (fun z2 => sm m2 (fun z3 => F (kO z0 z1 z2 z3, acN (z0 + z1 + z2 + z3) s v)) ((csW tb (nib k 3) (at4 r 3)).filter (opB (op 3)))) ((csW tb (nib k 2) (at4 r 2)).filter (opB (op 2)))) ((csW tb (nib k 1) (at4 r 1)).filter (opB (op 1)))) ((csW tb (nib k 0) (at4 r 0)).filter (opB (op 0))) := by
  obtain ⟨h0, h1, h2, h3⟩ := aT_nib (k := k) hr
  unfold emW em0 em1 em2 em3 csW
  rw [h0, h1, h2, h3, sm_map, sm_flatMap m2_CA]
  refine sm_congr fun o0 _ => ?_
  rw [sm_flatMap m2_CA]
  refine sm_congr fun o1 _ => ?_
  rw [sm_flatMap m2_CA]
  refine sm_congr fun o2 _ => ?_
  rw [sm_map]
