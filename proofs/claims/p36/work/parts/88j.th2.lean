/-! merged lists: what is in them -/
theorem mrg_app {V : Type} (m : V → V → V) (l C D : List (Nat × V)) : mrg m l (C ++ D) = mrg m (mrg m l C) D := List.foldl_append
theorem foldl_mrg {V α : Type} {m : V → V → V} {f : List (Nat × V) → α → List (Nat × V)} {h : α → List (Nat × V)} (hf : ∀ l a, f l a = mrg m l (h a)) (as : List α) (l : List (Nat × V)) : as.foldl f l = mrg m l (as.flatMap h) := by
  induction as generalizing l with
  | nil => rfl
  | cons a as ih => rw [List.foldl_cons, List.flatMap_cons, mrg_app, ← hf, ih]
theorem ins_sound {V : Type} {m : V → V → V} {P : Nat → V → Prop} (hm : ∀ k v w, P k v → P k w → P k (m v w)) {l : List (Nat × V)} {k : Nat} {v : V} (hl : ∀ p ∈ l, P p.1 p.2) (hv : P k v) : ∀ p ∈ ins m l k v, P p.1 p.2 := by
  intro p hp
  unfold ins at hp
  split at hp
  · obtain ⟨q, hq, rfl⟩ := List.mem_map.mp hp
    split
    · rename_i e
      exact hm _ _ _ (e ▸ hl q hq) hv
    · exact hl q hq
  · rcases List.mem_append.mp hp with h | h
    · exact hl p h
    · rw [List.mem_singleton.mp h]; exact hv
theorem mrg_sound {V : Type} {m : V → V → V} {P : Nat → V → Prop} (hm : ∀ k v w, P k v → P k w → P k (m v w)) {l C : List (Nat × V)} (hl : ∀ p ∈ l, P p.1 p.2) (hC : ∀ p ∈ C, P p.1 p.2) : ∀ p ∈ mrg m l C, P p.1 p.2 := by
  unfold mrg
  induction C generalizing l with
  | nil => exact hl
  | cons c C ih => exact ih (ins_sound hm hl (hC c List.mem_cons_self)) (fun p hp => hC p (List.mem_cons_of_mem _ hp))
theorem ins_old {V : Type} {m : V → V → V} {Q : Nat → V → Prop} (h1 : ∀ k v w, Q k v → Q k (m v w)) {l : List (Nat × V)} {k k2 : Nat} {v v2 : V} (hp : (k, v) ∈ l) (hq : Q k v) : ∃ w, (k, w) ∈ ins m l k2 v2 ∧ Q k w := by
  unfold ins
  split
  · by_cases e : k = k2
    · subst e
      exact ⟨m v v2, List.mem_map.mpr ⟨(k, v), hp, if_pos rfl⟩, h1 _ _ _ hq⟩
    · exact ⟨v, List.mem_map.mpr ⟨(k, v), hp, if_neg e⟩, hq⟩
  · exact ⟨v, List.mem_append_left _ hp, hq⟩
theorem ins_new {V : Type} {m : V → V → V} {Q : Nat → V → Prop} (h2 : ∀ k v w, Q k w → Q k (m v w)) {l : List (Nat × V)} {k : Nat} {v : V} (hq : Q k v) : ∃ w, (k, w) ∈ ins m l k v ∧ Q k w := by
  unfold ins
  split
  · rename_i h
    obtain ⟨p, hp, e⟩ := List.mem_map.mp h
    exact ⟨m p.2 v, List.mem_map.mpr ⟨p, hp, if_pos e⟩, h2 _ _ _ hq⟩
  · exact ⟨v, List.mem_append_right _ List.mem_cons_self, hq⟩
theorem mrg_old {V : Type} {m : V → V → V} {Q : Nat → V → Prop} (h1 : ∀ k v w, Q k v → Q k (m v w)) {l : List (Nat × V)} (C : List (Nat × V)) {k : Nat} {v : V} (hp : (k, v) ∈ l) (hq : Q k v) : ∃ w, (k, w) ∈ mrg m l C ∧ Q k w := by
  unfold mrg
  induction C generalizing l v with
  | nil => exact ⟨v, hp, hq⟩
  | cons c C ih =>
    obtain ⟨w, a, b⟩ := ins_old h1 hp hq (k2 := c.1) (v2 := c.2)
    exact ih a b
theorem mrg_new {V : Type} {m : V → V → V} {Q : Nat → V → Prop} (h1 : ∀ k v w, Q k v → Q k (m v w)) (h2 : ∀ k v w, Q k w → Q k (m v w)) {l C : List (Nat × V)} {k : Nat} {v : V} (hp : (k, v) ∈ C) (hq : Q k v) : ∃ w, (k, w) ∈ mrg m l C ∧ Q k w := by
  induction C generalizing l with
  | nil => exact absurd hp (by simp)
  | cons c C ih =>
    rcases List.mem_cons.mp hp with e | h
    · subst e
      obtain ⟨w, a, b⟩ := ins_new (m := m) h2 (l := l) hq
      exact mrg_old h1 C a b
    · exact ih (l := ins m l c.1 c.2) h
/-- the class: what a state goes on to -/
def acC (md : Nat) (su : Nat → Int32) (v w : Int64 × Int64) (e : Nat × Int32) : List (Nat × Int64 × Int64) := match actW md su (nI e.1) e.2 v w with
  | none => []
  | some u => [(e.1, u)]
def ctW (md : Nat) (tb op su : Nat → Int32) (W : List (Nat × Int64 × Int64)) (p : Nat × Int64 × Int64) : List (Nat × Int64 × Int64) := W.flatMap fun q => (emW tb op p.1 q.1).flatMap (acC md su p.2 q.2)
theorem putW_mrg (md : Nat) (su : Nat → Int32) (v w : Int64 × Int64) (l : List (Nat × Int64 × Int64)) (e : Nat × Int32) : putW md su e.1 e.2 v w l = mrg (mgL md) l (acC md su v w e) := by
  unfold putW acC
  cases actW md su (nI e.1) e.2 v w <;> rfl
theorem numb_mrg (md : Nat) (tb op su : Nat → Int32) (W lh l : List (Nat × Int64 × Int64)) : numb md tb op su W lh l = mrg (mgL md) l (lh.flatMap (ctW md tb op su W)) := by
  unfold numb
  refine foldl_mrg (fun l p => ?_) lh l
  unfold sprd ctW
  refine foldl_mrg (fun l q => ?_) W l
  unfold puts
  exact foldl_mrg (fun l e => putW_mrg md su p.2 q.2 l e) _ l
def gaC (md : Nat) (t : V4) (f s : Int64) (g : Nat) : List (Nat × Int64 × Int64) := if fit4 t (gd g) then [(cd4 (sub4 t (gd g)), (if md = 2 then (nI (setsG g)).toInt64 else f, s))] else []
def woC (md : Nat) (bw : Bool) (n : Nat) (lo m : V4) : List (Nat × Int64 × Int64) := if md = 3 ∧ 1 < m.1 + m.2.1 + m.2.2.1 + m.2.2.2 then [] else (List.range 21).flatMap (gaC md (add4 lo m) (gF md bw n m 4) (gS md n m 4))
def wyC (md : Nat) (bw : Bool) (n : Nat) (lo x : V4) : List (Nat × Int64 × Int64) := (List.range (x.1 + 1)).flatMap fun a => (List.range (x.2.1 + 1)).flatMap fun b => (List.range (x.2.2.1 + 1)).flatMap fun c => (List.range (x.2.2.2 + 1)).flatMap fun d => woC md bw n lo (a, b, c, d)
theorem gwOne_mrg (md : Nat) (bw : Bool) (n : Nat) (lo : V4) (l : List (Nat × Int64 × Int64)) (m : V4) : gwOne md bw n lo l m = mrg (mgW md) l (woC md bw n lo m) := by
  unfold gwOne woC
  split
  · rfl
  · unfold gaL
    refine foldl_mrg (fun l g => ?_) _ l
    unfold gaS gaC
    split <;> rfl
theorem gwL_mrg (md : Nat) (bw : Bool) (n : Nat) (lo x : V4) : gwL md bw n lo x = mrg (mgW md) [] (wyC md bw n lo x) := by
  unfold gwL wyC
  refine foldl_mrg (fun l a => ?_) _ _
  refine foldl_mrg (fun l b => ?_) _ _
  refine foldl_mrg (fun l c => ?_) _ _
  exact foldl_mrg (fun l d => gwOne_mrg md bw n lo l (a, b, c, d)) _ _
theorem wyC_mem {md : Nat} {bw : Bool} {n : Nat} {lo x : V4} {p : Nat × Int64 × Int64} : p ∈ wyC md bw n lo x ↔ ∃ m : V4, (m.1 ≤ x.1 ∧ m.2.1 ≤ x.2.1 ∧ m.2.2.1 ≤ x.2.2.1 ∧ m.2.2.2 ≤ x.2.2.2) ∧ ¬ (md = 3 ∧ 1 < m.1 + m.2.1 + m.2.2.1 + m.2.2.2) ∧ ∃ g, g < 21 ∧ fit4 (add4 lo m) (gd g) = true ∧ p = (cd4 (sub4 (add4 lo m) (gd g)), (if md = 2 then (nI (setsG g)).toInt64 else gF md bw n m 4, gS md n m 4)) := by
  unfold wyC
  simp only [List.mem_flatMap, List.mem_range]
  constructor
  · rintro ⟨a, ha, b, hb, c, hc, d, hd, h⟩
    unfold woC at h
    split at h
    · exact absurd h (by simp)
    · rename_i hn
      obtain ⟨g, hg, h⟩ := List.mem_flatMap.mp h
      unfold gaC at h
      split at h
      · rename_i hf
        exact ⟨(a, b, c, d), ⟨by dsimp only; omega, by dsimp only; omega, by dsimp only; omega, by dsimp only; omega⟩, hn, g, List.mem_range.mp hg, hf, List.mem_singleton.mp h⟩
      · exact absurd h (by simp)
  · rintro ⟨⟨a, b, c, d⟩, ⟨h1, h2, h3, h4⟩, hn, g, hg, hf, rfl⟩
    dsimp only at h1 h2 h3 h4
    refine ⟨a, by omega, b, by omega, c, by omega, d, by omega, ?_⟩
    unfold woC
    rw [if_neg hn]
    refine List.mem_flatMap.mpr ⟨g, List.mem_range.mpr hg, ?_⟩
    unfold gaC
    rw [if_pos hf]
    exact List.mem_cons_self
/-- the reference: what a state goes on to -/
def grC (pl : Bool) (L : Nat) (b e : Nat → Nat) (k : Nat) (v : V3) (p : Nat) : List (Nat × V3) := if fiM b e (usG p) 4 then (emM L k (ruM b e (usG p)) (usN p)).map (fun o => (o.1, vM pl v o.2)) else []
def nuC (pl bw : Bool) (L n : Nat) (bs ex : Nat → Nat) (k : Nat) (v : V3) (w : Nat) : List (Nat × V3) := if caM n ex w 4 then (List.range 21).flatMap (grC pl L (fun c => bs (13 * c + n)) (dgM w) k (vwM pl bw n w v 4)) else []
def stC (pl bw : Bool) (L n : Nat) (bs ex : Nat → Nat) (p : Nat × V3) : List (Nat × V3) := (List.range (if pl then 81 else 1)).flatMap (nuC pl bw L n bs ex p.1 p.2)
theorem putsM_mrg (pl : Bool) (v : V3) (es : List (Nat × Nat)) (l : List (Nat × V3)) : putsM pl v es l = mrg (mgM pl) l (es.map (fun o => (o.1, vM pl v o.2))) := by
  unfold putsM mrg
  rw [List.foldl_map]
theorem stS_mrg (pl bw : Bool) (L n : Nat) (bs ex : Nat → Nat) (l : List (Nat × V3)) (p : Nat × V3) : stS pl bw L n bs ex l p = mrg (mgM pl) l (stC pl bw L n bs ex p) := by
  unfold stS nuM stC
  refine foldl_mrg (fun l w => ?_) _ l
  unfold nuS nuC
  split
  · unfold grM
    refine foldl_mrg (fun l q => ?_) _ l
    unfold grS grC
    split
    · exact putsM_mrg _ _ _ _
    · rfl
  · rfl
theorem reL_mrg (pl bw : Bool) (L : Nat) (bs ex : Nat → Nat) (m : Nat) : reL pl bw L bs ex (m + 1) = mrg (mgM pl) [] ((reL pl bw L bs ex m).flatMap (stC pl bw L m bs ex)) := by
  rw [reL_s]
  exact foldl_mrg (fun l p => stS_mrg pl bw L m bs ex l p) _ _
theorem stC_mem {pl bw : Bool} {L n : Nat} {bs ex : Nat → Nat} {p : Nat × V3} {q : Nat × V3} : q ∈ stC pl bw L n bs ex p ↔ ∃ w, w < (if pl then 81 else 1) ∧ caM n ex w 4 = true ∧ ∃ g, g < 21 ∧ fiM (fun c => bs (13 * c + n)) (dgM w) (usG g) 4 = true ∧ ∃ o ∈ emM L p.1 (ruM (fun c => bs (13 * c + n)) (dgM w) (usG g)) (usN g), q = (o.1, vM pl (vwM pl bw n w p.2 4) o.2) := by
  unfold stC
  rw [List.mem_flatMap]
  constructor
  · rintro ⟨w, hw, h⟩
    unfold nuC at h
    split at h
    · rename_i hc
      obtain ⟨g, hg, h⟩ := List.mem_flatMap.mp h
      unfold grC at h
      split at h
      · rename_i hf
        obtain ⟨o, ho, e⟩ := List.mem_map.mp h
        exact ⟨w, List.mem_range.mp hw, hc, g, List.mem_range.mp hg, hf, o, ho, e.symm⟩
      · exact absurd h (by simp)
    · exact absurd h (by simp)
  · rintro ⟨w, hw, hc, g, hg, hf, o, ho, e⟩
    refine ⟨w, List.mem_range.mpr hw, ?_⟩
    unfold nuC
    rw [if_pos hc]
    refine List.mem_flatMap.mpr ⟨g, List.mem_range.mpr hg, ?_⟩
    unfold grC
    rw [if_pos hf]
    exact List.mem_map.mpr ⟨o, ho, e.symm⟩
/-- the code of a state, colour by colour -/
def nib (k c : Nat) : Nat := k / 16 ^ c % 16
def pk4 (a b c d : Nat) : Nat := a + 16 * b + 256 * c + 4096 * d
theorem nib_pk {a b c d : Nat} (ha : a < 16) (hb : b < 16) (hc : c < 16) (hd : d < 16) : pk4 a b c d < 65536 ∧ nib (pk4 a b c d) 0 = a ∧ nib (pk4 a b c d) 1 = b ∧ nib (pk4 a b c d) 2 = c ∧ nib (pk4 a b c d) 3 = d := by
  unfold pk4 nib
  refine ⟨by omega, ?_, ?_, ?_, ?_⟩ <;> simp <;> omega
theorem nib_lt (k c : Nat) : nib k c < 16 := Nat.mod_lt _ (by decide)
theorem pk_nib {k : Nat} (hk : k < 65536) : pk4 (nib k 0) (nib k 1) (nib k 2) (nib k 3) = k := by
  unfold pk4 nib
  simp
  omega
theorem emM_mem {L k : Nat} {ru : Nat → Nat} {g : Nat} {o : Nat × Nat} : o ∈ emM L k ru g ↔ ∃ o0 ∈ optsM L (nib k 0) (ru 0), ∃ o1 ∈ optsM L (nib k 1) (ru 1), ∃ o2 ∈ optsM L (nib k 2) (ru 2), ∃ o3 ∈ optsM L (nib k 3) (ru 3), o = (pk4 o0.1 o1.1 o2.1 o3.1, g + o0.2 + o1.2 + o2.2 + o3.2) := by
  unfold emM e0M e1M e2M e3M sgM
  simp only [List.mem_flatMap, List.mem_map]
  constructor
  · rintro ⟨a, ha, b, hb, c, hc, d, hd, e⟩
    exact ⟨a, ha, b, hb, c, hc, d, hd, e.symm⟩
  · rintro ⟨a, ha, b, hb, c, hc, d, hd, e⟩
    exact ⟨a, ha, b, hb, c, hc, d, hd, e.symm⟩
/-- the steps of one colour in the class -/
def csW (tb : Nat → Int32) (s r : Nat) : List Int32 := stL tb (16 * s + 4 * r)
theorem aT_nib {k : Nat} {r : V4} (hr : le4 r) : aT k (cd4 r) = 16 * nib k 0 + 4 * at4 r 0 ∧ aT (k / 16) (cd4 r / 16) = 16 * nib k 1 + 4 * at4 r 1 ∧ aT (k / 256) (cd4 r / 256) = 16 * nib k 2 + 4 * at4 r 2 ∧ aT (k / 4096) (cd4 r / 4096) = 16 * nib k 3 + 4 * at4 r 3 := by
  obtain ⟨a, b, c, d⟩ := r
  obtain ⟨h1, h2, h3, h4⟩ := hr
  dsimp only at h1 h2 h3 h4
  rw [at4_0, at4_1, at4_2, at4_3]
  unfold aT nib cd4
  dsimp only
  refine ⟨?_, ?_, ?_, ?_⟩ <;> simp <;> omega
theorem kO_pk (a b c d : Int32) : kO a b c d = pk4 (nb a) (nb b) (nb c) (nb d) := rfl
theorem emW_mem {tb op : Nat → Int32} {k : Nat} {r : V4} (hr : le4 r) {e : Nat × Int32} : e ∈ emW tb op k (cd4 r) ↔ ∃ s0, (s0 ∈ csW tb (nib k 0) (at4 r 0) ∧ opB (op 0) s0 = true) ∧ ∃ s1, (s1 ∈ csW tb (nib k 1) (at4 r 1) ∧ opB (op 1) s1 = true) ∧ ∃ s2, (s2 ∈ csW tb (nib k 2) (at4 r 2) ∧ opB (op 2) s2 = true) ∧ ∃ s3, (s3 ∈ csW tb (nib k 3) (at4 r 3) ∧ opB (op 3) s3 = true) ∧ e = (kO s0 s1 s2 s3, s0 + s1 + s2 + s3) := by
  obtain ⟨h0, h1, h2, h3⟩ := aT_nib (k := k) hr
  unfold emW em0 em1 em2 em3 csW
  rw [h0, h1, h2, h3]
  simp only [List.mem_flatMap, List.mem_map, List.mem_filter]
  constructor
  · rintro ⟨a, ha, b, hb, c, hc, d, hd, e⟩
    exact ⟨a, ha, b, hb, c, hc, d, hd, e.symm⟩
  · rintro ⟨a, ha, b, hb, c, hc, d, hd, e⟩
    exact ⟨a, ha, b, hb, c, hc, d, hd, e.symm⟩
