/-! sums of what may be nothing; merged layers -/
def opO {V : Type} (m : V → V → V) : Option V → Option V → Option V
  | none, y => y
  | some x, none => some x
  | some x, some y => some (m x y)
/-- commutative and associative -/
def CA {V : Type} (m : V → V → V) : Prop := (∀ a b, m a b = m b a) ∧ ∀ a b c, m (m a b) c = m a (m b c)
theorem opO_none {V : Type} (m : V → V → V) (x : Option V) : opO m x none = x := by cases x <;> rfl
theorem opO_comm {V : Type} {m : V → V → V} (h : CA m) (x y : Option V) : opO m x y = opO m y x := by
  cases x <;> cases y <;> simp only [opO]
  rw [h.1]
theorem opO_assoc {V : Type} {m : V → V → V} (h : CA m) (x y z : Option V) : opO m (opO m x y) z = opO m x (opO m y z) := by
  cases x <;> cases y <;> cases z <;> simp only [opO]
  rw [h.2]
theorem opO_left {V : Type} {m : V → V → V} (h : CA m) (x y z : Option V) : opO m x (opO m y z) = opO m y (opO m x z) := by
  rw [← opO_assoc h, opO_comm h x y, opO_assoc h]
theorem opO_4 {V : Type} {m : V → V → V} (h : CA m) (a b c d : Option V) : opO m (opO m a b) (opO m c d) = opO m (opO m a c) (opO m b d) := by
  rw [opO_assoc h, opO_assoc h, opO_left h b c d]
/-- the sum of a list -/
def sm {V α : Type} (m : V → V → V) (f : α → Option V) : List α → Option V
  | [] => none
  | a :: l => opO m (f a) (sm m f l)
theorem sm_append {V α : Type} {m : V → V → V} (h : CA m) (f : α → Option V) (a b : List α) : sm m f (a ++ b) = opO m (sm m f a) (sm m f b) := by
  induction a with
  | nil => rfl
  | cons x a ih => simp only [List.cons_append, sm, ih, opO_assoc h]
theorem sm_perm {V α : Type} {m : V → V → V} (h : CA m) (f : α → Option V) {a b : List α} (hp : a.Perm b) : sm m f a = sm m f b := by
  induction hp with
  | nil => rfl
  | cons x _ ih => simp only [sm, ih]
  | swap x y l => simp only [sm]; exact opO_left h _ _ _
  | trans _ _ ih1 ih2 => exact ih1.trans ih2
theorem sm_congr {V α : Type} {m : V → V → V} {f g : α → Option V} {l : List α} (h : ∀ a ∈ l, f a = g a) : sm m f l = sm m g l := by
  induction l with
  | nil => rfl
  | cons x l ih => simp only [sm]; rw [h x List.mem_cons_self, ih (fun a ha => h a (List.mem_cons_of_mem _ ha))]
theorem sm_map {V α β : Type} (m : V → V → V) (f : β → Option V) (g : α → β) (l : List α) : sm m f (l.map g) = sm m (fun a => f (g a)) l := by
  induction l with
  | nil => rfl
  | cons x l ih => simp only [List.map_cons, sm, ih]
theorem sm_flatMap {V α β : Type} {m : V → V → V} (h : CA m) (f : β → Option V) (g : α → List β) (l : List α) : sm m f (l.flatMap g) = sm m (fun a => sm m f (g a)) l := by
  induction l with
  | nil => rfl
  | cons x l ih => simp only [List.flatMap_cons, sm_append h, sm, ih]
theorem sm_filter {V α : Type} {m : V → V → V} (f : α → Option V) (p : α → Bool) (l : List α) : sm m f (l.filter p) = sm m (fun a => if p a then f a else none) l := by
  induction l with
  | nil => rfl
  | cons x l ih =>
    simp only [List.filter_cons, sm]
    by_cases hp : p x = true
    · simp only [hp, if_true, sm, ih]
    · simp only [Bool.eq_false_iff.mpr hp, Bool.false_eq_true, if_false, ih]; rfl
theorem sm_op {V α : Type} {m : V → V → V} (h : CA m) (f g : α → Option V) (l : List α) : sm m (fun a => opO m (f a) (g a)) l = opO m (sm m f l) (sm m g l) := by
  induction l with
  | nil => rfl
  | cons x l ih => simp only [sm, ih]; exact opO_4 h _ _ _ _
theorem sm_none {V α : Type} (m : V → V → V) (l : List α) : sm m (fun _ => none) l = none := by
  induction l with
  | nil => rfl
  | cons x l ih => simp only [sm, ih]; rfl
/-- a list of states with values; a value joins that of its state -/
def ins {V : Type} (m : V → V → V) (l : List (Nat × V)) (k : Nat) (v : V) : List (Nat × V) := if k ∈ l.map (·.1) then l.map (fun p => if p.1 = k then (k, m p.2 v) else p) else l ++ [(k, v)]
def mrg {V : Type} (m : V → V → V) (l : List (Nat × V)) (C : List (Nat × V)) : List (Nat × V) := C.foldl (fun l p => ins m l p.1 p.2) l
def nd {V : Type} (l : List (Nat × V)) : Prop := (l.map (·.1)).Nodup
theorem ins_keys {V : Type} (m : V → V → V) (l : List (Nat × V)) (k : Nat) (v : V) : (ins m l k v).map (·.1) = if k ∈ l.map (·.1) then l.map (·.1) else l.map (·.1) ++ [k] := by
  unfold ins
  split
  · rw [List.map_map]
    apply List.map_congr_left
    intro p _
    simp only [Function.comp]
    split
    · rename_i h; exact h.symm
    · rfl
  · simp
theorem ins_nd {V : Type} {m : V → V → V} {l : List (Nat × V)} (h : nd l) (k : Nat) (v : V) : nd (ins m l k v) := by
  unfold nd
  rw [ins_keys]
  split
  · exact h
  · rename_i hk
    exact List.nodup_append.mpr ⟨h, by simp, fun a ha b hb => by
      simp only [List.mem_singleton] at hb
      subst hb
      exact fun e => hk (e ▸ ha)⟩
/-- a sum over a list of states takes what joins as one more -/
def Addt {V U : Type} (m : V → V → V) (mU : U → U → U) (F : Nat × V → Option U) : Prop := ∀ k v w, F (k, m v w) = opO mU (F (k, v)) (F (k, w))
theorem sm_ins {V U : Type} {m : V → V → V} {mU : U → U → U} (hU : CA mU) {F : Nat × V → Option U} (hF : Addt m mU F) {l : List (Nat × V)} (hl : nd l) (k : Nat) (v : V) : sm mU F (ins m l k v) = opO mU (sm mU F l) (F (k, v)) := by
  unfold ins
  split
  · rename_i hk
    induction l with
    | nil => simp at hk
    | cons p l ih =>
      have hl2 : nd l := (List.nodup_cons.mp hl).2
      have hp : p.1 ∉ l.map (·.1) := (List.nodup_cons.mp hl).1
      simp only [List.map_cons, sm]
      by_cases hpk : p.1 = k
      · have hnk : k ∉ l.map (·.1) := hpk ▸ hp
        have hid : l.map (fun p => if p.1 = k then (k, m p.2 v) else p) = l := by
          conv => rhs; rw [← List.map_id l]
          apply List.map_congr_left
          intro q hq
          rw [if_neg (fun e : q.1 = k => hnk (e ▸ List.mem_map_of_mem (f := (·.1)) hq))]
          rfl
        rw [hid, if_pos hpk, hF, show (k, p.2) = p from Prod.ext hpk.symm rfl, opO_assoc hU, opO_comm hU (F (k, v)), opO_assoc hU]
      · rw [if_neg hpk, ih hl2 (by simpa [Ne.symm hpk, eq_comm] using hk), opO_assoc hU]
  · rw [sm_append hU]
    simp only [sm, opO_none]
theorem mrg_nd {V : Type} {m : V → V → V} {l : List (Nat × V)} (C : List (Nat × V)) (h : nd l) : nd (mrg m l C) := by
  unfold mrg
  induction C generalizing l with
  | nil => exact h
  | cons p C ih => exact ih (ins_nd h _ _)
theorem sm_mrg {V U : Type} {m : V → V → V} {mU : U → U → U} (hU : CA mU) {F : Nat × V → Option U} (hF : Addt m mU F) {l : List (Nat × V)} (hl : nd l) (C : List (Nat × V)) : sm mU F (mrg m l C) = opO mU (sm mU F l) (sm mU F C) := by
  unfold mrg
  induction C generalizing l with
  | nil => simp only [List.foldl_nil, sm, opO_none]
  | cons p C ih =>
    simp only [List.foldl_cons, sm]
    rw [ih (ins_nd hl _ _), sm_ins hU hF hl, opO_assoc hU]
/-- two lists of states that no sum tells apart -/
def Eqv {V : Type} (m : V → V → V) (l1 l2 : List (Nat × V)) : Prop := ∀ (U : Type) (mU : U → U → U) (F : Nat × V → Option U), CA mU → Addt m mU F → sm mU F l1 = sm mU F l2
theorem Eqv.rfl' {V : Type} {m : V → V → V} (l : List (Nat × V)) : Eqv m l l := fun _ _ _ _ _ => rfl
theorem Eqv.symm' {V : Type} {m : V → V → V} {a b : List (Nat × V)} (h : Eqv m a b) : Eqv m b a := fun U mU F hU hF => (h U mU F hU hF).symm
theorem Eqv.trans' {V : Type} {m : V → V → V} {a b c : List (Nat × V)} (h : Eqv m a b) (g : Eqv m b c) : Eqv m a c := fun U mU F hU hF => (h U mU F hU hF).trans (g U mU F hU hF)
theorem Eqv.mrg' {V : Type} {m : V → V → V} (C : List (Nat × V)) : Eqv m (mrg m [] C) C := fun U mU F hU hF => by
  rw [sm_mrg hU hF (l := []) (List.nodup_nil)]
  rfl
theorem Eqv.perm {V : Type} {m : V → V → V} {a b : List (Nat × V)} (h : a.Perm b) : Eqv m a b := fun U mU F hU hF => sm_perm hU F h
/-- what a state's value goes on to, in a way that keeps joining -/
def Lin {V V2 : Type} (m : V → V → V) (m2 : V2 → V2 → V2) (g : Nat × V → List (Nat × V2)) : Prop := ∀ (U : Type) (mU : U → U → U) (F : Nat × V2 → Option U), CA mU → Addt m2 mU F → ∀ k v w, sm mU F (g (k, m v w)) = opO mU (sm mU F (g (k, v))) (sm mU F (g (k, w)))
theorem Eqv.flatMap {V V2 : Type} {m : V → V → V} {m2 : V2 → V2 → V2} {g g2 : Nat × V → List (Nat × V2)} {a b : List (Nat × V)} (h : Eqv m a b) (hg : Lin m m2 g) (hgg : ∀ p ∈ b, Eqv m2 (g p) (g2 p)) : Eqv m2 (a.flatMap g) (b.flatMap g2) := fun U mU F hU hF => by
  rw [sm_flatMap hU, sm_flatMap hU, h U mU _ hU (fun k v w => hg U mU F hU hF k v w)]
  exact sm_congr fun p hp => hgg p hp U mU F hU hF
/-- edges, and what they do to values -/
def ctr {V X : Type} (E : Nat → List (Nat × X)) (act : X → V → V) (p : Nat × V) : List (Nat × V) := (E p.1).map fun e => (e.1, act e.2 p.2)
theorem ctr_lin {V X : Type} {m : V → V → V} {E : Nat → List (Nat × X)} {act : X → V → V} (h : ∀ x v w, act x (m v w) = m (act x v) (act x w)) : Lin m m (ctr E act) := fun U mU F hU hF k v w => by
  unfold ctr
  rw [sm_map, sm_map, sm_map, ← sm_op hU]
  exact sm_congr fun e _ => by rw [h]; exact hF _ _ _
/-- the value of one state -/
def pick {V : Type} (q : Nat) (p : Nat × V) : Option V := if p.1 = q then some p.2 else none
theorem pick_add {V : Type} (m : V → V → V) (q : Nat) : Addt m m (pick q) := fun k v w => by
  unfold pick
  dsimp only
  split <;> rfl
theorem Eqv.pick {V : Type} {m : V → V → V} (hm : CA m) {a b : List (Nat × V)} (h : Eqv m a b) (q : Nat) : sm m (pick q) a = sm m (pick q) b := h V m _ hm (pick_add m q)
