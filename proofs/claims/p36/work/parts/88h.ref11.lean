/-! the reference: all ways of a number, and all numbers -/
/-- what number leaves alone -/
def FrN8 (σ τ : rS) : Prop := rK τ = rK σ ∧ rR τ = rR σ ∧ rN τ = rN σ ∧ (∀ x j, (x < 103 ∨ x = 105 ∨ x = 106 ∨ x = 109 ∨ 113 < x) → (x = 67 → j ≠ 56 ∧ j ≠ 65) → rI τ x j = rI σ x j) ∧ ∀ x j, (x < 100 ∨ 102 < x) → rL τ x j = rL σ x j
theorem FrN8.rf (σ : rS) : FrN8 σ σ := ⟨rfl, rfl, rfl, fun _ _ _ _ => rfl, fun _ _ _ => rfl⟩
theorem FrN8.tr {σ τ υ : rS} (h : FrN8 σ τ) (g : FrN8 τ υ) : FrN8 σ υ := ⟨g.1.trans h.1, g.2.1.trans h.2.1, g.2.2.1.trans h.2.2.1, fun x j a b => (g.2.2.2.1 x j a b).trans (h.2.2.2.1 x j a b), fun x j a => (g.2.2.2.2 x j a).trans (h.2.2.2.2 x j a)⟩
theorem FrN8_7 {σ τ : rS} (f : FrN7 σ τ) : FrN8 σ τ := ⟨f.1, f.2.1, f.2.2.1, fun x j a b => f.2.2.2.1 x j (by omega) (by omega) (by omega) (by omega) (by omega) (by omega) (by omega) b, fun x j a => f.2.2.2.2 x j (by omega) (by omega) (by omega)⟩
theorem FrN8_D {σ τ : rS} (f : FrD σ τ) : FrN8 σ τ := ⟨f.1, f.2.1, f.2.2.1, fun x j a _ => f.2.2.2.2 x j (by omega), fun x j _ => by rw [f.2.2.2.1]⟩
theorem ShM.fr8 {σ τ : rS} {L : Nat} (H : ShM σ L) (f : FrN8 σ τ) : ShM τ L := by
  have q := f.2.2.2.1
  exact ⟨(q 67 2 (by decide) (fun _ => by decide)).trans H.1, H.2.1, fun i hi => ⟨(q 89 i (by decide) (fun z => absurd z (by decide))).trans (H.2.2 i hi).1, (q 90 i (by decide) (fun z => absurd z (by decide))).trans (H.2.2 i hi).2⟩⟩
def nuS (pl bw : Bool) (L n : Nat) (bs ex : Nat → Nat) (k : Nat) (v : V3) (l : List (Nat × V3)) (w : Nat) : List (Nat × V3) := if caM n ex w 4 then grM pl L (fun c => bs (13 * c + n)) (dgM w) k (vwM pl bw n w v 4) l else l
def nuM (pl bw : Bool) (L n : Nat) (bs ex : Nat → Nat) (k : Nat) (v : V3) (l : List (Nat × V3)) : List (Nat × V3) := (List.range (if pl then 81 else 1)).foldl (nuS pl bw L n bs ex k v) l
/-- the rows of what there is, and of what may be laid besides -/
def BeM (σ : rS) (bs ex : Nat → Nat) : Prop := (∀ k, k < 52 → rI σ 91 k = nI (bs k) ∧ rI σ 92 k = nI (ex k)) ∧ ∀ k, bs k + ex k ≤ 2
theorem BeM.fr8 {σ τ : rS} {bs ex : Nat → Nat} (H : BeM σ bs ex) (f : FrN8 σ τ) : BeM τ bs ex := by
  have q := f.2.2.2.1
  exact ⟨fun k hk => ⟨(q 91 k (by decide) (fun z => absurd z (by decide))).trans (H.1 k hk).1, (q 92 k (by decide) (fun z => absurd z (by decide))).trans (H.1 k hk).2⟩, H.2⟩
/-- the rows 95 to 97 and 99 hold the list -/
def LiM (σ : rS) (l : List (Nat × V3)) : Prop := rI σ 67 50 = nI l.length ∧ nd l ∧ (∀ p ∈ l, p.1 < 65536) ∧ ∀ i p, l[i]? = some p → rI σ 99 i = nI p.1 ∧ rL σ 95 p.1 = p.2.1 ∧ rL σ 96 p.1 = p.2.2.1 ∧ rL σ 97 p.1 = p.2.2.2
theorem LiM.fr8 {σ τ : rS} {l : List (Nat × V3)} (H : LiM σ l) (f : FrN8 σ τ) : LiM τ l := by
  obtain ⟨h1, h2, h3, h4⟩ := H
  have q := f.2.2.2.1
  have q2 := f.2.2.2.2
  exact ⟨(q 67 50 (by decide) (fun _ => by decide)).trans h1, h2, h3, fun i p hi => ⟨(q 99 i (by decide) (fun z => absurd z (by decide))).trans (h4 i p hi).1, (q2 95 _ (by decide)).trans (h4 i p hi).2.1, (q2 96 _ (by decide)).trans (h4 i p hi).2.2.1, (q2 97 _ (by decide)).trans (h4 i p hi).2.2.2⟩⟩
theorem nd_le {V : Type} {l : List (Nat × V)} (h : nd l) (hs : ∀ p ∈ l, p.1 < 65536) : l.length ≤ 65536 := by
  have := nodup_len (l := (l.map (fun p => p.1) : List Nat)) (m := List.range 65536) (show (l.map (fun p => p.1)).Nodup from h) (fun a ha => by
    obtain ⟨p, hp, rfl⟩ := List.mem_map.mp ha
    exact List.mem_range.mpr (hs p hp))
  rw [List.length_map, List.length_range] at this
  exact this
def stS (pl bw : Bool) (L n : Nat) (bs ex : Nat → Nat) (l : List (Nat × V3)) (p : Nat × V3) : List (Nat × V3) := nuM pl bw L n bs ex p.1 p.2 l
/-- what goesThrough leaves alone -/
def FrH (σ τ : rS) : Prop := rK τ = rK σ ∧ rR τ = rR σ ∧ rN τ = rN σ ∧ (∀ x j, (x < 99 ∨ x = 105 ∨ x = 106 ∨ x = 109 ∨ 113 < x) → (x = 67 → j ≠ 50 ∧ j ≠ 56 ∧ j ≠ 65) → rI τ x j = rI σ x j) ∧ ∀ x j, (x < 95 ∨ 102 < x) → rL τ x j = rL σ x j
theorem FrH.rf (σ : rS) : FrH σ σ := ⟨rfl, rfl, rfl, fun _ _ _ _ => rfl, fun _ _ _ => rfl⟩
theorem FrH.tr {σ τ υ : rS} (h : FrH σ τ) (g : FrH τ υ) : FrH σ υ := ⟨g.1.trans h.1, g.2.1.trans h.2.1, g.2.2.1.trans h.2.2.1, fun x j a b => (g.2.2.2.1 x j a b).trans (h.2.2.2.1 x j a b), fun x j a => (g.2.2.2.2 x j a).trans (h.2.2.2.2 x j a)⟩
theorem FrH_8 {σ τ : rS} (f : FrN8 σ τ) : FrH σ τ := ⟨f.1, f.2.1, f.2.2.1, fun x j a b => f.2.2.2.1 x j (by omega) (fun e => ⟨(b e).2.1, (b e).2.2⟩), fun x j a => f.2.2.2.2 x j (by omega)⟩
theorem ShM.frH {σ τ : rS} {L : Nat} (H : ShM σ L) (f : FrH σ τ) : ShM τ L := by
  have q := f.2.2.2.1
  exact ⟨(q 67 2 (by decide) (fun _ => by decide)).trans H.1, H.2.1, fun i hi => ⟨(q 89 i (by decide) (fun z => absurd z (by decide))).trans (H.2.2 i hi).1, (q 90 i (by decide) (fun z => absurd z (by decide))).trans (H.2.2 i hi).2⟩⟩
theorem BeM.frH {σ τ : rS} {bs ex : Nat → Nat} (H : BeM σ bs ex) (f : FrH σ τ) : BeM τ bs ex := by
  have q := f.2.2.2.1
  exact ⟨fun k hk => ⟨(q 91 k (by decide) (fun z => absurd z (by decide))).trans (H.1 k hk).1, (q 92 k (by decide) (fun z => absurd z (by decide))).trans (H.1 k hk).2⟩, H.2⟩
/-- the list behind so many numbers -/
def reL (pl bw : Bool) (L : Nat) (bs ex : Nat → Nat) (m : Nat) : List (Nat × V3) := (List.range m).foldl (fun lh n => lh.foldl (stS pl bw L n bs ex) []) [(0, (if pl then 0 else 1, 0, 0))]
theorem reL_s (pl bw : Bool) (L : Nat) (bs ex : Nat → Nat) (m : Nat) : reL pl bw L bs ex (m + 1) = (reL pl bw L bs ex m).foldl (stS pl bw L m bs ex) [] := by
  unfold reL
  rw [range_foldl]
