/-! the plan of a player; all that the class remembers; cuts, cutsAnew, alone as calls -/
def plLo (B : Bd) (m : Mem) (p : Nat) : Nat → Nat := if m 72 p = 0 then fun _ => 0 else tjB B
def plEx (B : Bd) (p : Nat) : Nat → Nat := fun k => if k < 52 then min (2 - tjB B k) (bR B (53 * p + k)) else 0
def plW (m : Mem) (p : Nat) : Bool := decide (m 72 p = 0)
noncomputable def plF (B : Bd) (m : Mem) (hh L p : Nat) : Option (Nat → Nat) := match rsM true (plW m p) L hh (plLo B m p) (plEx B p) with
  | none => none
  | some v => some (kv (cutX hh (Classical.epsilon fun x : Nat → Nat → Nat => (∀ a, a < hh → ∀ c, c < 4 → x a c ≤ plEx B p (13 * c + a)) ∧ AccR L (tN (plLo B m p) x) hh ∧ v = enR (plW m p) x hh)))
def plL (f : Nat → Nat) : List Nat := (List.range 52).flatMap fun k => List.replicate (f k) k
def PlG (σ : rS) (o : Option (Nat → Nat)) : Prop := match o with
  | none => rI σ 65 3 = 0
  | some f => rI σ 65 3 = 1 ∧ rI σ 65 4 = nI (ctK f) ∧ rI σ 65 5 = nI (wtK f) ∧ ∀ i k, (plL f)[i]? = some k → rI σ 66 i = nI k
def KpI (σ : rS) (B : Bd) (m : Mem) (hh L ch : Nat) : Prop := StI (rI σ 65 2) ch ∧ (rI σ 65 2 = nI ch → ∀ p, p < 4 → rI σ 65 1 = nI p → PlG σ (plF B m hh L p))
def KcI (σ : rS) (B : Bd) (m : Mem) (hh L ch : Nat) : Prop := KuI σ B hh L ch ∧ KaI σ B hh L ch ∧ KpI σ B m hh L ch
theorem PlG_fr {σ τ : rS} {o : Option (Nat → Nat)} (H : PlG σ o) (f5 : ∀ j, rI τ 65 j = rI σ 65 j) (f6 : ∀ j, rI τ 66 j = rI σ 66 j) : PlG τ o := by
  unfold PlG at *
  cases o with
  | none => exact (f5 3).trans H
  | some f => exact ⟨(f5 3).trans H.1, (f5 4).trans H.2.1, (f5 5).trans H.2.2.1, fun i k h => (f6 i).trans (H.2.2.2 i k h)⟩
theorem KpI_fr {σ τ : rS} {B : Bd} {m : Mem} {hh L ch : Nat} (H : KpI σ B m hh L ch) (f5 : ∀ j, rI τ 65 j = rI σ 65 j) (f6 : ∀ j, rI τ 66 j = rI σ 66 j) : KpI τ B m hh L ch := ⟨by rw [f5]; exact H.1, fun e p hp e1 => PlG_fr (H.2 (by rw [← f5]; exact e) p hp (by rw [← f5]; exact e1)) f5 f6⟩
theorem KcI_fr {σ τ : rS} {B : Bd} {m : Mem} {hh L ch : Nat} (H : KcI σ B m hh L ch) (f : FrK σ τ) : KcI τ B m hh L ch := ⟨KuI_fr H.1 f, KaI_fr H.2.1 f, KpI_fr H.2.2 f.2.2.1 f.2.2.2⟩
theorem KcI_up {σ : rS} {B B' : Bd} {m m' : Mem} {hh L hh' L' ch c2 : Nat} (H : KcI σ B m hh L ch) (h : ch < c2) (h2 : c2 < 2 ^ 31) : KcI σ B' m' hh' L' c2 := ⟨KuI_up H.1 h h2, KaI_up H.2.1 h h2, StI_le H.2.2.1 (Nat.le_of_lt h), fun e => absurd e (StI_lt H.2.2.1 h h2)⟩
theorem plF_m {B : Bd} {m m' : Mem} {hh L p : Nat} (h : m' 72 p = m 72 p) : plF B m' hh L p = plF B m hh L p := by
  have e1 : plLo B m' p = plLo B m p := by unfold plLo; rw [h]
  have e2 : plW m' p = plW m p := by unfold plW; rw [h]
  unfold plF
  rw [e1, e2]
theorem KcI_m {σ : rS} {B : Bd} {m m' : Mem} {hh L ch : Nat} (H : KcI σ B m hh L ch) (h : ∀ p, p < 4 → m' 72 p = m 72 p) : KcI σ B m' hh L ch := ⟨H.1, H.2.1, H.2.2.1, fun e p hp e1 => by rw [plF_m (h p hp)]; exact H.2.2.2 e p hp e1⟩
