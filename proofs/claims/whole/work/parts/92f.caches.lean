/-! the plan of a player; all that the class remembers; cuts, cutsAnew, alone as calls -/
def plLo (B : Bd) (m : Mem) (p : Nat) : Nat → Nat := if m 72 p = 0 then fun _ => 0 else tjB B
def plEx (B : Bd) (p : Nat) : Nat → Nat := fun k => if k < 52 then min (2 - tjB B k) (bR B (53 * p + k)) else 0
def plW (m : Mem) (p : Nat) : Bool := decide (m 72 p = 0)
noncomputable def plF (B : Bd) (m : Mem) (hh L p : Nat) : Option (Nat → Nat) := match rsM true (plW m p) L hh (plLo B m p) (plEx B p) with
  | none => none
  | some v => some (kv (cutX hh (Classical.epsilon fun x : Nat → Nat → Nat => (∀ a, a < hh → ∀ c, c < 4 → x a c ≤ plEx B p (13 * c + a)) ∧ AccR L (tN (plLo B m p) x) hh ∧ v = enR (plW m p) x hh)))
def plL (f : Nat → Nat) : List Nat := (List.range 52).flatMap fun k => List.replicate (f k) k
def PlG (σ : rS) (o : Option (Nat → Nat)) : Prop := match o with
  | none => rI σ 65 3 = 0
  | some f => rI σ 65 3 = 1 ∧ rI σ 65 4 = nI (ctK f) ∧ rI σ 65 5 = nI (wtK f) ∧ ∀ i k, (plL f)[i]? = some k → rI σ 66 i = nI k
def KpI (σ : rS) (B : Bd) (m : Mem) (hh L ch : Nat) : Prop := StI (rI σ 65 2) ch ∧ (rI σ 65 2 = nI ch → ∀ p, p < 4 → rI σ 65 1 = nI p → PlG σ (plF B m hh L p))
def KcI (σ : rS) (B : Bd) (m : Mem) (hh L ch : Nat) : Prop := KuI σ B hh L ch ∧ KaI σ B hh L ch ∧ KpI σ B m hh L ch
theorem PlG_fr {σ τ : rS} {o : Option (Nat → Nat)} (H : PlG σ o) (f5 : ∀ j, rI τ 65 j = rI σ 65 j) (f6 : ∀ j, rI τ 66 j = rI σ 66 j) : PlG τ o := by
  unfold PlG at *
  cases o with
  | none => exact (f5 3).trans H
  | some f => exact ⟨(f5 3).trans H.1, (f5 4).trans H.2.1, (f5 5).trans H.2.2.1, fun i k h => (f6 i).trans (H.2.2.2 i k h)⟩
theorem KpI_fr {σ τ : rS} {B : Bd} {m : Mem} {hh L ch : Nat} (H : KpI σ B m hh L ch) (f5 : ∀ j, rI τ 65 j = rI σ 65 j) (f6 : ∀ j, rI τ 66 j = rI σ 66 j) : KpI τ B m hh L ch := ⟨by rw [f5]; exact H.1, fun e p hp e1 => PlG_fr (H.2 (by rw [← f5]; exact e) p hp (by rw [← f5]; exact e1)) f5 f6⟩
theorem KcI_fr {σ τ : rS} {B : Bd} {m : Mem} {hh L ch : Nat} (H : KcI σ B m hh L ch) (f : FrK σ τ) : KcI τ B m hh L ch := ⟨KuI_fr H.1 f, KaI_fr H.2.1 f, KpI_fr H.2.2 f.2.2.1 f.2.2.2⟩
theorem KcI_up {σ : rS} {B B' : Bd} {m m' : Mem} {hh L hh' L' ch c2 : Nat} (H : KcI σ B m hh L ch) (h : ch < c2) (h2 : c2 < 2 ^ 31) : KcI σ B' m' hh' L' c2 := ⟨KuI_up H.1 h h2, KaI_up H.2.1 h h2, StI_le H.2.2.1 (Nat.le_of_lt h), fun e => absurd e (StI_lt H.2.2.1 h h2)⟩
theorem plF_m {B : Bd} {m m' : Mem} {hh L p : Nat} (h : m' 72 p = m 72 p) : plF B m' hh L p = plF B m hh L p := by
  have e1 : plLo B m' p = plLo B m p := by unfold plLo; rw [h]
  have e2 : plW m' p = plW m p := by unfold plW; rw [h]
  unfold plF
  rw [e1, e2]
theorem KcI_m {σ : rS} {B : Bd} {m m' : Mem} {hh L ch : Nat} (H : KcI σ B m hh L ch) (h : ∀ p, p < 4 → m' 72 p = m 72 p) : KcI σ B m' hh L ch := ⟨H.1, H.2.1, H.2.2.1, fun e p hp e1 => by rw [plF_m (h p hp)]; exact H.2.2.2 e p hp e1⟩
theorem cuts_s {σ : rS} {B : Bd} {E : List Ent} {dl : Option (Nat × Nat × Nat)} {m : Mem} {l : Nat → Int64} {ch hh L jk ml pn n : Nat} (C : CI σ B E dl m l ch) (M : MI σ B E m l) (K : KcI σ B m hh L ch) (r : RuM m hh L jk ml pn n) (o : OkT B) (p : Int32) : QStep (fun τ => KcI τ B m hh L ch) (fun σ => f_L_cuts σ p) (fun σ => f_X11_cuts σ p) σ B E dl m l ch := by
  by_cases c : vIn p 0 2 = 0
  · refine q_ex C M (fun τ f => KcI_fr K f) 1 (-1) (by decide) ?_ ?_
    · show f_L_cuts σ p = _
      unfold f_L_cuts f_X10_cuts
      rw [if_pos c, oBc_r lk1]
    · show f_X11_cuts σ p = _
      unfold f_X11_cuts
      rw [in_eq, if_pos c, holds1, oB_some, if_neg (by decide)]
  · obtain ⟨q, -, hq, rfl⟩ := vIn_of (a := 0) (b := 2) (by decide) c (by decide)
    obtain ⟨τ, a1, a2, a3, a4, a5, a6⟩ := cCuts_eq C o r K.1
    have M1 := MI_fr M (a3.tr (FrCl_114 τ (cuS q (cuV (cntR L hh (tjB B)))).toInt64))
    obtain ⟨υ, b1, b2, b3, b4⟩ := mCuts_eq M1 o r hq
    have k1 : KcI τ B m hh L ch := ⟨a4, by
      have e := a6 3 16 (by omega)
      exact ⟨by rw [e.1]; exact K.2.1.1, by rw [e.1, e.2]; exact K.2.1.2⟩, KpI_fr K.2.2 (fun j => (a6 65 j (by omega)).1) fun j => (a6 66 j (by omega)).1⟩
    refine ⟨0, wL τ 114 0 (cuS q (cuV (cntR L hh (tjB B)))).toInt64, cuS q (cuV (cntR L hh (tjB B))), υ, ?_, b1, b4, fun _ => ?_, CI_fr (CI_114 a2 _) b3, b2, (Fr2_Cl (a3.tr (FrCl_114 τ _))).tr (Fr2_Rf b3), KcI_fr k1 ((FrK_114 τ _).tr (FrK_R b3))⟩
    · show f_L_cuts σ (nI q) = _
      unfold f_L_cuts f_X10_cuts
      rw [if_neg c, a1, oB_some, oBc_l, a5.1, a5.2.1, a5.2.2]
      have c0 : (nI q = 0) = (q = 0) := propext (nI_eq (b := 0) (by omega) (by omega))
      have c1 : (nI q = 1) = (q = 1) := propext (nI_eq (b := 1) (by omega) (by omega))
      simp only [c0, c1]
      rfl
    · rw [b3.2.2.2.2 114 0 (by omega), q_LL, if_pos ⟨rfl, rfl⟩]
