/-! plan, as a call -/
theorem nn_of {v : Int32} (h : 0 ≤ v) : ∃ j, j < 2 ^ 31 ∧ v = nI j := by
  obtain ⟨z, hz, e⟩ := iI_of v
  rw [e, show (0 : Int32) = iI 0 from rfl] at h
  have h0 := (iI_le ⟨by omega, by omega⟩ hz).mp h
  refine ⟨z.toNat, by have := hz.2; omega, ?_⟩
  rw [e, ← iI_nat]
  congr 1
  omega
theorem plK_get {g : Nat → Nat} {k j : Nat} (h1 : natSum g k ≤ j) (h2 : j < natSum g k + g k) : ∀ d, (plK g (k + 1 + d))[j]? = some k := by
  intro d
  induction d with
  | zero =>
    rw [Nat.add_zero, plK_s, List.getElem?_append_right (by rw [plK_len]; exact h1), plK_len, List.getElem?_replicate, if_pos (by omega)]
  | succ d ih =>
    have hl : j < (plK g (k + 1 + d)).length := (List.getElem?_eq_some_iff.mp ih).1
    rw [show k + 1 + (d + 1) = (k + 1 + d) + 1 by omega, plK_s, List.getElem?_append_left hl]
    exact ih
def plV (g : Nat → Nat) (j : Nat) : Int32 := match (plL g)[j]? with
  | none => -1
  | some k => nI k
theorem plL_len (g : Nat → Nat) : (plL g).length = ctK g := plK_len g 52
def plO (o : Option (Nat → Nat)) (j : Nat) : Int32 := match o with
  | none => -1
  | some g => plV g j
theorem kindAt_eq {σ : rS} {o : Option (Nat → Nat)} (H : PlG σ o) (hc : ∀ g, o = some g → ctK g ≤ 24) {j : Nat} (hj : j < 2 ^ 31) : v_X4_kindAt σ (nI j) = plO o j := by
  unfold v_X4_kindAt
  cases o with
  | none =>
    have h : rI σ 65 3 = 0 := H
    rw [if_pos h]
    rfl
  | some g =>
    obtain ⟨h1, h2, -, h4⟩ := H
    have hg := hc g rfl
    have c : (nI (ctK g) ≤ nI j) = (ctK g ≤ j) := propext (nI_leI (by omega) hj)
    rw [h1, if_neg (by decide), h2]
    simp only [c]
    unfold plO plV
    dsimp only
    by_cases z : ctK g ≤ j
    · rw [if_pos z, List.getElem?_eq_none (by rw [plL_len]; exact z)]
    · rw [if_neg z, vAt_nI (by decide) (by omega)]
      have e : (plL g)[j]? = some ((plL g)[j]'(by rw [plL_len]; omega)) := List.getElem?_eq_getElem _
      rw [h4 _ _ e, e]
theorem plF_ct {B : Bd} {m : Mem} {hh L p : Nat} (o : OkB B) (hp : p < 4) (hL : L = 3 ∨ L = 4) (h13 : hh ≤ 13) : ∀ g, plF B m hh L p = some g → ctK g ≤ 24 := fun g h => (plF_ok o hp hL h13 h).1.2
