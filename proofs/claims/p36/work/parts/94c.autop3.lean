/-! is a plan good; the two programs that lay plans -/
def k2B (kind : Int32) (ct sz : Nat) : Bool := !decide (kind = 2) || (decide (3 ≤ ct) || decide (ct = sz))
def pgB (o : Option (Nat → Nat)) (kind : Int32) (mel : Bool) (ml sz : Nat) : Bool := match o with
  | none => false
  | some g => decide (1 ≤ ctK g) && ((mel || decide (ml ≤ wtK g)) && k2B kind (ctK g) sz)
theorem k2_v (kind : Int32) {ct sz : Nat} (h1 : ct < 2 ^ 31) (h2 : sz < 2 ^ 31) : (if kind = 2 then (if (3 : Int32) ≤ nI ct then (1 : Int32) else (if nI ct = nI sz then 1 else 0)) else 1) = b2i (k2B kind ct sz) := by
  have c3 : ((3 : Int32) ≤ nI ct) = (3 ≤ ct) := propext (nI_leI (a := 3) (by omega) h1)
  have c4 : (nI ct = nI sz) = (ct = sz) := propext (nI_eq h1 h2)
  simp only [c3, c4]
  unfold k2B
  by_cases a : kind = 2
  · rw [if_pos a, decide_eq_true a]
    by_cases b : 3 ≤ ct
    · rw [if_pos b, decide_eq_true b]; rfl
    · rw [if_neg b, decide_eq_false b]
      by_cases c : ct = sz
      · rw [if_pos c, decide_eq_true c]; rfl
      · rw [if_neg c, decide_eq_false c]; rfl
  · rw [if_neg a, decide_eq_false a]; rfl
theorem planGood_eq {σ : rS} {B : Bd} {E : List Ent} {dl : Option (Nat × Nat × Nat)} {m : Mem} {l : Nat → Int64} {ch hh L jk ml pn n p : Nat} {o : Option (Nat → Nat)} {mel : Bool} (C : CI σ B E dl m l ch) (r : RuM m hh L jk ml pn n) (ob : OkB B) (G : PlG σ o) (hct : ∀ g, o = some g → ctK g ≤ 24) (hp : p < 4) (tp : m 67 24 = nI p) (hm : m 72 p = if mel then 1 else 0) (kind : Int32) : v_X10_isPlanGood σ kind = b2i (pgB o kind mel ml (rsz (bR B) p)) := by
  have hml := r.2.2.2.2.2.1
  have hsz := ob.2.1 p hp
  unfold v_X10_isPlanGood
  cases o with
  | none =>
    have h : rI σ 65 3 = 0 := G
    rw [if_pos h]
    rfl
  | some g =>
    obtain ⟨h3, h4, h5, -⟩ := G
    have hg := hct g rfl
    have hw := wt_le g
    have c1 : (nI (ctK g) = 0) = (ctK g = 0) := propext (nI_eq (b := 0) (by omega) (by omega))
    have c2 : (nI ml ≤ nI (wtK g)) = (ml ≤ wtK g) := propext (nI_leI (by omega) (by omega))
    have hmel : v_X10_hasMelded σ (nI p) = if mel then 1 else 0 := by
      rw [hasM_v C hp (by rw [hm]; cases mel <;> simp), hm]
    rw [h3, if_neg (by decide), h4, h5, CI_p C tp, hmel, (CI_4 C (x := 4) (j := 3) (by omega)).trans r.1.2.2.2.1, sizeOf_eq C.1 hp, k2_v kind (by omega) (by omega)]
    simp only [c1, c2]
    unfold pgB
    dsimp only
    by_cases z : ctK g = 0
    · rw [if_pos z, decide_eq_false (show ¬ 1 ≤ ctK g by omega)]; rfl
    · rw [if_neg z, decide_eq_true (show 1 ≤ ctK g by omega), Bool.true_and]
      cases mel with
      | true => rfl
      | false =>
        rw [if_pos (show (if false = true then (1 : Int32) else 0) = 0 from rfl)]
        by_cases w : ml ≤ wtK g
        · rw [if_pos w, decide_eq_true w]; rfl
        · rw [if_neg w, decide_eq_false w]; rfl
theorem pgB_t {o : Option (Nat → Nat)} {kind : Int32} {mel : Bool} {ml sz : Nat} (h : pgB o kind mel ml sz = true) : ∃ g, o = some g ∧ 1 ≤ ctK g ∧ (mel = false → ml ≤ wtK g) := by
  cases o with
  | none => exact absurd (show (false : Bool) = true from h) (by decide)
  | some g =>
    unfold pgB at h
    simp only [Bool.and_eq_true, decide_eq_true_eq, Bool.or_eq_true] at h
    refine ⟨g, rfl, h.1, fun e => ?_⟩
    rcases h.2.1 with a | a
    · rw [a] at e; cases e
    · exact a
theorem ct_sz {B : Bd} {hh p : Nat} {g : Nat → Nat} (H : PlK B hh p g) : ctK g ≤ rsz (bR B) p := by
  have h1 : ctK g ≤ natSum (fun k => bR B (53 * p + k)) 52 := natSum_mono fun k hk => by
    have := (H.1 k hk).1
    unfold plEx at this
    rw [if_pos hk] at this
    omega
  have h2 : natSum (fun k => bR B (53 * p + k)) 52 ≤ rsz (bR B) p := by
    unfold rsz
    rw [natSum_s (fun k => bR B (53 * p + k)) 52]
    exact Nat.le_add_right _ _
  omega
theorem bool3 {X : Type} (a b c : Bool) (x y : X) : (if (if b2i (a && b) = 0 then true else (if b2i (!c) = 0 then false else true)) = true then x else y) = if (a && (b && c)) = true then y else x := by
  cases a <;> cases b <;> cases c <;> rfl
