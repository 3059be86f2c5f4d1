/-! is a plan good; the two programs that lay plans -/
def k2B (kind : Int32) (ct sz : Nat) : Bool := !decide (kind = 2) || (decide (3 ≤ ct) || decide (ct = sz))
def pgB (o : Option (Nat → Nat)) (kind : Int32) (mel : Bool) (ml sz : Nat) : Bool := match o with
  | none => false
  | some g => decide (1 ≤ ctK g) && ((mel || decide (ml ≤ wtK g)) && k2B kind (ctK g) sz)
theorem k2_v (kind : Int32) {ct sz : Nat} (h1 : ct < 2 ^ 31) (h2 : sz < 2 ^ 31) : (if kind = 2 then (if (3 : Int32) ≤ nI ct then (1 : Int32) else (if nI ct = nI sz then 1 else 0)) else 1) = b2i (k2B kind ct sz) := by
  have c3 : ((3 : Int32) ≤ nI ct) = (3 ≤ ct) := propext (nI_leI (a := 3) (by omega) h1)
  have c4 : (nI ct = nI sz) = (ct = sz) := propext (nI_eq h1 h2)
  simp only [c3, c4]
  unfold k2B
  by_cases a : kind = 2
  · rw [if_pos a, decide_eq_true a]
    by_cases b : 3 ≤ ct
    · rw [if_pos b, decide_eq_true b]; rfl
    · rw [if_neg b, decide_eq_false b]
      by_cases c : ct = sz
      · rw [if_pos c, decide_eq_true c]; rfl
      · rw [if_neg c, decide_eq_false c]; rfl
  · rw [if_neg a, decide_eq_false a]; rfl
theorem planGood_eq {σ : rS} {B : Bd} {E : List Ent} {dl : Option (Nat × Nat × Nat)} {m : Mem} {l : Nat → Int64} {ch hh L jk ml pn n p : Nat} {o : Option (Nat → Nat)} {mel : Bool} (C : CI σ B E dl m l ch) (r : RuM m hh L jk ml pn n) (ob : OkB B) (G : PlG σ o) (hct : ∀ g, o = some g → ctK g ≤ 24) (hp : p < 4) (tp : m 67 24 = nI p) (hm : m 72 p = if mel then 1 else 0) (kind : Int32) : v_X10_isPlanGood σ kind = b2i (pgB o kind mel ml (rsz (bR B) p)) := by
  have hml := r.2.2.2.2.2.1
  have hsz := ob.2.1 p hp
  unfold v_X10_isPlanGood
  cases o with
  | none =>
    have h : rI σ 65 3 = 0 := G
    rw [if_pos h]
    rfl
  | some g =>
    obtain ⟨h3, h4, h5, -⟩ := G
    have hg := hct g rfl
    have hw := wt_le g
    have c1 : (nI (ctK g) = 0) = (ctK g = 0) := propext (nI_eq (b := 0) (by omega) (by omega))
    have c2 : (nI ml ≤ nI (wtK g)) = (ml ≤ wtK g) := propext (nI_leI (by omega) (by omega))
    have hmel : v_X10_hasMelded σ (nI p) = if mel then 1 else 0 := by
      rw [hasM_v C hp (by rw [hm]; cases mel <;> simp), hm]
    rw [h3, if_neg (by decide), h4, h5, CI_p C tp, hmel, (CI_4 C (x := 4) (j := 3) (by omega)).trans r.1.2.2.2.1, sizeOf_eq C.1 hp, k2_v kind (by omega) (by omega)]
    simp only [c1, c2]
    unfold pgB
    dsimp only
    by_cases z : ctK g = 0
    · rw [if_pos z, decide_eq_false (show ¬ 1 ≤ ctK g by omega)]; rfl
    · rw [if_neg z, decide_eq_true (show 1 ≤ ctK g by omega), Bool.true_and]
      cases mel with
      | true => rfl
      | false =>
        rw [if_pos (show (if false = true then (1 : Int32) else 0) = 0 from rfl)]
        by_cases w : ml ≤ wtK g
        · rw [if_pos w, decide_eq_true w]; rfl
        · rw [if_neg w, decide_eq_false w]; rfl
theorem pgB_t {o : Option (Nat → Nat)} {kind : Int32} {mel : Bool} {ml sz : Nat} (h : pgB o kind mel ml sz = true) : ∃ g, o = some g ∧ 1 ≤ ctK g ∧ (mel = false → ml ≤ wtK g) := by
  cases o with
  | none => exact absurd (show (false : Bool) = true from h) (by decide)
  | some g =>
    unfold pgB at h
    simp only [Bool.and_eq_true, decide_eq_true_eq, Bool.or_eq_true] at h
    refine ⟨g, rfl, h.1, fun e => ?_⟩
    rcases h.2.1 with a | a
    · rw [a] at e; cases e
    · exact a
theorem ct_sz {B : Bd} {hh p : Nat} {g : Nat → Nat} (H : PlK B hh p g) : ctK g ≤ rsz (bR B) p := by
  have h1 : ctK g ≤ natSum (fun k => bR B (53 * p + k)) 52 := natSum_mono fun k hk => by
    have := (H.1 k hk).1
    unfold plEx at this
    rw [if_pos hk] at this
    omega
  have h2 : natSum (fun k => bR B (53 * p + k)) 52 ≤ rsz (bR B) p := by
    unfold rsz
    rw [natSum_s (fun k => bR B (53 * p + k)) 52]
    exact Nat.le_add_right _ _
  omega
theorem bool3 {X : Type} (a b c : Bool) (x y : X) : (if (if b2i (a && b) = 0 then true else (if b2i (!c) = 0 then false else true)) = true then x else y) = if (a && (b && c)) = true then y else x := by
  cases a <;> cases b <;> cases c <;> rfl
/-- the reference's two questions about a plan -/
def mPlanQ (σ7 : rS) (v6 p : Int32) : Option (Int32 × rS) := oJoin (if v6 = 0 then (some (.inr ((0 : Int32)))) else ((f_X11_planned σ7).bind fun v9 => if v9 ≤ 0 then (some (.inr ((0 : Int32)))) else (if (rI σ7 72 (p : Int32).toNatClampNeg) = 0 then ((f_X11_plannedWorth σ7).bind fun v10 => if v10 < (rI σ7 67 4) then (some (.inr ((0 : Int32)))) else (some (.inr ((1 : Int32))))) else (some (.inr ((1 : Int32))))))) fun j8 => if inB p 4 then (oJoin (if (rI σ7 69 (p : Int32).toNatClampNeg) = 2 then ((f_X11_planned σ7).bind fun v13 => if 3 ≤ v13 then (some (.inr ((0 : Int32)))) else ((f_X11_inRack σ7 p).bind fun v14 => (f_X11_planned σ7).bind fun v15 => if v14 ≤ v15 then (some (.inr ((0 : Int32)))) else (some (.inr ((1 : Int32)))))) else (some (.inr ((0 : Int32))))) fun j12 => if (if j8 = 0 then true else (if j12 = 0 then false else true)) = true then (oB (f_X11_endsByDrawing σ7 6) fun v16 σ17 => some ((0, σ17))) else (oB (f_X11_laysAll σ7) fun v18 σ19 => some ((v18, σ19)))) else none
theorem mPlanQ_eq {σ : rS} {B : Bd} {E : List Ent} {m : Mem} {l : Nat → Int64} {hh L jk ml pn n p : Nat} {mel : Bool} (M : MI σ B E m l) (r : RuM m hh L jk ml pn n) (o : OkT B) (hp : p < 4) (hm : m 72 p = if mel then 1 else 0) (h109 : ∀ k, k < 52 → rI σ 109 k = nI ((plF B m hh L p).getD (fun _ => 0) k)) : mPlanQ σ (b2i (plF B m hh L p).isSome) (nI p) = if pgB (plF B m hh L p) (m 69 p) mel ml (rsz (bR B) p) = true then (oB (f_X11_laysAll σ) fun v18 σ19 => some ((v18, σ19))) else (oB (f_X11_endsByDrawing σ 6) fun v16 σ17 => some ((0, σ17))) := by
  have hml := r.2.2.2.2.2.1
  have hsz := o.1.2.1 p hp
  have e69 : rI σ 69 p = m 69 p := M.2.2.1 69 p (by omega)
  have e72 : rI σ 72 p = if mel then 1 else 0 := (M.2.2.1 72 p (by omega)).trans hm
  unfold mPlanQ
  have hin : inB (nI p) 4 := inB_nI (by decide) hp
  have hcl : (nI p).toNatClampNeg = p := nI_clamp (by omega)
  have e4 : rI σ 67 4 = nI ml := (M.2.2.1 67 4 (by omega)).trans r.1.2.2.2.1
  simp only [if_pos hin, hcl, e69, e72, e4, planned_eq h109, plannedW_eq h109, inRack_eq M.1 hp, Option.bind_some]
  cases hf : plF B m hh L p with
  | none =>
    have z : ∀ j12 : Int32, (if (if (0 : Int32) = 0 then true else (if j12 = 0 then false else true)) = true then (oB (f_X11_endsByDrawing σ 6) fun v16 σ17 => some (((0 : Int32), σ17))) else (oB (f_X11_laysAll σ) fun v18 σ19 => some ((v18, σ19)))) = (oB (f_X11_endsByDrawing σ 6) fun v16 σ17 => some ((0, σ17))) := fun j12 => by rw [if_pos rfl, if_pos rfl]
    rw [if_pos (show b2i (none : Option (Nat → Nat)).isSome = 0 from rfl), oJ_inr, if_neg (show ¬ pgB none (m 69 p) mel ml (rsz (bR B) p) = true from fun z => absurd (show (false : Bool) = true from z) (by decide))]
    by_cases k : m 69 p = 2
    · rw [if_pos k]
      by_cases a : (3 : Int32) ≤ nI (ctK ((none : Option (Nat → Nat)).getD fun _ => 0))
      · rw [if_pos a, oJ_inr, z]
      · rw [if_neg a]
        by_cases b : nI (rsz (bR B) p) ≤ nI (ctK ((none : Option (Nat → Nat)).getD fun _ => 0))
        · rw [if_pos b, oJ_inr, z]
        · rw [if_neg b, oJ_inr, z]
    · rw [if_neg k, oJ_inr, z]
  | some g =>
    obtain ⟨pk, -⟩ := plF_ok o.1 hp r.2.2.2.1 r.2.2.1 hf
    have hg := pk.2
    have hw := wt_le g
    have hcs := ct_sz pk
    have c1 : (nI (ctK g) ≤ 0) = (ctK g = 0) := nI_le0 (by omega)
    have c2 : (nI (wtK g) < nI ml) = (wtK g < ml) := propext (nI_lt' (by omega) (by omega))
    have c3 : ((3 : Int32) ≤ nI (ctK g)) = (3 ≤ ctK g) := propext (nI_leI (a := 3) (by omega) (by omega))
    have c4 : (nI (rsz (bR B) p) ≤ nI (ctK g)) = (rsz (bR B) p ≤ ctK g) := propext (nI_leI (by omega) (by omega))
    have eg : (some g : Option (Nat → Nat)).getD (fun _ => 0) = g := rfl
    have hn0 : ¬ b2i (some g).isSome = 0 := fun z => absurd (show (1 : Int32) = 0 from z) (by decide)
    rw [eg, if_neg hn0]
    simp only [c1, c2, c3, c4]
    have ej8 : (if ctK g = 0 then (some (.inr (0 : Int32)) : Option ((Int32 × rS) ⊕ Int32)) else (if (if mel = true then (1 : Int32) else 0) = 0 then (if wtK g < ml then some (.inr 0) else some (.inr 1)) else some (.inr 1))) = some (.inr (b2i (decide (1 ≤ ctK g) && (mel || decide (ml ≤ wtK g))))) := by
      by_cases z : ctK g = 0
      · rw [if_pos z, decide_eq_false (show ¬ 1 ≤ ctK g by omega)]; rfl
      · rw [if_neg z, decide_eq_true (show 1 ≤ ctK g by omega)]
        cases mel with
        | true => rfl
        | false =>
          rw [if_pos (show (if false = true then (1 : Int32) else 0) = 0 from rfl)]
          by_cases w : wtK g < ml
          · rw [if_pos w, decide_eq_false (show ¬ ml ≤ wtK g by omega)]; rfl
          · rw [if_neg w, decide_eq_true (show ml ≤ wtK g by omega)]; rfl
    have ej12 : (if m 69 p = 2 then (if 3 ≤ ctK g then (some (.inr (0 : Int32)) : Option ((Int32 × rS) ⊕ Int32)) else (if rsz (bR B) p ≤ ctK g then some (.inr 0) else some (.inr 1))) else some (.inr 0)) = some (.inr (b2i (!k2B (m 69 p) (ctK g) (rsz (bR B) p)))) := by
      unfold k2B
      by_cases a : m 69 p = 2
      · rw [if_pos a, decide_eq_true a]
        by_cases b : 3 ≤ ctK g
        · rw [if_pos b, decide_eq_true b]; rfl
        · rw [if_neg b, decide_eq_false b]
          by_cases c : rsz (bR B) p ≤ ctK g
          · rw [if_pos c, decide_eq_true (show ctK g = rsz (bR B) p by omega)]; rfl
          · rw [if_neg c, decide_eq_false (show ¬ ctK g = rsz (bR B) p by omega)]; rfl
      · rw [if_neg a, decide_eq_false a]; rfl
    rw [ej8, oJ_inr, ej12, oJ_inr]
    unfold pgB
    dsimp only
    exact bool3 _ _ _ _ _
