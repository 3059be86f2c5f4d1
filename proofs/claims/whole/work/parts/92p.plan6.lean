/-! plan, as a call -/
theorem nn_of {v : Int32} (h : 0 ≤ v) : ∃ j, j < 2 ^ 31 ∧ v = nI j := by
  obtain ⟨z, hz, e⟩ := iI_of v
  rw [e, show (0 : Int32) = iI 0 from rfl] at h
  have h0 := (iI_le ⟨by omega, by omega⟩ hz).mp h
  refine ⟨z.toNat, by have := hz.2; omega, ?_⟩
  rw [e, ← iI_nat]
  congr 1
  omega
theorem plK_get {g : Nat → Nat} {k j : Nat} (h1 : natSum g k ≤ j) (h2 : j < natSum g k + g k) : ∀ d, (plK g (k + 1 + d))[j]? = some k := by
  intro d
  induction d with
  | zero =>
    rw [Nat.add_zero, plK_s, List.getElem?_append_right (by rw [plK_len]; exact h1), plK_len, List.getElem?_replicate, if_pos (by omega)]
  | succ d ih =>
    have hl : j < (plK g (k + 1 + d)).length := (List.getElem?_eq_some_iff.mp ih).1
    rw [show k + 1 + (d + 1) = (k + 1 + d) + 1 by omega, plK_s, List.getElem?_append_left hl]
    exact ih
def plV (g : Nat → Nat) (j : Nat) : Int32 := match (plL g)[j]? with
  | none => -1
  | some k => nI k
theorem plL_len (g : Nat → Nat) : (plL g).length = ctK g := plK_len g 52
theorem loop48 {σ : rS} {g : Nat → Nat} {j : Nat} (h : ∀ k, k < 52 → rI σ 109 k = nI (g k)) (cg : ctK g ≤ 24) (hj : j < 2 ^ 31) : oLoop (b_X11_plan_48 σ) oFuel (nI j, 0) = some (plV g j, σ) := by
  obtain ⟨r, a1, a2⟩ := oL_ixE (body := b_X11_plan_48 σ) (fun k s => natSum g k ≤ j ∧ s = (nI (j - natSum g k), nI k)) (N := 52) (fun r => r = (plV g j, σ)) (by
      intro k s hk ⟨hs, e⟩
      subst e
      have hk1 := natSum_n (f := g) (a := k + 1) (b := 52) (by omega)
      rw [natSum_s] at hk1
      have c52 : ¬ (52 : Int32) ≤ nI k := fun z => by have := (nI_leI (a := 52) (by omega) (by omega)).mp z; omega
      unfold ctK at cg
      by_cases c : g k ≤ j - natSum g k
      · refine Or.inl ⟨_, ?_, by rw [natSum_s]; omega, rfl⟩
        unfold b_X11_plan_48
        dsimp only
        rw [if_neg c52, if_pos (inB_nI (by decide) hk), nI_clamp (by omega), h k hk, if_pos ((nI_leI (by omega) (by omega)).mpr c), nI_sub c, oLet_eq, nI_1, natSum_s, Nat.sub_sub]
      · refine Or.inr ⟨_, ?_, rfl⟩
        unfold b_X11_plan_48
        dsimp only
        rw [if_neg c52, if_pos (inB_nI (by decide) hk), nI_clamp (by omega), h k hk, if_neg (fun z => c ((nI_leI (by omega) (by omega)).mp z))]
        have e := plK_get hs (by omega) (51 - k)
        rw [show k + 1 + (51 - k) = 52 by omega] at e
        have e : (plL g)[j]? = some k := e
        unfold plV
        rw [e])
    (by
      intro s ⟨hs, e⟩
      subst e
      have e : (plL g)[j]? = none := List.getElem?_eq_none (by rw [plL_len]; exact hs)
      refine ⟨_, ?_, rfl⟩
      unfold b_X11_plan_48 plV
      rw [if_pos (show (52 : Int32) ≤ nI 52 by decide), e])
    (n := oFuel) (by rw [oFuel_eq]; decide) (s := (nI j, 0)) ⟨Nat.zero_le _, rfl⟩
  subst a2
  exact a1
def plO (o : Option (Nat → Nat)) (j : Nat) : Int32 := match o with
  | none => -1
  | some g => plV g j
theorem kindAt_eq {σ : rS} {o : Option (Nat → Nat)} (H : PlG σ o) (hc : ∀ g, o = some g → ctK g ≤ 24) {j : Nat} (hj : j < 2 ^ 31) : v_X4_kindAt σ (nI j) = plO o j := by
  unfold v_X4_kindAt
  cases o with
  | none =>
    have h : rI σ 65 3 = 0 := H
    rw [if_pos h]
    rfl
  | some g =>
    obtain ⟨h1, h2, -, h4⟩ := H
    have hg := hc g rfl
    have c : (nI (ctK g) ≤ nI j) = (ctK g ≤ j) := propext (nI_leI (by omega) hj)
    rw [h1, if_neg (by decide), h2]
    simp only [c]
    unfold plO plV
    dsimp only
    by_cases z : ctK g ≤ j
    · rw [if_pos z, List.getElem?_eq_none (by rw [plL_len]; exact z)]
    · rw [if_neg z, vAt_nI (by decide) (by omega)]
      have e : (plL g)[j]? = some ((plL g)[j]'(by rw [plL_len]; omega)) := List.getElem?_eq_getElem _
      rw [h4 _ _ e, e]
theorem plF_ct {B : Bd} {m : Mem} {hh L p : Nat} (o : OkB B) (hp : p < 4) (hL : L = 3 ∨ L = 4) (h13 : hh ≤ 13) : ∀ g, plF B m hh L p = some g → ctK g ≤ 24 := fun g h => (plF_ok o hp hL h13 h).1.2
theorem plan_s {σ : rS} {B : Bd} {E : List Ent} {dl : Option (Nat × Nat × Nat)} {m : Mem} {l : Nat → Int64} {ch hh L jk ml pn n : Nat} (C : CI σ B E dl m l ch) (M : MI σ B E m l) (K : KcI σ B m hh L ch) (r : RuM m hh L jk ml pn n) (o : OkT B) (hM : ∀ p, p < 4 → m 72 p = 0 ∨ m 72 p = 1) (p1 p2 : Int32) : QStep (fun τ => KcI τ B m hh L ch) (fun σ => f_L_plan σ p1 p2) (fun σ => f_X11_plan σ p1 p2) σ B E dl m l ch := by
  have hn := CI_n C r
  have hn4 := r.2.2.2.2.2.2.2.2
  by_cases c1 : vIn p1 0 ((rI σ 19 0) - 1) = 0
  · refine q_ex C M (fun τ f => KcI_fr K f) 1 (-1) (by decide) ?_ ?_
    · show f_L_plan σ p1 p2 = _
      unfold f_L_plan f_X10_plan f_X10_needPlayer
      rw [if_pos c1, oBx_r, oBc_r lk2]
    · show f_X11_plan σ p1 p2 = _
      unfold f_X11_plan
      rw [pl_same hn (MI_n M r), if_pos c1, holds1, oB_some, if_neg (by decide)]
  by_cases c2 : 0 ≤ p2
  · have c1' := c1
    rw [hn] at c1'
    obtain ⟨p, hp, rfl⟩ := vIn_pl hn4 c1'
    obtain ⟨j, hj, rfl⟩ := nn_of c2
    obtain ⟨τ, a1, a2, a3, a4, a5⟩ := cPlan_eq C o r K (by omega) (hM p (by omega))
    have hct := plF_ct (m := m) (p := p) o.1 (by omega) r.2.2.2.1 r.2.2.1
    refine q_pl (v := plO (plF B m hh L p) j) a2 M a3 a4 ?_ fun υ N => ?_
    · show f_L_plan σ (nI p) (nI j) = _
      unfold f_L_plan f_X10_plan f_X10_needPlayer
      rw [if_neg c1, oBx_l, if_pos c2, a1, oB_some, kindAt_eq a5 hct hj, oBc_l]
      rfl
    · have N1 := MI_t N 0
      obtain ⟨υ2, b1, b2, b3, b4, b5⟩ := mPlan_eq (p := p) N1 o r (by omega) (hM p (by omega))
      refine ⟨υ2, ?_, b2, b4.trans (by rw [fld_eq, if_pos ⟨rfl, rfl⟩]), (FrRf_w (by omega) _).tr b3⟩
      show f_X11_plan υ (nI p) (nI j) = _
      unfold f_X11_plan
      rw [pl_same hn (MI_n N r), if_neg c1, if_pos c2, holds0, oB_some, if_pos rfl, b1, oB_some]
      cases hf : plF B m hh L p with
      | none =>
        rw [hf] at b5
        have e0 : (if b2i (none : Option (Nat → Nat)).isSome = 0 then (99 : Int32) else nI j) = nI 99 := rfl
        rw [e0, oLet_eq, loop48 (g := fun _ => 0) b5 (by decide) (by decide)]
        have e : (plL (fun _ => 0))[99]? = none := List.getElem?_eq_none (by rw [plL_len]; decide)
        unfold plV
        rw [e]
        rfl
      | some g =>
        rw [hf] at b5
        have e0 : (if b2i (some g).isSome = 0 then (99 : Int32) else nI j) = nI j := if_neg (fun z => absurd (show (1 : Int32) = 0 from z) (by decide))
        rw [e0, oLet_eq, loop48 (g := g) b5 (hct g hf) hj]
        rfl
  · refine q_ex C M (fun τ f => KcI_fr K f) 2 (-1) (by decide) ?_ ?_
    · show f_L_plan σ p1 p2 = _
      unfold f_L_plan f_X10_plan f_X10_needPlayer
      rw [if_neg c1, oBx_l, if_neg c2, oBc_r lk3]
    · show f_X11_plan σ p1 p2 = _
      unfold f_X11_plan
      rw [pl_same hn (MI_n M r), if_neg c1, if_neg c2, holds2, oB_some, if_neg (by decide)]
