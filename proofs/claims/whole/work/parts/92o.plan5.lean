/-! best and plan, as calls -/
theorem mPlan_eq {σ : rS} {B : Bd} {E : List Ent} {m : Mem} {l : Nat → Int64} {hh L jk ml pn n p : Nat} (M : MI σ B E m l) (o : OkT B) (r : RuM m hh L jk ml pn n) (hp : p < 4) (hm : m 72 p = 0 ∨ m 72 p = 1) : ∃ τ, f_X11_laysPlan σ (nI p) = some (b2i (plF B m hh L p).isSome, τ) ∧ MI τ B E m l ∧ FrRf σ τ ∧ rI τ 67 0 = rI σ 67 0 ∧ ∀ k, k < 52 → rI τ 109 k = nI ((plF B m hh L p).getD (fun _ => 0) k) := by
  have h13 := r.2.2.1
  have hL := r.2.2.2.1
  obtain ⟨τ1, a1, a2, a3⟩ := tellPlan_m M o hp
  have M1 := MI_91 M a3
  obtain ⟨τ2, τ3, b1, b2, b3, b4, b5⟩ := search_eq (MI_Rf M1 r) a2 h13 true (plW m p)
  have M3 := MI_J M1 b4 b5
  have ew : (if m 72 p = 0 then (1 : Int32) else 0) = if plW m p then 1 else 0 := by
    unfold plW
    by_cases z : m 72 p = 0
    · rw [if_pos z, decide_eq_true z]; rfl
    · rw [if_neg z, decide_eq_false z]; rfl
  have b1 : f_X11_goesThrough τ1 (nI hh) 1 (if plW m p then 1 else 0) = some ((), τ2) := b1
  have b2 : f_X11_gathers τ2 1 = some (b2i (rsM true (plW m p) L hh (plLo B m p) (plEx B p)).isSome, τ3) := b2
  have F3 : FrRf σ τ3 := (FrRf_X a3 fun x j w => by omega).tr (FrRf_J b5)
  have z3 : rI τ3 67 0 = rI σ 67 0 := by rw [b5.2.2.2.1 67 0 (by omega) (by omega), a3.2.2.2.2 67 0 (by omega)]
  have pre : f_X11_laysPlan σ (nI p) = oLoop (b_X11_laysPlan_120 (b2i (rsM true (plW m p) L hh (plLo B m p) (plEx B p)).isSome)) oFuel (rL τ3 67 62, 0, τ3) := by
    unfold f_X11_laysPlan
    rw [a1, oJ_inr, if_pos (inB_nI (by decide) hp), nI_clamp (by omega), M1.2.2.1 72 p (by omega), ew, MI_h M1 r, b1, oB_some, b2, oB_some]
  rw [pre]
  cases hr : rsM true (plW m p) L hh (plLo B m p) (plEx B p) with
  | none =>
    rw [plF_none hr]
    obtain ⟨τ, c1, c2, c3⟩ := fill_no (σ := τ3) (rL τ3 67 62)
    exact ⟨τ, c1, MI_9 M3 (c3.mono fun x j w => by omega), F3.tr (FrRf_X c3 fun x j w => by omega), by rw [c3.2.2.2.2 67 0 (by omega), z3], fun k hk => c2 k hk⟩
  | some v =>
    obtain ⟨x, e1, -, -, -⟩ := plF_some hL h13 hr
    obtain ⟨⟨pk1, pk2⟩, hv⟩ := plF_ok o.1 hp hL h13 e1
    rw [e1]
    have hg2 : ∀ j, j < 52 → kv (cutX hh x) j ≤ 2 := fun j hj => Nat.le_trans (pk1 j hj).1 (plEx_2 B p j)
    rw [hv] at b3
    have h62 : rL τ3 67 62 = lN (SW w2M (kv (cutX hh x))) := b3.2.1
    have h63 : rL τ3 67 63 = lN (SW w3M (kv (cutX hh x))) := b3.2.2
    rw [w2_sum] at h62
    rw [w3_sum] at h63
    obtain ⟨τ, c1, c2, c3⟩ := fill_yes (σ := τ3) hg2 h63
    rw [h62]
    exact ⟨τ, c1, MI_9 M3 (c3.mono fun x j w => by omega), F3.tr (FrRf_X c3 fun x j w => by omega), by rw [c3.2.2.2.2 67 0 (by omega), z3], fun k hk => c2 k hk⟩
theorem planned_eq {σ : rS} {g : Nat → Nat} (h : ∀ k, k < 52 → rI σ 109 k = nI (g k)) : f_X11_planned σ = some (nI (ctK g)) := by
  obtain ⟨r, a1, a2⟩ := oL_ix (body := b_X11_planned_4 σ) (fun k s => s = (nI (natSum g k), nI k)) (N := 52) (fun r => r = nI (ctK g)) (by
      intro k s hk e
      subst e
      refine ⟨_, ?_, rfl⟩
      unfold b_X11_planned_4
      dsimp only
      rw [if_neg (show ¬ (52 : Int32) ≤ nI k from fun z => by have := (nI_leI (a := 52) (by omega) (by omega)).mp z; omega), if_pos (inB_nI (by decide) hk), nI_clamp (by omega), h k hk, nI_add, oLet_eq, nI_1]
      rfl)
    (by
      intro s e
      subst e
      exact ⟨nI (ctK g), by unfold b_X11_planned_4; rw [if_pos (show (52 : Int32) ≤ nI 52 by decide)]; rfl, rfl⟩)
    (n := oFuel) (by rw [oFuel_eq]; decide) (s := (0, 0)) rfl
  subst a2
  exact a1
theorem plannedW_eq {σ : rS} {g : Nat → Nat} (h : ∀ k, k < 52 → rI σ 109 k = nI (g k)) : f_X11_plannedWorth σ = some (nI (wtK g)) := by
  obtain ⟨r, a1, a2⟩ := oL_ix (body := b_X11_plannedWorth_4 σ) (fun k s => s = (nI (natSum (fun k => g k * (k % 13 + 1)) k), nI k)) (N := 52) (fun r => r = nI (wtK g)) (by
      intro k s hk e
      subst e
      refine ⟨_, ?_, rfl⟩
      unfold b_X11_plannedWorth_4
      dsimp only
      rw [if_neg (show ¬ (52 : Int32) ≤ nI k from fun z => by have := (nI_leI (a := 52) (by omega) (by omega)).mp z; omega), if_pos (inB_nI (by decide) hk), nI_clamp (by omega), h k hk, show (13 : Int32) = nI 13 from rfl, nI_rem (by omega) (by omega), nI_1, nI_mul, nI_add, oLet_eq, nI_1]
      rfl)
    (by
      intro s e
      subst e
      exact ⟨nI (wtK g), by unfold b_X11_plannedWorth_4; rw [if_pos (show (52 : Int32) ≤ nI 52 by decide)]; rfl, rfl⟩)
    (n := oFuel) (by rw [oFuel_eq]; decide) (s := (0, 0)) rfl
  subst a2
  exact a1
/-- a question about a plan, answered alike -/
theorem q_pl {fL fR : rS → Option (Int32 × rS)} {σ σ1 : rS} {B : Bd} {E : List Ent} {dl : Option (Nat × Nat × Nat)} {m : Mem} {l : Nat → Int64} {ch hh L : Nat} {v : Int32} (C : CI σ1 B E dl m l ch) (M : MI σ B E m l) (f : FrCl σ σ1) (K : KcI σ1 B m hh L ch) (hL : fL σ = some (0, wL σ1 114 0 v.toInt64)) (hR : ∀ τ, MI τ B E m l → ∃ τ', fR τ = some (v, τ') ∧ MI τ' B E m l ∧ rI τ' 67 0 = 0 ∧ FrRf τ τ') : QStep (fun τ => KcI τ B m hh L ch) fL fR σ B E dl m l ch := by
  have f1 := f.tr (FrCl_114 σ1 v.toInt64)
  obtain ⟨τ', a1, a2, a3, a4⟩ := hR _ (MI_fr M f1)
  exact ⟨0, _, v, τ', hL, a1, a3, fun _ => by rw [a4.2.2.2.2 114 0 (by omega), q_LL, if_pos ⟨rfl, rfl⟩], CI_fr (CI_114 C _) a4, a2, (Fr2_Cl f1).tr (Fr2_Rf a4), KcI_fr K ((FrK_114 σ1 _).tr (FrK_R a4))⟩
def besV (o : Option (Nat → Nat)) (q : Nat) : Int32 := match o with
  | none => -1
  | some g => if nI q = 0 then nI (ctK g) else nI (wtK g)
theorem bes_v {σ : rS} {o : Option (Nat → Nat)} (H : PlG σ o) (q : Nat) : (if rI σ 65 3 = 0 then (-1 : Int32) else if nI q = 0 then rI σ 65 4 else rI σ 65 5) = besV o q := by
  cases o with
  | none =>
    have h : rI σ 65 3 = 0 := H
    rw [if_pos h]
    rfl
  | some g =>
    obtain ⟨h1, h2, h3, -⟩ := H
    rw [h1, if_neg (by decide), h2, h3]
    rfl
theorem best_s {σ : rS} {B : Bd} {E : List Ent} {dl : Option (Nat × Nat × Nat)} {m : Mem} {l : Nat → Int64} {ch hh L jk ml pn n : Nat} (C : CI σ B E dl m l ch) (M : MI σ B E m l) (K : KcI σ B m hh L ch) (r : RuM m hh L jk ml pn n) (o : OkT B) (hM : ∀ p, p < 4 → m 72 p = 0 ∨ m 72 p = 1) (p1 p2 : Int32) : QStep (fun τ => KcI τ B m hh L ch) (fun σ => f_L_best σ p1 p2) (fun σ => f_X11_best σ p1 p2) σ B E dl m l ch := by
  have hn := CI_n C r
  have hn4 := r.2.2.2.2.2.2.2.2
  by_cases c1 : vIn p1 0 ((rI σ 19 0) - 1) = 0
  · refine q_ex C M (fun τ f => KcI_fr K f) 1 (-1) (by decide) ?_ ?_
    · show f_L_best σ p1 p2 = _
      unfold f_L_best f_X10_best f_X10_needPlayer
      rw [if_pos c1, oBx_r, oBc_r lk2]
    · show f_X11_best σ p1 p2 = _
      unfold f_X11_best
      rw [pl_same hn (MI_n M r), if_pos c1, holds1, oB_some, if_neg (by decide)]
  by_cases c2 : vIn p2 0 1 = 0
  · refine q_ex C M (fun τ f => KcI_fr K f) 2 (-1) (by decide) ?_ ?_
    · show f_L_best σ p1 p2 = _
      unfold f_L_best f_X10_best f_X10_needPlayer
      rw [if_neg c1, oBx_l, if_pos c2, oBc_r lk3]
    · show f_X11_best σ p1 p2 = _
      unfold f_X11_best
      rw [pl_same hn (MI_n M r), in_eq, if_neg c1, if_pos c2, holds2, oB_some, if_neg (by decide)]
  have c1' := c1
  rw [hn] at c1'
  obtain ⟨p, hp, rfl⟩ := vIn_pl hn4 c1'
  obtain ⟨q, -, hq, rfl⟩ := vIn_of (a := 0) (b := 1) (by decide) c2 (by decide)
  obtain ⟨τ, a1, a2, a3, a4, a5⟩ := cPlan_eq C o r K (by omega) (hM p (by omega))
  have bv := bes_v a5 q
  refine q_pl (v := besV (plF B m hh L p) q) a2 M a3 a4 ?_ fun υ N => ?_
  · show f_L_best σ (nI p) (nI q) = _
    rw [← bv]
    unfold f_L_best f_X10_best f_X10_needPlayer
    rw [if_neg c1, oBx_l, if_neg c2, a1, oB_some]
    by_cases z : rI τ 65 3 = 0
    · rw [if_pos z, if_pos z, oBc_l]; rfl
    · rw [if_neg z, if_neg z, oBc_l]; rfl
  · have N1 := MI_t N 0
    obtain ⟨υ2, b1, b2, b3, b4, b5⟩ := mPlan_eq (p := p) N1 o r (by omega) (hM p (by omega))
    refine ⟨υ2, ?_, b2, b4.trans (by rw [fld_eq, if_pos ⟨rfl, rfl⟩]), (FrRf_w (by omega) _).tr b3⟩
    show f_X11_best υ (nI p) (nI q) = _
    unfold f_X11_best
    rw [pl_same hn (MI_n N r), in_eq, if_neg c1, if_neg c2, holds0, oB_some, if_pos rfl, b1, oB_some]
    cases hf : plF B m hh L p with
    | none => rw [if_pos (show b2i (none : Option (Nat → Nat)).isSome = 0 from rfl)]; rfl
    | some g =>
      rw [hf] at b5
      have nz : ¬ b2i (some g).isSome = 0 := fun z => absurd (show (1 : Int32) = 0 from z) (by decide)
      rw [if_neg nz, planned_eq b5, plannedW_eq b5, Option.bind_some, Option.bind_some]
      unfold besV
      dsimp only
      by_cases z : nI q = 0
      · rw [if_pos z, if_pos z]; rfl
      · rw [if_neg z, if_neg z]; rfl
