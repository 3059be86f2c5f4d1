/-! moves, claims, signs, players and rules: the class alone -/
/-- a call is done, and answers v -/
def YV (Kp : rS → Prop) (fL : rS → Option (Int64 × rS)) (v : Int32) (σ : rS) (B : Bd) (E : List Ent) (dl : Option (Nat × Nat × Nat)) (m : Mem) (l : Nat → Int64) (ch : Nat) : Prop := ∃ σ1, fL σ = some (v.toInt64, σ1) ∧ CI σ1 B E dl m l ch ∧ Kp σ1
theorem yv_ok {Kp : rS → Prop} {fL : rS → Option (Int64 × rS)} {σ σ1 : rS} {B : Bd} {E : List Ent} {dl : Option (Nat × Nat × Nat)} {m : Mem} {l : Nat → Int64} {ch : Nat} {v : Int32} (C : CI σ1 B E dl m l ch) (fk : FrK σ σ1) (hK : ∀ τ, FrK σ τ → Kp τ) (hL : fL σ = some (v.toInt64, σ1)) : YV Kp fL v σ B E dl m l ch := ⟨σ1, hL, C, hK _ fk⟩
theorem lay_s {σ : rS} {B : Bd} {E : List Ent} {dl : Option (Nat × Nat × Nat)} {m : Mem} {l : Nat → Int64} {ch hh L jk ml pn n : Nat} (C : CI σ B E dl m l ch) {Kp : rS → Prop} (hK : ∀ τ, FrK σ τ → Kp τ) (r : RuM m hh L jk ml pn n) (o : OkT B) (tp : m 67 24 = -1 ∨ ∃ p, p < n ∧ m 67 24 = nI p) (hE : E.length < 1024) (hl : (bD B).length < 64) (k : Int32) : XS (fun σ => f_L_lay σ k) σ ∨ ∃ p j c, p < n ∧ m 67 24 = nI p ∧ j % 13 < hh ∧ vaB p B (0, j) ∧ 1 ≤ c ∧ c ≤ 3 ∧ YS Kp (fun σ => f_L_lay σ k) σ (apB p B (0, j)) (E ++ [(1, p, j + 1, 0)]) dl m l (ch + c) := by
  have h4 := CI_h C r
  have h13 := r.2.2.1
  have hn4 := r.2.2.2.2.2.2.2.2
  by_cases c1 : v_X5_isKind σ k = 0
  · refine Or.inl (x_ex (-10003) (by decide) ?_)
    · show f_L_lay σ k = _
      unfold f_L_lay f_X10_lay f_X10_needKind
      rw [if_pos c1, oBx_r, oBc_r lkA]
  · obtain ⟨j, hj, hjh, rfl⟩ := isKind_of h4 h13 c1
    have no : v_X10_mayLay σ (nI j) = 0 → XS (fun σ => f_L_lay σ (nI j)) σ := fun e1 => by
      refine x_ex (-10004) (by decide) ?_
      · show f_L_lay σ (nI j) = _
        unfold f_L_lay f_X10_lay f_X10_needKind
        rw [if_neg c1, oBx_l, if_pos e1, oBc_r lkS]
    rcases tp with tp | ⟨p, hp, tp⟩
    · refine Or.inl (no ?_)
      · unfold v_X10_mayLay
        rw [isOn_no C tp, if_pos rfl]
    · have my := mayLay_eq C o (by omega) tp hj
      by_cases c2 : 1 ≤ bR B (53 * p + j) ∧ bT B j + bJ B j < 2
      · rw [if_pos c2] at my
        have v : vaB p B (0, j) := ⟨hj, by omega, hl, Or.inl ⟨rfl, c2⟩⟩
        obtain ⟨σ1, c, a1, a2, a3, a4, a5⟩ := cLayT_eq C tp v hE
        refine Or.inr ⟨p, j, c, hp, tp, hjh, v, a3, a4, y_mv (v := nI (bT B j + bJ B j + 1)) a2 a5 hK (okV_n (by omega)) ?_⟩
        · show f_L_lay σ (nI j) = _
          unfold f_L_lay f_X10_lay f_X10_needKind
          rw [if_neg c1, oBx_l, my, if_neg (by decide), a1, oB_some, lies_eq a2.1 hj, (apB_0T p j B).1, (apB_0T p j B).2, oBc_l, show bT B j + 1 + bJ B j = bT B j + bJ B j + 1 by omega]
          all_goals rfl
      · rw [if_neg c2] at my
        exact Or.inl (no my)

theorem joker_s {σ : rS} {B : Bd} {E : List Ent} {dl : Option (Nat × Nat × Nat)} {m : Mem} {l : Nat → Int64} {ch hh L jk ml pn n : Nat} (C : CI σ B E dl m l ch) {Kp : rS → Prop} (hK : ∀ τ, FrK σ τ → Kp τ) (r : RuM m hh L jk ml pn n) (o : OkT B) (tp : m 67 24 = -1 ∨ ∃ p, p < n ∧ m 67 24 = nI p) (hE : E.length < 1024) (hl : (bD B).length < 64) (k : Int32) : XS (fun σ => f_L_joker σ k) σ ∨ ∃ p j c, p < n ∧ m 67 24 = nI p ∧ j % 13 < hh ∧ vaB p B (if bF B = 0 then 1 else 2, j) ∧ 1 ≤ c ∧ c ≤ 3 ∧ YS Kp (fun σ => f_L_joker σ k) σ (apB p B (if bF B = 0 then 1 else 2, j)) (E ++ [(2, p, j + 1, 0)]) dl m l (ch + c) := by
  have h4 := CI_h C r
  have h13 := r.2.2.1
  have hn4 := r.2.2.2.2.2.2.2.2
  by_cases c1 : v_X5_isKind σ k = 0
  · refine Or.inl (x_ex (-10003) (by decide) ?_)
    · show f_L_joker σ k = _
      unfold f_L_joker f_X10_joker f_X10_needKind
      rw [if_pos c1, oBx_r, oBc_r lkA]
  · obtain ⟨j, hj, hjh, rfl⟩ := isKind_of h4 h13 c1
    have no : v_X10_mayLayJoker σ (nI j) = 0 → XS (fun σ => f_L_joker σ (nI j)) σ := fun e1 => by
      refine x_ex (-10004) (by decide) ?_
      · show f_L_joker σ (nI j) = _
        unfold f_L_joker f_X10_joker f_X10_needKind
        rw [if_neg c1, oBx_l, if_pos e1, oBc_r lkS]
    rcases tp with tp | ⟨p, hp, tp⟩
    · refine Or.inl (no ?_)
      · unfold v_X10_mayLayJoker
        rw [isOn_no C tp, if_pos rfl]
    · have my := mayJ_eq C o (by omega) tp hj
      by_cases c2 : (bF B = 0 → 1 ≤ bR B (53 * p + 52)) ∧ bT B j + bJ B j < 2
      · rw [if_pos c2] at my
        have v : vaB p B (if bF B = 0 then 1 else 2, j) := by
          by_cases z : bF B = 0
          · rw [if_pos z]; exact ⟨hj, by omega, hl, Or.inr (Or.inl ⟨rfl, z, c2.1 z, c2.2⟩)⟩
          · rw [if_neg z]; exact ⟨hj, by omega, hl, Or.inr (Or.inr (Or.inl ⟨rfl, by omega, c2.2⟩))⟩
        have hf := o.2.2
        obtain ⟨σ1, c, a1, a2, a3, a4, a5⟩ := cLayJ_eq C tp (by omega) v hE
        have hjv : okV (nI (natSum (bJ (apB p B (if bF B = 0 then 1 else 2, j))) 52)) := by
          refine okV_n (Nat.lt_of_le_of_lt (natSum_le (B := 3) fun i hi => ?_) (by decide))
          have q1 := o.2.1 i hi
          have q2 := o.2.1 j hj
          have e : bJ (apB p B (if bF B = 0 then 1 else 2, j)) = up1 (bJ B) j (bJ B j + 1) := by
            split
            · rw [apB_1]
            · rw [apB_2]
          rw [e, up1_at]
          split <;> omega
        refine Or.inr ⟨p, j, c, hp, tp, hjh, v, a3, a4, y_mv (v := nI (natSum (bJ (apB p B (if bF B = 0 then 1 else 2, j))) 52)) a2 a5 hK hjv ?_⟩
        · show f_L_joker σ (nI j) = _
          unfold f_L_joker f_X10_joker f_X10_needKind
          rw [if_neg c1, oBx_l, my, if_neg (by decide), a1, oB_some, a2.1.2.2.2.2.2.2.2.2.1, oBc_l]
          all_goals rfl
      · rw [if_neg c2] at my
        exact Or.inl (no my)
theorem swap_s {σ : rS} {B : Bd} {E : List Ent} {dl : Option (Nat × Nat × Nat)} {m : Mem} {l : Nat → Int64} {ch hh L jk ml pn n : Nat} (C : CI σ B E dl m l ch) {Kp : rS → Prop} (hK : ∀ τ, FrK σ τ → Kp τ) (r : RuM m hh L jk ml pn n) (o : OkT B) (tp : m 67 24 = -1 ∨ ∃ p, p < n ∧ m 67 24 = nI p) (hM : ∀ p, p < 4 → m 72 p = 0 ∨ m 72 p = 1) (hE : E.length < 1024) (hl : (bD B).length < 64) (k : Int32) : XS (fun σ => f_L_swap σ k) σ ∨ ∃ p j c, p < n ∧ m 67 24 = nI p ∧ j % 13 < hh ∧ m 72 p = 1 ∧ vaB p B (3, j) ∧ 1 ≤ c ∧ c ≤ 3 ∧ YS Kp (fun σ => f_L_swap σ k) σ (apB p B (3, j)) (E ++ [(3, p, j + 1, 0)]) dl m l (ch + c) := by
  have h4 := CI_h C r
  have h13 := r.2.2.1
  have hn4 := r.2.2.2.2.2.2.2.2
  by_cases c1 : v_X5_isKind σ k = 0
  · refine Or.inl (x_ex (-10003) (by decide) ?_)
    · show f_L_swap σ k = _
      unfold f_L_swap f_X10_swap f_X10_needKind
      rw [if_pos c1, oBx_r, oBc_r lkA]
  · obtain ⟨j, hj, hjh, rfl⟩ := isKind_of h4 h13 c1
    have no : v_X10_maySwap σ (nI j) = 0 → XS (fun σ => f_L_swap σ (nI j)) σ := fun e1 => by
      refine x_ex (-10004) (by decide) ?_
      · show f_L_swap σ (nI j) = _
        unfold f_L_swap f_X10_swap f_X10_needKind
        rw [if_neg c1, oBx_l, if_pos e1, oBc_r lkS]
    rcases tp with tp | ⟨p, hp, tp⟩
    · refine Or.inl (no ?_)
      · unfold v_X10_maySwap
        rw [isOn_no C tp, if_pos rfl]
    · have p4 : p < 4 := by omega
      have hz := rsz_ge (R := bR B) (p := p) (k := j) (by omega)
      have hr := o.1.2.1 p p4
      have ht := o.2.1 j hj
      have my : v_X10_maySwap σ (nI j) = if m 72 p = 1 ∧ 1 ≤ bR B (53 * p + j) ∧ 1 ≤ bJ B j then 1 else 0 := by
        have e1 : (nI (bR B (53 * p + j)) ≤ 0) = (bR B (53 * p + j) = 0) := nI_le0 (by omega)
        have e2 : (nI (bJ B j) ≤ 0) = (bJ B j = 0) := nI_le0 (by omega)
        unfold v_X10_maySwap
        rw [isOn_yes C p4 tp, CI_p C tp, hasM_eq C p4, rackOf_eq C.1 p4 (by omega), vAt_nI (by decide) hj, show rI σ 10 j = nI (bJ B j) from C.1.2.2.2.2.1 j hj, if_neg (by decide)]
        simp only [e1, e2]
        by_cases g1 : m 72 p = 1
        · rw [if_pos g1, if_neg (by decide)]
          by_cases g2 : bR B (53 * p + j) = 0
          · rw [if_pos g2, if_neg (by omega)]
          · rw [if_neg g2]
            by_cases g3 : bJ B j = 0
            · rw [if_pos g3, if_neg (by omega)]
            · rw [if_neg g3, if_pos ⟨g1, by omega, by omega⟩]
        · rw [if_neg g1, if_pos rfl, if_neg (fun z => g1 z.1)]
      by_cases c2 : m 72 p = 1 ∧ 1 ≤ bR B (53 * p + j) ∧ 1 ≤ bJ B j
      · rw [if_pos c2] at my
        have v : vaB p B (3, j) := ⟨hj, p4, hl, Or.inr (Or.inr (Or.inr ⟨rfl, c2.2⟩))⟩
        obtain ⟨σ1, c, a1, a2, a3, a4, a5⟩ := cSwap_eq C tp v hE
        refine Or.inr ⟨p, j, c, hp, tp, hjh, c2.1, v, a3, a4, y_mv (v := nI (bF (apB p B (3, j)))) a2 a5 hK (okV_n (by have := o.2.2; rw [apB_3]; show bF B + 1 < 2 ^ 31; omega)) ?_⟩
        · show f_L_swap σ (nI j) = _
          unfold f_L_swap f_X10_swap f_X10_needKind
          rw [if_neg c1, oBx_l, my, if_neg (by decide), a1, oB_some, a2.1.2.2.2.2.2.2.2.2.2.1, oBc_l]
          all_goals rfl
      · rw [if_neg c2] at my
        exact Or.inl (no my)
theorem back_s {σ : rS} {B : Bd} {E : List Ent} {dl : Option (Nat × Nat × Nat)} {m : Mem} {l : Nat → Int64} {ch n : Nat} (C : CI σ B E dl m l ch) {Kp : rS → Prop} (hK : ∀ τ, FrK σ τ → Kp τ) (hn4 : n ≤ 4) (tu : TuI B m n) (hE : E.length < 1024) : XS (fun σ => f_L_back σ) σ ∨ ∃ p B1 d c, p < n ∧ m 67 24 = nI p ∧ vaB p B1 d ∧ B = apB p B1 d ∧ 1 ≤ c ∧ c ≤ 3 ∧ YS Kp (fun σ => f_L_back σ) σ B1 (E ++ [(4, p, d.2 + 1, 0)]) dl m l (ch + c) := by
  have no : v_X10_mayTakeBack σ = 0 → XS (fun σ => f_L_back σ) σ := fun e1 => by
    refine x_ex (-10004) (by decide) ?_
    · show f_L_back σ = _
      unfold f_L_back f_X10_back
      rw [if_pos e1, oBc_r lkS]
  rcases tu with ⟨tp, -, -⟩ | ⟨p, B0, hp, tp, o, h0, hF, ok, hB⟩
  · refine Or.inl (no ?_)
    · unfold v_X10_mayTakeBack
      rw [isOn_no C tp, if_pos rfl]
  · by_cases hne : bD B = []
    · refine Or.inl (no ?_)
      · unfold v_X10_mayTakeBack
        rw [isOn_yes C (by omega) tp, C.1.2.2.2.2.2.1.1, hne, if_neg (by decide), if_pos (by decide)]
    · obtain ⟨l', d, hD⟩ : ∃ l' d, bD B = l' ++ [d] := ⟨(bD B).dropLast, (bD B).getLast hne, (List.dropLast_concat_getLast hne).symm⟩
      have hD0 := hD
      rw [hD] at ok hB
      rw [okB_sn] at ok
      rw [runB_sn] at hB
      have o1 := (OkT_run o h0 hF l'.length l' rfl ok.1).1
      have hl := ok.2.2.2.1
      have hf := o1.2.2
      subst hB
      obtain ⟨σ1, c, a1, a2, a3, a4, a5⟩ := cBack_eq C tp ok.2 (by omega) hE
      refine Or.inr ⟨p, runB p B0 l', d, c, hp, tp, ok.2, rfl, a3, a4, y_mv (v := nI (bD (runB p B0 l')).length) a2 a5 hK (okV_n (by omega)) ?_⟩
      · show f_L_back σ = _
        have my : ¬ v_X10_mayTakeBack σ = 0 := by
          unfold v_X10_mayTakeBack
          have e1 : (nI (bD (apB p (runB p B0 l') d)).length ≤ 0) = ((bD (apB p (runB p B0 l') d)).length = 0) := nI_le0 (by rw [apB_D, List.length_append]; simp only [List.length_cons, List.length_nil]; omega)
          rw [isOn_yes C (by omega) tp, C.1.2.2.2.2.2.1.1, if_neg (by decide)]
          simp only [e1]
          rw [if_neg (by rw [apB_D, List.length_append]; simp)]
          decide
        unfold f_L_back f_X10_back
        rw [if_neg my, a1, oB_some, a2.1.2.2.2.2.2.1.1, oBc_l]
        all_goals rfl
theorem claim_s {σ : rS} {B : Bd} {E : List Ent} {dl : Option (Nat × Nat × Nat)} {m : Mem} {l : Nat → Int64} {ch hh L jk ml pn n : Nat} (C : CI σ B E dl m l ch) {Kp : rS → Prop} (hK : ∀ τ, FrK σ τ → Kp τ) (r : RuM m hh L jk ml pn n) (hcl : ∀ i, i < 208 → okV (m 78 i)) (p k c : Int32) : XS (fun σ => f_L_claim σ p k c) σ ∨ ∃ i, i < 208 ∧ ¬ vIn c 0 2 = 0 ∧ YS Kp (fun σ => f_L_claim σ p k c) σ B E dl (up2 m 78 i c) l ch := by
  have h4 := CI_h C r
  have hn := CI_n C r
  have h13 := r.2.2.1
  have hn4 := r.2.2.2.2.2.2.2.2
  by_cases c1 : vIn p 0 ((rI σ 19 0) - 1) = 0
  · refine Or.inl (x_ex (-10002) (by decide) ?_)
    · show f_L_claim σ p k c = _
      unfold f_L_claim f_X10_claim f_X10_needPlayer
      rw [if_pos c1, oBx_r, oBc_r lkI]
  · rw [hn] at c1
    obtain ⟨q, hq, rfl⟩ := vIn_pl hn4 c1
    rw [← hn] at c1
    by_cases c2 : v_X5_isKind σ k = 0
    · refine Or.inl (x_ex (-10003) (by decide) ?_)
      · show f_L_claim σ (nI q) k c = _
        unfold f_L_claim f_X10_claim f_X10_needPlayer f_X10_needKind
        rw [if_neg c1, oBx_l, if_pos c2, oBx_r, oBc_r lkA]
    · obtain ⟨j, hj, -, rfl⟩ := isKind_of h4 h13 c2
      by_cases c3 : vIn c 0 2 = 0
      · refine Or.inl (x_ex (-10003) (by decide) ?_)
        · show f_L_claim σ (nI q) (nI j) c = _
          unfold f_L_claim f_X10_claim f_X10_needPlayer f_X10_needKind
          rw [if_neg c1, oBx_l, if_neg c2, oBx_l, if_pos c3, oBc_r lkA]
      · have hi : 52 * q + j < 208 := by omega
        have ei : nI q * 52 + nI j = nI (52 * q + j) := by rw [show (52 : Int32) = nI 52 from rfl, nI_mul, nI_add, Nat.mul_comm]
        have ei2 : 52 * nI q + nI j = nI (52 * q + j) := by rw [show (52 : Int32) = nI 52 from rfl, nI_mul, nI_add]
        refine Or.inr ⟨52 * q + j, hi, c3, y_ok (v := m 78 (52 * q + j)) (CI_w C (a := 30) (k := 52 * q + j) (by omega) c) (FrK_w (by omega) _) hK (hcl _ hi) ?_⟩
        · show f_L_claim σ (nI q) (nI j) c = _
          unfold f_L_claim f_X10_claim f_X10_needPlayer f_X10_needKind
          rw [if_neg c1, oBx_l, if_neg c2, oBx_l, if_neg c3, ei, vAt_nI (by decide) hi, vSet_nI (by decide) hi, row_w, oLet_eq, oLet_eq, oBc_l, CI_4 C (x := 30) (j := 52 * q + j) (by omega)]
          all_goals rfl
theorem type_s {σ : rS} {B : Bd} {E : List Ent} {dl : Option (Nat × Nat × Nat)} {m : Mem} {l : Nat → Int64} {ch wr : Nat} (C : CI σ B E dl m l ch) {Kp : rS → Prop} (hK : ∀ τ, FrK σ τ → Kp τ) (hw : m 67 34 = nI wr) (h40 : wr ≤ 40) (c : Int32) : XS (fun σ => f_L_type σ c) σ ∨ (wr < 40 ∧ YS Kp (fun σ => f_L_type σ c) σ B E dl (up2 (up2 m 86 wr c) 67 34 (nI (wr + 1))) l ch) := by
  have e31 : rI σ 31 1 = nI wr := (CI_4 C (x := 31) (j := 1) (by omega)).trans hw
  by_cases c1 : (if vIn c 97 122 = 0 then (if vIn c 48 57 = 0 then false else true) else true) = true
  · skip
    by_cases c2 : wr = 40
    · refine Or.inl (x_ex (-10004) (by decide) ?_)
      · show f_L_type σ c = _
        unfold f_L_type f_X10_type f_X7_write
        rw [if_pos c1, e31, if_neg (show ¬ nI wr < 40 from fun z => by have := (nI_lt' (b := 40) (by omega) (by omega)).mp z; omega), oB_some, if_pos rfl, oBc_r lkS]
    · have l40 : wr < 40 := by omega
      have C1 := CI_w C (a := 32) (k := wr) (by omega) c
      have C2 := CI_w C1 (a := 31) (k := 1) (by omega) (nI (wr + 1))
      refine Or.inr ⟨l40, y_ok (v := nI (wr + 1)) C2 ((FrK_w (by omega) _).tr (FrK_w (by omega) _)) hK (okV_n (by omega)) ?_⟩
      · show f_L_type σ c = _
        unfold f_L_type f_X10_type f_X7_write
        have q1 : rI (wI σ 32 wr c) 31 1 = nI wr := by rw [fld_eq, if_neg (by omega), e31]
        rw [if_pos c1, e31, if_pos (show nI wr < 40 from (nI_lt' (b := 40) (by omega) (by omega)).mpr l40), if_pos (inB_nI (by decide) l40), nI_clamp (by omega), oLet_eq, q1, nI_1, oLet_eq, oB_some, if_neg (by decide), fld_eq, if_pos ⟨rfl, rfl⟩, oBc_l]
        all_goals rfl
  · refine Or.inl (x_ex (-10003) (by decide) ?_)
    · show f_L_type σ c = _
      unfold f_L_type f_X10_type
      rw [if_neg c1, oBc_r lkA]
theorem player_s {σ : rS} {B : Bd} {E : List Ent} {dl : Option (Nat × Nat × Nat)} {m : Mem} {l : Nat → Int64} {ch hh L jk ml pn n : Nat} (C : CI σ B E dl m l ch) {Kp : rS → Prop} (hK : ∀ τ, FrK σ τ → Kp τ) (r : RuM m hh L jk ml pn n) (tp : m 67 24 = -1 ∨ ∃ p, p < n ∧ m 67 24 = nI p) (a b : Int32) : XS (fun σ => f_L_player σ a b) σ ∨ (n < 4 ∧ m 67 24 = -1 ∧ ¬ vIn a 0 1 = 0 ∧ ¬ vIn b 0 3 = 0 ∧ YV Kp (fun σ => f_L_player σ a b) (nI n) σ B E dl (up2 (up2 (up2 (up2 m 68 n a) 69 n b) 74 n (nI n)) 67 6 (nI (n + 1))) l ch) := by
  have hn := CI_n C r
  have hn4 := r.2.2.2.2.2.2.2.2
  by_cases c1 : vIn a 0 1 = 0
  · refine Or.inl (x_ex (-10003) (by decide) ?_)
    · show f_L_player σ a b = _
      unfold f_L_player f_X10_player
      rw [if_pos c1, if_pos rfl, oBc_r lkA]
  · by_cases c2 : vIn b 0 3 = 0
    · refine Or.inl (x_ex (-10003) (by decide) ?_)
      · show f_L_player σ a b = _
        unfold f_L_player f_X10_player
        rw [if_neg c1, if_pos c2, if_pos rfl, oBc_r lkA]
    · have cl : (if vIn a 0 1 = 0 then true else (if vIn b 0 3 = 0 then true else false)) = false := by rw [if_neg c1, if_neg c2]
      have c4 : (nI n = 4) = (n = 4) := propext (nI_eq (b := 4) (by omega) (by omega))
      have c5 : (nI n < 4) = (n < 4) := propext (nI_lt' (b := 4) (by omega) (by omega))
      have no : (n = 4 ∨ m 67 24 ≠ -1) → XS (fun σ => f_L_player σ a b) σ := fun h => by
        refine x_ex (-10004) (by decide) ?_
        · show f_L_player σ a b = _
          have e : (if v_X10_isOn σ = 0 then (if rI σ 19 0 < 4 then false else true) else true) = true := by
            rcases tp with tp | ⟨p, hp, tp⟩
            · rw [isOn_no C tp, if_pos rfl, hn]
              simp only [c5]
              rcases h with h | h
              · rw [if_neg (by omega)]
              · exact absurd tp h
            · rw [isOn_yes C (by omega) tp, if_neg (by decide)]
          unfold f_L_player f_X10_player
          rw [cl, if_neg (by decide), e, if_pos rfl, oBc_r lkS]
      rcases tp with tp | ⟨p, hp, tp⟩
      · by_cases g : n = 4
        · exact Or.inl (no (Or.inl g))
        · have l4 : n < 4 := by omega
          have C1 := CI_w C (a := 20) (k := n) (by omega) a
          have C2 := CI_w C1 (a := 21) (k := n) (by omega) b
          have C3 := CI_w C2 (a := 28) (k := n) (by omega) (nI n)
          have C4 := CI_w C3 (a := 19) (k := 0) (by omega) (nI (n + 1))
          refine Or.inr ⟨l4, tp, c1, c2, yv_ok (v := nI n) C4 ((((FrK_w (by omega) _).tr (FrK_w (by omega) _)).tr (FrK_w (by omega) _)).tr (FrK_w (by omega) _)) hK ?_⟩
          · show f_L_player σ a b = _
            have q3 : rI (wI (wI (wI σ 20 n a) 21 n b) 28 n (nI n)) 19 0 = nI n := by rw [fld_eq, if_neg (by omega), fld_eq, if_neg (by omega), fld_eq, if_neg (by omega), hn]
            unfold f_L_player f_X10_player f_X6_add
            rw [cl, if_neg (by decide), isOn_no C tp, if_pos rfl, hn, if_pos (show nI n < 4 from (nI_lt' (b := 4) (by omega) (by omega)).mpr l4), if_neg (by decide), vSet_nI (by decide) l4, row_w, oLet_eq, vSet_nI (by decide) l4, row_w, oLet_eq, vSet_nI (by decide) l4, row_w, oLet_eq, q3, nI_1, oLet_eq, oB_some, oBc_l]
            all_goals rfl
      · exact Or.inl (no (Or.inr (by rw [tp]; exact n_m1 (by omega))))
theorem rules_s {σ : rS} {B : Bd} {E : List Ent} {dl : Option (Nat × Nat × Nat)} {m : Mem} {l : Nat → Int64} {ch n : Nat} (C : CI σ B E dl m l ch) {Kp : rS → Prop} (hK : ∀ τ, FrK σ τ → Kp τ) (hn4 : n ≤ 4) (tp : m 67 24 = -1 ∨ ∃ p, p < n ∧ m 67 24 = nI p) (a b c d e : Int32) : XS (fun σ => f_L_rules σ a b c d e) σ ∨ (m 67 24 = -1 ∧ ¬ vIn a 5 13 = 0 ∧ ¬ vIn b 3 4 = 0 ∧ ¬ vIn c 0 3 = 0 ∧ ¬ vIn d 0 99 = 0 ∧ ¬ vIn e 1 9 = 0 ∧ YV Kp (fun σ => f_L_rules σ a b c d e) (8 * a + c) σ (zB (bX B)) [] none (ruU m a b c d e) l (ch + 1)) := by
  obtain ⟨ok, hok⟩ : ∃ x : Int32, x = (if vIn a 5 13 = 0 then 0 else (if vIn b 3 4 = 0 then 0 else (if vIn c 0 3 = 0 then 0 else (if vIn d 0 99 = 0 then 0 else (if vIn e 1 9 = 0 then 0 else 1))))) := ⟨_, rfl⟩
  by_cases c0 : ok = 0
  · refine Or.inl (x_ex (-10003) (by decide) ?_)
    · show f_L_rules σ a b c d e = _
      unfold f_L_rules f_X10_rules
      rw [← hok, oLet_eq, if_pos c0, oBc_r lkA]
  · rcases tp with tp | ⟨p, hp, tp⟩
    · have all : ¬ vIn a 5 13 = 0 ∧ ¬ vIn b 3 4 = 0 ∧ ¬ vIn c 0 3 = 0 ∧ ¬ vIn d 0 99 = 0 ∧ ¬ vIn e 1 9 = 0 := by
        by_cases g1 : vIn a 5 13 = 0
        · rw [if_pos g1] at hok; exact absurd hok c0
        · rw [if_neg g1] at hok
          by_cases g2 : vIn b 3 4 = 0
          · rw [if_pos g2] at hok; exact absurd hok c0
          · rw [if_neg g2] at hok
            by_cases g3 : vIn c 0 3 = 0
            · rw [if_pos g3] at hok; exact absurd hok c0
            · rw [if_neg g3] at hok
              by_cases g4 : vIn d 0 99 = 0
              · rw [if_pos g4] at hok; exact absurd hok c0
              · rw [if_neg g4] at hok
                by_cases g5 : vIn e 1 9 = 0
                · rw [if_pos g5] at hok; exact absurd hok c0
                · exact ⟨g1, g2, g3, g4, g5⟩
      have C1 := CI_w C (a := 4) (k := 0) (by omega) a
      have C2 := CI_w C1 (a := 4) (k := 1) (by omega) b
      have C3 := CI_w C2 (a := 4) (k := 2) (by omega) c
      have C4 := CI_w C3 (a := 4) (k := 3) (by omega) d
      have C5 := CI_w C4 (a := 4) (k := 4) (by omega) e
      obtain ⟨σ6, d6⟩ : ∃ z, z = wI (wI (wI (wI (wI σ 4 0 a) 4 1 b) 4 2 c) 4 3 d) 4 4 e := ⟨_, rfl⟩
      rw [← d6] at C5
      have C5 : CI σ6 B E dl (ruU m a b c d e) l ch := C5
      have fc : FrCl σ σ6 := by rw [d6]; exact ((((FrCl_w (by omega) _).tr (FrCl_w (by omega) _)).tr (FrCl_w (by omega) _)).tr (FrCl_w (by omega) _)).tr (FrCl_w (by omega) _)
      have fk : FrK σ σ6 := by rw [d6]; exact ((((FrK_w (by omega) _).tr (FrK_w (by omega) _)).tr (FrK_w (by omega) _)).tr (FrK_w (by omega) _)).tr (FrK_w (by omega) _)
      obtain ⟨σ7, e1, e2, e3⟩ := cclear_eq C5
      have C8 := CI_c0 e2
      refine Or.inr ⟨tp, all.1, all.2.1, all.2.2.1, all.2.2.2.1, all.2.2.2.2, yv_ok (v := 8 * a + c) C8 ((fk.tr (FrK_X e3 fun x j w => by omega)).tr ((FrK_w (by omega) _).tr (FrK_w (by omega) _))) hK ?_⟩
      · show f_L_rules σ a b c d e = _
        have ep : v_X5_pieces (wI (wI σ7 35 1 0) 35 2 0) = 8 * a + c := by
          unfold v_X5_pieces
          rw [CI_4 C8 (x := 4) (j := 0) (by omega), CI_4 C8 (x := 4) (j := 2) (by omega)]
          all_goals rfl
        unfold f_L_rules f_X10_rules f_X2_clear
        rw [← hok, oLet_eq, if_neg c0, isOn_no C tp, if_pos rfl, oLet_eq, oLet_eq, oLet_eq, oLet_eq, oLet_eq, ← d6, e1, oB_some, oLet_eq, oLet_eq, oB_some, ep, oBc_l]
        all_goals rfl
    · refine Or.inl (x_ex (-10004) (by decide) ?_)
      · show f_L_rules σ a b c d e = _
        unfold f_L_rules f_X10_rules
        rw [← hok, oLet_eq, if_neg c0, isOn_yes C (by omega) tp, if_neg (by decide), oBc_r lkS]
