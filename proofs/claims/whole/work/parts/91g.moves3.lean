/-! joker, swap, back as calls -/
theorem mayJ_eq {σ : rS} {B : Bd} {E : List Ent} {dl : Option (Nat × Nat × Nat)} {m : Mem} {l : Nat → Int64} {ch p k : Nat} (C : CI σ B E dl m l ch) (o : OkT B) (hp : p < 4) (h : m 67 24 = nI p) (hk : k < 52) : v_X10_mayLayJoker σ (nI k) = if (bF B = 0 → 1 ≤ bR B (53 * p + 52)) ∧ bT B k + bJ B k < 2 then 1 else 0 := by
  have hz := rsz_ge (R := bR B) (p := p) (k := 52) (by omega)
  have hr := o.1.2.1 p hp
  have ht := o.2.1 k hk
  have hf := o.2.2
  unfold v_X10_mayLayJoker
  rw [isOn_yes C hp h, CI_p C h, show (52 : Int32) = nI 52 from rfl, rackOf_eq C.1 hp (by omega), lies_eq C.1 hk, if_neg (by decide), C.1.2.2.2.2.2.2.2.2.2.1]
  have e1 : (nI (bR B (53 * p + 52)) ≤ 0) = (bR B (53 * p + 52) = 0) := nI_le0 (by omega)
  have e2 : ((2 : Int32) ≤ nI (bT B k + bJ B k)) = (2 ≤ bT B k + bJ B k) := nI_2le (by omega)
  have e3 : ((0 : Int32) < nI (bF B)) = (0 < bF B) := propext (nI_lt' (a := 0) (by omega) (by omega))
  simp only [e1, e2, e3]
  by_cases c3 : 0 < bF B
  · rw [if_pos c3]
    by_cases c2 : 2 ≤ bT B k + bJ B k
    · rw [if_pos c2, if_neg (by omega)]
    · rw [if_neg c2, if_pos ⟨fun z => by omega, by omega⟩]
  · rw [if_neg c3]
    by_cases c1 : bR B (53 * p + 52) = 0
    · rw [if_pos c1, if_neg (fun z => by have := z.1 (by omega); omega)]
    · rw [if_neg c1]
      by_cases c2 : 2 ≤ bT B k + bJ B k
      · rw [if_pos c2, if_neg (by omega)]
      · rw [if_neg c2, if_pos ⟨fun _ => by omega, by omega⟩]
theorem joker_s {σ : rS} {B : Bd} {E : List Ent} {dl : Option (Nat × Nat × Nat)} {m : Mem} {l : Nat → Int64} {ch hh L jk ml pn n : Nat} (C : CI σ B E dl m l ch) (M : MI σ B E m l) {Kp : rS → Prop} (hK : ∀ τ, FrK σ τ → Kp τ) (r : RuM m hh L jk ml pn n) (o : OkT B) (tp : m 67 24 = -1 ∨ ∃ p, p < n ∧ m 67 24 = nI p) (hE : E.length < 1024) (hl : (bD B).length < 64) (k : Int32) : QStep Kp (fun σ => f_L_joker σ k) (fun σ => f_X11_joker σ k) σ B E dl m l ch ∨ ∃ p j c, p < n ∧ m 67 24 = nI p ∧ j % 13 < hh ∧ vaB p B (if bF B = 0 then 1 else 2, j) ∧ 1 ≤ c ∧ c ≤ 3 ∧ QStep Kp (fun σ => f_L_joker σ k) (fun σ => f_X11_joker σ k) σ (apB p B (if bF B = 0 then 1 else 2, j)) (E ++ [(2, p, j + 1, 0)]) dl m l (ch + c) := by
  have h4 := CI_h C r
  have h13 := r.2.2.1
  have hn4 := r.2.2.2.2.2.2.2.2
  by_cases c1 : v_X5_isKind σ k = 0
  · refine Or.inl (q_ex C M hK 1 (-1) (by decide) ?_ ?_)
    · show f_L_joker σ k = _
      unfold f_L_joker f_X10_joker f_X10_needKind
      rw [if_pos c1, oBx_r, oBc_r lk4]
    · show f_X11_joker σ k = _
      unfold f_X11_joker
      rw [kind_same h4 (MI_h M r), if_pos c1, holds1, oB_some, if_neg (by decide)]
  · obtain ⟨j, hj, hjh, rfl⟩ := isKind_of h4 h13 c1
    have no : v_X10_mayLayJoker σ (nI j) = 0 → f_X11_laysJoker σ (nI j) = some (0, σ) → QStep Kp (fun σ => f_L_joker σ (nI j)) (fun σ => f_X11_joker σ (nI j)) σ B E dl m l ch := fun e1 e2 => by
      refine q_ex C M hK 2 (-1) (by decide) ?_ ?_
      · show f_L_joker σ (nI j) = _
        unfold f_L_joker f_X10_joker f_X10_needKind
        rw [if_neg c1, oBx_l, if_pos e1, oBc_r lk5]
      · show f_X11_joker σ (nI j) = _
        unfold f_X11_joker
        rw [kind_same h4 (MI_h M r), if_neg c1, e2, oB_some, if_pos rfl, holds2, oB_some, if_neg (by decide)]
    rcases tp with tp | ⟨p, hp, tp⟩
    · refine Or.inl (no ?_ ?_)
      · unfold v_X10_mayLayJoker
        rw [isOn_no C tp, if_pos rfl]
      · unfold f_X11_laysJoker
        rw [(M.2.2.1 67 24 (by omega)).trans tp, if_pos rfl]
    · have my := mayJ_eq C o (by omega) tp hj
      by_cases c2 : (bF B = 0 → 1 ≤ bR B (53 * p + 52)) ∧ bT B j + bJ B j < 2
      · rw [if_pos c2] at my
        have v : vaB p B (if bF B = 0 then 1 else 2, j) := by
          by_cases z : bF B = 0
          · rw [if_pos z]; exact ⟨hj, by omega, hl, Or.inr (Or.inl ⟨rfl, z, c2.1 z, c2.2⟩)⟩
          · rw [if_neg z]; exact ⟨hj, by omega, hl, Or.inr (Or.inr (Or.inl ⟨rfl, by omega, c2.2⟩))⟩
        have hf := o.2.2
        obtain ⟨σ1, c, a1, a2, a3, a4, a5⟩ := cLayJ_eq C tp (by omega) v hE
        refine Or.inr ⟨p, j, c, hp, tp, hjh, v, a3, a4, q_mv (v := nI (natSum (bJ (apB p B (if bF B = 0 then 1 else 2, j))) 52)) a2 M a5 hK ?_ fun τ N => ?_⟩
        · show f_L_joker σ (nI j) = _
          unfold f_L_joker f_X10_joker f_X10_needKind
          rw [if_neg c1, oBx_l, my, if_neg (by decide), a1, oB_some, a2.1.2.2.2.2.2.2.2.2.1, oBc_l]
          rfl
        · show ∃ τ', f_X11_joker τ (nI j) = _ ∧ _
          obtain ⟨τ', b1, b2, b3⟩ := mLayJ_eq N tp o v (by omega)
          refine ⟨τ', ?_, b2, b3⟩
          have N1 := MbQ_t b2 0
          unfold f_X11_joker
          rw [kind_same h4 (MI_h N r), if_neg c1, b1, oB_some, if_neg (by decide), holds0, oB_some, if_pos rfl, jokersLaid_eq N1]
          rfl
      · rw [if_neg c2] at my
        exact Or.inl (no my (laysJ_no M.1 o (by omega) ((M.2.2.1 67 24 (by omega)).trans tp) hj c2))
theorem hasM_eq {σ : rS} {B : Bd} {E : List Ent} {dl : Option (Nat × Nat × Nat)} {m : Mem} {l : Nat → Int64} {ch p : Nat} (C : CI σ B E dl m l ch) (hp : p < 4) : v_X10_hasMelded σ (nI p) = if m 72 p = 1 then 1 else 0 := by
  unfold v_X10_hasMelded
  rw [vAt_nI (by decide) hp, CI_4 C (x := 24) (j := p) (by omega)]
  rfl
theorem swap_s {σ : rS} {B : Bd} {E : List Ent} {dl : Option (Nat × Nat × Nat)} {m : Mem} {l : Nat → Int64} {ch hh L jk ml pn n : Nat} (C : CI σ B E dl m l ch) (M : MI σ B E m l) {Kp : rS → Prop} (hK : ∀ τ, FrK σ τ → Kp τ) (r : RuM m hh L jk ml pn n) (o : OkT B) (tp : m 67 24 = -1 ∨ ∃ p, p < n ∧ m 67 24 = nI p) (hM : ∀ p, p < 4 → m 72 p = 0 ∨ m 72 p = 1) (hE : E.length < 1024) (hl : (bD B).length < 64) (k : Int32) : QStep Kp (fun σ => f_L_swap σ k) (fun σ => f_X11_swap σ k) σ B E dl m l ch ∨ ∃ p j c, p < n ∧ m 67 24 = nI p ∧ j % 13 < hh ∧ m 72 p = 1 ∧ vaB p B (3, j) ∧ 1 ≤ c ∧ c ≤ 3 ∧ QStep Kp (fun σ => f_L_swap σ k) (fun σ => f_X11_swap σ k) σ (apB p B (3, j)) (E ++ [(3, p, j + 1, 0)]) dl m l (ch + c) := by
  have h4 := CI_h C r
  have h13 := r.2.2.1
  have hn4 := r.2.2.2.2.2.2.2.2
  by_cases c1 : v_X5_isKind σ k = 0
  · refine Or.inl (q_ex C M hK 1 (-1) (by decide) ?_ ?_)
    · show f_L_swap σ k = _
      unfold f_L_swap f_X10_swap f_X10_needKind
      rw [if_pos c1, oBx_r, oBc_r lk4]
    · show f_X11_swap σ k = _
      unfold f_X11_swap
      rw [kind_same h4 (MI_h M r), if_pos c1, holds1, oB_some, if_neg (by decide)]
  · obtain ⟨j, hj, hjh, rfl⟩ := isKind_of h4 h13 c1
    have no : v_X10_maySwap σ (nI j) = 0 → f_X11_swaps σ (nI j) = some (0, σ) → QStep Kp (fun σ => f_L_swap σ (nI j)) (fun σ => f_X11_swap σ (nI j)) σ B E dl m l ch := fun e1 e2 => by
      refine q_ex C M hK 2 (-1) (by decide) ?_ ?_
      · show f_L_swap σ (nI j) = _
        unfold f_L_swap f_X10_swap f_X10_needKind
        rw [if_neg c1, oBx_l, if_pos e1, oBc_r lk5]
      · show f_X11_swap σ (nI j) = _
        unfold f_X11_swap
        rw [kind_same h4 (MI_h M r), if_neg c1, e2, oB_some, if_pos rfl, holds2, oB_some, if_neg (by decide)]
    rcases tp with tp | ⟨p, hp, tp⟩
    · refine Or.inl (no ?_ ?_)
      · unfold v_X10_maySwap
        rw [isOn_no C tp, if_pos rfl]
      · unfold f_X11_swaps
        rw [(M.2.2.1 67 24 (by omega)).trans tp, if_pos rfl]
    · have p4 : p < 4 := by omega
      have hz := rsz_ge (R := bR B) (p := p) (k := j) (by omega)
      have hr := o.1.2.1 p p4
      have ht := o.2.1 j hj
      have my : v_X10_maySwap σ (nI j) = if m 72 p = 1 ∧ 1 ≤ bR B (53 * p + j) ∧ 1 ≤ bJ B j then 1 else 0 := by
        have e1 : (nI (bR B (53 * p + j)) ≤ 0) = (bR B (53 * p + j) = 0) := nI_le0 (by omega)
        have e2 : (nI (bJ B j) ≤ 0) = (bJ B j = 0) := nI_le0 (by omega)
        unfold v_X10_maySwap
        rw [isOn_yes C p4 tp, CI_p C tp, hasM_eq C p4, rackOf_eq C.1 p4 (by omega), vAt_nI (by decide) hj, show rI σ 10 j = nI (bJ B j) from C.1.2.2.2.2.1 j hj, if_neg (by decide)]
        simp only [e1, e2]
        by_cases g1 : m 72 p = 1
        · rw [if_pos g1, if_neg (by decide)]
          by_cases g2 : bR B (53 * p + j) = 0
          · rw [if_pos g2, if_neg (by omega)]
          · rw [if_neg g2]
            by_cases g3 : bJ B j = 0
            · rw [if_pos g3, if_neg (by omega)]
            · rw [if_neg g3, if_pos ⟨g1, by omega, by omega⟩]
        · rw [if_neg g1, if_pos rfl, if_neg (fun z => g1 z.1)]
      by_cases c2 : m 72 p = 1 ∧ 1 ≤ bR B (53 * p + j) ∧ 1 ≤ bJ B j
      · rw [if_pos c2] at my
        have v : vaB p B (3, j) := ⟨hj, p4, hl, Or.inr (Or.inr (Or.inr ⟨rfl, c2.2⟩))⟩
        obtain ⟨σ1, c, a1, a2, a3, a4, a5⟩ := cSwap_eq C tp v hE
        refine Or.inr ⟨p, j, c, hp, tp, hjh, c2.1, v, a3, a4, q_mv (v := nI (bF (apB p B (3, j)))) a2 M a5 hK ?_ fun τ N => ?_⟩
        · show f_L_swap σ (nI j) = _
          unfold f_L_swap f_X10_swap f_X10_needKind
          rw [if_neg c1, oBx_l, my, if_neg (by decide), a1, oB_some, a2.1.2.2.2.2.2.2.2.2.2.1, oBc_l]
          rfl
        · show ∃ τ', f_X11_swap τ (nI j) = _ ∧ _
          obtain ⟨τ', b1, b2, b3⟩ := mSwap_eq N tp o c2.1 v (by omega)
          refine ⟨τ', ?_, b2, b3⟩
          have N1 := MbQ_t b2 0
          unfold f_X11_swap
          rw [kind_same h4 (MI_h N r), if_neg c1, b1, oB_some, if_neg (by decide), holds0, oB_some, if_pos rfl, N1.2.2.2.2.2.1]
      · rw [if_neg c2] at my
        have hm : rI σ 72 p = if decide (m 72 p = 1) then 1 else 0 := by
          rw [M.2.2.1 72 p (by omega)]
          rcases hM p p4 with e | e
          · rw [e]; rfl
          · rw [e]; rfl
        exact Or.inl (no my (swaps_no M.1 o p4 ((M.2.2.1 67 24 (by omega)).trans tp) hj hm (fun z => c2 ⟨of_decide_eq_true z.1, z.2⟩)))
theorem OkT_ap {p : Nat} {B : Bd} {d : Nat × Nat} (o : OkT B) (v : vaB p B d) (hF : bF (apB p B d) ≤ 64) : OkT (apB p B d) := by
  obtain ⟨⟨o1, o2, o3⟩, o4, o5⟩ := o
  obtain ⟨h, k⟩ := d
  obtain ⟨hk, hp, hl, v⟩ := v
  have hk : k < 52 := hk
  have rs : ∀ j, j < 53 → ∀ q, q < 4 → rsz (up1 (bR B) (53 * p + j) (bR B (53 * p + j) - 1)) q ≤ 24 := fun j hj q hq => by
    have h1 := o2 q hq
    by_cases e : q = p
    · subst e
      have := rsz_up (R := bR B) (p := q) (x := bR B (53 * q + j) - 1) hj
      omega
    · rw [rsz_other hj e]; exact h1
  rcases v with ⟨e, v1, v2⟩ | ⟨e, v0, v1, v2⟩ | ⟨e, v1, v2⟩ | ⟨e, v1, v2⟩
  · have e : h = 0 := e
    subst e
    have v2 : bT B k + bJ B k < 2 := v2
    rw [apB_0] at hF ⊢
    refine ⟨⟨o1, rs k (by omega), o3⟩, fun i hi => ?_, hF⟩
    show up1 (bT B) k (bT B k + 1) i + bJ B i ≤ 2
    have := o4 i hi
    rw [up1_at]; split
    · rename_i e; subst e; omega
    · exact this
  · have e : h = 1 := e
    subst e
    have v2 : bT B k + bJ B k < 2 := v2
    rw [apB_1] at hF ⊢
    refine ⟨⟨o1, rs 52 (by omega), o3⟩, fun i hi => ?_, hF⟩
    show bT B i + up1 (bJ B) k (bJ B k + 1) i ≤ 2
    have := o4 i hi
    rw [up1_at]; split
    · rename_i e; subst e; omega
    · exact this
  · have e : h = 2 := e
    subst e
    have v2 : bT B k + bJ B k < 2 := v2
    rw [apB_2] at hF ⊢
    refine ⟨⟨o1, o2, o3⟩, fun i hi => ?_, hF⟩
    show bT B i + up1 (bJ B) k (bJ B k + 1) i ≤ 2
    have := o4 i hi
    rw [up1_at]; split
    · rename_i e; subst e; omega
    · exact this
  · have e : h = 3 := e
    subst e
    have v2 : 1 ≤ bJ B k := v2
    rw [apB_3] at hF ⊢
    refine ⟨⟨o1, rs k (by omega), o3⟩, fun i hi => ?_, hF⟩
    show up1 (bT B) k (bT B k + 1) i + up1 (bJ B) k (bJ B k - 1) i ≤ 2
    have := o4 i hi
    rw [up1_at, up1_at]; split
    · rename_i e; subst e; omega
    · exact this
theorem OkT_run {p : Nat} {B0 : Bd} (o : OkT B0) (h0 : bD B0 = []) (hF : bF B0 = 0) : ∀ (k : Nat) (l : List (Nat × Nat)), l.length = k → okB p B0 l → OkT (runB p B0 l) ∧ l.length ≤ 64 := by
  intro k
  induction k with
  | zero =>
    intro l hl _
    have : l = [] := List.length_eq_zero_iff.mp hl
    subst this
    exact ⟨o, by decide⟩
  | succ k ih =>
    intro l hl ok
    have hne : l ≠ [] := fun e => by rw [e] at hl; exact absurd hl (by simp)
    obtain ⟨l', d, rfl⟩ : ∃ l' d, l = l' ++ [d] := ⟨l.dropLast, l.getLast hne, (List.dropLast_concat_getLast hne).symm⟩
    have hl' : l'.length = k := by rw [List.length_append] at hl; simp at hl; exact hl
    rw [okB_sn] at ok
    have i := ih l' hl' ok.1
    have hd := ok.2.2.2.1
    rw [runB_D, h0, List.nil_append] at hd
    have hf := runB_F (p := p) (B := B0) (l' ++ [d])
    rw [List.length_append, List.length_singleton] at hf ⊢
    rw [runB_sn] at hf ⊢
    exact ⟨OkT_ap i.1 ok.2 (by omega), by omega⟩
/-- whose turn it is, and what was done in it -/
def TuI (B : Bd) (m : Mem) (n : Nat) : Prop := (m 67 24 = -1 ∧ bD B = [] ∧ bF B = 0) ∨ ∃ p B0, p < n ∧ m 67 24 = nI p ∧ OkT B0 ∧ bD B0 = [] ∧ bF B0 = 0 ∧ okB p B0 (bD B) ∧ B = runB p B0 (bD B)
theorem back_s {σ : rS} {B : Bd} {E : List Ent} {dl : Option (Nat × Nat × Nat)} {m : Mem} {l : Nat → Int64} {ch n : Nat} (C : CI σ B E dl m l ch) (M : MI σ B E m l) {Kp : rS → Prop} (hK : ∀ τ, FrK σ τ → Kp τ) (hn4 : n ≤ 4) (tu : TuI B m n) (hE : E.length < 1024) : QStep Kp (fun σ => f_L_back σ) (fun σ => f_X11_back σ) σ B E dl m l ch ∨ ∃ p B1 d c, p < n ∧ m 67 24 = nI p ∧ vaB p B1 d ∧ B = apB p B1 d ∧ 1 ≤ c ∧ c ≤ 3 ∧ QStep Kp (fun σ => f_L_back σ) (fun σ => f_X11_back σ) σ B1 (E ++ [(4, p, d.2 + 1, 0)]) dl m l (ch + c) := by
  have no : v_X10_mayTakeBack σ = 0 → f_X11_takesBack σ = some (0, σ) → QStep Kp (fun σ => f_L_back σ) (fun σ => f_X11_back σ) σ B E dl m l ch := fun e1 e2 => by
    refine q_ex C M hK 1 (-1) (by decide) ?_ ?_
    · show f_L_back σ = _
      unfold f_L_back f_X10_back
      rw [if_pos e1, oBc_r lk6]
    · show f_X11_back σ = _
      unfold f_X11_back
      rw [e2, oB_some, if_pos rfl, holds1, oB_some, if_neg (by decide)]
  rcases tu with ⟨tp, -, -⟩ | ⟨p, B0, hp, tp, o, h0, hF, ok, hB⟩
  · refine Or.inl (no ?_ ?_)
    · unfold v_X10_mayTakeBack
      rw [isOn_no C tp, if_pos rfl]
    · unfold f_X11_takesBack
      rw [(M.2.2.1 67 24 (by omega)).trans tp, if_pos rfl, if_pos rfl]
  · by_cases hne : bD B = []
    · refine Or.inl (no ?_ ?_)
      · unfold v_X10_mayTakeBack
        rw [isOn_yes C (by omega) tp, C.1.2.2.2.2.2.1.1, hne, if_neg (by decide), if_pos (by decide)]
      · unfold f_X11_takesBack
        rw [(M.2.2.1 67 24 (by omega)).trans tp, if_neg (n_m1 (by omega)), M.1.2.2.2.2.1.1, hne, if_pos (show nI ([] : List (Nat × Nat)).length = 0 from rfl), if_pos rfl]
    · obtain ⟨l', d, hD⟩ : ∃ l' d, bD B = l' ++ [d] := ⟨(bD B).dropLast, (bD B).getLast hne, (List.dropLast_concat_getLast hne).symm⟩
      have hD0 := hD
      rw [hD] at ok hB
      rw [okB_sn] at ok
      rw [runB_sn] at hB
      have o1 := (OkT_run o h0 hF l'.length l' rfl ok.1).1
      have hl := ok.2.2.2.1
      have hf := o1.2.2
      subst hB
      obtain ⟨σ1, c, a1, a2, a3, a4, a5⟩ := cBack_eq C tp ok.2 (by omega) hE
      refine Or.inr ⟨p, runB p B0 l', d, c, hp, tp, ok.2, rfl, a3, a4, q_mv (v := nI (bD (runB p B0 l')).length) a2 M a5 hK ?_ fun τ N => ?_⟩
      · show f_L_back σ = _
        have my : ¬ v_X10_mayTakeBack σ = 0 := by
          unfold v_X10_mayTakeBack
          have e1 : (nI (bD (apB p (runB p B0 l') d)).length ≤ 0) = ((bD (apB p (runB p B0 l') d)).length = 0) := nI_le0 (by rw [apB_D, List.length_append]; simp only [List.length_cons, List.length_nil]; omega)
          rw [isOn_yes C (by omega) tp, C.1.2.2.2.2.2.1.1, if_neg (by decide)]
          simp only [e1]
          rw [if_neg (by rw [apB_D, List.length_append]; simp)]
          decide
        unfold f_L_back f_X10_back
        rw [if_neg my, a1, oB_some, a2.1.2.2.2.2.2.1.1, oBc_l]
        rfl
      · show ∃ τ', f_X11_back τ = _ ∧ _
        obtain ⟨τ', b1, b2, b3⟩ := mBack_eq N tp ok.2 o1 (by omega)
        refine ⟨τ', ?_, b2, b3⟩
        have N1 := MbQ_t b2 0
        unfold f_X11_back
        rw [b1, oB_some, if_neg (by decide), holds0, oB_some, if_pos rfl, N1.2.2.2.2.1.1]
