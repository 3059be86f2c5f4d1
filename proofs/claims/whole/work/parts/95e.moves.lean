/-! one move of a notation, on both sides -/
def MvC (c k : Nat) (ok : Bool) (B : Bd) (E : List Ent) (dl : Option (Nat × Nat × Nat)) (m : Mem) (l : Nat → Int64) (B' : Bd) (E' : List Ent) (m' : Mem) (l' : Nat → Int64) (hh L : Nat) : Prop := ∀ σ ch p2, CI σ B E dl m l ch → KcI σ B m hh L ch → ch + 300 < 2 ^ 31 → (c ≤ 3 → p2 = nI k) → ∃ τ c2, f_X10_move σ (nI c) p2 = some (b2i ok, τ) ∧ CI τ B' E' dl m' l' c2 ∧ FrCl σ τ ∧ ch ≤ c2 ∧ c2 ≤ ch + 300 ∧ KcI τ B' m' hh L c2
def MvM (c k : Nat) (ok : Bool) (B : Bd) (E : List Ent) (m : Mem) (l : Nat → Int64) (B' : Bd) (E' : List Ent) (m' : Mem) (l' : Nat → Int64) : Prop := ∀ σ p2, MI σ B E m l → (c ≤ 3 → p2 = nI k) → ∃ τ, f_X11_moves σ (leS c) p2 = some (b2i ok, τ) ∧ MI τ B' E' m' l' ∧ FrRf σ τ ∧ rI τ 67 0 = rI σ 67 0
/-- what a move leaves: refused, or done -/
def MvS (t c k : Nat) (B : Bd) (E : List Ent) (dl : Option (Nat × Nat × Nat)) (m : Mem) (l : Nat → Int64) (B0 : Bd) (D : List (Nat × Nat)) (hh L jk ml pn n wr : Nat) : Prop := (MvC c k false B E dl m l B E m l hh L ∧ MvM c k false B E m l B E m l) ∨ ∃ B' E' m' l' B0' D', GmS (t + 1) B' E' dl m' B0' D' hh L jk ml pn n wr ∧ (∀ x k, (x = 86 ∨ x = 87 ∨ x = 88 ∨ x = 133 ∨ x = 134 ∨ (x = 67 ∧ (k = 37 ∨ k = 200))) → m' x k = m x k) ∧ MvC c k true B E dl m l B' E' m' l' hh L ∧ MvM c k true B E m l B' E' m' l'
theorem mvC_no {c k : Nat} {B : Bd} {E : List Ent} {dl : Option (Nat × Nat × Nat)} {m : Mem} {l : Nat → Int64} {hh L : Nat} (h : ∀ σ ch p2, CI σ B E dl m l ch → (c ≤ 3 → p2 = nI k) → f_X10_move σ (nI c) p2 = some (0, σ)) : MvC c k false B E dl m l B E m l hh L := fun σ ch p2 C K _ hp => ⟨σ, ch, h σ ch p2 C hp, C, FrCl.rf σ, Nat.le_refl _, by omega, K⟩
theorem mvM_no {c k : Nat} {B : Bd} {E : List Ent} {m : Mem} {l : Nat → Int64} (h : ∀ σ p2, MI σ B E m l → (c ≤ 3 → p2 = nI k) → f_X11_moves σ (leS c) p2 = some (0, σ)) : MvM c k false B E m l B E m l := fun σ p2 M hp => ⟨σ, h σ p2 M hp, M, FrRf.rf σ, rfl⟩
theorem g01 (v : Int32) (b : Bool) (h : v = b2i b) (σ : rS) : (if v = 0 ∨ v = 1 then (some (v, σ)) else none : Option (Int32 × rS)) = some (b2i b, σ) := by
  subst h
  exact if_pos (b2i_01 b)
theorem mv_one {t c k : Nat} {B : Bd} {E : List Ent} {dl : Option (Nat × Nat × Nat)} {m : Mem} {B0 : Bd} {D : List (Nat × Nat)} {hh L jk ml pn n wr : Nat} (l : Nat → Int64) (S : GmS t B E dl m B0 D hh L jk ml pn n wr) (ht : t ≤ 800) (hc : 1 ≤ c ∧ c ≤ 6 ∧ k < 52 ∧ (c ≤ 3 → k % 13 < hh)) : MvS t c k B E dl m l B0 D hh L jk ml pn n wr := by
  have F := G_facts S ht
  have r := S.1
  have hn4 := r.2.2.2.2.2.2.2.2
  have hE : E.length < 1024 := by have := F.2.2.1; omega
  have hl64 : (bD B).length < 64 := by rw [F.2.2.2.1]; have := F.2.2.2.2.1; omega
  have o := F.1
  have hk := hc.2.2.1
  have mc : ∀ σ p2, f_X10_move σ (nI 1) p2 = (if v_X10_mayLay σ p2 = 0 then (some ((0, σ))) else (oB (f_X10_layTile σ p2) fun _ σ3 => some ((1, σ3)))) := fun σ p2 => by unfold f_X10_move; rw [if_pos (show nI 1 = (1 : Int32) from rfl)]
  have same : ∀ {s : Nat} {d : Nat × Nat} {p : Nat}, p < n → m 67 24 = nI p → vaB p B d → d.2 % 13 < hh → (m 72 p = 0 → d.1 ≤ 1) → ((s = 1 ∧ d.1 = 0) ∨ (s = 2 ∧ d.1 = if bF B = 0 then 1 else 2) ∨ (s = 3 ∧ d.1 = 3)) → MvC c k true B E dl m l (apB p B d) (E ++ [(s, p, d.2 + 1, 0)]) m l hh L → MvM c k true B E m l (apB p B d) (E ++ [(s, p, d.2 + 1, 0)]) m l → MvS t c k B E dl m l B0 D hh L jk ml pn n wr := fun hp tp v hd hm hs h1 h2 => Or.inr ⟨_, _, m, l, B0, _, Gm_add S hp tp v hd hm hs, fun _ _ _ => rfl, h1, h2⟩
  rcases (by omega : c = 1 ∨ c = 2 ∨ c = 3 ∨ c = 4 ∨ c = 5 ∨ c = 6) with rfl | rfl | rfl | rfl | rfl | rfl
  · -- a tile laid
    have hkh := hc.2.2.2 (by omega)
    have eL : ∀ σ p2, f_X11_moves σ (leS 1) p2 = (oB (f_X11_lays σ p2) fun v10 σ11 => if v10 = 0 ∨ v10 = 1 then (some ((v10, σ11))) else none) := fun σ p2 => rfl
    rcases F.2.1 with tp | ⟨p, hp, tp⟩
    · refine Or.inl ⟨mvC_no fun σ ch p2 C h => ?_, mvM_no fun σ p2 M h => ?_⟩
      · rw [mc]
        unfold v_X10_mayLay
        rw [isOn_no C tp, if_pos rfl, if_pos rfl]
      · rw [eL]
        unfold f_X11_lays
        rw [(M.2.2.1 67 24 (by omega)).trans tp, if_pos rfl, oB_some, if_pos (Or.inl rfl)]
    · by_cases c2 : 1 ≤ bR B (53 * p + k) ∧ bT B k + bJ B k < 2
      · have v : vaB p B (0, k) := ⟨hk, by omega, hl64, Or.inl ⟨rfl, c2⟩⟩
        refine same (s := 1) hp tp v hkh (fun _ => by dsimp only; omega) (Or.inl ⟨rfl, rfl⟩) (fun σ ch p2 C K hch h => ?_) (fun σ p2 M h => ?_)
        · obtain ⟨τ, c', a1, a2, a3, a4, a5⟩ := cLayT_eq C tp v hE
          refine ⟨τ, ch + c', ?_, a2, FrCl_L a5, by omega, by omega, KcI_up (KcI_fr K (FrK_X a5 fun x j w => by omega)) (by omega) (by omega)⟩
          rw [h (by omega), mc, mayLay_eq C o (by omega) tp hk, if_pos c2, if_neg (by decide), a1, oB_some]
          rfl
        · obtain ⟨τ, b1, b2, b3⟩ := mLayT_eq M tp o v (by omega)
          refine ⟨τ, ?_, b2, FrRf_X b3 fun x j w => by omega, b3.2.2.2.2 67 0 (by omega)⟩
          rw [h (by omega), eL, b1, oB_some]
          exact g01 1 true rfl τ
      · refine Or.inl ⟨mvC_no fun σ ch p2 C h => ?_, mvM_no fun σ p2 M h => ?_⟩
        · rw [h (by omega), mc, mayLay_eq C o (by omega) tp hk, if_neg c2, if_pos rfl]
        · rw [h (by omega), eL, lays_no M.1 o (by omega) ((M.2.2.1 67 24 (by omega)).trans tp) hk c2, oB_some, if_pos (Or.inl rfl)]
  · -- a joker laid
    have hkh := hc.2.2.2 (by omega)
    have eC : ∀ σ p2, f_X10_move σ (nI 2) p2 = (if v_X10_mayLayJoker σ p2 = 0 then (some ((0, σ))) else (oB (f_X10_layJoker σ p2) fun _ σ6 => some ((1, σ6)))) := fun σ p2 => by unfold f_X10_move; rw [if_neg (by decide), if_pos (show nI 2 = (2 : Int32) from rfl)]
    have eL : ∀ σ p2, f_X11_moves σ (leS 2) p2 = (oB (f_X11_laysJoker σ p2) fun v6 σ7 => if v6 = 0 ∨ v6 = 1 then (some ((v6, σ7))) else none) := fun σ p2 => rfl
    rcases F.2.1 with tp | ⟨p, hp, tp⟩
    · refine Or.inl ⟨mvC_no fun σ ch p2 C h => ?_, mvM_no fun σ p2 M h => ?_⟩
      · rw [eC]
        unfold v_X10_mayLayJoker
        rw [isOn_no C tp, if_pos rfl, if_pos rfl]
      · rw [eL]
        unfold f_X11_laysJoker
        rw [(M.2.2.1 67 24 (by omega)).trans tp, if_pos rfl, oB_some, if_pos (Or.inl rfl)]
    · by_cases c2 : (bF B = 0 → 1 ≤ bR B (53 * p + 52)) ∧ bT B k + bJ B k < 2
      · have v : vaB p B (if bF B = 0 then 1 else 2, k) := by
          by_cases z : bF B = 0
          · rw [if_pos z]; exact ⟨hk, by omega, hl64, Or.inr (Or.inl ⟨rfl, z, c2.1 z, c2.2⟩)⟩
          · rw [if_neg z]; exact ⟨hk, by omega, hl64, Or.inr (Or.inr (Or.inl ⟨rfl, by omega, c2.2⟩))⟩
        have hf := o.2.2
        refine same (s := 2) hp tp v hkh (fun e => ?_) (Or.inr (Or.inl ⟨rfl, rfl⟩)) (fun σ ch p2 C K hch h => ?_) (fun σ p2 M h => ?_)
        · have on := On_same hn4 S.2.1 hp tp
          have hF : bF B = 0 := by
            have h1 := runB_nF (p := p) (B := B0) D on.2.2.1 (fun d hd => by have := on.2.2.2.2.2.1 e d hd; omega)
            rw [← on.2.2.2.1, S.2.1.1.1.2.2] at h1
            omega
          dsimp only
          rw [if_pos hF]
          exact Nat.le_refl _
        · obtain ⟨τ, c', a1, a2, a3, a4, a5⟩ := cLayJ_eq C tp (by omega) v hE
          refine ⟨τ, ch + c', ?_, a2, FrCl_L a5, by omega, by omega, KcI_up (KcI_fr K (FrK_X a5 fun x j w => by omega)) (by omega) (by omega)⟩
          rw [h (by omega), eC, mayJ_eq C o (by omega) tp hk, if_pos c2, if_neg (by decide), a1, oB_some]
          rfl
        · obtain ⟨τ, b1, b2, b3⟩ := mLayJ_eq M tp o v (by omega)
          refine ⟨τ, ?_, b2, FrRf_X b3 fun x j w => by omega, b3.2.2.2.2 67 0 (by omega)⟩
          rw [h (by omega), eL, b1, oB_some]
          exact g01 1 true rfl τ
      · refine Or.inl ⟨mvC_no fun σ ch p2 C h => ?_, mvM_no fun σ p2 M h => ?_⟩
        · rw [h (by omega), eC, mayJ_eq C o (by omega) tp hk, if_neg c2, if_pos rfl]
        · rw [h (by omega), eL, laysJ_no M.1 o (by omega) ((M.2.2.1 67 24 (by omega)).trans tp) hk c2, oB_some, if_pos (Or.inl rfl)]
  · -- a joker swapped
    have hkh := hc.2.2.2 (by omega)
    have eC : ∀ σ p2, f_X10_move σ (nI 3) p2 = (if v_X10_maySwap σ p2 = 0 then (some ((0, σ))) else (oB (f_X10_swapJoker σ p2) fun _ σ9 => some ((1, σ9)))) := fun σ p2 => by unfold f_X10_move; rw [if_neg (by decide), if_neg (by decide), if_pos (show nI 3 = (3 : Int32) from rfl)]
    have eL : ∀ σ p2, f_X11_moves σ (leS 3) p2 = (oB (f_X11_swaps σ p2) fun v14 σ15 => if v14 = 0 ∨ v14 = 1 then (some ((v14, σ15))) else none) := fun σ p2 => rfl
    rcases F.2.1 with tp | ⟨p, hp, tp⟩
    · refine Or.inl ⟨mvC_no fun σ ch p2 C h => ?_, mvM_no fun σ p2 M h => ?_⟩
      · rw [eC]
        unfold v_X10_maySwap
        rw [isOn_no C tp, if_pos rfl, if_pos rfl]
      · rw [eL]
        unfold f_X11_swaps
        rw [(M.2.2.1 67 24 (by omega)).trans tp, if_pos rfl, oB_some, if_pos (Or.inl rfl)]
    · have p4 : p < 4 := by omega
      obtain ⟨mel, hm⟩ := mel_of (S.2.2.1.2.1 p p4)
      have my : ∀ σ ch, CI σ B E dl m l ch → v_X10_maySwap σ (nI k) = if m 72 p = 1 ∧ 1 ≤ bR B (53 * p + k) ∧ 1 ≤ bJ B k then 1 else 0 := fun σ ch C => by
        have hz := rsz_ge (R := bR B) (p := p) (k := k) (by omega)
        have hr := o.1.2.1 p p4
        have ht' := o.2.1 k hk
        have e1 : (nI (bR B (53 * p + k)) ≤ 0) = (bR B (53 * p + k) = 0) := nI_le0 (by omega)
        have e2 : (nI (bJ B k) ≤ 0) = (bJ B k = 0) := nI_le0 (by omega)
        unfold v_X10_maySwap
        rw [isOn_yes C p4 tp, CI_p C tp, hasM_eq C p4, rackOf_eq C.1 p4 (by omega), vAt_nI (by decide) hk, show rI σ 10 k = nI (bJ B k) from C.1.2.2.2.2.1 k hk, if_neg (by decide)]
        simp only [e1, e2]
        by_cases g1 : m 72 p = 1
        · rw [if_pos g1, if_neg (by decide)]
          by_cases g2 : bR B (53 * p + k) = 0
          · rw [if_pos g2, if_neg (by omega)]
          · rw [if_neg g2]
            by_cases g3 : bJ B k = 0
            · rw [if_pos g3, if_neg (by omega)]
            · rw [if_neg g3, if_pos ⟨g1, by omega, by omega⟩]
        · rw [if_neg g1, if_pos rfl, if_neg (fun z => g1 z.1)]
      by_cases c2 : m 72 p = 1 ∧ 1 ≤ bR B (53 * p + k) ∧ 1 ≤ bJ B k
      · have v : vaB p B (3, k) := ⟨hk, p4, hl64, Or.inr (Or.inr (Or.inr ⟨rfl, c2.2⟩))⟩
        refine same (s := 3) hp tp v hkh (fun e => by rw [c2.1] at e; exact absurd e (by decide)) (Or.inr (Or.inr ⟨rfl, rfl⟩)) (fun σ ch p2 C K hch h => ?_) (fun σ p2 M h => ?_)
        · obtain ⟨τ, c', a1, a2, a3, a4, a5⟩ := cSwap_eq C tp v hE
          refine ⟨τ, ch + c', ?_, a2, FrCl_L a5, by omega, by omega, KcI_up (KcI_fr K (FrK_X a5 fun x j w => by omega)) (by omega) (by omega)⟩
          rw [h (by omega), eC, my σ ch C, if_pos c2, if_neg (by decide), a1, oB_some]
          rfl
        · obtain ⟨τ, b1, b2, b3⟩ := mSwap_eq M tp o c2.1 v (by omega)
          refine ⟨τ, ?_, b2, FrRf_X b3 fun x j w => by omega, b3.2.2.2.2 67 0 (by omega)⟩
          rw [h (by omega), eL, b1, oB_some]
          exact g01 1 true rfl τ
      · refine Or.inl ⟨mvC_no fun σ ch p2 C h => ?_, mvM_no fun σ p2 M h => ?_⟩
        · rw [h (by omega), eC, my σ ch C, if_neg c2, if_pos rfl]
        · rw [h (by omega), eL, swaps_no M.1 o p4 ((M.2.2.1 67 24 (by omega)).trans tp) hk ((M.2.2.1 72 p (by omega)).trans hm) (fun z => c2 ⟨by rw [hm, z.1]; rfl, z.2⟩), oB_some, if_pos (Or.inl rfl)]
  · -- taken back
    have eC : ∀ σ p2, f_X10_move σ (nI 4) p2 = (if v_X10_mayTakeBack σ = 0 then (some ((0, σ))) else (oB (f_X10_takeBack σ) fun _ σ12 => some ((1, σ12)))) := fun σ p2 => by unfold f_X10_move; rw [if_neg (by decide), if_neg (by decide), if_neg (by decide), if_pos (show nI 4 = (4 : Int32) from rfl)]
    have eL : ∀ σ p2, f_X11_moves σ (leS 4) p2 = (oB (f_X11_takesBack σ) fun v18 σ19 => if v18 = 0 ∨ v18 = 1 then (some ((v18, σ19))) else none) := fun σ p2 => rfl
    rcases F.2.1 with tp | ⟨p, hp, tp⟩
    · refine Or.inl ⟨mvC_no fun σ ch p2 C h => ?_, mvM_no fun σ p2 M h => ?_⟩
      · rw [eC]
        unfold v_X10_mayTakeBack
        rw [isOn_no C tp, if_pos rfl, if_pos rfl]
      · rw [eL]
        unfold f_X11_takesBack
        rw [(M.2.2.1 67 24 (by omega)).trans tp, if_pos rfl, if_pos rfl, oB_some, if_pos (Or.inl rfl)]
    · by_cases hne : bD B = []
      · refine Or.inl ⟨mvC_no fun σ ch p2 C h => ?_, mvM_no fun σ p2 M h => ?_⟩
        · rw [eC]
          unfold v_X10_mayTakeBack
          rw [isOn_yes C (by omega) tp, C.1.2.2.2.2.2.1.1, hne, if_pos (by decide)]
        · rw [eL]
          unfold f_X11_takesBack
          rw [(M.2.2.1 67 24 (by omega)).trans tp, if_neg (n_m1 (by omega)), M.1.2.2.2.2.1.1, hne, if_pos (show nI ([] : List (Nat × Nat)).length = 0 from rfl), if_pos rfl, oB_some, if_pos (Or.inl rfl)]
      · have on := On_same hn4 S.2.1 hp tp
        obtain ⟨D1, d, hD⟩ : ∃ D1 d, D = D1 ++ [d] := by
          have hne2 : D ≠ [] := fun e => hne (F.2.2.2.1.trans e)
          exact ⟨D.dropLast, D.getLast hne2, (List.dropLast_concat_getLast hne2).symm⟩
        obtain ⟨-, -, ok, hB, -⟩ := on
        rw [hD] at ok hB
        obtain ⟨ok1, v⟩ := okB_sn.mp ok
        rw [runB_sn] at hB
        have b0 := S.2.1.1.1
        have o1 := (OkT_run b0.1 b0.2.1 b0.2.2 D1.length D1 rfl ok1).1
        have hf := o1.2.2
        obtain ⟨D2, S2⟩ := Gm_back S hp tp v hB
        refine Or.inr ⟨_, _, m, l, B0, D2, S2, fun _ _ _ => rfl, fun σ ch p2 C K hch h => ?_, fun σ p2 M h => ?_⟩
        · have C' : CI σ (apB p (runB p B0 D1) d) E dl m l ch := by rw [← hB]; exact C
          obtain ⟨τ, c', a1, a2, a3, a4, a5⟩ := cBack_eq C' tp v (by omega) hE
          refine ⟨τ, ch + c', ?_, a2, FrCl_L a5, by omega, by omega, KcI_up (KcI_fr K (FrK_X a5 fun x j w => by omega)) (by omega) (by omega)⟩
          have my : ¬ v_X10_mayTakeBack σ = 0 := by
            unfold v_X10_mayTakeBack
            have e1 : (nI (bD B).length ≤ 0) = ((bD B).length = 0) := nI_le0 (by omega)
            rw [isOn_yes C (by omega) tp, C.1.2.2.2.2.2.1.1, if_neg (by decide)]
            simp only [e1]
            rw [if_neg (fun z => hne (List.length_eq_zero_iff.mp z))]
            decide
          rw [eC, if_neg my, a1, oB_some]
          rfl
        · have M' : MI σ (apB p (runB p B0 D1) d) E m l := by rw [← hB]; exact M
          obtain ⟨τ, b1, b2, b3⟩ := mBack_eq M' tp v o1 (by omega)
          refine ⟨τ, ?_, b2, FrRf_X b3 fun x j w => by omega, b3.2.2.2.2 67 0 (by omega)⟩
          rw [eL, b1, oB_some]
          exact g01 1 true rfl τ
  · -- a turn ended by laying
    have eC : ∀ σ p2, f_X10_move σ (nI 5) p2 = (oB (f_X10_mayEnd σ) fun v14 σ15 => if v14 = 0 then (some ((0, σ15))) else (oB (f_X10_endByLaying σ15) fun _ σ17 => some ((1, σ17)))) := fun σ p2 => by unfold f_X10_move; rw [if_neg (by decide), if_neg (by decide), if_neg (by decide), if_neg (by decide), if_pos (show nI 5 = (5 : Int32) from rfl)]
    have eL : ∀ σ p2, f_X11_moves σ (leS 5) p2 = (oB (f_X11_endsByLaying σ) fun v2 σ3 => if v2 = 0 ∨ v2 = 1 then (some ((v2, σ3))) else none) := fun σ p2 => rfl
    rcases F.2.1 with tp | ⟨p, hp, tp⟩
    · refine Or.inl ⟨mvC_no fun σ ch p2 C h => ?_, mvM_no fun σ p2 M h => ?_⟩
      · rw [eC, mayEnd_no C tp, oB_some, if_pos rfl]
      · rw [eL, endsL_no M tp, oB_some, if_pos (Or.inl rfl)]
    · obtain ⟨mel, hm⟩ := mel_of (S.2.2.1.2.1 p (by omega))
      have on := On_same hn4 S.2.1 hp tp
      have hk2 : mel = false → ∀ k, lcB (bD B) k ≤ 2 := fun e => by
        rw [F.2.2.2.1]
        exact (On_facts hn4 S.2.1.1 on).2.2.2.2.2.1 (by rw [hm, e]; rfl)
      by_cases me : meB B mel ml L hh = true
      · obtain ⟨B', E', m', S', -, fr, ce, re⟩ := end_mv l S ht hp tp hm me
        refine Or.inr ⟨B', E', m', l, B', [], S', fun x k hx => fr x k (by omega), fun σ ch p2 C K hch h => ?_, fun σ p2 M h => ?_⟩
        · obtain ⟨τ1, a1, a2, a3, a4⟩ := cMayEnd_eq C o r (by omega) tp hm (by omega) F.2.2.2.2.2.2.1 hk2
          obtain ⟨τ, b1, b2, b3, b4⟩ := ce τ1 ch a2
          refine ⟨τ, ch + 1, ?_, b2, a3.tr b3, by omega, by omega, KcI_up (KcI_fr K (a4.tr b4)) (by omega) (by omega)⟩
          rw [eC, a1, oB_some, me, if_neg (show ¬ b2i true = 0 by decide), b1, oB_some]
          rfl
        · obtain ⟨τ, b1, b2, b3, b4⟩ := re σ M
          refine ⟨τ, ?_, b2, b3, b4⟩
          rw [eL, b1, oB_some]
          exact g01 1 true rfl τ
      · have me' : meB B mel ml L hh = false := by simpa using me
        obtain ⟨j, hj, h1, h2⟩ := S.2.2.1.1 p hp
        refine Or.inl ⟨fun σ ch p2 C K hch h => ?_, fun σ p2 M h => ?_⟩
        · obtain ⟨τ1, a1, a2, a3, a4⟩ := cMayEnd_eq C o r (by omega) tp hm (by omega) F.2.2.2.2.2.2.1 hk2
          refine ⟨τ1, ch, ?_, a2, a3, by omega, by omega, KcI_fr K a4⟩
          rw [eC, a1, oB_some, me', if_pos (show b2i false = 0 from rfl)]
          rfl
        · obtain ⟨τ, a1, a2, a3, a4⟩ := mEndsL_eq M o r hp tp hm (by omega) F.2.2.2.2.2.2.1 hk2 (by omega) hj h1 h2
          rw [if_neg me] at a4
          rw [me'] at a1
          refine ⟨τ, ?_, a4, a2, a3⟩
          rw [eL, a1, oB_some]
          exact g01 0 false rfl τ
  · -- a turn ended by drawing
    have eC : ∀ σ p2, f_X10_move σ (nI 6) p2 = (if (v_X10_isOn σ) = 0 then (some ((0, σ))) else (oB (f_X10_endByDrawing σ 6) fun v18 σ19 => some ((1, σ19)))) := fun σ p2 => by unfold f_X10_move; rw [if_neg (by decide), if_neg (by decide), if_neg (by decide), if_neg (by decide), if_neg (by decide)]
    have eL : ∀ σ p2, f_X11_moves σ (leS 6) p2 = (if (rI σ 67 24) = ((-1)) then (some ((0, σ))) else (oB (f_X11_endsByDrawing σ 6) fun v21 σ22 => some ((1, σ22)))) := fun σ p2 => rfl
    rcases F.2.1 with tp | ⟨p, hp, tp⟩
    · refine Or.inl ⟨mvC_no fun σ ch p2 C h => ?_, mvM_no fun σ p2 M h => ?_⟩
      · rw [eC, isOn_no C tp, if_pos rfl]
      · rw [eL, (M.2.2.1 67 24 (by omega)).trans tp, if_pos rfl]
    · obtain ⟨B', E', m', l', v, S', -, fr, cd, rd⟩ := draw_mv l S ht hp tp (Or.inl rfl)
      refine Or.inr ⟨B', E', m', l', B', [], S', fun x k hx => fr x k (by omega), fun σ ch p2 C K hch h => ?_, fun σ p2 M h => ?_⟩
      · obtain ⟨τ, c2, a1, a2, a3, a4, a5, a6⟩ := cd σ ch C K hch
        have a1 : f_X10_endByDrawing σ 6 = some (nI v, τ) := a1
        refine ⟨τ, c2, ?_, a2, a3, a4, a5, a6⟩
        rw [eC, isOn_yes C (by omega) tp, if_neg (by decide), a1, oB_some]
        rfl
      · obtain ⟨τ, a1, a2, a3, a4⟩ := rd σ M
        have a1 : f_X11_endsByDrawing σ 6 = some (nI v, τ) := a1
        refine ⟨τ, ?_, a2, a3, a4⟩
        rw [eL, (M.2.2.1 67 24 (by omega)).trans tp, if_neg (n_m1 (by omega)), a1, oB_some]
        rfl
