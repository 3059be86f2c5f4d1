/-! a notation played: the class alone -/
/-- what a move leaves: refused, or done -/
def MwS (t tx c k : Nat) (B : Bd) (E : List Ent) (dl : Option (Nat × Nat × Nat)) (m : Mem) (l : Nat → Int64) (B0 : Bd) (D : List (Nat × Nat)) (hh L jk ml pn wr : Nat) : Prop := MvC c k false B E dl m l B E m l hh L ∨ ∃ B' E' m' l' B0' D', GmS (t + 1) B' E' dl m' B0' D' hh L jk ml pn 3 wr ∧ Xt (tx + 1) m' ∧ (∀ x k, (x = 86 ∨ x = 87 ∨ x = 88 ∨ x = 133 ∨ x = 134 ∨ (x = 67 ∧ (k = 37 ∨ k = 200))) → m' x k = m x k) ∧ MvC c k true B E dl m l B' E' m' l' hh L
theorem mv_c {t tx c k : Nat} {B : Bd} {E : List Ent} {dl : Option (Nat × Nat × Nat)} {m : Mem} {B0 : Bd} {D : List (Nat × Nat)} {hh L jk ml pn wr : Nat} (l : Nat → Int64) (S : GmS t B E dl m B0 D hh L jk ml pn 3 wr) (X : Xt tx m) (ht : t ≤ 800) (hc : 1 ≤ c ∧ c ≤ 6 ∧ k < 52 ∧ (c ≤ 3 → k % 13 < hh)) : MwS t tx c k B E dl m l B0 D hh L jk ml pn wr := by
  have F := G_facts S ht
  have r := S.1
  have hn4 := r.2.2.2.2.2.2.2.2
  have hE : E.length < 1024 := by have := F.2.2.1; omega
  have hl64 : (bD B).length < 64 := by rw [F.2.2.2.1]; have := F.2.2.2.2.1; omega
  have o := F.1
  have hk := hc.2.2.1
  have mc : ∀ σ p2, f_X10_move σ (nI 1) p2 = (if v_X10_mayLay σ p2 = 0 then (some ((0, σ))) else (oB (f_X10_layTile σ p2) fun _ σ3 => some ((1, σ3)))) := fun σ p2 => by unfold f_X10_move; rw [if_pos (show nI 1 = (1 : Int32) from rfl)]
  have same : ∀ {s : Nat} {d : Nat × Nat} {p : Nat}, p < 3 → m 67 24 = nI p → vaB p B d → d.2 % 13 < hh → (m 72 p = 0 → d.1 ≤ 1) → ((s = 1 ∧ d.1 = 0) ∨ (s = 2 ∧ d.1 = if bF B = 0 then 1 else 2) ∨ (s = 3 ∧ d.1 = 3)) → MvC c k true B E dl m l (apB p B d) (E ++ [(s, p, d.2 + 1, 0)]) m l hh L → MwS t tx c k B E dl m l B0 D hh L jk ml pn wr := fun hp tp v hd hm hs h1 => Or.inr ⟨_, _, m, l, B0, _, Gm_add S hp tp v hd hm hs, Xt_s X, fun _ _ _ => rfl, h1⟩
  rcases (by omega : c = 1 ∨ c = 2 ∨ c = 3 ∨ c = 4 ∨ c = 5 ∨ c = 6) with rfl | rfl | rfl | rfl | rfl | rfl
  · -- a tile laid
    have hkh := hc.2.2.2 (by omega)
    rcases F.2.1 with tp | ⟨p, hp, tp⟩
    · refine Or.inl (mvC_no fun σ ch p2 C h => ?_)
      · rw [mc]
        unfold v_X10_mayLay
        rw [isOn_no C tp, if_pos rfl, if_pos rfl]
    · by_cases c2 : 1 ≤ bR B (53 * p + k) ∧ bT B k + bJ B k < 2
      · have v : vaB p B (0, k) := ⟨hk, by omega, hl64, Or.inl ⟨rfl, c2⟩⟩
        refine same (s := 1) hp tp v hkh (fun _ => by dsimp only; omega) (Or.inl ⟨rfl, rfl⟩) (fun σ ch p2 C K hch h => ?_)
        · obtain ⟨τ, c', a1, a2, a3, a4, a5⟩ := cLayT_eq C tp v hE
          refine ⟨τ, ch + c', ?_, a2, FrCl_L a5, by omega, by omega, KcI_up (KcI_fr K (FrK_X a5 fun x j w => by omega)) (by omega) (by omega)⟩
          rw [h (by omega), mc, mayLay_eq C o (by omega) tp hk, if_pos c2, if_neg (by decide), a1, oB_some]
          rfl
      · refine Or.inl (mvC_no fun σ ch p2 C h => ?_)
        · rw [h (by omega), mc, mayLay_eq C o (by omega) tp hk, if_neg c2, if_pos rfl]
  · -- a joker laid
    have hkh := hc.2.2.2 (by omega)
    have eC : ∀ σ p2, f_X10_move σ (nI 2) p2 = (if v_X10_mayLayJoker σ p2 = 0 then (some ((0, σ))) else (oB (f_X10_layJoker σ p2) fun _ σ6 => some ((1, σ6)))) := fun σ p2 => by unfold f_X10_move; rw [if_neg (by decide), if_pos (show nI 2 = (2 : Int32) from rfl)]
    rcases F.2.1 with tp | ⟨p, hp, tp⟩
    · refine Or.inl (mvC_no fun σ ch p2 C h => ?_)
      · rw [eC]
        unfold v_X10_mayLayJoker
        rw [isOn_no C tp, if_pos rfl, if_pos rfl]
    · by_cases c2 : (bF B = 0 → 1 ≤ bR B (53 * p + 52)) ∧ bT B k + bJ B k < 2
      · have v : vaB p B (if bF B = 0 then 1 else 2, k) := by
          by_cases z : bF B = 0
          · rw [if_pos z]; exact ⟨hk, by omega, hl64, Or.inr (Or.inl ⟨rfl, z, c2.1 z, c2.2⟩)⟩
          · rw [if_neg z]; exact ⟨hk, by omega, hl64, Or.inr (Or.inr (Or.inl ⟨rfl, by omega, c2.2⟩))⟩
        have hf := o.2.2
        refine same (s := 2) hp tp v hkh (fun e => ?_) (Or.inr (Or.inl ⟨rfl, rfl⟩)) (fun σ ch p2 C K hch h => ?_)
        · have on := On_same hn4 S.2.1 hp tp
          have hF : bF B = 0 := by
            have h1 := runB_nF (p := p) (B := B0) D on.2.2.1 (fun d hd => by have := on.2.2.2.2.2.1 e d hd; omega)
            rw [← on.2.2.2.1, S.2.1.1.1.2.2] at h1
            omega
          dsimp only
          rw [if_pos hF]
          exact Nat.le_refl _
        · obtain ⟨τ, c', a1, a2, a3, a4, a5⟩ := cLayJ_eq C tp (by omega) v hE
          refine ⟨τ, ch + c', ?_, a2, FrCl_L a5, by omega, by omega, KcI_up (KcI_fr K (FrK_X a5 fun x j w => by omega)) (by omega) (by omega)⟩
          rw [h (by omega), eC, mayJ_eq C o (by omega) tp hk, if_pos c2, if_neg (by decide), a1, oB_some]
          rfl
      · refine Or.inl (mvC_no fun σ ch p2 C h => ?_)
        · rw [h (by omega), eC, mayJ_eq C o (by omega) tp hk, if_neg c2, if_pos rfl]
  · -- a joker swapped
    have hkh := hc.2.2.2 (by omega)
    have eC : ∀ σ p2, f_X10_move σ (nI 3) p2 = (if v_X10_maySwap σ p2 = 0 then (some ((0, σ))) else (oB (f_X10_swapJoker σ p2) fun _ σ9 => some ((1, σ9)))) := fun σ p2 => by unfold f_X10_move; rw [if_neg (by decide), if_neg (by decide), if_pos (show nI 3 = (3 : Int32) from rfl)]
    rcases F.2.1 with tp | ⟨p, hp, tp⟩
    · refine Or.inl (mvC_no fun σ ch p2 C h => ?_)
      · rw [eC]
        unfold v_X10_maySwap
        rw [isOn_no C tp, if_pos rfl, if_pos rfl]
    · have p4 : p < 4 := by omega
      obtain ⟨mel, hm⟩ := mel_of (S.2.2.1.2.1 p p4)
      have my : ∀ σ ch, CI σ B E dl m l ch → v_X10_maySwap σ (nI k) = if m 72 p = 1 ∧ 1 ≤ bR B (53 * p + k) ∧ 1 ≤ bJ B k then 1 else 0 := fun σ ch C => by
        have hz := rsz_ge (R := bR B) (p := p) (k := k) (by omega)
        have hr := o.1.2.1 p p4
        have ht' := o.2.1 k hk
        have e1 : (nI (bR B (53 * p + k)) ≤ 0) = (bR B (53 * p + k) = 0) := nI_le0 (by omega)
        have e2 : (nI (bJ B k) ≤ 0) = (bJ B k = 0) := nI_le0 (by omega)
        unfold v_X10_maySwap
        rw [isOn_yes C p4 tp, CI_p C tp, hasM_eq C p4, rackOf_eq C.1 p4 (by omega), vAt_nI (by decide) hk, show rI σ 10 k = nI (bJ B k) from C.1.2.2.2.2.1 k hk, if_neg (by decide)]
        simp only [e1, e2]
        by_cases g1 : m 72 p = 1
        · rw [if_pos g1, if_neg (by decide)]
          by_cases g2 : bR B (53 * p + k) = 0
          · rw [if_pos g2, if_neg (by omega)]
          · rw [if_neg g2]
            by_cases g3 : bJ B k = 0
            · rw [if_pos g3, if_neg (by omega)]
            · rw [if_neg g3, if_pos ⟨g1, by omega, by omega⟩]
        · rw [if_neg g1, if_pos rfl, if_neg (fun z => g1 z.1)]
      by_cases c2 : m 72 p = 1 ∧ 1 ≤ bR B (53 * p + k) ∧ 1 ≤ bJ B k
      · have v : vaB p B (3, k) := ⟨hk, p4, hl64, Or.inr (Or.inr (Or.inr ⟨rfl, c2.2⟩))⟩
        refine same (s := 3) hp tp v hkh (fun e => by rw [c2.1] at e; exact absurd e (by decide)) (Or.inr (Or.inr ⟨rfl, rfl⟩)) (fun σ ch p2 C K hch h => ?_)
        · obtain ⟨τ, c', a1, a2, a3, a4, a5⟩ := cSwap_eq C tp v hE
          refine ⟨τ, ch + c', ?_, a2, FrCl_L a5, by omega, by omega, KcI_up (KcI_fr K (FrK_X a5 fun x j w => by omega)) (by omega) (by omega)⟩
          rw [h (by omega), eC, my σ ch C, if_pos c2, if_neg (by decide), a1, oB_some]
          rfl
      · refine Or.inl (mvC_no fun σ ch p2 C h => ?_)
        · rw [h (by omega), eC, my σ ch C, if_neg c2, if_pos rfl]
  · -- taken back
    have eC : ∀ σ p2, f_X10_move σ (nI 4) p2 = (if v_X10_mayTakeBack σ = 0 then (some ((0, σ))) else (oB (f_X10_takeBack σ) fun _ σ12 => some ((1, σ12)))) := fun σ p2 => by unfold f_X10_move; rw [if_neg (by decide), if_neg (by decide), if_neg (by decide), if_pos (show nI 4 = (4 : Int32) from rfl)]
    rcases F.2.1 with tp | ⟨p, hp, tp⟩
    · refine Or.inl (mvC_no fun σ ch p2 C h => ?_)
      · rw [eC]
        unfold v_X10_mayTakeBack
        rw [isOn_no C tp, if_pos rfl, if_pos rfl]
    · by_cases hne : bD B = []
      · refine Or.inl (mvC_no fun σ ch p2 C h => ?_)
        · rw [eC]
          unfold v_X10_mayTakeBack
          rw [isOn_yes C (by omega) tp, C.1.2.2.2.2.2.1.1, hne, if_pos (by decide)]
      · have on := On_same hn4 S.2.1 hp tp
        obtain ⟨D1, d, hD⟩ : ∃ D1 d, D = D1 ++ [d] := by
          have hne2 : D ≠ [] := fun e => hne (F.2.2.2.1.trans e)
          exact ⟨D.dropLast, D.getLast hne2, (List.dropLast_concat_getLast hne2).symm⟩
        obtain ⟨-, -, ok, hB, -⟩ := on
        rw [hD] at ok hB
        obtain ⟨ok1, v⟩ := okB_sn.mp ok
        rw [runB_sn] at hB
        have b0 := S.2.1.1.1
        have o1 := (OkT_run b0.1 b0.2.1 b0.2.2 D1.length D1 rfl ok1).1
        have hf := o1.2.2
        obtain ⟨D2, S2⟩ := Gm_back S hp tp v hB
        refine Or.inr ⟨_, _, m, l, B0, D2, S2, Xt_s X, fun _ _ _ => rfl, fun σ ch p2 C K hch h => ?_⟩
        · have C' : CI σ (apB p (runB p B0 D1) d) E dl m l ch := by rw [← hB]; exact C
          obtain ⟨τ, c', a1, a2, a3, a4, a5⟩ := cBack_eq C' tp v (by omega) hE
          refine ⟨τ, ch + c', ?_, a2, FrCl_L a5, by omega, by omega, KcI_up (KcI_fr K (FrK_X a5 fun x j w => by omega)) (by omega) (by omega)⟩
          have my : ¬ v_X10_mayTakeBack σ = 0 := by
            unfold v_X10_mayTakeBack
            have e1 : (nI (bD B).length ≤ 0) = ((bD B).length = 0) := nI_le0 (by omega)
            rw [isOn_yes C (by omega) tp, C.1.2.2.2.2.2.1.1, if_neg (by decide)]
            simp only [e1]
            rw [if_neg (fun z => hne (List.length_eq_zero_iff.mp z))]
            decide
          rw [eC, if_neg my, a1, oB_some]
          rfl
  · -- a turn ended by laying
    have eC : ∀ σ p2, f_X10_move σ (nI 5) p2 = (oB (f_X10_mayEnd σ) fun v14 σ15 => if v14 = 0 then (some ((0, σ15))) else (oB (f_X10_endByLaying σ15) fun _ σ17 => some ((1, σ17)))) := fun σ p2 => by unfold f_X10_move; rw [if_neg (by decide), if_neg (by decide), if_neg (by decide), if_neg (by decide), if_pos (show nI 5 = (5 : Int32) from rfl)]
    rcases F.2.1 with tp | ⟨p, hp, tp⟩
    · refine Or.inl (mvC_no fun σ ch p2 C h => ?_)
      · rw [eC, mayEnd_no C tp, oB_some, if_pos rfl]
    · obtain ⟨mel, hm⟩ := mel_of (S.2.2.1.2.1 p (by omega))
      have on := On_same hn4 S.2.1 hp tp
      have hk2 : mel = false → ∀ k, lcB (bD B) k ≤ 2 := fun e => by
        rw [F.2.2.2.1]
        exact (On_facts hn4 S.2.1.1 on).2.2.2.2.2.1 (by rw [hm, e]; rfl)
      by_cases me : meB B mel ml L hh = true
      · obtain ⟨B', E', m', S', X', -, fr, ce⟩ := en_mv (mel := mel) l S X ht hp tp me
        refine Or.inr ⟨B', E', m', l, B', [], S', X', fun x k hx => fr x k (by omega), fun σ ch p2 C K hch h => ?_⟩
        · obtain ⟨τ1, a1, a2, a3, a4⟩ := cMayEnd_eq C o r (by omega) tp hm (by omega) F.2.2.2.2.2.2.1 hk2
          obtain ⟨τ, b1, b2, b3, b4⟩ := ce τ1 ch a2
          refine ⟨τ, ch + 1, ?_, b2, a3.tr b3, by omega, by omega, KcI_up (KcI_fr K (a4.tr b4)) (by omega) (by omega)⟩
          rw [eC, a1, oB_some, me, if_neg (show ¬ b2i true = 0 by decide), b1, oB_some]
          rfl
      · have me' : meB B mel ml L hh = false := by simpa using me
        obtain ⟨j, hj, h1, h2⟩ := S.2.2.1.1 p hp
        refine Or.inl (fun σ ch p2 C K hch h => ?_)
        · obtain ⟨τ1, a1, a2, a3, a4⟩ := cMayEnd_eq C o r (by omega) tp hm (by omega) F.2.2.2.2.2.2.1 hk2
          refine ⟨τ1, ch, ?_, a2, a3, by omega, by omega, KcI_fr K a4⟩
          rw [eC, a1, oB_some, me', if_pos (show b2i false = 0 from rfl)]
          rfl
  · -- a turn ended by drawing
    have eC : ∀ σ p2, f_X10_move σ (nI 6) p2 = (if (v_X10_isOn σ) = 0 then (some ((0, σ))) else (oB (f_X10_endByDrawing σ 6) fun v18 σ19 => some ((1, σ19)))) := fun σ p2 => by unfold f_X10_move; rw [if_neg (by decide), if_neg (by decide), if_neg (by decide), if_neg (by decide), if_neg (by decide)]
    rcases F.2.1 with tp | ⟨p, hp, tp⟩
    · refine Or.inl (mvC_no fun σ ch p2 C h => ?_)
      · rw [eC, isOn_no C tp, if_pos rfl]
    · obtain ⟨B', E', m', l', v, -, S', X', -, fr, cd⟩ := dr_mv l S X ht hp tp (Or.inl rfl)
      refine Or.inr ⟨B', E', m', l', B', [], S', X', fun x k hx => fr x k (by omega), fun σ ch p2 C K hch h => ?_⟩
      · obtain ⟨τ, c2, a1, a2, a3, a4, a5, a6⟩ := cd σ ch C K hch
        have a1 : f_X10_endByDrawing σ 6 = some (nI v, τ) := a1
        refine ⟨τ, c2, ?_, a2, a3, a4, a5, a6⟩
        rw [eC, isOn_yes C (by omega) tp, if_neg (by decide), a1, oB_some]
        rfl
theorem play_c {dl : Option (Nat × Nat × Nat)} {hh L jk ml pn wr t0 x0 : Nat} {ms : List (Nat × Nat)} (hms : ∀ x ∈ ms, 1 ≤ x.1 ∧ x.1 ≤ 6 ∧ x.2 < 52 ∧ (x.1 ≤ 3 → x.2 % 13 < hh)) (hlen : ms.length ≤ wr) (h40 : wr ≤ 40) (ht0 : t0 ≤ 600) : ∀ d i t (B : Bd) (E : List Ent) (m : Mem) (l : Nat → Int64) (B0 : Bd) (D : List (Nat × Nat)), i + d = ms.length → t ≤ t0 + i → GmS t B E dl m B0 D hh L jk ml pn 3 wr → Xt (x0 + i) m → PyF m ms → ∃ j B' E' m' l' B0' D', j ≤ ms.length ∧ GmS (t0 + 1) B' E' dl m' B0' D' hh L jk ml pn 3 0 ∧ Xt (x0 + ms.length) m' ∧ PyC i d j B E dl m l B' E' m' l' hh L := by
  -- the end of a play
  have fin : ∀ i t (B : Bd) (E : List Ent) (m : Mem) (B0 : Bd) (D : List (Nat × Nat)), i ≤ ms.length → t ≤ t0 + i → GmS t B E dl m B0 D hh L jk ml pn 3 wr → GmS (t0 + 1) B E dl (up2 m 67 34 0) B0 D hh L jk ml pn 3 0 := fun i t B E m B0 D hi ht S => Gm_m (wr' := 0) S (fun x k h => by rw [up2_at, if_neg (by omega)]) (by rw [up2_at, if_pos ⟨rfl, rfl⟩]; rfl) (by omega) (t0 + 1) (by have := S.2.2.2.1.2.2.1; omega)
  have finX : ∀ i (m : Mem), i ≤ ms.length → Xt (x0 + i) m → Xt (x0 + ms.length) (up2 m 67 34 0) := fun i m hi X => Xt_cg X (by omega) (fun x k h => by rw [up2_at, if_neg (by omega)]) (fun q _ => Or.inl (by rw [up2_at, if_neg (by omega)]))
  intro d
  induction d with
  | zero =>
    intro i t B E m l B0 D hi ht S X P
    refine ⟨i, B, E, up2 m 67 34 0, l, B0, D, by omega, fin i t B E m B0 D (by omega) ht S, finX i m (by omega) X, fun σ ch N C K hch hN => ?_⟩
    · obtain ⟨N, rfl⟩ : ∃ k, N = k + 1 := ⟨N - 1, by omega⟩
      have q4 : rI σ 31 4 = nI ms.length := (CI_4 C (x := 31) (j := 4) (by omega)).trans P.1.1
      refine ⟨wI σ 31 1 0, ch, oLoop_l ?_, CI_w C (a := 31) (k := 1) (by omega) 0, FrCl_w (by omega) _, Nat.le_refl _, by omega, KcI_fr (KcI_m K fun q _ => by rw [up2_at, if_neg (by omega)]) (FrK_w (by omega) _)⟩
      unfold b_X10_play_28
      dsimp only
      rw [q4, if_pos ((nI_leI (by omega) (by omega)).mpr (by omega)), oLet_eq]
  | succ d ih =>
    intro i t B E m l B0 D hi ht S X P
    obtain ⟨x, hx⟩ : ∃ x, ms[i]? = some x := ⟨ms[i]'(by omega), List.getElem?_eq_getElem _⟩
    obtain ⟨c, k⟩ := x
    have hck := hms (c, k) (List.mem_of_getElem? hx)
    have pc := P.1.2 i (c, k) hx
    dsimp only at hck pc
    -- what stands in the rows
    have rc : ∀ σ ch, CI σ B E dl m l ch → rI σ 31 4 = nI ms.length ∧ vAt (rI σ 33) 40 (nI i) = nI c ∧ (c ≤ 3 → vAt (rI σ 34) 40 (nI i) = nI k) := fun σ ch C => by
      refine ⟨(CI_4 C (x := 31) (j := 4) (by omega)).trans P.1.1, ?_, fun h => ?_⟩
      · rw [vAt_nI (by decide) (by omega), CI_4 C (x := 33) (j := i) (by omega)]
        exact pc.1
      · rw [vAt_nI (by decide) (by omega), CI_4 C (x := 34) (j := i) (by omega)]
        exact pc.2 h
    have ni : ¬ nI ms.length ≤ nI i := fun z => by have := (nI_leI (by omega) (by omega)).mp z; omega
    rcases mv_c (c := c) (k := k) l S X (by omega) hck with mc | ⟨B1, E1, m1, l1, B01, D1, S1, X1, fr, mc⟩
    · -- refused
      refine ⟨i, B, E, up2 m 67 34 0, l, B0, D, by omega, fin i t B E m B0 D (by omega) ht S, finX i m (by omega) X, fun σ ch N C K hch hN => ?_⟩
      · obtain ⟨N, rfl⟩ : ∃ k, N = k + 1 := ⟨N - 1, by omega⟩
        obtain ⟨q1, q2, q3⟩ := rc σ ch C
        have hd1 : ch + 300 * (d + 1 + 1) < 2000000000 := hch
        have hd2 : ch + 300 < 2 ^ 31 := py3 hd1
        obtain ⟨τ, c2, a1, a2, a3, a4, a5, a6⟩ := mc σ ch _ C K hd2 q3
        refine ⟨wI τ 31 1 0, c2, oLoop_l ?_, CI_w a2 (a := 31) (k := 1) (by decide) 0, a3.tr (FrCl_w (by decide) _), a4, py1 a5, KcI_fr (KcI_m a6 fun q _ => by rw [up2_at, if_neg (fun z => absurd z.1 (by decide))]) (FrK_w (by decide) _)⟩
        unfold b_X10_play_28
        dsimp only
        rw [q1, if_neg ni, q2, a1, oB_some, if_pos (show b2i false = 0 from rfl), oLet_eq]
    · -- done
      obtain ⟨j, B', E', m', l', B0', D', hj, G', X', pc'⟩ := ih (i + 1) (t + 1) B1 E1 m1 l1 B01 D1 (by omega) (by omega) S1 X1 (PyF_cg P fr)
      refine ⟨j, B', E', m', l', B0', D', hj, G', X', fun σ ch N C K hch hN => ?_⟩
      · obtain ⟨N, rfl⟩ : ∃ k, N = k + 1 := ⟨N - 1, by omega⟩
        obtain ⟨q1, q2, q3⟩ := rc σ ch C
        have hd1 : ch + 300 * (d + 1 + 1) < 2000000000 := hch
        have hd2 : ch + 300 < 2 ^ 31 := py3 hd1
        obtain ⟨τ, c2, a1, a2, a3, a4, a5, a6⟩ := mc σ ch _ C K hd2 q3
        obtain ⟨υ, c3, b1, b2, b3, b4, b5, b6⟩ := pc' τ c2 N a2 a6 (py2 a5 hd1) (Nat.lt_of_succ_lt_succ hN)
        refine ⟨υ, c3, ?_, b2, a3.tr b3, Nat.le_trans a4 b4, py4 a5 b5, b6⟩
        rw [oLoop_r (s' := (nI (i + 1), τ))]
        · exact b1
        · unfold b_X10_play_28
          dsimp only
          rw [q1, if_neg ni, q2, a1, oB_some, if_neg (show ¬ b2i true = 0 by decide), nI_1]
theorem mEq_cu {m : Mem} {τ ρ : rS} : mEq m (mmU (mcU m τ) ρ) := fun _ _ h1 h2 => mm_cu h1 h2
theorem Xt_mEq {t : Nat} {m m' : Mem} (X : Xt t m) (h : mEq m m') : Xt t m' := Xt_cg X (Nat.le_refl _) (fun x k hx => h x k (by omega) (by omega)) (fun i _ => Or.inl (h _ _ (by omega) (by omega)))
section
variable {t : Nat} {σ : rS} {B : Bd} {E : List Ent} {dl : Option (Nat × Nat × Nat)} {m : Mem} {l : Nat → Int64} {ch : Nat} {B0 : Bd} {D : List (Nat × Nat)} {hh L jk ml pn wr : Nat}
theorem a_play (G : GAx t σ B E dl m l ch B0 D hh L jk ml pn wr) (ht : t ≤ 512) : AR t (fun σ => f_L_play σ) σ B E dl m l ch B0 D hh L jk ml pn wr := by
  obtain ⟨C, K, hc, S, X⟩ := id G
  have F := G_facts S (by omega)
  have r := S.1
  have hn4 := r.2.2.2.2.2.2.2.2
  have h13 := r.2.2.1
  obtain ⟨w1, h40, -, -⟩ := S.2.2.2.1
  have Wc : FrX WRd σ (wI σ 31 4 0) := FrX.w _ _ (by omega)
  have Cc := CI_Rd C Wc
  obtain ⟨gc1, gc2⟩ := cRead_go r w1 h40 wr 0 [] (wI σ 31 4 0) oFuel (by omega) (by omega) (Nat.le_refl _) Cc ⟨by rw [fld_eq, if_pos ⟨rfl, rfl⟩]; rfl, fun i d h => by simp at h⟩ (by rw [oFuel_eq]; omega)
  have ec : f_X7_read σ = oLoop b_X7_read_7 oFuel (nI 0, wI σ 31 4 0) := rfl
  have ref : ∀ τc ρ, FrX WRd σ τc → GAx t τc B E dl (mmU (mcU m τc) ρ) l ch B0 D hh L jk ml pn wr := fun τc ρ a2 => ⟨CI_m2 (CI_Rd C a2), KcI_fr (KcI_m K fun q _ => mm_cu (by omega) (by omega)) (FrK_X a2 fun x j w => by omega), hc, GmS_m2 S fun x k h1 h2 => mm_cu h1 h2, Xt_mEq X mEq_cu⟩
  have bad : ∀ τc, f_X7_read σ = some (0, τc) → FrX WRd σ τc → AR t (fun σ => f_L_play σ) σ B E dl m l ch B0 D hh L jk ml pn wr := fun τc a1 a2 => by
    refine Or.inl ⟨-10003, τc, _, by decide, ?_, mEq_cu (ρ := σ), ref τc σ a2⟩
    show f_L_play σ = _
    unfold f_L_play f_X10_play
    rw [a1, oB_some, if_pos rfl, oBc_r lkA]
  cases hT : psT m wr hh wr 0 with
  | none =>
    obtain ⟨τc, a1, a2⟩ := gc1 hT
    exact bad τc (ec.trans a1) (Wc.tr a2)
  | some ms =>
    obtain ⟨τc, a1, a2, a3⟩ := gc2 ms hT
    rw [List.nil_append] at a1 a2
    have hlen := psT_len (m := m) wr 0 ms (by omega) hT
    have hms := psT_ok h13 wr 0 ms hT
    by_cases z : ms.length = 0
    · rw [if_pos z] at a1
      exact bad τc (ec.trans a1) (Wc.tr a3)
    · rw [if_neg z] at a1
      have a1 : f_X7_read σ = some (1, τc) := ec.trans a1
      have W1 : FrX WRd σ τc := Wc.tr a3
      have kc : FrK σ τc := FrK_X W1 fun x j w => by omega
      rcases F.2.1 with tp | ⟨p, hp, tp⟩
      · have C2 := CI_m2 (ρ := σ) (CI_Rd C W1)
        have tp2 : mmU (mcU m τc) σ 67 24 = -1 := (mm_cu (by omega) (by omega)).trans tp
        refine Or.inl ⟨-10004, τc, _, by decide, ?_, mEq_cu (ρ := σ), ref τc σ W1⟩
        show f_L_play σ = _
        unfold f_L_play f_X10_play
        rw [a1, oB_some, if_neg (by decide), needR_n C2 tp2, oBx_r, oBc_r lkS]
      · obtain ⟨ρ0, Q0⟩ := RdR_mk σ ms
        have h300 : 300 * ms.length ≤ 300 * 40 := Nat.mul_le_mul_left _ (by omega)
        have h301 : ch + 300 * (ms.length + 1) < 2000000000 := by
          rw [Nat.mul_succ]
          have e40 : (300 : Nat) * 40 = 12000 := by decide
          rw [e40] at h300
          exact Nat.lt_of_le_of_lt (Nat.add_le_add hc (Nat.add_le_add_right h300 300)) (Nat.lt_of_le_of_lt (Nat.add_le_add_right (Nat.mul_le_mul_left 20000 (show t + 1 ≤ 513 by omega)) _) (by decide))
        have f0 : ms.length < oFuel := by rw [oFuel_eq]; omega
        obtain ⟨C1, K1, -, S1, X1⟩ := ref τc ρ0 W1
        obtain ⟨j, B', E', m', l', B0', D', hj, G', X', pc⟩ := play_c (dl := dl) (t0 := t) (x0 := 41 * t) hms (by omega) h40 (by omega) ms.length 0 t B E (mmU (mcU m τc) ρ0) l B0 D (by omega) (by omega) S1 X1 (PyF_cu a2 Q0)
        obtain ⟨σf, c2, v1, v2, v3, v4, v5, v6⟩ := pc τc ch oFuel C1 K1 h301 f0
        have v1 : oLoop b_X10_play_28 oFuel (0, τc) = some (.inl (nI j), σf) := v1
        refine ar_o (v := nI j) (okV_n (by omega)) ?_ v2 v6 ?_ G' (Xt_t X' (show 41 * t + ms.length ≤ 41 * t + 41 by omega))
        · show f_L_play σ = _
          unfold f_L_play f_X10_play
          rw [a1, oB_some, if_neg (by decide), needR_y C1 (by omega) ((mm_cu (by omega) (by omega)).trans tp), oBx_l, v1, oBc_l]
        · have e40 : (300 : Nat) * 40 = 12000 := by decide
          rw [e40] at h300
          exact Nat.le_trans v5 (Nat.le_trans (Nat.add_le_add hc h300) (by rw [Nat.mul_succ 20000 (t + 1)]; exact Nat.add_le_add_left (by decide) _))
end
