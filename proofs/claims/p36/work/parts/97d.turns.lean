/-! turns ended; clocks: the class alone -/
section
variable {t : Nat} {σ : rS} {B : Bd} {E : List Ent} {dl : Option (Nat × Nat × Nat)} {m : Mem} {l : Nat → Int64} {ch : Nat} {B0 : Bd} {D : List (Nat × Nat)} {hh L jk ml pn wr : Nat}
theorem okV_24 {m : Mem} {n : Nat} (h : m 67 24 = -1 ∨ ∃ p, p < n ∧ m 67 24 = nI p) (hn : n ≤ 4) : okV (m 67 24) := by
  rcases h with h | ⟨p, h1, h2⟩
  · rw [h]; exact okV_m1
  · rw [h2]; exact okV_n (by omega)
theorem Tr_24 {B B0 : Bd} {D : List (Nat × Nat)} {m : Mem} {hh L jk n : Nat} (T : TrI B B0 D m hh L jk n) : m 67 24 = -1 ∨ ∃ p, p < n ∧ m 67 24 = nI p := by
  rcases T.2 with ⟨h, -⟩ | ⟨p, on⟩
  · exact Or.inl h
  · exact Or.inr ⟨p, on.1, on.2.1⟩
theorem a_end (G : GAx t σ B E dl m l ch B0 D hh L jk ml pn wr) (ht : t ≤ 512) : AR t (fun σ => f_L_end σ) σ B E dl m l ch B0 D hh L jk ml pn wr := by
  obtain ⟨C, K, hc, S, X⟩ := id G
  have F := G_facts S (by omega)
  have hn4 := S.1.2.2.2.2.2.2.2.2
  have r := S.1
  rcases F.2.1 with tp | ⟨p, hp, tp⟩
  · refine ar_s G (c := -10004) (by decide) ?_ C (FrK.rf σ)
    show f_L_end σ = _
    unfold f_L_end f_X10_end
    rw [mayEnd_no C tp, oB_some, if_pos rfl, oBc_r lkS]
  · have on := On_same hn4 S.2.1 hp tp
    have fc := On_facts hn4 S.2.1.1 on
    obtain ⟨mel, hm⟩ := mel_of (S.2.2.1.2.1 p (by omega))
    obtain ⟨j, hj, h1, h2⟩ := S.2.2.1.1 p hp
    obtain ⟨τ1, a1, a2, a3, a4⟩ := cMayEnd_eq C F.1 r (by omega) tp hm (by rw [F.2.2.2.1]; have := F.2.2.2.2.1; omega) F.2.2.2.2.2.2.1 (fun e => by
      rw [F.2.2.2.1]
      exact fc.2.2.2.2.2.1 (by rw [hm, e]; rfl))
    by_cases c : meB B mel ml L hh = true
    · obtain ⟨τ2, b1, b2, b3, b4⟩ := cEndL_eq a2 r.1.2.2.2.2.2 hn4 hp tp (by have := F.2.2.1; omega) hj h1 h2
      have S1 := Gm_end S hp tp hj h1 h2 c
      refine ar_o (v := elM m (bR B) p 3 j 67 24) (okV_24 (Tr_24 S1.2.1) hn4) ?_ b2 (KcI_up (KcI_fr K (a4.tr b4)) (by omega) (by omega)) (by omega) S1 (Xt_el X hp F.1.1.2.1)
      show f_L_end σ = _
      unfold f_L_end f_X10_end
      rw [a1, oB_some, c, if_neg (show ¬ b2i true = 0 by decide), b1, oB_some, oBc_l, CI_4 b2 (x := 3) (j := 8) (by omega)]
      all_goals rfl
    · have c' : meB B mel ml L hh = false := by simpa using c
      refine ar_s G (c := -10004) (by decide) ?_ a2 a4
      show f_L_end σ = _
      unfold f_L_end f_X10_end
      rw [a1, oB_some, c', if_pos (show b2i false = 0 from rfl), oBc_r lkS]
theorem dwN_9 {B B0 : Bd} {pn p : Nat} (hp : p < 4) (hpn : pn ≤ 9) (o : OkB B0) : dwN B B0 pn p ≤ 9 := by
  have hcnt : dcN B pn ≤ 9 := by unfold dcN; split <;> omega
  exact Nat.le_trans (drUp_ok (p := p) hp (dcN B pn) B0 o).2 hcnt
/-- a turn ended by drawing, as a step of the game -/
theorem dr_mv {tx : Nat} (l : Nat → Int64) {p s : Nat} (S : GmS t B E dl m B0 D hh L jk ml pn 3 wr) (X : Xt tx m) (ht : t ≤ 800) (hp : p < 3) (tp : m 67 24 = nI p) (hs : s = 6 ∨ s = 7) : ∃ B' E' m' l' v, v ≤ 9 ∧ GmS (t + 1) B' E' dl m' B' [] hh L jk ml pn 3 wr ∧ Xt (tx + 1) m' ∧ (∀ q, m' 71 q = m 71 q) ∧ (∀ x k, x ≠ 70 ∧ x ≠ 73 ∧ x ≠ 74 ∧ x ≠ 77 ∧ x ≠ 76 ∧ ¬ (x = 67 ∧ (k = 24 ∨ k = 25 ∨ k = 26 ∨ k = 27)) → m' x k = m x k) ∧ ∀ σ ch, CI σ B E dl m l ch → KcI σ B m hh L ch → ch + 300 < 2 ^ 31 → ∃ τ c2, f_X10_endByDrawing σ (nI s) = some (nI v, τ) ∧ CI τ B' E' dl m' l' c2 ∧ FrCl σ τ ∧ ch ≤ c2 ∧ c2 ≤ ch + 300 ∧ KcI τ B' m' hh L c2 := by
  have F := G_facts S ht
  have hn4 := S.1.2.2.2.2.2.2.2.2
  have on := On_same hn4 S.2.1 hp tp
  obtain ⟨o1, o2, ok, hB, -, -, c, hcn, hc⟩ := on
  have hD := F.2.2.2.1
  obtain ⟨j, hj, h1, h2⟩ := S.2.2.1.1 (liB (bR (dwB B B0 pn p)) 3) (liB_lt _ 3 (by omega))
  have b0 := S.2.1.1.1
  have S1 := Gm_draw S hp tp hs hc hj h1 h2
  refine ⟨dwB B B0 pn p, E ++ [(s, p, 0, dwN B B0 pn p)], dwM m B B0 pn p 3 c j, paL (pasB B m p) B0 hh L l p, dwN B B0 pn p, dwN_9 (by omega) S.1.2.2.2.2.2.2.2.1 b0.1.1, S1, Xt_dw X S1.2.1.1.1.1.1.2.1 (dwN_9 (by omega) S.1.2.2.2.2.2.2.2.1 b0.1.1), fun q => ?_, fun x k hx => ?_, fun σ ch C K hch => ?_⟩
  · unfold dwM
    rw [drM_at _ _ _ _ _ _ _ (by omega), paMb_at _ _ _ (by omega)]
  · unfold dwM
    rw [drM_at _ _ _ _ _ _ _ (by omega), paMb_at _ _ _ (by omega)]
  · exact cDraw_eq C S.1 K hch b0.1 b0.2.1 b0.2.2 (by rw [hD]; exact ok) (by rw [hD]; exact hB) hp tp (S.2.2.1.2.1 p (by omega)) hc hcn (by have := F.2.2.1; omega) hj h1 h2
theorem a_draw (G : GAx t σ B E dl m l ch B0 D hh L jk ml pn wr) (ht : t ≤ 512) : AR t (fun σ => f_L_draw σ) σ B E dl m l ch B0 D hh L jk ml pn wr := by
  obtain ⟨C, K, hc, S, X⟩ := id G
  have F := G_facts S (by omega)
  rcases F.2.1 with tp | ⟨p, hp, tp⟩
  · refine ar_s G (c := -10004) (by decide) ?_ C (FrK.rf σ)
    show f_L_draw σ = _
    unfold f_L_draw f_X10_draw
    rw [needR_n C tp, oBx_r, oBc_r lkS]
  · obtain ⟨B', E', m', l', v, hv, S', X', -, -, cl⟩ := dr_mv l S X (by omega) hp tp (Or.inl rfl)
    obtain ⟨τ, c2, a1, a2, a3, a4, a5, a6⟩ := cl σ ch C K (by omega)
    refine ar_o (v := nI v) (okV_n (by omega)) ?_ a2 a6 (by omega) S' X'
    show f_L_draw σ = _
    have a1 : f_X10_endByDrawing σ 6 = some (nI v, τ) := a1
    unfold f_L_draw f_X10_draw
    rw [needR_y C (by omega) tp, oBx_l, a1, oB_some, oBc_l]
    all_goals rfl
theorem a_tick (G : GAx t σ B E dl m l ch B0 D hh L jk ml pn wr) (ht : t ≤ 512) (p1 : Int32) : AR t (fun σ => f_L_tick σ p1) σ B E dl m l ch B0 D hh L jk ml pn wr := by
  obtain ⟨C, K, hc, S, X⟩ := id G
  have F := G_facts S (by omega)
  by_cases c1 : vIn p1 1 999 = 0
  · refine ar_s G (c := -10003) (by decide) ?_ C (FrK.rf σ)
    show f_L_tick σ p1 = _
    unfold f_L_tick f_X10_tick
    rw [if_pos c1, oBc_r lkA]
  rcases F.2.1 with tp | ⟨p, hp, tp⟩
  · refine ar_s G (c := -10004) (by decide) ?_ C (FrK.rf σ)
    show f_L_tick σ p1 = _
    unfold f_L_tick f_X10_tick
    rw [if_neg c1, needR_n C tp, oBx_r, oBc_r lkS]
  · obtain ⟨q, h1, h2, rfl⟩ := vIn_of (a := 1) (b := 999) (by decide) c1 (by decide)
    obtain ⟨t0, ht0, e0⟩ := S.2.2.1.2.2.2 p (by omega)
    have S1 := Gm_clk (p := p) (q := t0 - q) S (by omega)
    have X1 : Xt (41 * t) (up2 m 71 p (nI (t0 - q))) := Xt_cg X (Nat.le_refl _) (fun x k h => by rw [up2_at, if_neg (by omega)]) (fun i _ => Or.inl (by rw [up2_at, if_neg (by omega)]))
    have C1 := CI_w C (a := 23) (k := p) (by omega) (nI (t0 - q))
    have C1 : CI (wI σ 23 p (nI (t0 - q))) B E dl (up2 m 71 p (nI (t0 - q))) l ch := C1
    have K1 : KcI (wI σ 23 p (nI (t0 - q))) B (up2 m 71 p (nI (t0 - q))) hh L ch := KcI_fr (KcI_m K fun i _ => by rw [up2_at, if_neg (by omega)]) (FrK_w (by omega) _)
    have tp1 : up2 m 71 p (nI (t0 - q)) 67 24 = nI p := by rw [up2_at, if_neg (by omega)]; exact tp
    have q23 : rI σ 23 p = nI t0 := (CI_4 C (x := 23) (j := p) (by omega)).trans e0
    have ex : (if 0 < nI t0 - nI q then nI t0 - nI q else 0) = nI (t0 - q) := by
      by_cases z : q < t0
      · rw [nI_sub (by omega), if_pos (show (0 : Int32) < nI (t0 - q) from (nI_lt' (a := 0) (by omega) (by omega)).mpr (by omega))]
      · have e1 : nI t0 - nI q = iI ((t0 : Int) - (q : Int)) := by rw [← iI_nat, ← iI_nat, iI_sub]
        rw [e1, if_neg (fun y => by have := (iI_lt (a := 0) ⟨by omega, by omega⟩ ⟨by omega, by omega⟩).mp y; omega), show t0 - q = 0 by omega]
        rfl
    have cz : (nI (t0 - q) = 0) = (t0 - q = 0) := propext (nI_eq (b := 0) (by omega) (by omega))
    have preL : ∀ r, (if nI (t0 - q) = 0 then (oB (f_X10_endByDrawing (wI σ 23 p (nI (t0 - q))) 7) fun v5 σ6 => some ((.inl (nI (t0 - q)), σ6))) else (some ((.inl (nI (t0 - q)), wI σ 23 p (nI (t0 - q))))) : Option ((Int32 ⊕ String) × rS)) = r → f_L_tick σ (nI q) = oBc r hcs3 fun v σ1 => some (v.toInt64, σ1) := fun r hr => by
      unfold f_L_tick f_X10_tick
      rw [if_neg c1, needR_y C (by omega) tp, oBx_l, CI_p C tp, vAt_nI (by decide) (by omega), q23, ex, oLet_eq, vSet_nI (by decide) (by omega), row_w, oLet_eq, hr]
    by_cases z : t0 - q = 0
    · obtain ⟨B', E', m', l', v, hv, S', X', e71, -, cl⟩ := dr_mv l S1 X1 (by omega) hp tp1 (Or.inr rfl)
      obtain ⟨τ, c2, a1, a2, a3, a4, a5, a6⟩ := cl _ ch C1 K1 (by omega)
      have a1 : f_X10_endByDrawing (wI σ 23 p (nI (t0 - q))) 7 = some (nI v, τ) := a1
      refine ar_o (v := nI (t0 - q)) (okV_n (by omega)) ?_ a2 a6 (by omega) S' X'
      show f_L_tick σ (nI q) = _
      rw [preL _ rfl]
      simp only [cz]
      rw [if_pos z, a1, oB_some, oBc_l]
      all_goals rfl
    · refine ar_o (v := nI (t0 - q)) (okV_n (by omega)) ?_ C1 K1 (by omega) (GmS_s S1) (Xt_s X1)
      show f_L_tick σ (nI q) = _
      rw [preL _ rfl]
      simp only [cz]
      rw [if_neg z, oBc_l]
      all_goals rfl
end
