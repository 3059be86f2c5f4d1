/-! draw and tick as calls of the game -/
theorem draw_mv {t : Nat} {B : Bd} {E : List Ent} {dl : Option (Nat × Nat × Nat)} {m : Mem} {B0 : Bd} {D : List (Nat × Nat)} {hh L jk ml pn n wr p s : Nat} (l : Nat → Int64) (S : GmS t B E dl m B0 D hh L jk ml pn n wr) (ht : t ≤ 800) (hp : p < n) (tp : m 67 24 = nI p) (hs : s = 6 ∨ s = 7) : ∃ B' E' m' l' v, GmS (t + 1) B' E' dl m' B' [] hh L jk ml pn n wr ∧ (∀ q, m' 71 q = m 71 q) ∧ (∀ x k, x ≠ 70 ∧ x ≠ 73 ∧ x ≠ 74 ∧ x ≠ 77 ∧ x ≠ 76 ∧ ¬ (x = 67 ∧ (k = 24 ∨ k = 25 ∨ k = 26 ∨ k = 27)) → m' x k = m x k) ∧ (∀ σ ch, CI σ B E dl m l ch → KcI σ B m hh L ch → ch + 300 < 2 ^ 31 → ∃ τ c2, f_X10_endByDrawing σ (nI s) = some (nI v, τ) ∧ CI τ B' E' dl m' l' c2 ∧ FrCl σ τ ∧ ch ≤ c2 ∧ c2 ≤ ch + 300 ∧ KcI τ B' m' hh L c2) ∧ ∀ σ, MI σ B E m l → ∃ τ, f_X11_endsByDrawing σ (nI s) = some (nI v, τ) ∧ MI τ B' E' m' l' ∧ FrRf σ τ ∧ rI τ 67 0 = rI σ 67 0 := by
  have F := G_facts S ht
  have hn4 := S.1.2.2.2.2.2.2.2.2
  have on := On_same hn4 S.2.1 hp tp
  obtain ⟨o1, o2, ok, hB, -, -, c, hcn, hc⟩ := on
  have hD := F.2.2.2.1
  obtain ⟨j, hj, h1, h2⟩ := S.2.2.1.1 (liB (bR (dwB B B0 pn p)) n) (liB_lt _ n (by omega))
  have b0 := S.2.1.1.1
  refine ⟨dwB B B0 pn p, E ++ [(s, p, 0, dwN B B0 pn p)], dwM m B B0 pn p n c j, paL (pasB B m p) B0 hh L l p, dwN B B0 pn p, Gm_draw S hp tp hs hc hj h1 h2, fun q => ?_, fun x k hx => ?_, fun σ ch C K hch => ?_, fun σ M => ?_⟩
  · unfold dwM
    rw [drM_at _ _ _ _ _ _ _ (by omega), paMb_at _ _ _ (by omega)]
  · unfold dwM
    rw [drM_at _ _ _ _ _ _ _ (by omega), paMb_at _ _ _ (by omega)]
  · exact cDraw_eq C S.1 K hch b0.1 b0.2.1 b0.2.2 (by rw [hD]; exact ok) (by rw [hD]; exact hB) hp tp (S.2.2.1.2.1 p (by omega)) hc hcn (by have := F.2.2.1; omega) hj h1 h2
  · exact mDraw_eq M S.1 b0.1 b0.2.1 b0.2.2 (by rw [hD]; exact ok) (by rw [hD]; exact hB) hp tp (S.2.2.1.2.1 p (by omega)) (S.2.2.1.2.2.1 p (by omega)) hc hcn (by have := F.2.2.1; omega) hj h1 h2
/-- a call that is answered and changes the game -/
theorem g_ok {t : Nat} {fL fR : rS → Option (Int32 × rS)} {σ σ1 : rS} {B B' : Bd} {E E' : List Ent} {dl' : Option (Nat × Nat × Nat)} {m m' : Mem} {l l' : Nat → Int64} {c2 : Nat} {B0 : Bd} {D : List (Nat × Nat)} {hh L jk ml pn n wr : Nat} {v : Int32} (M : MI σ B E m l) (C : CI σ1 B' E' dl' m' l' c2) (f : FrCl σ σ1) (K : KcI σ1 B' m' hh L c2) (hc : c2 ≤ 20000 * (t + 1 + 1)) (G : GmS (t + 1) B' E' dl' m' B0 D hh L jk ml pn n wr) (hL : fL σ = some (0, wL σ1 114 0 v.toInt64)) (hR : ∀ τ, MI τ B E m l → ∃ τ', fR τ = some (v, τ') ∧ MI τ' B' E' m' l' ∧ rI τ' 67 0 = 0 ∧ FrRf τ τ') : GStep t fL fR σ := by
  have f1 := f.tr (FrCl_114 σ1 v.toInt64)
  obtain ⟨τ', a1, a2, a3, a4⟩ := hR _ (MI_fr M f1)
  exact ⟨0, _, v, τ', hL, a1, a3, fun _ => by rw [a4.2.2.2.2 114 0 (by omega), q_LL, if_pos ⟨rfl, rfl⟩], (Fr2_Cl f1).tr (Fr2_Rf a4), B', E', dl', m', l', c2, B0, D, hh, L, jk, ml, pn, n, wr, CI_fr (CI_114 C _) a4, a2, KcI_fr K ((FrK_114 σ1 _).tr (FrK_R a4)), hc, G⟩
theorem needR_y {σ : rS} {B : Bd} {E : List Ent} {dl : Option (Nat × Nat × Nat)} {m : Mem} {l : Nat → Int64} {ch p : Nat} (C : CI σ B E dl m l ch) (hp : p < 4) (tp : m 67 24 = nI p) : f_X10_needRound σ = some (.inl (), σ) := by
  unfold f_X10_needRound
  rw [isOn_yes C hp tp, if_neg (by decide)]
theorem needR_n {σ : rS} {B : Bd} {E : List Ent} {dl : Option (Nat × Nat × Nat)} {m : Mem} {l : Nat → Int64} {ch : Nat} (C : CI σ B E dl m l ch) (tp : m 67 24 = -1) : f_X10_needRound σ = some (.inr "java/lang/IllegalStateException", σ) := by
  unfold f_X10_needRound
  rw [isOn_no C tp, if_pos rfl]
theorem g_draw {t : Nat} {σ : rS} (G : GI t σ) (ht : t ≤ 512) : GStep t (fun σ => f_L_draw σ) (fun σ => f_X11_draw σ) σ := by
  obtain ⟨B, E, dl, m, l, ch, B0, D, hh, L, jk, ml, pn, n, wr, C, M, K, hc, S⟩ := G
  have F := G_facts S (by omega)
  have hn4 := S.1.2.2.2.2.2.2.2.2
  rcases F.2.1 with tp | ⟨p, hp, tp⟩
  · refine g_q (q_ex C M (Kp := FrK σ) (fun _ f => f) 1 (-1) (by decide) ?_ ?_) (fun τ f => KcI_fr K f) (by omega) (GmS_s S)
    · show f_L_draw σ = _
      unfold f_L_draw f_X10_draw
      rw [needR_n C tp, oBx_r, oBc_r lk6]
    · show f_X11_draw σ = _
      unfold f_X11_draw
      rw [(M.2.2.1 67 24 (by omega)).trans tp, if_pos rfl, holds1, oB_some, if_neg (by decide)]
  · obtain ⟨B', E', m', l', v, S', -, -, cl, rf⟩ := draw_mv l S (by omega) hp tp (Or.inl rfl)
    obtain ⟨τ, c2, a1, a2, a3, a4, a5, a6⟩ := cl σ ch C K (by omega)
    refine g_ok (v := nI v) M a2 a3 a6 (by omega) S' ?_ fun υ N => ?_
    · show f_L_draw σ = _
      have a1 : f_X10_endByDrawing σ 6 = some (nI v, τ) := a1
      unfold f_L_draw f_X10_draw
      rw [needR_y C (by omega) tp, oBx_l, a1, oB_some, oBc_l]
      rfl
    · obtain ⟨υ2, b1, b2, b3, b4⟩ := rf _ (MI_t N 0)
      have b1 : f_X11_endsByDrawing (wI υ 67 0 0) 6 = some (nI v, υ2) := b1
      refine ⟨υ2, ?_, b2, b4.trans (by rw [fld_eq, if_pos ⟨rfl, rfl⟩]), (FrRf_w (by omega) _).tr b3⟩
      show f_X11_draw υ = _
      unfold f_X11_draw
      rw [(N.2.2.1 67 24 (by omega)).trans tp, if_neg (n_m1 (by omega)), holds0, oB_some, if_pos rfl, b1, oB_some]
/-- a clock runs -/
theorem Gm_clk {t : Nat} {B : Bd} {E : List Ent} {dl : Option (Nat × Nat × Nat)} {m : Mem} {B0 : Bd} {D : List (Nat × Nat)} {hh L jk ml pn n wr p q : Nat} (S : GmS t B E dl m B0 D hh L jk ml pn n wr) (hq : q ≤ 9999) : GmS t B E dl (up2 m 71 p (nI q)) B0 D hh L jk ml pn n wr := by
  obtain ⟨r, T, se, ⟨c1, c2, c3, c4⟩, rp⟩ := S
  have at' : ∀ x k, x ≠ 71 → up2 m 71 p (nI q) x k = m x k := fun x k h => by rw [up2_at, if_neg (fun z => h z.1)]
  refine ⟨RuM_cg r fun i _ _ => at' _ _ (by decide), ⟨T.1, ?_⟩, ⟨LaI_cg se.1 fun k => at' _ _ (by decide), fun i hi => by rw [at' _ _ (by decide)]; exact se.2.1 i hi, fun i hi => by rw [at' _ _ (by decide)]; exact se.2.2.1 i hi, fun i hi => ?_⟩, ⟨by rw [at' _ _ (by decide)]; exact c1, c2, c3, c4⟩, ?_⟩
  · rcases T.2 with ⟨h, h2⟩ | ⟨p', on⟩
    · exact Or.inl ⟨by rw [at' _ _ (by decide)]; exact h, h2⟩
    · obtain ⟨u1, u2, u3, u4, u5, u6, c, u7, u8⟩ := on
      exact Or.inr ⟨p', u1, by rw [at' _ _ (by decide)]; exact u2, u3, u4, u5, by rw [at' _ _ (by decide)]; exact u6, c, u7, by rw [at' _ _ (by decide)]; exact u8⟩
  · rw [up2_at]
    by_cases c : i = p
    · rw [if_pos ⟨rfl, c⟩]; exact ⟨q, hq, rfl⟩
    · rw [if_neg (fun z => c z.2)]; exact se.2.2.2 i hi
  · exact RpI_m rp (at' _ _ (by decide))
theorem g_tick {t : Nat} {σ : rS} (G : GI t σ) (ht : t ≤ 512) (p1 : Int32) : GStep t (fun σ => f_L_tick σ p1) (fun σ => f_X11_tick σ p1) σ := by
  obtain ⟨B, E, dl, m, l, ch, B0, D, hh, L, jk, ml, pn, n, wr, C, M, K, hc, S⟩ := G
  have F := G_facts S (by omega)
  have hn4 := S.1.2.2.2.2.2.2.2.2
  by_cases c1 : vIn p1 1 999 = 0
  · refine g_q (q_ex C M (Kp := FrK σ) (fun _ f => f) 1 (-1) (by decide) ?_ ?_) (fun τ f => KcI_fr K f) (by omega) (GmS_s S)
    · show f_L_tick σ p1 = _
      unfold f_L_tick f_X10_tick
      rw [if_pos c1, oBc_r lk4]
    · show f_X11_tick σ p1 = _
      unfold f_X11_tick
      rw [in_eq, if_pos c1, holds1, oB_some, if_neg (by decide)]
  rcases F.2.1 with tp | ⟨p, hp, tp⟩
  · refine g_q (q_ex C M (Kp := FrK σ) (fun _ f => f) 2 (-1) (by decide) ?_ ?_) (fun τ f => KcI_fr K f) (by omega) (GmS_s S)
    · show f_L_tick σ p1 = _
      unfold f_L_tick f_X10_tick
      rw [if_neg c1, needR_n C tp, oBx_r, oBc_r lk5]
    · show f_X11_tick σ p1 = _
      unfold f_X11_tick
      rw [in_eq, if_neg c1, (M.2.2.1 67 24 (by omega)).trans tp, if_pos rfl, holds2, oB_some, if_neg (by decide)]
  · obtain ⟨q, h1, h2, rfl⟩ := vIn_of (a := 1) (b := 999) (by decide) c1 (by decide)
    obtain ⟨t0, ht0, e0⟩ := S.2.2.1.2.2.2 p (by omega)
    have S1 := Gm_clk (p := p) (q := t0 - q) S (by omega)
    have C1 := CI_w C (a := 23) (k := p) (by omega) (nI (t0 - q))
    have C1 : CI (wI σ 23 p (nI (t0 - q))) B E dl (up2 m 71 p (nI (t0 - q))) l ch := C1
    have K1 : KcI (wI σ 23 p (nI (t0 - q))) B (up2 m 71 p (nI (t0 - q))) hh L ch := KcI_fr (KcI_m K fun i _ => by rw [up2_at, if_neg (by omega)]) (FrK_w (by omega) _)
    have tp1 : up2 m 71 p (nI (t0 - q)) 67 24 = nI p := by rw [up2_at, if_neg (by omega)]; exact tp
    have q23 : rI σ 23 p = nI t0 := (CI_4 C (x := 23) (j := p) (by omega)).trans e0
    have ex : (if 0 < nI t0 - nI q then nI t0 - nI q else 0) = nI (t0 - q) := by
      by_cases z : q < t0
      · rw [nI_sub (by omega), if_pos (show (0 : Int32) < nI (t0 - q) from (nI_lt' (a := 0) (by omega) (by omega)).mpr (by omega))]
      · have e1 : nI t0 - nI q = iI ((t0 : Int) - (q : Int)) := by rw [← iI_nat, ← iI_nat, iI_sub]
        rw [e1, if_neg (fun y => by have := (iI_lt (a := 0) ⟨by omega, by omega⟩ ⟨by omega, by omega⟩).mp y; omega), show t0 - q = 0 by omega]
        rfl
    have ey : (if nI t0 ≤ nI q then (0 : Int32) else nI t0 - nI q) = nI (t0 - q) := by
      have c : (nI t0 ≤ nI q) = (t0 ≤ q) := propext (nI_leI (by omega) (by omega))
      simp only [c]
      by_cases z : t0 ≤ q
      · rw [if_pos z, show t0 - q = 0 by omega]; rfl
      · rw [if_neg z, nI_sub (by omega)]
    have cz : (nI (t0 - q) = 0) = (t0 - q = 0) := propext (nI_eq (b := 0) (by omega) (by omega))
    have preL : ∀ r, (if nI (t0 - q) = 0 then (oB (f_X10_endByDrawing (wI σ 23 p (nI (t0 - q))) 7) fun v5 σ6 => some ((.inl (nI (t0 - q)), σ6))) else (some ((.inl (nI (t0 - q)), wI σ 23 p (nI (t0 - q))))) : Option ((Int32 ⊕ String) × rS)) = r → f_L_tick σ (nI q) = oBc r [("java/lang/IllegalArgumentException", 1), ("java/lang/IllegalStateException", 2)] fun v1 σ1 => oLet (wL σ1 114 (0 : Int32).toNatClampNeg (((v1 : Int32)).toInt64)) fun σ6 => some ((0, σ6)) := fun r hr => by
      unfold f_L_tick f_X10_tick
      rw [if_neg c1, needR_y C (by omega) tp, oBx_l, CI_p C tp, vAt_nI (by decide) (by omega), q23, ex, oLet_eq, vSet_nI (by decide) (by omega), row_w, oLet_eq, hr]
    have preR : ∀ υ, MI υ B E m l → f_X11_tick υ (nI q) = (if nI (t0 - q) = 0 then (oB (f_X11_endsByDrawing (wI (wI υ 67 0 0) 71 p (nI (t0 - q))) 7) fun v5 σ6 => some ((rI σ6 71 p, σ6))) else (some ((nI (t0 - q), wI (wI υ 67 0 0) 71 p (nI (t0 - q)))))) := fun υ N => by
      have N1 := MI_t N 0
      have r24 : rI (wI υ 67 0 0) 67 24 = nI p := (N1.2.2.1 67 24 (by omega)).trans tp
      have r71 : rI (wI υ 67 0 0) 71 p = nI t0 := (N1.2.2.1 71 p (by omega)).trans e0
      have w71 : rI (wI (wI υ 67 0 0) 71 p (nI (t0 - q))) 71 p = nI (t0 - q) := by rw [fld_eq, if_pos ⟨rfl, rfl⟩]
      unfold f_X11_tick
      rw [in_eq, if_neg c1, (N.2.2.1 67 24 (by omega)).trans tp, if_neg (n_m1 (by omega)), holds0, oB_some, if_pos rfl, r24, if_pos (inB_nI (by decide) (by omega)), nI_clamp (by omega), r71, ey, oLet_eq, w71]
    by_cases z : t0 - q = 0
    · obtain ⟨B', E', m', l', v, S', e71, -, cl, rf⟩ := draw_mv l S1 (by omega) hp tp1 (Or.inr rfl)
      obtain ⟨τ, c2, a1, a2, a3, a4, a5, a6⟩ := cl _ ch C1 K1 (by omega)
      have a1 : f_X10_endByDrawing (wI σ 23 p (nI (t0 - q))) 7 = some (nI v, τ) := a1
      refine g_ok (v := nI (t0 - q)) M a2 ((FrCl_w (by omega) _).tr a3) a6 (by omega) S' ?_ fun υ N => ?_
      · show f_L_tick σ (nI q) = _
        rw [preL _ rfl]
        simp only [cz]
        rw [if_pos z, a1, oB_some, oBc_l]
        rfl
      · have N1 := MI_w (MI_t N 0) (a := 71) (k := p) (by omega) (nI (t0 - q))
        obtain ⟨υ2, b1, b2, b3, b4⟩ := rf _ N1
        have b1 : f_X11_endsByDrawing (wI (wI υ 67 0 0) 71 p (nI (t0 - q))) 7 = some (nI v, υ2) := b1
        refine ⟨υ2, ?_, b2, b4.trans (by rw [fld_eq, if_neg (by omega), fld_eq, if_pos ⟨rfl, rfl⟩]), ((FrRf_w (by omega) _).tr (FrRf_w (by omega) _)).tr b3⟩
        show f_X11_tick υ (nI q) = _
        rw [preR υ N]
        simp only [cz]
        rw [if_pos z, b1, oB_some, b2.2.2.1 71 p (by omega), e71, up2_at, if_pos ⟨rfl, rfl⟩]
    · refine g_ok (v := nI (t0 - q)) M C1 (FrCl_w (by omega) _) K1 (by omega) (GmS_s S1) ?_ fun υ N => ?_
      · show f_L_tick σ (nI q) = _
        rw [preL _ rfl]
        simp only [cz]
        rw [if_neg z, oBc_l]
        rfl
      · refine ⟨wI (wI υ 67 0 0) 71 p (nI (t0 - q)), ?_, MI_w (MI_t N 0) (a := 71) (k := p) (by omega) _, by rw [fld_eq, if_neg (by omega), fld_eq, if_pos ⟨rfl, rfl⟩], (FrRf_w (by omega) _).tr (FrRf_w (by omega) _)⟩
        show f_X11_tick υ (nI q) = _
        rw [preR υ N]
        simp only [cz]
        rw [if_neg z]
