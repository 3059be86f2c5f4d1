/-! auto, as a call of the game -/
theorem mel_of {m : Mem} {p : Nat} (h : m 72 p = 0 ∨ m 72 p = 1) : ∃ mel : Bool, m 72 p = if mel then 1 else 0 := by
  rcases h with e | e
  · exact ⟨false, e⟩
  · exact ⟨true, e⟩
theorem auto_pre {σ : rS} {B : Bd} {E : List Ent} {dl : Option (Nat × Nat × Nat)} {m : Mem} {l : Nat → Int64} {ch p : Nat} (C : CI σ B E dl m l ch) (hp : p < 4) (tp : m 67 24 = nI p) (hD : (bD B).length ≤ 64) : f_X10_auto σ = if m 69 p = 0 ∨ bD B ≠ [] then (some ((.inr "java/lang/IllegalStateException", σ))) else (if m 69 p = 3 ∧ v_X10_hasMelded σ (nI p) ≠ 0 then (oB (f_X10_autoBlocking σ) fun v5 σ6 => some ((.inl v5, σ6))) else (oB (f_X10_autoByPlan σ (m 69 p)) fun v3 σ4 => some ((.inl v3, σ4)))) := by
  unfold f_X10_auto
  have e21 : vAt (rI σ 21) 4 (nI p) = m 69 p := by
    rw [vAt_nI (by decide) hp]
    exact CI_4 C (x := 21) (j := p) (by omega)
  have c0 : (nI (bD B).length ≤ 0) = ((bD B).length = 0) := nI_le0 (by omega)
  rw [needR_y C hp tp, oBx_l, CI_p C tp, e21, C.1.2.2.2.2.2.1.1]
  simp only [c0]
  by_cases a : m 69 p = 0
  · rw [if_pos a, if_pos rfl, if_pos (Or.inl a)]
  · rw [if_neg a]
    by_cases b : bD B = []
    · rw [b, if_pos (show ([] : List (Nat × Nat)).length = 0 from rfl), if_neg (by decide), if_neg (c := m 69 p = 0 ∨ ([] : List (Nat × Nat)) ≠ []) (fun z => z.elim a fun y => y rfl)]
      by_cases c : m 69 p = 3
      · rw [if_pos c]
        by_cases d : v_X10_hasMelded σ (nI p) = 0
        · rw [if_pos d, if_pos rfl, if_neg (fun z => z.2 d)]
        · rw [if_neg d, if_neg (by decide), if_pos ⟨c, d⟩]
      · rw [if_neg c, if_pos rfl, if_neg (fun z => c z.1)]
    · rw [if_neg (fun z => b (List.length_eq_zero_iff.mp z)), if_pos rfl, if_pos (Or.inr b)]
theorem mauto_pre {σ : rS} {B : Bd} {E : List Ent} {m : Mem} {l : Nat → Int64} {p : Nat} (M : MI σ B E m l) (hp : p < 4) (tp : m 67 24 = nI p) (hD : (bD B).length ≤ 64) : f_X11_auto σ = if m 69 p = 0 ∨ bD B ≠ [] then (some (-1, wI σ 67 0 1)) else (if m 69 p = 3 ∧ m 72 p ≠ 0 then (oB (f_X11_blocks (wI σ 67 0 0) (nI p)) fun v20 σ21 => some ((v20, σ21))) else (oB (f_X11_laysPlan (wI σ 67 0 0) (nI p)) fun v6 σ7 => mPlanQ σ7 v6 (nI p))) := by
  have M1 := MI_t M 0
  have hcl : (nI p).toNatClampNeg = p := nI_clamp (by omega)
  have c0 : (nI (bD B).length ≤ 0) = ((bD B).length = 0) := nI_le0 (by omega)
  unfold f_X11_auto
  rw [(M.2.2.1 67 24 (by omega)).trans tp, if_neg (n_m1 hp), if_pos (inB_nI (by decide) hp), nI_clamp (by omega), M.2.2.1 69 p (by omega), M.1.2.2.2.2.1.1]
  simp only [c0]
  by_cases a : m 69 p = 0
  · rw [if_pos a, if_pos rfl, oJ_inr, holds1, oB_some, if_neg (by decide), if_pos (Or.inl a)]
  · rw [if_neg a]
    by_cases b : bD B = []
    · rw [b, if_pos (show ([] : List (Nat × Nat)).length = 0 from rfl), if_neg (by decide), oJ_inr, holds0, oB_some, if_pos rfl, (M1.2.2.1 67 24 (by omega)).trans tp, if_pos (inB_nI (by decide) hp), nI_clamp (by omega), M1.2.2.1 69 p (by omega), M1.2.2.1 72 p (by omega), if_neg (c := m 69 p = 0 ∨ ([] : List (Nat × Nat)) ≠ []) (fun z => z.elim a fun y => y rfl)]
      by_cases c : m 69 p = 3
      · rw [if_pos c]
        by_cases d : m 72 p = 0
        · rw [if_pos d, if_pos rfl, if_neg (fun z => z.2 d)]
          simp only [mPlanQ, hcl]
        · rw [if_neg d, if_neg (by decide), if_pos ⟨c, d⟩]
      · rw [if_neg c, if_pos rfl, if_neg (fun z => c z.1)]
        simp only [mPlanQ, hcl]
    · rw [if_neg (fun z => b (List.length_eq_zero_iff.mp z)), if_pos rfl, oJ_inr, holds1, oB_some, if_neg (by decide), if_pos (Or.inr b)]
theorem g_auto {t : Nat} {σ : rS} (G : GI t σ) (ht : t ≤ 512) : GStep t (fun σ => f_L_auto σ) (fun σ => f_X11_auto σ) σ := by
  obtain ⟨B, E, dl, m, l, ch, B0, D, hh, L, jk, ml, pn, n, wr, C, M, K, hc, S⟩ := G
  have F := G_facts S (by omega)
  have r := S.1
  have hn4 := r.2.2.2.2.2.2.2.2
  rcases F.2.1 with tp | ⟨p, hp, tp⟩
  · refine g_q (q_ex C M (Kp := FrK σ) (fun _ f => f) 1 (-1) (by decide) ?_ ?_) (fun τ f => KcI_fr K f) (by omega) (GmS_s S)
    · show f_L_auto σ = _
      unfold f_L_auto f_X10_auto
      rw [needR_n C tp, oBx_r, oBc_r lk6]
    · show f_X11_auto σ = _
      unfold f_X11_auto
      rw [(M.2.2.1 67 24 (by omega)).trans tp, if_pos rfl, oJ_inr, holds1, oB_some, if_neg (by decide)]
  have hDl : (bD B).length ≤ 64 := by rw [F.2.2.2.1]; have := F.2.2.2.2.1; omega
  have hmm := S.2.2.1.2.1 p (by omega)
  by_cases bad : m 69 p = 0 ∨ bD B ≠ []
  · refine g_q (q_ex C M (Kp := FrK σ) (fun _ f => f) 1 (-1) (by decide) ?_ ?_) (fun τ f => KcI_fr K f) (by omega) (GmS_s S)
    · show f_L_auto σ = _
      unfold f_L_auto
      rw [auto_pre C (by omega) tp hDl, if_pos bad, oBc_r lk6]
    · show f_X11_auto σ = _
      rw [mauto_pre M (by omega) tp hDl, if_pos bad]
  have hDn : D = [] := by
    rw [← F.2.2.2.1]
    exact Classical.byContradiction fun z => bad (Or.inr z)
  have on := On_same hn4 S.2.1 hp tp
  have hBB : B = B0 := by
    have := on.2.2.2.1
    rw [hDn] at this
    exact this
  subst hDn hBB
  have b0 := S.2.1.1
  obtain ⟨mel, hm⟩ := mel_of hmm
  obtain ⟨Bd, Ed, md, ld, vd, Sd, -, -, cd, rd⟩ := draw_mv l S (by omega) hp tp (Or.inl rfl)
  have hMv := hasM_v C (by omega) hmm
  have preL : f_L_auto σ = oBc (if m 69 p = 3 ∧ m 72 p ≠ 0 then (oB (f_X10_autoBlocking σ) fun v5 σ6 => some ((.inl v5, σ6))) else (oB (f_X10_autoByPlan σ (m 69 p)) fun v3 σ4 => (some ((.inl v3, σ4)) : Option ((Int32 ⊕ String) × rS)))) [("java/lang/IllegalStateException", 1)] fun v1 σ1 => oLet (wL σ1 114 (0 : Int32).toNatClampNeg (((v1 : Int32)).toInt64)) fun σ6 => some ((0, σ6)) := by
    unfold f_L_auto
    rw [auto_pre C (by omega) tp hDl, if_neg bad, hMv]
  have preR : ∀ υ, MI υ B E m l → f_X11_auto υ = (if m 69 p = 3 ∧ m 72 p ≠ 0 then (oB (f_X11_blocks (wI υ 67 0 0) (nI p)) fun v20 σ21 => some ((v20, σ21))) else (oB (f_X11_laysPlan (wI υ 67 0 0) (nI p)) fun v6 σ7 => mPlanQ σ7 v6 (nI p))) := fun υ N => by
    rw [mauto_pre N (by omega) tp hDl, if_neg bad]
  have z0 : ∀ υ : rS, rI (wI υ 67 0 0) 67 0 = 0 := fun υ => by rw [fld_eq, if_pos ⟨rfl, rfl⟩]
  by_cases bl : m 69 p = 3 ∧ m 72 p ≠ 0
  · have hm1 : m 72 p = 1 := hmm.resolve_left bl.2
    obtain ⟨v, σ2, a1, a2, a3, a4, a5⟩ := cAlone_eq C F.1 r K
    rcases least_of (blP B hh L p) 52 with hno | ⟨k, hk, hy, hno⟩
    · obtain ⟨τ, c2, d1, d2, d3, d4, d5, d6⟩ := cd σ2 ch a2 a4 (by omega)
      have d1 : f_X10_endByDrawing σ2 6 = some (nI vd, τ) := d1
      refine g_ok (v := 0) M d2 (a3.tr d3) d6 (by omega) Sd ?_ fun υ N => ?_
      · show f_L_auto σ = _
        rw [preL, if_pos bl]
        unfold f_X10_autoBlocking
        rw [a1, oB_some, cBlk_no a2 F.1 (by omega) tp a5 hno d1, oB_some, oBc_l]
        rfl
      · obtain ⟨υ2, e1, e2, e3, e4⟩ := mBlk_no (MI_t N 0) F.1 r F.2.2.2.2.2.1 (by omega) hno (fun τ N' => rd τ N')
        refine ⟨υ2, ?_, e2, e4.trans (z0 υ), (FrRf_w (by omega) _).tr e3⟩
        show f_X11_auto υ = _
        rw [preR υ N, if_pos bl, e1, oB_some]
    · have v0 : vaB p B (0, k) := ⟨hk, by omega, by rw [b0.1.2.1]; decide, Or.inl ⟨rfl, hy.1, by
        have h1 := hy.2.2.1
        have h2 : tjB B k = bT B k + bJ B k := if_pos hk
        dsimp only
        omega⟩⟩
      have S1 := Gm_add (s := 1) S hp tp v0 hy.2.1 (fun _ => by dsimp only; omega) (Or.inl ⟨rfl, rfl⟩)
      have ok1 : okB p B (mpL [k]) := ⟨v0, trivial⟩
      have me : meB (apB p B (0, k)) true ml L hh = true := by
        refine meB_mk ?_ ?_ (fun e => by cases e) (accB_iff.mpr (AccR_congr (fun a ha c hc => ?_) hy.2.2.2))
        · rw [apB_D]; simp
        · show bF B = 0
          exact b0.1.2.2
        · unfold tN xZ unX
          have e1 : tjB (apB p B (0, k)) (13 * c + a) = tjB B (13 * c + a) + lcB (mpL [k]) (13 * c + a) := tjB_lay (l := [k]) ok1 (by have := r.2.2.1; omega)
          have e2 : lcB (mpL [k]) (13 * c + a) = if a = k % 13 ∧ c = k / 13 then 1 else 0 := by
            show (if k = 13 * c + a then 1 else 0) + 0 = _
            have h13 := r.2.2.1
            by_cases z : a = k % 13 ∧ c = k / 13
            · rw [if_pos z, if_pos (by omega)]
            · rw [if_neg z, if_neg (by omega)]
          rw [e1, e2, Nat.add_zero]
      obtain ⟨B', E', m', S', ⟨eE, eB⟩, -, ce, re⟩ := end_mv (mel := true) l S1 (by omega) hp tp hm1 me
      obtain ⟨σ7, c1, f1, f2, f3, f4, f5⟩ := cLayT_eq a2 tp v0 (by have := F.2.2.1; omega)
      obtain ⟨τ, g1, g2, g3, g4⟩ := ce σ7 _ f2
      refine g_ok (t := t) (v := 1) M g2 ((a3.tr (FrCl_L f5)).tr g3) (KcI_up (KcI_fr a4 ((FrK_X f5 fun x j w => by omega).tr g4)) (by omega) (by omega)) (by omega) (Gm_t S' (by
        have h1 := S.2.2.2.1.2.2.1
        have h2 := tot_lay (l := [k]) ok1
        have h3 : tjB (runB p B (mpL [k])) = tjB (apB p B (0, k)) := rfl
        rw [h3] at h2
        rw [eB, h2, eE, List.length_append]
        simp only [List.length_singleton]
        omega)) ?_ fun υ N => ?_
      · show f_L_auto σ = _
        rw [preL, if_pos bl]
        unfold f_X10_autoBlocking
        rw [a1, oB_some, cBlk_yes a2 F.1 (by omega) tp a5 hk hy hno f1 g1, oB_some, oBc_l]
        rfl
      · obtain ⟨υ2, e1, e2, e3, e4⟩ := mBlk_yes (MI_t N 0) F.1 r F.2.2.2.2.2.1 (by omega) hk hy hno (fun τ N' => by
          obtain ⟨υ0, h1, h2, h3⟩ := mLayT_eq N' tp F.1 v0 (by have := F.2.2.1; omega)
          obtain ⟨υ1, i1, i2, i3, i4⟩ := re υ0 h2
          exact ⟨υ0, υ1, h1, i1, i2, (FrRf_X h3 fun x j w => by omega).tr i3, i4.trans (h3.2.2.2.2 67 0 (by omega))⟩)
        refine ⟨υ2, ?_, e2, e4.trans (z0 υ), (FrRf_w (by omega) _).tr e3⟩
        show f_X11_auto υ = _
        rw [preR υ N, if_pos bl, e1, oB_some]
  · obtain ⟨τ1, a1, a2, a3, a4, a5⟩ := cPlan_eq C F.1 r K (p := p) (by omega) hmm
    have hct := plF_ct (m := m) (p := p) F.1.1 (by omega) r.2.2.2.1 r.2.2.1
    have hpg := planGood_eq a2 r F.1.1 a5 hct (by omega) tp hm (m 69 p)
    have mp : ∀ υ, MI υ B E m l → ∃ υ1, f_X11_auto υ = (if pgB (plF B m hh L p) (m 69 p) mel ml (rsz (bR B) p) = true then (oB (f_X11_laysAll υ1) fun v18 σ19 => some ((v18, σ19))) else (oB (f_X11_endsByDrawing υ1 6) fun v16 σ17 => some ((0, σ17)))) ∧ MI υ1 B E m l ∧ FrRf υ υ1 ∧ rI υ1 67 0 = 0 ∧ ∀ k, k < 52 → rI υ1 109 k = nI ((plF B m hh L p).getD (fun _ => 0) k) := fun υ N => by
      obtain ⟨υ1, e1, e2, e3, e4, e5⟩ := mPlan_eq (p := p) (MI_t N 0) F.1 r (by omega) hmm
      refine ⟨υ1, ?_, e2, (FrRf_w (by omega) _).tr e3, e4.trans (z0 υ), e5⟩
      rw [preR υ N, if_neg bl, e1, oB_some, mPlanQ_eq e2 r F.1 (by omega) hm e5]
    cases hg : pgB (plF B m hh L p) (m 69 p) mel ml (rsz (bR B) p) with
    | false =>
      rw [hg] at hpg
      obtain ⟨τ, c2, d1, d2, d3, d4, d5, d6⟩ := cd τ1 ch a2 a4 (by omega)
      have d1 : f_X10_endByDrawing τ1 6 = some (nI vd, τ) := d1
      refine g_ok (v := 0) M d2 (a3.tr d3) d6 (by omega) Sd ?_ fun υ N => ?_
      · show f_L_auto σ = _
        rw [preL, if_neg bl]
        unfold f_X10_autoByPlan
        rw [CI_p C tp, a1, oB_some, hpg, if_pos (show b2i false = 0 from rfl), d1, oB_some, oB_some, oBc_l]
        rfl
      · obtain ⟨υ1, e1, e2, e3, e4, e5⟩ := mp υ N
        obtain ⟨υ2, i1, i2, i3, i4⟩ := rd υ1 e2
        have i1 : f_X11_endsByDrawing υ1 6 = some (nI vd, υ2) := i1
        refine ⟨υ2, ?_, i2, i4.trans e4, e3.tr i3⟩
        show f_X11_auto υ = _
        rw [e1, hg, if_neg (by decide), i1, oB_some]
    | true =>
      rw [hg] at hpg
      obtain ⟨g, hf, hg1, hgw⟩ := pgB_t hg
      obtain ⟨pk, -⟩ := plF_ok F.1.1 (by omega) r.2.2.2.1 r.2.2.1 hf
      have H : PlP B hh p n g := ⟨b0.1, hp, hn4, pk⟩
      have hlen := plL_len g
      have hc24 := pk.2
      have S1 := Gm_lays H S tp (plL g) [] (List.append_nil _).symm
      have me := meB_plan H b0 r.2.2.2.1 r.2.2.1 hf hm hg1 hgw
      obtain ⟨B', E', m', S', ⟨eE, eB⟩, -, ce, re⟩ := end_mv (mel := mel) l S1 (by omega) hp tp hm me
      rw [hf] at a5
      obtain ⟨σ3, c3, f1, f2, f3, f4, f5⟩ := cLays_eq H a2 a5 tp (by have := F.2.2.1; omega)
      obtain ⟨τ, g1, g2, g3, g4⟩ := ce σ3 c3 f2
      have q4 : rI σ3 65 4 = nI (ctK g) := (f5.2.2.2.2 65 4 (by omega)).trans a5.2.1
      have okp := pre_ok H (plL g) [] (List.append_nil _).symm
      have mlen : (meL p (plL g)).length = ctK g := by unfold meL; rw [List.length_map, hlen]
      refine g_ok (t := t) (v := nI (ctK g)) M g2 ((a3.tr (FrCl_L f5)).tr g3) (KcI_up (KcI_fr a4 ((FrK_X f5 fun x j w => by omega).tr g4)) (by omega) (by omega)) (by omega) (Gm_t S' (by
        have h1 := S.2.2.2.1.2.2.1
        have h2 := tot_lay (plL g) okp
        rw [eB, h2, eE, List.length_append, mlen, hlen]
        omega)) ?_ fun υ N => ?_
      · show f_L_auto σ = _
        rw [preL, if_neg bl]
        unfold f_X10_autoByPlan
        rw [CI_p C tp, a1, oB_some, hpg, if_neg (show ¬ b2i true = 0 by decide), f1, oJ_inr, g1, oB_some, q4, oB_some, oBc_l]
        rfl
      · obtain ⟨υ1, e1, e2, e3, e4, e5⟩ := mp υ N
        rw [hf] at e5
        obtain ⟨υ2, i1, i2, i3, i4⟩ := mLaysAll_eq H e2 e5 tp (by have := F.2.2.1; omega) re
        refine ⟨υ2, ?_, i2, i4.trans e4, e3.tr i3⟩
        show f_X11_auto υ = _
        rw [e1, hg, if_pos rfl, i1, oB_some]
