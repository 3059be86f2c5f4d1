/-! the programs that play: the class alone -/
section
variable {t : Nat} {σ : rS} {B : Bd} {E : List Ent} {dl : Option (Nat × Nat × Nat)} {m : Mem} {l : Nat → Int64} {ch : Nat} {B0 : Bd} {D : List (Nat × Nat)} {hh L jk ml pn wr : Nat}
theorem en_mv {tx : Nat} (l : Nat → Int64) {p : Nat} {mel : Bool} (S : GmS t B E dl m B0 D hh L jk ml pn 3 wr) (X : Xt tx m) (ht : t ≤ 800) (hp : p < 3) (tp : m 67 24 = nI p) (me : meB B mel ml L hh = true) : ∃ B' E' m', GmS (t + 1) B' E' dl m' B' [] hh L jk ml pn 3 wr ∧ Xt (tx + 1) m' ∧ (E'.length = E.length + 1 ∧ tjB B' = tjB B) ∧ (∀ x k, x ≠ 70 ∧ x ≠ 73 ∧ x ≠ 74 ∧ ¬ (x = 67 ∧ (k = 24 ∨ k = 25 ∨ k = 26 ∨ k = 27)) ∧ x ≠ 72 → m' x k = m x k) ∧ ∀ σ ch, CI σ B E dl m l ch → ∃ τ, f_X10_endByLaying σ = some ((), τ) ∧ CI τ B' E' dl m' l (ch + 1) ∧ FrCl σ τ ∧ FrK σ τ := by
  have F := G_facts S ht
  have hn4 := S.1.2.2.2.2.2.2.2.2
  obtain ⟨j, hj, h1, h2⟩ := S.2.2.1.1 p hp
  have X1 : Xt (tx + 1) (elM m (bR B) p 3 j) := Xt_el X hp F.1.1.2.1
  exact ⟨stB B, E ++ [(5, p, 0, 0)], elM m (bR B) p 3 j, Gm_end S hp tp hj h1 h2 me, X1, ⟨by rw [List.length_append]; rfl, rfl⟩, fun x k hx => elM_at _ _ _ _ _ hx, fun σ ch C => cEndL_eq C S.1.1.2.2.2.2.2 hn4 hp tp (by have := F.2.2.1; omega) hj h1 h2⟩
theorem a_auto (G : GAx t σ B E dl m l ch B0 D hh L jk ml pn wr) (ht : t ≤ 512) : AR t (fun σ => f_L_auto σ) σ B E dl m l ch B0 D hh L jk ml pn wr := by
  obtain ⟨C, K, hc, S, X⟩ := id G
  have F := G_facts S (by omega)
  have r := S.1
  have hn4 := r.2.2.2.2.2.2.2.2
  rcases F.2.1 with tp | ⟨p, hp, tp⟩
  · refine ar_s G (c := -10004) (by decide) ?_ C (FrK.rf σ)
    show f_L_auto σ = _
    unfold f_L_auto f_X10_auto
    rw [needR_n C tp, oBx_r, oBc_r lkS]
  have hDl : (bD B).length ≤ 64 := by rw [F.2.2.2.1]; have := F.2.2.2.2.1; omega
  have hmm := S.2.2.1.2.1 p (by omega)
  by_cases bad : m 69 p = 0 ∨ bD B ≠ []
  · refine ar_s G (c := -10004) (by decide) ?_ C (FrK.rf σ)
    show f_L_auto σ = _
    unfold f_L_auto
    rw [auto_pre C (by omega) tp hDl, if_pos bad, oBc_r lkS]
  have hDn : D = [] := by
    rw [← F.2.2.2.1]
    exact Classical.byContradiction fun z => bad (Or.inr z)
  have on := On_same hn4 S.2.1 hp tp
  have hBB : B = B0 := by
    have := on.2.2.2.1
    rw [hDn] at this
    exact this
  subst hDn hBB
  have b0 := S.2.1.1
  obtain ⟨mel, hm⟩ := mel_of hmm
  obtain ⟨Bd, Ed, md, ld, vd, hvd, Sd, Xd, -, -, cd⟩ := dr_mv l S X (by omega) hp tp (Or.inl rfl)
  have hMv := hasM_v C (by omega) hmm
  have preL : f_L_auto σ = oBc (if m 69 p = 3 ∧ m 72 p ≠ 0 then (oB (f_X10_autoBlocking σ) fun v5 σ6 => some ((.inl v5, σ6))) else (oB (f_X10_autoByPlan σ (m 69 p)) fun v3 σ4 => (some ((.inl v3, σ4)) : Option ((Int32 ⊕ String) × rS)))) hcs3 fun v σ1 => some (v.toInt64, σ1) := by
    unfold f_L_auto
    rw [auto_pre C (by omega) tp hDl, if_neg bad, hMv]
  by_cases bl : m 69 p = 3 ∧ m 72 p ≠ 0
  · have hm1 : m 72 p = 1 := hmm.resolve_left bl.2
    obtain ⟨v, σ2, a1, a2, a3, a4, a5⟩ := cAlone_eq C F.1 r K
    rcases least_of (blP B hh L p) 52 with hno | ⟨k, hk, hy, hno⟩
    · obtain ⟨τ, c2, d1, d2, d3, d4, d5, d6⟩ := cd σ2 ch a2 a4 (by omega)
      have d1 : f_X10_endByDrawing σ2 6 = some (nI vd, τ) := d1
      refine ar_o (v := 0) (okV_n (n := 0) (by decide)) ?_ d2 d6 (by omega) Sd Xd
      show f_L_auto σ = _
      rw [preL, if_pos bl]
      unfold f_X10_autoBlocking
      rw [a1, oB_some, cBlk_no a2 F.1 (by omega) tp a5 hno d1, oB_some, oBc_l]
      all_goals rfl
    · have v0 : vaB p B (0, k) := ⟨hk, by omega, by rw [b0.1.2.1]; decide, Or.inl ⟨rfl, hy.1, by
        have h1 := hy.2.2.1
        have h2 : tjB B k = bT B k + bJ B k := if_pos hk
        dsimp only
        omega⟩⟩
      have S1 := Gm_add (s := 1) S hp tp v0 hy.2.1 (fun _ => by dsimp only; omega) (Or.inl ⟨rfl, rfl⟩)
      have ok1 : okB p B (mpL [k]) := ⟨v0, trivial⟩
      have me : meB (apB p B (0, k)) true ml L hh = true := by
        refine meB_mk ?_ ?_ (fun e => by cases e) (accB_iff.mpr (AccR_congr (fun a ha c hc => ?_) hy.2.2.2))
        · rw [apB_D]; simp
        · show bF B = 0
          exact b0.1.2.2
        · unfold tN xZ unX
          have e1 : tjB (apB p B (0, k)) (13 * c + a) = tjB B (13 * c + a) + lcB (mpL [k]) (13 * c + a) := tjB_lay (l := [k]) ok1 (by have := r.2.2.1; omega)
          have e2 : lcB (mpL [k]) (13 * c + a) = if a = k % 13 ∧ c = k / 13 then 1 else 0 := by
            show (if k = 13 * c + a then 1 else 0) + 0 = _
            have h13 := r.2.2.1
            by_cases z : a = k % 13 ∧ c = k / 13
            · rw [if_pos z, if_pos (by omega)]
            · rw [if_neg z, if_neg (by omega)]
          rw [e1, e2, Nat.add_zero]
      obtain ⟨B', E', m', S', X', ⟨eE, eB⟩, -, ce⟩ := en_mv (mel := true) l S1 X (by omega) hp tp me
      obtain ⟨σ7, c1, f1, f2, f3, f4, f5⟩ := cLayT_eq a2 tp v0 (by have := F.2.2.1; omega)
      obtain ⟨τ, g1, g2, g3, g4⟩ := ce σ7 _ f2
      refine ar_o (t := t) (v := 1) (okV_n (n := 1) (by decide)) ?_ g2 (KcI_up (KcI_fr a4 ((FrK_X f5 fun x j w => by omega).tr g4)) (by omega) (by omega)) (by omega) (Gm_t S' (by
        have h1 := S.2.2.2.1.2.2.1
        have h2 := tot_lay (l := [k]) ok1
        have h3 : tjB (runB p B (mpL [k])) = tjB (apB p B (0, k)) := rfl
        rw [h3] at h2
        rw [eB, h2, eE, List.length_append]
        simp only [List.length_singleton]
        omega)) X'
      show f_L_auto σ = _
      rw [preL, if_pos bl]
      unfold f_X10_autoBlocking
      rw [a1, oB_some, cBlk_yes a2 F.1 (by omega) tp a5 hk hy hno f1 g1, oB_some, oBc_l]
      all_goals rfl
  · obtain ⟨τ1, a1, a2, a3, a4, a5⟩ := cPlan_eq C F.1 r K (p := p) (by omega) hmm
    have hct := plF_ct (m := m) (p := p) F.1.1 (by omega) r.2.2.2.1 r.2.2.1
    have hpg := planGood_eq a2 r F.1.1 a5 hct (by omega) tp hm (m 69 p)
    cases hg : pgB (plF B m hh L p) (m 69 p) mel ml (rsz (bR B) p) with
    | false =>
      rw [hg] at hpg
      obtain ⟨τ, c2, d1, d2, d3, d4, d5, d6⟩ := cd τ1 ch a2 a4 (by omega)
      have d1 : f_X10_endByDrawing τ1 6 = some (nI vd, τ) := d1
      refine ar_o (v := 0) (okV_n (n := 0) (by decide)) ?_ d2 d6 (by omega) Sd Xd
      show f_L_auto σ = _
      rw [preL, if_neg bl]
      unfold f_X10_autoByPlan
      rw [CI_p C tp, a1, oB_some, hpg, if_pos (show b2i false = 0 from rfl), d1, oB_some, oB_some, oBc_l]
      all_goals rfl
    | true =>
      rw [hg] at hpg
      obtain ⟨g, hf, hg1, hgw⟩ := pgB_t hg
      obtain ⟨pk, -⟩ := plF_ok F.1.1 (by omega) r.2.2.2.1 r.2.2.1 hf
      have H : PlP B hh p 3 g := ⟨b0.1, hp, hn4, pk⟩
      have hlen := plL_len g
      have hc24 := pk.2
      have S1 := Gm_lays H S tp (plL g) [] (List.append_nil _).symm
      have me := meB_plan H b0 r.2.2.2.1 r.2.2.1 hf hm hg1 hgw
      obtain ⟨B', E', m', S', X', ⟨eE, eB⟩, -, ce⟩ := en_mv (mel := mel) l S1 X (by omega) hp tp me
      rw [hf] at a5
      obtain ⟨σ3, c3, f1, f2, f3, f4, f5⟩ := cLays_eq H a2 a5 tp (by have := F.2.2.1; omega)
      obtain ⟨τ, g1, g2, g3, g4⟩ := ce σ3 c3 f2
      have q4 : rI σ3 65 4 = nI (ctK g) := (f5.2.2.2.2 65 4 (by omega)).trans a5.2.1
      have okp := pre_ok H (plL g) [] (List.append_nil _).symm
      have mlen : (meL p (plL g)).length = ctK g := by unfold meL; rw [List.length_map, hlen]
      refine ar_o (t := t) (v := nI (ctK g)) (okV_n (by omega)) ?_ g2 (KcI_up (KcI_fr a4 ((FrK_X f5 fun x j w => by omega).tr g4)) (by omega) (by omega)) (by omega) (Gm_t S' (by
        have h1 := S.2.2.2.1.2.2.1
        have h2 := tot_lay (plL g) okp
        rw [eB, h2, eE, List.length_append, mlen, hlen]
        omega)) X'
      show f_L_auto σ = _
      rw [preL, if_neg bl]
      unfold f_X10_autoByPlan
      rw [CI_p C tp, a1, oB_some, hpg, if_neg (show ¬ b2i true = 0 by decide), f1, oJ_inr, g1, oB_some, q4, oB_some, oBc_l]
      all_goals rfl
end
