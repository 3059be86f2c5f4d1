/-! play, as a call of the game -/
theorem g_fin {t : Nat} {fL fR : rS → Option (Int32 × rS)} {σ σ1 σ2 : rS} {B : Bd} {E : List Ent} {dl : Option (Nat × Nat × Nat)} {m : Mem} {l : Nat → Int64} {ch : Nat} {B0 : Bd} {D : List (Nat × Nat)} {hh L jk ml pn n wr : Nat} {v w : Int32} (hL : fL σ = some (v, σ1)) (hR : fR σ1 = some (w, σ2)) (h0 : rI σ2 67 0 = v) (h1 : v = 0 → rL σ2 114 0 = w.toInt64) (f1 : FrCl σ σ1) (f2 : FrRf σ1 σ2) (C : CI σ1 B E dl m l ch) (M : MI σ2 B E m l) (K : KcI σ1 B m hh L ch) (hc : ch ≤ 20000 * (t + 1 + 1)) (G : GmS (t + 1) B E dl m B0 D hh L jk ml pn n wr) : GStep t fL fR σ := ⟨v, σ1, w, σ2, hL, hR, h0, h1, (Fr2_Cl f1).tr (Fr2_Rf f2), B, E, dl, m, l, ch, B0, D, hh, L, jk, ml, pn, n, wr, CI_fr C f2, M, KcI_fr K (FrK_R f2), hc, G⟩
/-- cells that only one side has -/
theorem CI_m2 {σ ρ : rS} {B : Bd} {E : List Ent} {dl : Option (Nat × Nat × Nat)} {m : Mem} {l : Nat → Int64} {ch : Nat} (C : CI σ B E dl m l ch) : CI σ B E dl (mmU m ρ) l ch := CI_cg C fun x j d => by
  refine mmU_at m ρ fun z => ?_
  have h87 : cx x ≠ 87 ∧ cx x ≠ 88 ∧ ¬ (cx x = 67 ∧ cj x j = 37) := by
    by_cases e : x ≠ 33 ∧ x ≠ 34 ∧ ¬ (x = 31 ∧ j = 4)
    · obtain ⟨g1, g2⟩ := cx_o d e
      exact ⟨by omega, by omega, fun z => g2 ⟨z.1, Or.inr z.2⟩⟩
    · by_cases e3 : x = 33
      · subst e3; exact ⟨by decide, by decide, fun z => absurd z.1 (by decide)⟩
      · by_cases e4 : x = 34
        · subst e4; exact ⟨by decide, by decide, fun z => absurd z.1 (by decide)⟩
        · have e31 : x = 31 ∧ j = 4 := by omega
          obtain ⟨rfl, rfl⟩ := e31
          exact ⟨by decide, by decide, fun z => absurd z.2 (by decide)⟩
  rcases z with z | z | z
  · exact h87.1 z
  · exact h87.2.1 z
  · exact h87.2.2 z
theorem MI_m2 {σ ρ τ : rS} {B : Bd} {E : List Ent} {m : Mem} {l : Nat → Int64} (M : MI σ B E (mmU m τ) l) : MI σ B E (mmU (mcU m ρ) τ) l := MI_cg M fun x j d => by
  unfold mmU
  by_cases h : x = 87 ∨ x = 88 ∨ (x = 67 ∧ j = 37)
  · rw [if_pos h, if_pos h]
  · rw [if_neg h, if_neg h]
    exact mcU_at m ρ (by omega)
theorem GmS_m2 {t : Nat} {B : Bd} {E : List Ent} {dl : Option (Nat × Nat × Nat)} {m m' : Mem} {B0 : Bd} {D : List (Nat × Nat)} {hh L jk ml pn n wr : Nat} (S : GmS t B E dl m B0 D hh L jk ml pn n wr) (h : ∀ x k, x ≤ 86 → ¬ (x = 67 ∧ (k = 37 ∨ k = 200)) → m' x k = m x k) : GmS t B E dl m' B0 D hh L jk ml pn n wr := Gm_m S (fun x k hx => h x k (by omega) (by omega)) (by rw [h 67 34 (by omega) (by omega)]; exact S.2.2.2.1.1) S.2.2.2.1.2.1 t S.2.2.2.1.2.2.1
theorem mm_cu {m : Mem} {τ ρ : rS} {x k : Nat} (h1 : x ≤ 86) (h2 : ¬ (x = 67 ∧ (k = 37 ∨ k = 200))) : mmU (mcU m τ) ρ x k = m x k := by
  rw [mmU_at _ _ (by omega), mcU_at _ _ (by omega)]
theorem PyF_cu {m : Mem} {τ ρ : rS} {ms : List (Nat × Nat)} (R : RdC τ ms) (Q : RdR ρ ms) : PyF (mmU (mcU m τ) ρ) ms := by
  have e1 : ∀ k, mmU (mcU m τ) ρ 133 k = rI τ 33 k := fun k => by
    rw [mmU_at _ _ (by omega)]
    unfold mcU
    rw [if_pos rfl]
  have e2 : ∀ k, mmU (mcU m τ) ρ 134 k = rI τ 34 k := fun k => by
    rw [mmU_at _ _ (by omega)]
    unfold mcU
    rw [if_neg (by decide), if_pos rfl]
  have e3 : mmU (mcU m τ) ρ 67 200 = rI τ 31 4 := by
    rw [mmU_at _ _ (by omega)]
    unfold mcU
    rw [if_neg (by decide), if_neg (by decide), if_pos ⟨rfl, rfl⟩]
  have e4 : ∀ x k, (x = 87 ∨ x = 88 ∨ (x = 67 ∧ k = 37)) → mmU (mcU m τ) ρ x k = rI ρ x k := fun x k h => by
    unfold mmU
    rw [if_pos h]
  refine ⟨⟨by rw [e3]; exact R.1, fun i d hi => ?_⟩, by rw [e4 67 37 (by omega)]; exact Q.1, fun i d hi => ?_⟩
  · rw [e1, e2]; exact R.2 i d hi
  · rw [e4 87 i (by omega), e4 88 i (by omega)]; exact Q.2 i d hi
theorem RdR_mk (σ : rS) (ms : List (Nat × Nat)) : ∃ ρ : rS, RdR ρ ms := by
  refine ⟨rowI (rowI (wI σ 67 37 (nI ms.length)) 87 (fun i => match ms[i]? with | some d => leS d.1 | none => 0)) 88 (fun i => match ms[i]? with | some d => nI d.2 | none => 0), ?_, fun i d hi => ⟨?_, fun _ => ?_⟩⟩
  · rw [q_rI, if_neg (by decide), q_rI, if_neg (by decide), fld_eq, if_pos ⟨rfl, rfl⟩]
  · rw [q_rI, if_neg (by decide), q_rI, if_pos rfl, hi]
  · rw [q_rI, if_pos rfl, hi]
theorem g_play {t : Nat} {σ : rS} (G : GI t σ) (ht : t ≤ 512) : GStep t (fun σ => f_L_play σ) (fun σ => f_X11_play σ) σ := by
  obtain ⟨B, E, dl, m, l, ch, B0, D, hh, L, jk, ml, pn, n, wr, C, M, K, hc, S⟩ := G
  have F := G_facts S (by omega)
  have r := S.1
  have hn4 := r.2.2.2.2.2.2.2.2
  have h13 := r.2.2.1
  obtain ⟨w1, h40, -, -⟩ := S.2.2.2.1
  have Wc : FrX WRd σ (wI σ 31 4 0) := FrX.w _ _ (by omega)
  have Cc := CI_Rd C Wc
  obtain ⟨gc1, gc2⟩ := cRead_go r w1 h40 wr 0 [] (wI σ 31 4 0) oFuel (by omega) (by omega) (Nat.le_refl _) Cc ⟨by rw [fld_eq, if_pos ⟨rfl, rfl⟩]; rfl, fun i d h => by simp at h⟩ (by rw [oFuel_eq]; omega)
  have rd : ∀ τ, MI τ B E m l → (psT m wr hh wr 0 = none → ∃ τ', f_X11_reads τ = some (0, τ') ∧ FrX WRm τ τ') ∧ ∀ l', psT m wr hh wr 0 = some l' → ∃ τ', f_X11_reads τ = some ((if l'.length = 0 then 0 else 1), τ') ∧ RdR τ' l' ∧ FrX WRm τ τ' := fun τ N => by
    have Wm : FrX WRm τ (wI τ 67 37 0) := FrX.w _ _ (by omega)
    obtain ⟨g1, g2⟩ := mRead_go r w1 h40 wr 0 [] (wI τ 67 37 0) oFuel (by omega) (by omega) (Nat.le_refl _) (MI_Rm N Wm) ⟨by rw [fld_eq, if_pos ⟨rfl, rfl⟩]; rfl, fun i d h => by simp at h⟩ (by rw [oFuel_eq]; omega)
    have e : f_X11_reads τ = oLoop b_X11_reads_7 oFuel (nI 0, wI τ 67 37 0) := rfl
    rw [e]
    refine ⟨fun h => ?_, fun l' h => ?_⟩
    · obtain ⟨τ', a1, a2⟩ := g1 h
      exact ⟨τ', a1, Wm.tr a2⟩
    · obtain ⟨τ', a1, a2, a3⟩ := g2 l' h
      rw [List.nil_append] at a1 a2
      exact ⟨τ', a1, a2, Wm.tr a3⟩
  have ec : f_X7_read σ = oLoop b_X7_read_7 oFuel (nI 0, wI σ 31 4 0) := rfl
  -- nothing can be read
  have bad : ∀ τc, f_X7_read σ = some (0, τc) → FrX WRd σ τc → (∀ τ, MI τ B E m l → ∃ τ', f_X11_reads τ = some (0, τ') ∧ FrX WRm τ τ') → GStep t (fun σ => f_L_play σ) (fun σ => f_X11_play σ) σ := fun τc a1 a2 hr => by
    have fc : FrCl σ τc := FrCl_X a2 fun x j w => by omega
    obtain ⟨τr, b1, b2⟩ := hr τc (MI_fr M fc)
    have M2 := MI_m2 (ρ := τc) (MI_Rm (MI_fr M fc) b2)
    have C2 := CI_m2 (ρ := τr) (CI_Rd C a2)
    refine g_fin (v := 1) (w := -1) (σ1 := τc) (σ2 := wI τr 67 0 1) ?_ ?_ (by rw [fld_eq, if_pos ⟨rfl, rfl⟩]) (fun h => absurd h (by decide)) fc ((FrRf_X b2 fun x j w => by omega).tr (FrRf_w (by omega) _)) C2 (MI_t M2 1) (KcI_fr (KcI_m K fun q _ => mm_cu (by omega) (by omega)) (FrK_X a2 fun x j w => by omega)) (by omega) (GmS_s (GmS_m2 S fun x k h1 h2 => mm_cu h1 h2))
    · show f_L_play σ = _
      unfold f_L_play f_X10_play
      rw [a1, oB_some, if_pos rfl, oBc_r lk4]
    · show f_X11_play τc = _
      unfold f_X11_play
      rw [b1, oB_some, if_pos rfl, holds1, oB_some, if_neg (by decide)]
  cases hT : psT m wr hh wr 0 with
  | none =>
    obtain ⟨τc, a1, a2⟩ := gc1 hT
    exact bad τc (ec.trans a1) (Wc.tr a2) fun τ N => (rd τ N).1 hT
  | some ms =>
    obtain ⟨τc, a1, a2, a3⟩ := gc2 ms hT
    rw [List.nil_append] at a1 a2
    have hlen := psT_len (m := m) wr 0 ms (by omega) hT
    have hms := psT_ok h13 wr 0 ms hT
    by_cases z : ms.length = 0
    · rw [if_pos z] at a1
      refine bad τc (ec.trans a1) (Wc.tr a3) fun τ N => ?_
      obtain ⟨τ', b1, -, b3⟩ := (rd τ N).2 ms hT
      rw [if_pos z] at b1
      exact ⟨τ', b1, b3⟩
    · rw [if_neg z] at a1
      have a1 : f_X7_read σ = some (1, τc) := ec.trans a1
      have W1 : FrX WRd σ τc := Wc.tr a3
      have fc : FrCl σ τc := FrCl_X W1 fun x j w => by omega
      have rd1 : ∀ τ, MI τ B E m l → ∃ τ', f_X11_reads τ = some (1, τ') ∧ RdR τ' ms ∧ FrX WRm τ τ' := fun τ N => by
        obtain ⟨τ', b1, b2, b3⟩ := (rd τ N).2 ms hT
        rw [if_neg z] at b1
        exact ⟨τ', b1, b2, b3⟩
      have kc : FrK σ τc := FrK_X W1 fun x j w => by omega
      rcases F.2.1 with tp | ⟨p, hp, tp⟩
      · -- no round
        obtain ⟨τr, b1, -, b2⟩ := rd1 τc (MI_fr M fc)
        have M2 := MI_m2 (ρ := τc) (MI_Rm (MI_fr M fc) b2)
        have C2 := CI_m2 (ρ := τr) (CI_Rd C W1)
        have tp2 : mmU (mcU m τc) τr 67 24 = -1 := (mm_cu (by omega) (by omega)).trans tp
        refine g_fin (v := 2) (w := -1) (σ1 := τc) (σ2 := wI τr 67 0 2) ?_ ?_ (by rw [fld_eq, if_pos ⟨rfl, rfl⟩]) (fun h => absurd h (by decide)) fc ((FrRf_X b2 fun x j w => by omega).tr (FrRf_w (by omega) _)) C2 (MI_t M2 2) (KcI_fr (KcI_m K fun q _ => mm_cu (by omega) (by omega)) kc) (by omega) (GmS_s (GmS_m2 S fun x k h1 h2 => mm_cu h1 h2))
        · show f_L_play σ = _
          unfold f_L_play f_X10_play
          rw [a1, oB_some, if_neg (by decide), needR_n C2 tp2, oBx_r, oBc_r lk5]
        · show f_X11_play τc = _
          unfold f_X11_play
          rw [b1, oB_some, if_neg (by decide), (M2.2.2.1 67 24 (by omega)).trans tp2, if_pos rfl, holds2, oB_some, if_neg (by decide)]
      · -- both play
        have go : ∀ ρ, RdR ρ ms → _ := fun ρ Q => play_go (dl := dl) (t0 := t) hms (by omega) h40 (by omega) ms.length 0 t B E (mmU (mcU m τc) ρ) l B0 D (by omega) (by omega) (GmS_m2 S fun x k h1 h2 => mm_cu h1 h2) (PyF_cu a2 Q)
        have h300 : 300 * ms.length ≤ 300 * 40 := Nat.mul_le_mul_left _ (by omega)
        have h301 : ch + 300 * (ms.length + 1) < 2000000000 := by
          rw [Nat.mul_succ]
          have e40 : (300 : Nat) * 40 = 12000 := by decide
          rw [e40] at h300
          exact Nat.lt_of_le_of_lt (Nat.add_le_add hc (Nat.add_le_add_right h300 300)) (Nat.lt_of_le_of_lt (Nat.add_le_add_right (Nat.mul_le_mul_left 20000 (show t + 1 ≤ 513 by omega)) _) (by decide))
        have cC : ∀ ρ, CI τc B E dl (mmU (mcU m τc) ρ) l ch := fun ρ => CI_m2 (CI_Rd C W1)
        have cK : ∀ ρ, KcI τc B (mmU (mcU m τc) ρ) hh L ch := fun ρ => KcI_fr (KcI_m K fun q _ => mm_cu (by omega) (by omega)) kc
        have f0 : ms.length < oFuel := by rw [oFuel_eq]; omega
        obtain ⟨ρ0, Q0⟩ := RdR_mk σ ms
        obtain ⟨j0, Ba, Ea, ma, la, B0a, Da, -, pc0, -⟩ := go ρ0 Q0
        obtain ⟨σf, c0, u1, -, u3, -⟩ := pc0 τc ch oFuel (cC ρ0) (cK ρ0) h301 f0
        have fL : f_L_play σ = some (0, wL σf 114 0 (nI j0).toInt64) := by
          unfold f_L_play f_X10_play
          have u1 : oLoop b_X10_play_28 oFuel (0, τc) = some (.inl (nI j0), σf) := u1
          rw [a1, oB_some, if_neg (by decide), needR_y (cC ρ0) (by omega) ((mm_cu (by omega) (by omega)).trans tp), oBx_l, u1, oBc_l]
          rfl
        have f1 : FrCl σ (wL σf 114 0 (nI j0).toInt64) := (fc.tr u3).tr (FrCl_114 σf _)
        obtain ⟨τr, b1, b2, b3⟩ := rd1 _ (MI_fr M f1)
        have Q1 : RdR (wI τr 67 0 0) ms := ⟨by rw [fld_eq, if_neg (by omega)]; exact b2.1, fun i d hi => by rw [fld_eq, if_neg (by omega), fld_eq, if_neg (by omega)]; exact b2.2 i d hi⟩
        obtain ⟨j, B', E', m', l', B0', D', G', pc, pm⟩ := go (wI τr 67 0 0) Q1
        obtain ⟨σg, c2, v1, v2, v3, v4, v5, v6⟩ := pc τc ch oFuel (cC _) (cK _) h301 f0
        rw [u1] at v1
        injection v1 with v1
        injection v1 with v1 v1'
        injection v1 with v1
        subst v1'
        have M2 : MI (wI τr 67 0 0) B E (mmU (mcU m τc) (wI τr 67 0 0)) l := MI_m2 (by
          have h1 := MI_Rm (MI_fr M f1) b3
          have e : mmU m (wI τr 67 0 0) = mmU m τr := by
            funext x k
            unfold mmU
            by_cases h : x = 87 ∨ x = 88 ∨ (x = 67 ∧ k = 37)
            · rw [if_pos h, if_pos h, fld_eq, if_neg (by omega)]
            · rw [if_neg h, if_neg h]
          rw [e]
          exact MI_t h1 0)
        obtain ⟨τf, x1, x2, x3, x4⟩ := pm (wI τr 67 0 0) oFuel M2 f0
        have x1 : oLoop b_X11_play_35 oFuel (0, wI τr 67 0 0) = some (nI j, τf) := x1
        have fR2 : FrRf (wL σf 114 0 (nI j0).toInt64) τf := ((FrRf_X b3 fun x j w => by omega).tr (FrRf_w (by omega) _)).tr x3
        refine g_fin (v := 0) (w := nI j) (σ1 := wL σf 114 0 (nI j0).toInt64) (σ2 := τf) fL ?_ (x4.trans (by rw [fld_eq, if_pos ⟨rfl, rfl⟩])) (fun _ => ?_) f1 fR2 (CI_114 v2 _) x2 (KcI_fr v6 (FrK_114 σf _)) ?_ G'
        · show f_X11_play _ = _
          have tpr : rI τr 67 24 = nI p := by
            rw [b3.2.2.2.2 67 24 (by omega)]
            exact ((MI_fr M f1).2.2.1 67 24 (by omega)).trans tp
          unfold f_X11_play
          rw [b1, oB_some, if_neg (by decide), tpr, if_neg (n_m1 (by omega)), holds0, oB_some, if_pos rfl, x1]
        · rw [fR2.2.2.2.2 114 0 (by omega), q_LL, if_pos ⟨rfl, rfl⟩, v1]
        · have e40 : (300 : Nat) * 40 = 12000 := by decide
          rw [e40] at h300
          exact Nat.le_trans v5 (Nat.le_trans (Nat.add_le_add hc h300) (by rw [Nat.mul_succ 20000 (t + 1)]; exact Nat.add_le_add_left (by decide) _))
