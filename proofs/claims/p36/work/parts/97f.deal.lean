/-! a deal: the class alone -/
section
variable {t : Nat} {σ : rS} {B : Bd} {E : List Ent} {dl : Option (Nat × Nat × Nat)} {m : Mem} {l : Nat → Int64} {ch : Nat} {B0 : Bd} {D : List (Nat × Nat)} {hh L jk ml pn wr : Nat}
theorem Xt_de {t : Nat} {m : Mem} {n : Nat} {c : Int32} (X : Xt t m) : Xt (t + 1) (deM m n c) := ⟨fun p hp => ⟨0, Nat.zero_le _, by
  unfold deM
  rw [if_neg (by omega), if_pos ⟨by omega, hp⟩]
  rfl⟩, Xo_cg X.2 (Nat.le_succ _) (fun x k h => deM_at _ _ _ (by omega)) (fun i hi => Or.inr ⟨0, by decide, by
  unfold deM
  rw [if_neg (by omega), if_neg (by omega), if_pos ⟨rfl, hi⟩]
  rfl⟩)⟩
theorem deal_pieces (C : CI σ B E dl m l ch) (S : GmS t B E dl m B0 D hh L jk ml pn 3 wr) : v_X5_pieces σ = nI (8 * hh + jk) := by
  have r := S.1
  unfold v_X5_pieces
  rw [CI_h C r, (CI_4 C (x := 4) (j := 2) (by omega)).trans r.1.2.2.1, show (8 : Int32) = nI 8 from rfl, nI_mul, nI_add]
theorem deal_good {sd each ck : Nat} (hs : sd ≤ 65535) (he1 : 1 ≤ each) (he : each ≤ 14) (hk1 : 1 ≤ ck) (hk : ck ≤ 9999) : ¬ ((if vIn (nI sd) 0 65535 = 0 then true else (if vIn (nI each) 1 14 = 0 then true else (if vIn (nI ck) 1 9999 = 0 then true else false))) = true) := by
  have q1 : ¬ vIn (nI sd) 0 65535 = 0 := by
    rw [show (0 : Int32) = nI 0 from rfl, show (65535 : Int32) = nI 65535 from rfl, vIn_in (by decide) (Nat.zero_le _) hs]
    decide
  have q2 : ¬ vIn (nI each) 1 14 = 0 := by
    rw [show (1 : Int32) = nI 1 from rfl, show (14 : Int32) = nI 14 from rfl, vIn_in (by decide) he1 he]
    decide
  have q3 : ¬ vIn (nI ck) 1 9999 = 0 := by
    rw [show (1 : Int32) = nI 1 from rfl, show (9999 : Int32) = nI 9999 from rfl, vIn_in (by decide) hk1 hk]
    decide
  rw [if_neg q1, if_neg q2, if_neg q3]
  decide
/-- a deal that is done -/
theorem deal_ok (G : GAx t σ B E dl m l ch B0 D hh L jk ml pn wr) (ht : t ≤ 512) (off : m 67 24 = -1) {sd each ck : Nat} (hs : sd ≤ 65535) (he1 : 1 ≤ each) (he : each ≤ 14) (hk1 : 1 ≤ ck) (hk : ck ≤ 9999) (hp : 3 * each ≤ 8 * hh + jk) : ∃ v σ1, v < 2 ^ 31 ∧ f_L_deal σ (nI sd) (nI each) (nI ck) = some ((nI v).toInt64, σ1) ∧ GA (t + 1) σ1 hh jk := by
  obtain ⟨C, K, hc, S, X⟩ := id G
  have r := S.1
  have hh13 := r.2.2.1
  have hjk := r.2.2.2.2.1
  have ep := deal_pieces C S
  have good := deal_good hs he1 he hk1 hk
  have cnp : (nI (3 * each) ≤ nI (8 * hh + jk)) = (3 * each ≤ 8 * hh + jk) := propext (nI_leI (by omega) (by omega))
  obtain ⟨τ, c5, a1, a2, a3, a4, a5, a6⟩ := cDeal_eq (c := nI ck) C r (sd := sd) (each := each) (by omega) he
  have eL : (if (if v_X10_isOn σ = 0 then (if rI σ 19 0 < 2 then true else (if rI σ 19 0 * nI each ≤ v_X5_pieces σ then false else true)) else true) = true then (some ((.inr "java/lang/IllegalStateException", σ))) else (oB (f_X6_startRound σ (nI ck)) fun _ σ2 => oB (f_X2_startRound σ2 (nI sd) (nI each) (rI σ2 19 0)) fun _ σ4 => oB (f_X1_dealOut σ4 5 (nI sd) (nI each) (rI σ4 19 0)) fun _ σ6 => oLet (wI σ6 3 9 0) fun σ7 => oLet (wI σ7 3 8 0) fun σ8 => some ((.inl (rI σ8 5 7), σ8)) : Option ((Int32 ⊕ String) × rS))) = some (.inl (nI (natSum (bP (deB each 3 (b0B hh jk sd))) 53)), τ) := by
    rw [isOn_no C off, if_pos rfl, CI_n C r, nI_mul, ep]
    simp only [cnp]
    rw [if_neg (show ¬ nI 3 < 2 by decide), if_pos hp, if_neg (by decide)]
    exact a1
  have hb := natSum_le (f := bP (deB each 3 (b0B hh jk sd))) (B := 1000) (n := 53) (fun k hk2 => ?_)
  · refine ⟨natSum (bP (deB each 3 (b0B hh jk sd))) 53, τ, by omega, ?_, _, _, _, _, _, _, _, _, _, _, _, _, a2, KcI_up (KcI_fr K a6) (by omega) (by omega), by omega, Gm_deal S (by omega) (by omega) he hk, Xt_t (Xt_de X) (by omega)⟩
    unfold f_L_deal f_X10_deal
    rw [if_neg good, eL, oBc_l]
  · have o := (BoI_de (L := L) (n := 3) (each := each) r.2.2.2.1 r.2.2.1 r.2.2.2.2.1 (by decide) (show sd < 65536 by omega)).1.1.1.1
    have h1 := natSum_ge (f := bP (deB each 3 (b0B hh jk sd))) (n := 53) hk2
    omega
theorem a_deal (G : GAx t σ B E dl m l ch B0 D hh L jk ml pn wr) (ht : t ≤ 512) (p1 p2 p3 : Int32) : AR t (fun σ => f_L_deal σ p1 p2 p3) σ B E dl m l ch B0 D hh L jk ml pn wr := by
  obtain ⟨C, K, hc, S, X⟩ := id G
  have F := G_facts S (by omega)
  have r := S.1
  have bad : ((if vIn p1 0 65535 = 0 then true else (if vIn p2 1 14 = 0 then true else (if vIn p3 1 9999 = 0 then true else false))) = true) → AR t (fun σ => f_L_deal σ p1 p2 p3) σ B E dl m l ch B0 D hh L jk ml pn wr := fun h => by
    refine ar_s G (c := -10003) (by decide) ?_ C (FrK.rf σ)
    show f_L_deal σ p1 p2 p3 = _
    unfold f_L_deal f_X10_deal
    rw [if_pos h, oBc_r lkA]
  by_cases c1 : vIn p1 0 65535 = 0
  · exact bad (by rw [if_pos c1])
  by_cases c2 : vIn p2 1 14 = 0
  · exact bad (by rw [if_neg c1, if_pos c2])
  by_cases c3 : vIn p3 1 9999 = 0
  · exact bad (by rw [if_neg c1, if_neg c2, if_pos c3])
  obtain ⟨sd, -, hs, rfl⟩ := vIn_of (a := 0) (b := 65535) (by decide) c1 (by decide)
  obtain ⟨each, he1, he, rfl⟩ := vIn_of (a := 1) (b := 14) (by decide) c2 (by decide)
  obtain ⟨ck, hk1, hk, rfl⟩ := vIn_of (a := 1) (b := 9999) (by decide) c3 (by decide)
  have good := deal_good hs he1 he hk1 hk
  have hh13 := r.2.2.1
  have hjk := r.2.2.2.2.1
  have ep := deal_pieces C S
  have cnp : (nI (3 * each) ≤ nI (8 * hh + jk)) = (3 * each ≤ 8 * hh + jk) := propext (nI_leI (by omega) (by omega))
  by_cases ok : m 67 24 = -1 ∧ 3 * each ≤ 8 * hh + jk
  · obtain ⟨v, σ1, h1, h2, h3⟩ := deal_ok G ht ok.1 hs he1 he hk1 hk ok.2
    exact Or.inr ⟨nI v, σ1, okV_n h1, h2, h3⟩
  · have eL : (if v_X10_isOn σ = 0 then (if rI σ 19 0 < 2 then true else (if rI σ 19 0 * nI each ≤ v_X5_pieces σ then false else true)) else true) = true := by
      rcases F.2.1 with tp | ⟨p, hp, tp⟩
      · rw [isOn_no C tp, if_pos rfl, CI_n C r, nI_mul, ep]
        simp only [cnp]
        rw [if_neg (show ¬ nI 3 < 2 by decide), if_neg (fun y => ok ⟨tp, y⟩)]
      · rw [isOn_yes C (by omega) tp, if_neg (by decide)]
    refine ar_s G (c := -10004) (by decide) ?_ C (FrK.rf σ)
    show f_L_deal σ (nI sd) (nI each) (nI ck) = _
    unfold f_L_deal f_X10_deal
    rw [if_neg good, if_pos eL, oBc_r lkS]
end
