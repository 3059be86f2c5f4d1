/-! a deal: the reference deals; deal as a call of the game -/
theorem mHand_loop {σ σ0 : rS} {B : Bd} {E : List Ent} {m : Mem} {l : Nat → Int64} {p each : Nat} (M : MI σ B E m l) (o : OkB B) (hp : p < 4) (he : each ≤ 14) : ∃ τ, oLoop (b_X11_deal_254 (nI each) (nI p, σ0)) oFuel (0, σ) = some (.inr (nI (p + 1), τ)) ∧ MI τ (drUp p each B).2 E m l ∧ FrX WB σ τ := by
  obtain ⟨x, b1, b2⟩ := oL_ix (body := b_X11_deal_254 (nI each) (nI p, σ0)) (fun i s => s.1 = nI i ∧ MI s.2 (drUp p i B).2 E m l ∧ FrX WB σ s.2) (N := each) (fun x => ∃ τ, x = .inr (nI (p + 1), τ) ∧ MI τ (drUp p each B).2 E m l ∧ FrX WB σ τ) (by
      intro i s hi ⟨e, A, Fr⟩
      obtain ⟨s1, σ'⟩ := s
      dsimp only at e A Fr
      subst e
      obtain ⟨o2, -⟩ := drUp_ok (p := p) hp i B o
      obtain ⟨τ, c1, c2, c3⟩ := mdraws_eq A.1 hp o2
      have A2 := MI_BE A c2 (MeR_fr A.2.1 c3 fun x j w => by omega) (c3.mono fun x j w => by omega)
      rw [drUp_s]
      refine ⟨(nI (i + 1), τ), ?_, rfl, A2, Fr.tr c3⟩
      unfold b_X11_deal_254
      dsimp only
      rw [if_neg (show ¬ nI each ≤ nI i from fun z => by have := (nI_leI (by omega) (by omega)).mp z; omega), c1, oB_some, nI_1])
    (by
      intro s ⟨e, A, Fr⟩
      obtain ⟨s1, σ'⟩ := s
      dsimp only at e A Fr
      subst e
      exact ⟨_, by unfold b_X11_deal_254; dsimp only; rw [if_pos (show nI each ≤ nI each from (nI_leI (by omega) (by omega)).mpr (Nat.le_refl _)), nI_1], σ', rfl, A, Fr⟩)
    (n := oFuel) (by rw [oFuel_eq]; omega) (s := (0, σ)) ⟨rfl, M, FrX.rf _ σ⟩
  obtain ⟨τ, rfl, A⟩ := b2
  exact ⟨τ, b1, A⟩
theorem mHands_loop {σ : rS} {B : Bd} {E : List Ent} {m : Mem} {l : Nat → Int64} {n each : Nat} {c : Int32} (M : MI σ B E m l) (o : OkB B) (hn : m 67 6 = nI n) (hn4 : n ≤ 4) (he : each ≤ 14) : ∃ τ, oLoop (b_X11_deal_234 (nI each) c) oFuel (0, σ) = some (nI (natSum (bP (deB each n B)) 53), wI τ 67 24 0) ∧ MI τ (deB each n B) E (fun x k => if x = 71 ∧ k < n then c else m x k) l ∧ FrRf σ τ ∧ rI τ 67 0 = rI σ 67 0 := by
  obtain ⟨x, b1, b2⟩ := oL_ix (body := b_X11_deal_234 (nI each) c) (fun i s => s.1 = nI i ∧ MI s.2 (deB each i B) E (fun x k => if x = 71 ∧ k < i then c else m x k) l ∧ FrRf σ s.2 ∧ rI s.2 67 0 = rI σ 67 0) (N := n) (fun x => ∃ τ, x = (nI (natSum (bP (deB each n B)) 53), wI τ 67 24 0) ∧ MI τ (deB each n B) E (fun x k => if x = 71 ∧ k < n then c else m x k) l ∧ FrRf σ τ ∧ rI τ 67 0 = rI σ 67 0) (by
      intro i s hi ⟨e, A, Fr, z⟩
      obtain ⟨s1, σ'⟩ := s
      dsimp only at e A Fr z
      subst e
      have q6 : rI σ' 67 6 = nI n := by
        rw [A.2.2.1 67 6 (by omega)]
        exact (if_neg (fun z => absurd z.1 (by decide))).trans hn
      have A1 := MI_w A (a := 71) (k := i) (by omega) c
      have e : up2 (fun x k => if x = 71 ∧ k < i then c else m x k) 71 i c = fun x k => if x = 71 ∧ k < i + 1 then c else m x k := by
        funext x k
        rw [up2_at]
        by_cases h : x = 71 ∧ k = i
        · rw [if_pos h, if_pos (by omega)]
        · rw [if_neg h]
          by_cases h2 : x = 71 ∧ k < i
          · rw [if_pos h2, if_pos (by omega)]
          · rw [if_neg h2, if_neg (by omega)]
      rw [e] at A1
      obtain ⟨τ, c1, c2, c3⟩ := mHand_loop (σ0 := σ') (p := i) A1 (deB_ok (each := each) i B (by omega) o) (by omega) he
      refine ⟨(nI (i + 1), τ), ?_, rfl, c2, (Fr.tr (FrRf_w (by omega) _)).tr (FrRf_X c3 fun x j w => by omega), by rw [c3.2.2.2.2 67 0 (by omega), fld_eq, if_neg (by omega), z]⟩
      unfold b_X11_deal_234
      dsimp only
      rw [q6, if_neg (show ¬ nI n ≤ nI i from fun z => by have := (nI_leI (by omega) (by omega)).mp z; omega), if_pos (inB_nI (by decide) (by omega)), nI_clamp (by omega), oLet_eq, c1])
    (by
      intro s ⟨e, A, Fr, z⟩
      obtain ⟨s1, σ'⟩ := s
      dsimp only at e A Fr z
      subst e
      have q6 : rI σ' 67 6 = nI n := by
        rw [A.2.2.1 67 6 (by omega)]
        exact (if_neg (fun z => absurd z.1 (by decide))).trans hn
      have A1 := MI_w A (a := 67) (k := 24) (by omega) 0
      exact ⟨_, by unfold b_X11_deal_234; dsimp only; rw [q6, if_pos (show nI n ≤ nI n from (nI_leI (by omega) (by omega)).mpr (Nat.le_refl _)), oLet_eq, inPool_eq A1.1, Option.bind_some], σ', rfl, A, Fr, z⟩)
    (n := oFuel) (by rw [oFuel_eq]; omega) (s := (0, σ)) ⟨rfl, by
      have e : (fun x k => if x = 71 ∧ k < 0 then c else m x k) = m := by
        funext x k
        rw [if_neg (by omega)]
      rw [e]; exact M, FrRf.rf σ, rfl⟩
  obtain ⟨τ, rfl, A⟩ := b2
  exact ⟨τ, b1, A⟩
theorem deM_eq (m : Mem) (n : Nat) (c : Int32) : up2 (fun x k => if x = 71 ∧ k < n then c else (fun x k => if (x = 72 ∨ x = 76 ∨ x = 77) ∧ k < 4 then 0 else (fun x k => if x = 78 ∧ k < 208 then 0 else up2 m 67 25 0 x k) x k) x k) 67 24 0 = deM m n c := by
  funext x k
  unfold deM
  rw [up2_at]
  dsimp only
  rw [up2_at]
  by_cases hx : x = 67
  · subst hx
    have a1 : ¬ ((67 : Nat) = 71 ∧ k < n) := fun z => absurd z.1 (by decide)
    have a2 : ¬ (((67 : Nat) = 72 ∨ (67 : Nat) = 76 ∨ (67 : Nat) = 77) ∧ k < 4) := fun z => absurd z.1 (by decide)
    have a3 : ¬ ((67 : Nat) = 78 ∧ k < 208) := fun z => absurd z.1 (by decide)
    rw [if_neg a1, if_neg a2, if_neg a3, if_neg a1, if_neg a2, if_neg a3]
    by_cases h24 : k = 24
    · rw [if_pos ⟨rfl, h24⟩, if_pos ⟨rfl, Or.inl h24⟩]
    · rw [if_neg (fun z => h24 z.2)]
      by_cases h25 : k = 25
      · rw [if_pos ⟨rfl, h25⟩, if_pos ⟨rfl, Or.inr h25⟩]
      · rw [if_neg (fun z => h25 z.2), if_neg (fun z => z.2.elim h24 h25)]
  · rw [if_neg (c := x = 67 ∧ k = 24) (fun z => hx z.1), if_neg (c := x = 67 ∧ k = 25) (fun z => hx z.1), if_neg (c := x = 67 ∧ (k = 24 ∨ k = 25)) (fun z => hx z.1)]
theorem mDeal_eq {σ : rS} {B : Bd} {E : List Ent} {m : Mem} {l : Nat → Int64} {hh L jk ml pn n sd each : Nat} {c : Int32} (M : MI σ B E m l) (r : RuM m hh L jk ml pn n) (hs : sd < 65536) (he : each ≤ 14) : ∃ τ, (oB (f_X11_empties σ) fun _ σ6 => oJoin (oLoop (b_X11_deal_101) oFuel ((0, σ6))) fun j8 => oLet (wI j8 82 (52 : Int32).toNatClampNeg (rI j8 67 3)) fun σ12 => oLet (wI σ12 67 23 (nI sd)) fun σ13 => oLet (wI σ13 67 25 0) fun σ14 => oJoin (oLoop (b_X11_deal_162) oFuel ((0, σ14))) fun j16 => oJoin (oLoop (b_X11_deal_187) oFuel ((0, j16))) fun j21 => oLoop (b_X11_deal_234 (nI each) c) oFuel ((0, j21))) = some (nI (natSum (bP (deB each n (b0B hh jk sd))) 53), τ) ∧ MI τ (deB each n (b0B hh jk sd)) [] (deM m n c) (deL l) ∧ FrRf σ τ ∧ rI τ 67 0 = rI σ 67 0 := by
  have hn4 := r.2.2.2.2.2.2.2.2
  obtain ⟨σ1, a1, a2, a3⟩ := empties_eq M
  obtain ⟨σ2, b1, b2, b3⟩ := mFill_eq (jk := jk) a2.1 (MI_h a2 r) r.2.2.1
  have q3 : rI σ2 67 3 = nI jk := (b3.2.2.2.2 67 3 (by omega)).trans ((a2.2.2.1 67 3 (by omega)).trans r.1.2.2.1)
  have P2 : MbQ (wI (wI σ2 82 52 (nI jk)) 67 23 (nI sd)) (p0B hh jk) (fun _ => 0) (fun _ => 0) (fun _ => 0) [] 0 sd := MbQ_cg (MbQ_X (MbQ_P b2 52 jk) sd) (fun i hi => by
    rw [up1_at]
    by_cases z : i = 52
    · rw [if_pos z, z]; rfl
    · rw [if_neg z, if_pos (by omega)]) (fun _ _ => rfl) (fun _ _ => rfl) (fun _ _ => rfl) rfl rfl rfl
  have F2 : FrX WBE σ1 (wI (wI σ2 82 52 (nI jk)) 67 23 (nI sd)) := ((b3.mono fun x j w => by omega).tr (FrX.w _ _ (by omega))).tr (FrX.w _ _ (by omega))
  have G2 : MeR (wI (wI σ2 82 52 (nI jk)) 67 23 (nI sd)) [] := by
    obtain ⟨g1, g2⟩ := a2.2.1
    have hb := b3.2.2.2.2
    refine ⟨?_, fun i e hi => by simp at hi⟩
    rw [fld_eq, if_neg (by omega), fld_eq, if_neg (by omega)]
    exact (hb 67 32 (by decide)).trans g1
  have M2 : MI (wI (wI σ2 82 52 (nI jk)) 67 23 (nI sd)) (b0B hh jk sd) [] m l := MI_BE a2 P2 G2 F2
  have M3 := MI_w M2 (a := 67) (k := 25) (by omega) 0
  obtain ⟨σ4, d1, d2, d3⟩ := mClaims_0 M3
  obtain ⟨σ5, e1, e2, e3, e4⟩ := mSeats_0 d2
  have hn5 : (fun x k => if (x = 72 ∨ x = 76 ∨ x = 77) ∧ k < 4 then 0 else (fun x k => if x = 78 ∧ k < 208 then 0 else up2 m 67 25 0 x k) x k) 67 6 = nI n := by
    dsimp only
    rw [if_neg (fun z => absurd z.1 (by decide)), if_neg (fun z => absurd z.1 (by decide)), up2_at, if_neg (by omega)]
    exact r.1.2.2.2.2.2
  obtain ⟨σ6, g1, g2, g3, g4⟩ := mHands_loop (each := each) (c := c) e2 (b0B_ok (hh := hh) (jk := jk) (seed := sd) r.2.2.1 r.2.2.2.2.1 hs) hn5 hn4 he
  have M6 := MI_w g2 (a := 67) (k := 24) (by omega) 0
  rw [deM_eq] at M6
  refine ⟨wI σ6 67 24 0, ?_, M6, (((((FrRf_X a3 fun x j w => by omega).tr (FrRf_X F2 fun x j w => by omega)).tr (FrRf_w (by omega) _)).tr (FrRf_X d3 fun x j w => by omega)).tr e3).tr (g3.tr (FrRf_w (by omega) _)), ?_⟩
  · rw [a1, oB_some, b1, oJ_inr, q3, show (52 : Int32).toNatClampNeg = 52 from rfl, oLet_eq, oLet_eq, oLet_eq, d1, oJ_inr, e1, oJ_inr, g1]
  · rw [fld_eq, if_neg (by omega), g4, e4, d3.2.2.2.2 67 0 (by omega), fld_eq, if_neg (by omega), F2.2.2.2.2 67 0 (by omega), a3.2.2.2.2 67 0 (by omega)]
theorem deB_D {each : Nat} : ∀ (n : Nat) (B : Bd), bD (deB each n B) = bD B ∧ bT (deB each n B) = bT B ∧ bJ (deB each n B) = bJ B ∧ bF (deB each n B) = bF B := by
  intro n B
  induction n with
  | zero => exact ⟨rfl, rfl, rfl, rfl⟩
  | succ n ih =>
    obtain ⟨a1, a2, a3, a4⟩ := drUp_D (p := n) each (deB each n B)
    exact ⟨a1.trans ih.1, a2.trans ih.2.1, a3.trans ih.2.2.1, a4.trans ih.2.2.2⟩
theorem Bo2_de {hh jk n each : Nat} {B : Bd} (hn4 : n ≤ 4) (H : Bo2 B hh jk n) : ∀ k, k ≤ n → Bo2 (deB each k B) hh jk n := by
  intro k
  induction k with
  | zero => exact fun _ => H
  | succ k ih => exact fun h => Bo2_drUp (by omega) hn4 each _ (ih (by omega))
theorem BoI_de {hh L jk n sd each : Nat} (hL : L = 3 ∨ L = 4) (h13 : hh ≤ 13) (hj : jk ≤ 3) (hn4 : n ≤ 4) (hs : sd < 65536) : BoI (deB each n (b0B hh jk sd)) hh L jk n := by
  obtain ⟨d1, d2, d3, d4⟩ := deB_D (each := each) n (b0B hh jk sd)
  have s0 : ∀ n, natSum (fun _ => 0) n = 0 := fun n => natSum_zero fun _ _ => rfl
  refine ⟨⟨⟨deB_ok n _ hn4 (b0B_ok h13 hj hs), fun k _ => ?_, ?_⟩, d1, d4⟩, Bo2_de hn4 ⟨fun _ _ _ _ _ => rfl, ⟨fun k hk => ?_, ?_⟩, fun _ _ _ => rfl⟩ n (Nat.le_refl _), ?_⟩
  · rw [d2, d3]
    show 0 + 0 ≤ 2
    omega
  · rw [d4]
    show 0 ≤ 64
    omega
  · show p0B hh jk k + natSum (fun _ => 0) 4 + 0 ≤ _
    rw [s0]
    unfold p0B
    rw [if_pos hk]
    by_cases c : hh ≤ k % 13
    · rw [if_pos c]; omega
    · rw [if_neg c, if_pos (by omega)]; omega
  · show jk + natSum (fun _ => 0) 4 + natSum (fun _ => 0) 52 + 0 ≤ jk
    rw [s0, s0]
    omega
  · refine accB_iff.mpr (acc_0 hL fun a c => ?_)
    unfold tN tjB xZ
    rw [d2, d3]
    split <;> rfl
theorem deM_at (m : Mem) (n : Nat) (c : Int32) {x k : Nat} (h : x ≠ 71 ∧ x ≠ 72 ∧ x ≠ 76 ∧ x ≠ 77 ∧ x ≠ 78 ∧ ¬ (x = 67 ∧ (k = 24 ∨ k = 25))) : deM m n c x k = m x k := by
  unfold deM
  rw [if_neg (fun z => h.1 z.1), if_neg (fun z => z.1.elim h.2.1 fun y => y.elim h.2.2.1 h.2.2.2.1), if_neg (fun z => h.2.2.2.2.1 z.1), if_neg h.2.2.2.2.2]
theorem deM_24 (m : Mem) (n : Nat) (c : Int32) {k : Nat} (h : k = 24 ∨ k = 25) : deM m n c 67 k = 0 := by
  unfold deM
  rw [if_neg (fun z => absurd z.1 (by decide)), if_neg (fun z => absurd z.1 (by decide)), if_neg (fun z => absurd z.1 (by decide)), if_pos ⟨rfl, h⟩]
theorem Gm_deal {t : Nat} {B : Bd} {E : List Ent} {dl : Option (Nat × Nat × Nat)} {m : Mem} {B0 : Bd} {D : List (Nat × Nat)} {hh L jk ml pn n wr sd each ck : Nat} (S : GmS t B E dl m B0 D hh L jk ml pn n wr) (h2 : 2 ≤ n) (hs : sd < 65536) (he : each ≤ 14) (hck : ck ≤ 9999) : GmS (t + 1) (deB each n (b0B hh jk sd)) [] (some (sd, each, n)) (deM m n (nI ck)) (deB each n (b0B hh jk sd)) [] hh L jk ml pn n wr := by
  obtain ⟨r, T, se, ⟨c1, c2, c3, c4⟩, rp⟩ := S
  have hn4 := r.2.2.2.2.2.2.2.2
  have z4 : ∀ x k, (x = 72 ∨ x = 76) → k < 4 → deM m n (nI ck) x k = 0 := fun x k hx hk => by
    unfold deM
    rw [if_neg (fun z => by have := z.1; omega), if_pos ⟨by omega, hk⟩]
  refine ⟨RuM_cg r fun j _ _ => deM_at _ _ _ (by omega), Tr_new (BoI_de r.2.2.2.1 r.2.2.1 r.2.2.2.2.1 hn4 hs) (Or.inr ⟨0, 0, by omega, deM_24 _ _ _ (Or.inl rfl), by omega, deM_24 _ _ _ (Or.inr rfl)⟩), ⟨LaI_cg se.1 fun k => deM_at _ _ _ (by omega), fun p hp => Or.inl (z4 72 p (by omega) hp), fun p hp => Or.inl (z4 76 p (by omega) hp), fun p hp => ?_⟩, ⟨by rw [deM_at _ _ _ (by omega)]; exact c1, c2, by show wr ≤ t + 1 ∧ 0 + wr ≤ t + 1 + _; omega, fun x hx => absurd hx List.not_mem_nil⟩, ⟨hs, he, hn4, fun _ => (deB each n (b0B hh jk sd), []), fun _ => 0, rfl, fun i e hi => by simp at hi, rfl, Or.inl rfl⟩⟩
  by_cases c : p < n
  · refine ⟨ck, hck, ?_⟩
    unfold deM
    rw [if_pos ⟨rfl, c⟩]
  · have e : deM m n (nI ck) 71 p = m 71 p := by
      unfold deM
      rw [if_neg (fun z => c z.2), if_neg (fun z => by have := z.1; omega), if_neg (fun z => by have := z.1; omega), if_neg (fun z => by have := z.1; omega)]
    rw [e]
    exact se.2.2.2 p hp
theorem g_deal {t : Nat} {σ : rS} (G : GI t σ) (ht : t ≤ 512) (p1 p2 p3 : Int32) : GStep t (fun σ => f_L_deal σ p1 p2 p3) (fun σ => f_X11_deal σ p1 p2 p3) σ := by
  obtain ⟨B, E, dl, m, l, ch, B0, D, hh, L, jk, ml, pn, n, wr, C, M, K, hc, S⟩ := G
  have F := G_facts S (by omega)
  have r := S.1
  have hn4 := r.2.2.2.2.2.2.2.2
  have bad : ((if vIn p1 0 65535 = 0 then true else (if vIn p2 1 14 = 0 then true else (if vIn p3 1 9999 = 0 then true else false))) = true) → GStep t (fun σ => f_L_deal σ p1 p2 p3) (fun σ => f_X11_deal σ p1 p2 p3) σ := fun h => by
    refine g_q (q_ex C M (Kp := FrK σ) (fun _ f => f) 1 (-1) (by decide) ?_ ?_) (fun τ f => KcI_fr K f) (by omega) (GmS_s S)
    · show f_L_deal σ p1 p2 p3 = _
      unfold f_L_deal f_X10_deal
      rw [if_pos h, oBc_r lk4]
    · show f_X11_deal σ p1 p2 p3 = _
      unfold f_X11_deal
      rw [in_eq, in_eq, in_eq, if_pos h, holds1, oB_some]
  by_cases c1 : vIn p1 0 65535 = 0
  · exact bad (by rw [if_pos c1])
  by_cases c2 : vIn p2 1 14 = 0
  · exact bad (by rw [if_neg c1, if_pos c2])
  by_cases c3 : vIn p3 1 9999 = 0
  · exact bad (by rw [if_neg c1, if_neg c2, if_pos c3])
  obtain ⟨sd, -, hs, rfl⟩ := vIn_of (a := 0) (b := 65535) (by decide) c1 (by decide)
  obtain ⟨each, he1, he, rfl⟩ := vIn_of (a := 1) (b := 14) (by decide) c2 (by decide)
  obtain ⟨ck, hk1, hk, rfl⟩ := vIn_of (a := 1) (b := 9999) (by decide) c3 (by decide)
  have good : ¬ ((if vIn (nI sd) 0 65535 = 0 then true else (if vIn (nI each) 1 14 = 0 then true else (if vIn (nI ck) 1 9999 = 0 then true else false))) = true) := by
    rw [if_neg c1, if_neg c2, if_neg c3]
    decide
  have hh13 := r.2.2.1
  have hjk := r.2.2.2.2.1
  have hle : n * each ≤ 4 * 14 := Nat.mul_le_mul hn4 he
  have ep : v_X5_pieces σ = nI (8 * hh + jk) := by
    unfold v_X5_pieces
    rw [CI_h C r, (CI_4 C (x := 4) (j := 2) (by omega)).trans r.1.2.2.1, show (8 : Int32) = nI 8 from rfl, nI_mul, nI_add]
  have em : ∀ τ, MI τ B E m l → (8 * rI τ 67 1) + rI τ 67 3 = nI (8 * hh + jk) := fun τ N => by
    rw [MI_h N r, (N.2.2.1 67 3 (by omega)).trans r.1.2.2.1, show (8 : Int32) = nI 8 from rfl, nI_mul, nI_add]
  have cn2 : (nI n < 2) = (n < 2) := propext (nI_lt' (b := 2) (by omega) (by omega))
  have cnp : (nI (n * each) ≤ nI (8 * hh + jk)) = (n * each ≤ 8 * hh + jk) := propext (nI_leI (by omega) (by omega))
  by_cases ok : m 67 24 = -1 ∧ 2 ≤ n ∧ n * each ≤ 8 * hh + jk
  · obtain ⟨off, h2, hp⟩ := ok
    obtain ⟨τ, c5, a1, a2, a3, a4, a5, a6⟩ := cDeal_eq (c := nI ck) C r (sd := sd) (each := each) (by omega) he
    have eL : (if (if v_X10_isOn σ = 0 then (if rI σ 19 0 < 2 then true else (if rI σ 19 0 * nI each ≤ v_X5_pieces σ then false else true)) else true) = true then (some ((.inr "java/lang/IllegalStateException", σ))) else (oB (f_X6_startRound σ (nI ck)) fun _ σ2 => oB (f_X2_startRound σ2 (nI sd) (nI each) (rI σ2 19 0)) fun _ σ4 => oB (f_X1_dealOut σ4 5 (nI sd) (nI each) (rI σ4 19 0)) fun _ σ6 => oLet (wI σ6 3 9 0) fun σ7 => oLet (wI σ7 3 8 0) fun σ8 => some ((.inl (rI σ8 5 7), σ8)) : Option ((Int32 ⊕ String) × rS))) = some (.inl (nI (natSum (bP (deB each n (b0B hh jk sd))) 53)), τ) := by
      rw [isOn_no C off, if_pos rfl, CI_n C r, nI_mul, ep]
      simp only [cn2, cnp]
      rw [if_neg (show ¬ n < 2 by omega), if_pos hp, if_neg (by decide)]
      exact a1
    refine g_ok (v := nI (natSum (bP (deB each n (b0B hh jk sd))) 53)) M a2 a5 (KcI_up (KcI_fr K a6) (by omega) (by omega)) (by omega) (Gm_deal S h2 (by omega) he hk) ?_ fun υ N => ?_
    · show f_L_deal σ (nI sd) (nI each) (nI ck) = _
      unfold f_L_deal f_X10_deal
      rw [if_neg good, eL, oBc_l]
      rfl
    · have N1 := MI_t N 0
      obtain ⟨υ2, b1, b2, b3, b4⟩ := mDeal_eq (c := nI ck) N1 r (sd := sd) (each := each) (by omega) he
      refine ⟨υ2, ?_, b2, b4.trans (by rw [fld_eq, if_pos ⟨rfl, rfl⟩]), (FrRf_w (by omega) _).tr b3⟩
      show f_X11_deal υ (nI sd) (nI each) (nI ck) = _
      unfold f_X11_deal
      rw [in_eq, in_eq, in_eq, if_neg good, (N.2.2.1 67 24 (by omega)).trans off, if_pos rfl, MI_n N r, nI_mul, em υ N]
      simp only [cn2, cnp]
      rw [if_neg (show ¬ n < 2 by omega), if_pos hp, holds0, oB_some, if_pos rfl, b1]
  · have eL : (if v_X10_isOn σ = 0 then (if rI σ 19 0 < 2 then true else (if rI σ 19 0 * nI each ≤ v_X5_pieces σ then false else true)) else true) = true := by
      rcases F.2.1 with tp | ⟨p, hp, tp⟩
      · rw [isOn_no C tp, if_pos rfl, CI_n C r, nI_mul, ep]
        simp only [cn2, cnp]
        by_cases z : n < 2
        · rw [if_pos z]
        · rw [if_neg z, if_neg (fun y => ok ⟨tp, by omega, y⟩)]
      · rw [isOn_yes C (by omega) tp, if_neg (by decide)]
    have eR : (if rI σ 67 24 = -1 then (if rI σ 67 6 < 2 then (2 : Int32) else (if rI σ 67 6 * nI each ≤ 8 * rI σ 67 1 + rI σ 67 3 then 0 else 2)) else 2) = 2 := by
      rcases F.2.1 with tp | ⟨p, hp, tp⟩
      · rw [(M.2.2.1 67 24 (by omega)).trans tp, if_pos rfl, MI_n M r, nI_mul, em σ M]
        simp only [cn2, cnp]
        by_cases z : n < 2
        · rw [if_pos z]
        · rw [if_neg z, if_neg (fun y => ok ⟨tp, by omega, y⟩)]
      · rw [(M.2.2.1 67 24 (by omega)).trans tp, if_neg (n_m1 (by omega))]
    refine g_q (q_ex C M (Kp := FrK σ) (fun _ f => f) 2 (-1) (by decide) ?_ ?_) (fun τ f => KcI_fr K f) (by omega) (GmS_s S)
    · show f_L_deal σ (nI sd) (nI each) (nI ck) = _
      unfold f_L_deal f_X10_deal
      rw [if_neg good, if_pos eL, oBc_r lk5]
    · show f_X11_deal σ (nI sd) (nI each) (nI ck) = _
      unfold f_X11_deal
      rw [in_eq, in_eq, in_eq, if_neg good, eR, holds2, oB_some, if_neg (by decide)]
