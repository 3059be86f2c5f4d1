/-! a turn ended by drawing: the reference, whole -/
theorem frM_r (m : Mem) (p dn : Nat) (h : m 76 p = 0 ∨ m 76 p = 1) : up2 m 77 p (m 77 p + (if m 76 p = 0 then 0 else nI dn)) = frM m p dn := by
  unfold frM
  rcases h with e | e
  · rw [e, if_pos rfl, if_neg (by decide), ad0]
    funext a b
    rw [up2_at]
    by_cases c : a = 77 ∧ b = p
    · rw [if_pos c, c.1, c.2]
    · rw [if_neg c]
  · rw [e, if_neg (by decide), if_pos rfl]
theorem mTail_eq {σ j4 : rS} {B : Bd} {E : List Ent} {m : Mem} {l : Nat → Int64} {n p s c cnt pn j : Nat} {x1 : Int32} (M : MI j4 B E m l) (o : OkB B) (t0 : rI σ 67 24 = nI p) (hn : m 67 6 = nI n) (hn4 : n ≤ 4) (hp : p < n) (hpn : m 67 5 = nI pn) (hq : m 76 p = 0 ∨ m 76 p = 1) (hc : m 67 25 = nI c) (hcn : c < n) (hd : bD B = []) (hx : (if x1 = 0 then (1 : Int32) else nI pn) = nI cnt) (hcnt : cnt ≤ 200) (hE : E.length ≤ 20000) (hj : j < n) (h1 : m 74 j = nI (liB (bR (drUp p cnt B).2) n)) (h2 : ∀ i, i < j → ¬ m 74 i = nI (liB (bR (drUp p cnt B).2) n)) (hd2 : bD (drUp p cnt B).2 = []) : ∃ τ, mTail σ x1 (nI s) j4 = some (nI (drUp p cnt B).1, τ) ∧ MI τ (drUp p cnt B).2 (E ++ [(s, p, 0, (drUp p cnt B).1)]) (drM m (bR (drUp p cnt B).2) p n c (drUp p cnt B).1 j) l ∧ FrRf j4 τ ∧ rI τ 67 0 = rI j4 67 0 := by
  obtain ⟨o2, dle⟩ := drUp_ok (p := p) (by omega) cnt B o
  obtain ⟨τ1, a1, a2, a3⟩ := mDraws_loop M o (p := p) (by omega) t0 hpn hx hcnt
  obtain ⟨B1, hB1⟩ : ∃ z, z = (drUp p cnt B).2 := ⟨_, rfl⟩
  obtain ⟨dn, hdn⟩ : ∃ z, z = (drUp p cnt B).1 := ⟨_, rfl⟩
  rw [← hB1] at a2 h1 h2 o2 hd2
  rw [← hdn] at a1 dle
  rw [← hB1, ← hdn]
  have A1 := MI_w a2 (a := 77) (k := p) (by omega) (m 77 p + (if m 76 p = 0 then 0 else nI dn))
  rw [frM_r m p dn hq] at A1
  have q77 : rI τ1 77 p = m 77 p := a2.2.2.1 77 p (by omega)
  have q76 : rI τ1 76 p = m 76 p := a2.2.2.1 76 p (by omega)
  obtain ⟨σ14, d14⟩ : ∃ z, z = wI τ1 77 p (m 77 p + (if m 76 p = 0 then 0 else nI dn)) := ⟨_, rfl⟩
  rw [← d14] at A1
  obtain ⟨σ16, b1, b2, b3⟩ := enter_eq (s := s) (w := p) (k := 0) (dr := dn) A1.2.1 hE
  have b1 : f_X11_enter σ14 (nI s) (nI p) (-1) (nI dn) = some ((), σ16) := b1
  have A2 := MI_BE A1 (MbQ_fr A1.1 b3 fun x j w => by omega) b2 (b3.mono fun x j w => by omega)
  have A3 := MI_w A2 (a := 67) (k := 25) (by omega) (nI (pcN c dn))
  have q25 : rI σ16 67 25 = frM m p dn 67 25 := A2.2.2.1 67 25 (by omega)
  obtain ⟨σ17, d17⟩ : ∃ z, z = wI σ16 67 25 (nI (pcN c dn)) := ⟨_, rfl⟩
  rw [← d17] at A3
  have n17 : up2 (frM m p dn) 67 25 (nI (pcN c dn)) 67 6 = nI n := by rw [up2_at, if_neg (by omega), frM_at _ _ _ (by decide), hn]
  have q6 : rI σ17 67 6 = nI n := (A3.2.2.1 67 6 (by omega)).trans n17
  have q25' : rI σ17 67 25 = nI (pcN c dn) := by rw [d17, fld_eq, if_pos ⟨rfl, rfl⟩]
  have hpc : pcN c dn ≤ n := by unfold pcN; split <;> omega
  have F17 : FrRf j4 σ17 := by
    rw [d17]
    refine ((FrRf_X a3 fun x j w => by omega).tr ?_).tr ((FrRf_X b3 fun x j w => by omega).tr (FrRf_w (by omega) _))
    rw [d14]
    exact FrRf_w (by omega) _
  have z17 : rI σ17 67 0 = rI j4 67 0 := by
    rw [d17, fld_eq, if_neg (by omega), b3.2.2.2.2 67 0 (by omega), d14, fld_eq, if_neg (by omega), a3.2.2.2.2 67 0 (by omega)]
  unfold mTail
  rw [a1, oJ_inr, t0, if_pos (inB_nI (by decide) (by omega)), nI_clamp (by omega)]
  dsimp only
  rw [q77, q76, ← d14, oLet_eq, b1, oB_some, q25, pc_v m p hc (by omega), ← d17, oLet_eq, q25', q6]
  have cc : (nI (pcN c dn) = nI n) = (pcN c dn = n) := propext (nI_eq (by omega) (by omega))
  simp only [cc]
  unfold drM
  by_cases z : pcN c dn = n
  · rw [if_pos z, if_neg (by omega)]
    obtain ⟨τ, g1, g2, g3, g4⟩ := mRoundEnds_eq A3 hd2 (n := n) (w := liB (bR B1) n) (j := j) n17 hn4 (liB_lt (bR B1) n (by omega)) hj (by rw [up2_at, if_neg (by omega), frM_at _ _ _ (by decide), h1]) (fun i hi => by rw [up2_at, if_neg (by omega), frM_at _ _ _ (by decide)]; exact h2 i hi)
    rw [mLight_loop A3 o2 n17 (by omega) hn4 g1]
    exact ⟨τ, rfl, g2, F17.tr g3, g4.trans z17⟩
  · rw [if_neg z, if_pos (show pcN c dn < n by omega), if_pos (show ¬ nI n = 0 from fun h => by have := (nI_eq (b := 0) (by omega) (by omega)).mp h; omega), nI_1, nI_rem (by omega) (by omega), oLet_eq]
    exact ⟨_, rfl, MI_w A3 (a := 67) (k := 24) (by omega) _, F17.tr (FrRf_w (by omega) _), by rw [fld_eq, if_neg (by omega), z17]⟩
theorem drB_D {p : Nat} {B B' : Bd} (h : drB p B = some B') : bD B' = bD B ∧ bT B' = bT B ∧ bJ B' = bJ B ∧ bF B' = bF B := by
  unfold drB at h
  split at h
  · cases h
  · cases h; exact ⟨rfl, rfl, rfl, rfl⟩
theorem drUp_D {p : Nat} : ∀ (m : Nat) (B : Bd), bD (drUp p m B).2 = bD B ∧ bT (drUp p m B).2 = bT B ∧ bJ (drUp p m B).2 = bJ B ∧ bF (drUp p m B).2 = bF B := by
  intro m
  induction m with
  | zero => exact fun B => ⟨rfl, rfl, rfl, rfl⟩
  | succ m ih =>
    intro B
    unfold drUp
    cases h : drB p B with
    | none => exact ⟨rfl, rfl, rfl, rfl⟩
    | some B' =>
      obtain ⟨a1, a2, a3, a4⟩ := drB_D h
      obtain ⟨b1, b2, b3, b4⟩ := ih B'
      exact ⟨b1.trans a1, b2.trans a2, b3.trans a3, b4.trans a4⟩
theorem mDraw_eq {σ : rS} {B B0 : Bd} {E : List Ent} {m : Mem} {l : Nat → Int64} {hh L jk ml pn n p s c j : Nat} (M : MI σ B E m l) (r : RuM m hh L jk ml pn n) (o : OkT B0) (h0 : bD B0 = []) (hF : bF B0 = 0) (ok : okB p B0 (bD B)) (hB : B = runB p B0 (bD B)) (hp : p < n) (tp : m 67 24 = nI p) (hm : m 72 p = 0 ∨ m 72 p = 1) (hq : m 76 p = 0 ∨ m 76 p = 1) (hc : m 67 25 = nI c) (hcn : c < n) (hE : E.length ≤ 20000) (hj : j < n) (h1 : m 74 j = nI (liB (bR (dwB B B0 pn p)) n)) (h2 : ∀ i, i < j → ¬ m 74 i = nI (liB (bR (dwB B B0 pn p)) n)) : ∃ τ, f_X11_endsByDrawing σ (nI s) = some (nI (dwN B B0 pn p), τ) ∧ MI τ (dwB B B0 pn p) (E ++ [(s, p, 0, dwN B B0 pn p)]) (dwM m B B0 pn p n c j) (paL (pasB B m p) B0 hh L l p) ∧ FrRf σ τ ∧ rI τ 67 0 = rI σ 67 0 := by
  have hn4 := r.2.2.2.2.2.2.2.2
  have hpn := r.2.2.2.2.2.2
  obtain ⟨-, hl⟩ := OkT_run o h0 hF (bD B).length (bD B) rfl ok
  have q24 : rI σ 67 24 = nI p := (M.2.2.1 67 24 (by omega)).trans tp
  have q30 : rI σ 67 30 = nI (bD B).length := M.1.2.2.2.2.1.1
  have hcnt : dcN B pn ≤ 9 := by unfold dcN; split <;> omega
  have ex : (if rI σ 67 30 ≤ 0 then (0 : Int32) else 1) = if (bD B).isEmpty then 0 else 1 := by
    rw [q30]
    have c0 : (nI (bD B).length ≤ 0) = ((bD B).length = 0) := nI_le0 (by omega)
    simp only [c0]
    cases bD B <;> rfl
  have hx : (if (if (bD B).isEmpty = true then (0 : Int32) else 1) = 0 then (1 : Int32) else nI pn) = nI (dcN B pn) := by
    unfold dcN
    cases bD B <;> rfl
  have hq' : paMb (pasB B m p) m p 76 p = 0 ∨ paMb (pasB B m p) m p 76 p = 1 := by
    unfold paMb paM
    split
    · exact Or.inr (by rw [up2_at, if_pos ⟨rfl, rfl⟩])
    · exact hq
  have hd2 : bD (drUp p (dcN B pn) B0).2 = [] := (drUp_D _ _).1.trans h0
  have fin : ∀ σ1 : rS, MI σ1 B E (paMb (pasB B m p) m p) (paL (pasB B m p) B0 hh L l p) → FrRf σ σ1 → rI σ1 67 0 = rI σ 67 0 → ∃ τ, (oJoin (oLoop b_X11_endsByDrawing_36 oFuel σ1) fun j4 => mTail σ (if (bD B).isEmpty = true then (0 : Int32) else 1) (nI s) j4) = some (nI (dwN B B0 pn p), τ) ∧ MI τ (dwB B B0 pn p) (E ++ [(s, p, 0, dwN B B0 pn p)]) (dwM m B B0 pn p n c j) (paL (pasB B m p) B0 hh L l p) ∧ FrRf σ τ ∧ rI τ 67 0 = rI σ 67 0 := fun σ1 D F z => by
    rw [hB] at D
    have hD : bD (runB p B0 (bD B)) = bD B := by rw [← hB]
    have hP : pasB (runB p B0 (bD B)) m p = pasB B m p := by rw [← hB]
    rw [hP] at D
    obtain ⟨τ1, b1, b2, b3⟩ := mUndo_eq o h0 hF ok D (by rw [paMb_at _ _ _ (by omega)]; exact tp)
    obtain ⟨τ, g1, g2, g3, g4⟩ := mTail_eq (σ := σ) (s := s) (c := c) (cnt := dcN B pn) (j := j) b2 o.1 q24 (by rw [paMb_at _ _ _ (by omega)]; exact r.1.2.2.2.2.2) hn4 hp (by rw [paMb_at _ _ _ (by omega)]; exact r.1.2.2.2.2.1) hq' (by rw [paMb_at _ _ _ (by omega)]; exact hc) hcn h0 hx (by omega) hE hj (by rw [paMb_at _ _ _ (by omega)]; exact h1) (fun i hi => by rw [paMb_at _ _ _ (by omega)]; exact h2 i hi) hd2
    rw [b1, oJ_inr, g1]
    exact ⟨τ, rfl, g2, (F.tr (FrRf_X b3 fun x j w => by omega)).tr g3, g4.trans ((b3.2.2.2.2 67 0 (by omega)).trans z)⟩
  rw [mDraw_def, ex, oLet_eq]
  cases hD : (bD B).isEmpty with
  | false =>
    rw [hD] at fin
    have ep : pasB B m p = false := by unfold pasB; rw [hD]; rfl
    rw [if_neg (show ¬ (if false = true then (0 : Int32) else 1) = 0 by decide)]
    refine fin σ ?_ (FrRf.rf σ) rfl
    rw [ep]
    exact M
  | true =>
    rw [hD] at fin
    rw [if_pos (show (if true = true then (0 : Int32) else 1) = 0 from rfl), q24, if_pos (inB_nI (by decide) (by omega)), nI_clamp (by omega), M.2.2.1 72 p (by omega)]
    rcases hm with hm | hm
    · have ep : pasB B m p = false := by unfold pasB; rw [hD, hm]; rfl
      rw [if_pos hm]
      refine fin σ ?_ (FrRf.rf σ) rfl
      rw [ep]
      exact M
    · have ep : pasB B m p = true := by unfold pasB; rw [hD, hm]; rfl
      have hBB : B = B0 := by
        have : bD B = [] := List.isEmpty_iff.mp hD
        rw [this] at hB
        exact hB
      rw [if_neg (by rw [hm]; decide)]
      obtain ⟨σ1, d1, d2, d3, d4⟩ := mPass_eq M (by rw [hBB]; exact o) r (p := p) (by omega)
      rw [d1, oB_some]
      refine fin σ1 ?_ d3 d4
      rw [ep]
      rw [← hBB]
      exact d2
