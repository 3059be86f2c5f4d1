/-! a turn ended by drawing: the class -/
def frM (m : Mem) (p dn : Nat) : Mem := if m 76 p = 1 then up2 m 77 p (m 77 p + nI dn) else m
theorem frM_at (m : Mem) (p dn : Nat) {x j : Nat} (h : x ≠ 77) : frM m p dn x j = m x j := by
  unfold frM
  split
  · rw [up2_at, if_neg (fun z => h z.1)]
  · rfl
/-- passes in a row -/
def pcN (c dn : Nat) : Nat := if dn = 0 then c + 1 else 0
def drM (m : Mem) (R : Nat → Nat) (p n c dn j : Nat) : Mem := if pcN c dn < n then up2 (up2 (frM m p dn) 67 25 (nI (pcN c dn))) 67 24 (nI ((p + 1) % n)) else erM (up2 (frM m p dn) 67 25 (nI (pcN c dn))) R (liB R n) n j
theorem cFresh_eq {σ : rS} {B : Bd} {E : List Ent} {dl : Option (Nat × Nat × Nat)} {m : Mem} {l : Nat → Int64} {ch p dn : Nat} (C : CI σ B E dl m l ch) (hp : p < 4) : ∃ τ, f_X6_freshen σ (nI p) (nI dn) = some ((), τ) ∧ CI τ B E dl (frM m p dn) l ch ∧ FrCl σ τ ∧ FrK σ τ := by
  unfold f_X6_freshen frM
  rw [vAt_nI (by decide) hp, CI_4 C (x := 26) (j := p) (by omega), show m (cx 26) (cj 26 p) = m 76 p from rfl]
  by_cases c : m 76 p = 1
  · rw [if_pos c, if_pos c, vAt_nI (by decide) hp, CI_4 C (x := 25) (j := p) (by omega), vSet_nI (by decide) hp, row_w, oLet_eq]
    exact ⟨_, rfl, CI_w C (a := 25) (k := p) (by omega) _, FrCl_w (by omega) _, FrK_w (by omega) _⟩
  · rw [if_neg c, if_neg c]
    exact ⟨σ, rfl, C, FrCl.rf σ, FrK.rf σ⟩
theorem pc_v (m : Mem) (p : Nat) {c dn : Nat} (hc : m 67 25 = nI c) (hd : dn < 2 ^ 31) : (if nI dn = 0 then frM m p dn 67 25 + 1 else 0) = nI (pcN c dn) := by
  have c0 : (nI dn = 0) = (dn = 0) := propext (nI_eq (b := 0) (by omega) (by omega))
  simp only [c0]
  unfold pcN
  by_cases z : dn = 0
  · rw [if_pos z, if_pos z, frM_at _ _ _ (by decide), hc, nI_1]
  · rw [if_neg z, if_neg z]; rfl
/-- from the drawing on -/
theorem cTail_eq {σ : rS} {B : Bd} {E : List Ent} {dl : Option (Nat × Nat × Nat)} {m : Mem} {l : Nat → Int64} {ch n p s c cnt j : Nat} (C : CI σ B E dl m l ch) (o : OkB B) (hn : m 67 6 = nI n) (hn4 : n ≤ 4) (hp : p < n) (tp : m 67 24 = nI p) (hc : m 67 25 = nI c) (hcn : c < n) (hcnt : cnt ≤ 200) (hE : E.length < 1024) (hj : j < n) (h1 : m 74 j = nI (liB (bR (drUp p cnt B).2) n)) (h2 : ∀ i, i < j → ¬ m 74 i = nI (liB (bR (drUp p cnt B).2) n)) (x : Int32) (hx : x = nI cnt) : ∃ τ, (oB (f_X1_drawUpTo σ 5 (nI p) x) fun v9 σ10 => oB (f_X6_freshen σ10 (nI p) v9) fun _ σ12 => oB (f_X2_add σ12 (nI s) (nI p) ((-1)) v9) fun _ σ14 => oLet (wI σ14 3 9 ((if v9 = 0 then ((rI σ14 3 9) + 1) else 0 : Int32))) fun σ15 => if (rI σ15 3 9) < (rI σ15 19 0) then (oB (f_X10_passOn σ15) fun _ σ17 => some ((v9, σ17))) else ((f_X1_lightest σ15 5 (rI σ15 19 0)).bind fun v18 => oB (f_X10_endRound σ15 v18) fun _ σ20 => some ((v9, σ20)))) = some (nI (drUp p cnt B).1, τ) ∧ CI τ (drUp p cnt B).2 (E ++ [(s, p, 0, (drUp p cnt B).1)]) dl (drM m (bR (drUp p cnt B).2) p n c (drUp p cnt B).1 j) l (ch + (drUp p cnt B).1) ∧ FrCl σ τ ∧ FrK σ τ := by
  subst hx
  obtain ⟨o2, dle⟩ := drUp_ok (p := p) (by omega) cnt B o
  obtain ⟨σ10, a1, a2, a3⟩ := drawUp_eq (m := cnt) C.1 o (p := p) (by omega) hcnt
  have C10 := CI_B C a2 a3
  obtain ⟨B1, hB1⟩ : ∃ z, z = (drUp p cnt B).2 := ⟨_, rfl⟩
  obtain ⟨dn, hdn⟩ : ∃ z, z = (drUp p cnt B).1 := ⟨_, rfl⟩
  rw [← hB1, ← hdn] at a2 C10
  rw [← hdn] at a1 dle
  rw [← hB1] at h1 h2 o2
  rw [← hB1, ← hdn]
  obtain ⟨σ12, b1, b2, b3, b4⟩ := cFresh_eq (p := p) (dn := dn) C10 (by omega)
  obtain ⟨σ14, d1, d2, d3⟩ := cadd_eq b2.2.1 s p 0 dn hE
  have d1 : f_X2_add σ12 (nI s) (nI p) (-1) (nI dn) = some ((), σ14) := d1
  have C14 := CI_E b2 d2 d3
  have q9 : rI σ14 3 9 = frM m p dn 67 25 := CI_4 C14 (x := 3) (j := 9) (by omega)
  have C15 : CI (wI σ14 3 9 (nI (pcN c dn))) B1 (E ++ [(s, p, 0, dn)]) dl (up2 (frM m p dn) 67 25 (nI (pcN c dn))) l (ch + dn) := CI_w C14 (a := 3) (k := 9) (by omega) _
  have n15 : up2 (frM m p dn) 67 25 (nI (pcN c dn)) 67 6 = nI n := by rw [up2_at, if_neg (by omega), frM_at _ _ _ (by decide), hn]
  have q19 : rI (wI σ14 3 9 (nI (pcN c dn))) 19 0 = nI n := (CI_4 C15 (x := 19) (j := 0) (by omega)).trans n15
  have q39 : rI (wI σ14 3 9 (nI (pcN c dn))) 3 9 = nI (pcN c dn) := by rw [fld_eq, if_pos ⟨rfl, rfl⟩]
  have fX : FrX WL σ12 σ14 := d3.mono fun x j w => by omega
  have F15 : FrCl σ (wI σ14 3 9 (nI (pcN c dn))) := (((FrCl_L (FrX_B a3)).tr b3).tr (FrCl_L fX)).tr (FrCl_w (by omega) _)
  have k15 : FrK σ (wI σ14 3 9 (nI (pcN c dn))) := (((FrK_X (FrX_B a3) fun x j w => by omega).tr b4).tr (FrK_X fX fun x j w => by omega)).tr (FrK_w (by omega) _)
  have hpc : pcN c dn < 2 ^ 31 := by unfold pcN; split <;> omega
  rw [a1, oB_some, b1, oB_some, d1, oB_some, q9, pc_v m p hc (by omega), oLet_eq, q39, q19]
  have cc : (nI (pcN c dn) < nI n) = (pcN c dn < n) := propext (nI_lt' hpc (by omega))
  simp only [cc]
  unfold drM
  by_cases z : pcN c dn < n
  · rw [if_pos z, if_pos z]
    obtain ⟨τ, g1, g2, g3, g4⟩ := passOn_eq C15 (n := n) (p := p) q19 hn4 hp (by rw [up2_at, if_neg (by omega), frM_at _ _ _ (by decide), tp])
    rw [g1, oB_some]
    exact ⟨τ, rfl, g2, F15.tr g3, k15.tr g4⟩
  · rw [if_neg z, if_neg z, lightest_eq C15.1 o2 (by omega) hn4, Option.bind_some]
    have hw := liB_lt (bR B1) n (by omega)
    obtain ⟨τ, g1, g2, g3, g4⟩ := cEndRound_eq C15 (n := n) (w := liB (bR B1) n) (j := j) n15 hn4 hw hj (by rw [up2_at, if_neg (by omega), frM_at _ _ _ (by decide), h1]) (fun i hi => by rw [up2_at, if_neg (by omega), frM_at _ _ _ (by decide)]; exact h2 i hi)
    rw [g1, oB_some]
    exact ⟨τ, rfl, g2, F15.tr g3, k15.tr g4⟩
/-- what was passed, if anything is remembered -/
def pasB (B : Bd) (m : Mem) (p : Nat) : Bool := (bD B).isEmpty && decide (m 72 p = 1)
noncomputable def paL (b : Bool) (B : Bd) (hh L : Nat) (l : Nat → Int64) (p : Nat) : Nat → Int64 := if b then upL l p (alM B hh L 52) else l
def paMb (b : Bool) (m : Mem) (p : Nat) : Mem := if b then paM m p else m
theorem paMb_at (b : Bool) (m : Mem) (p : Nat) {x j : Nat} (h : x ≠ 76 ∧ x ≠ 77) : paMb b m p x j = m x j := by
  unfold paMb paM
  split
  · rw [up2_at, if_neg (by omega), up2_at, if_neg (by omega)]
  · rfl
def dcN (B : Bd) (pn : Nat) : Nat := if (bD B).isEmpty then 1 else pn
def dwB (B B0 : Bd) (pn p : Nat) : Bd := (drUp p (dcN B pn) B0).2
def dwN (B B0 : Bd) (pn p : Nat) : Nat := (drUp p (dcN B pn) B0).1
def dwM (m : Mem) (B B0 : Bd) (pn p n c j : Nat) : Mem := drM (paMb (pasB B m p) m p) (bR (dwB B B0 pn p)) p n c (dwN B B0 pn p) j
theorem drUp_0 {p : Nat} : ∀ (m : Nat) (B : Bd), (drUp p m B).1 = 0 → (drUp p m B).2 = B := by
  intro m B h
  cases m with
  | zero => rfl
  | succ m =>
    unfold drUp at h ⊢
    cases hd : drB p B with
    | none => rfl
    | some B' => rw [hd] at h; exact absurd h (Nat.succ_ne_zero _)
theorem KcI_c {σ τ : rS} {B B' : Bd} {m m' : Mem} {hh L ch cu : Nat} (K : KcI σ B m hh L ch) (f : FrK σ τ) (h : ch + cu < 2 ^ 31) (hB : cu = 0 → B' = B) (hm : ∀ p, p < 4 → m' 72 p = m 72 p) : KcI τ B' m' hh L (ch + cu) := by
  by_cases c : cu = 0
  · subst c
    rw [hB rfl, Nat.add_zero]
    exact KcI_fr (KcI_m K hm) f
  · exact KcI_up (KcI_fr K f) (by omega) h
theorem drM_72 {m : Mem} {R : Nat → Nat} {p n c dn j : Nat} (q : Nat) : drM m R p n c dn j 72 q = m 72 q := by
  unfold drM
  split
  · rw [up2_at, if_neg (by omega), up2_at, if_neg (by omega), frM_at _ _ _ (by decide)]
  · unfold erM
    rw [up2_at, if_neg (by omega), up2_at, if_neg (by omega), up2_at, if_neg (by omega), up2_at, if_neg (by omega), clM_74 _ _ _ (by decide), roM_at _ _ _ _ (by decide), up2_at, if_neg (by omega), frM_at _ _ _ (by decide)]
theorem cDraw_eq {σ : rS} {B B0 : Bd} {E : List Ent} {dl : Option (Nat × Nat × Nat)} {m : Mem} {l : Nat → Int64} {ch hh L jk ml pn n p s c j : Nat} (C : CI σ B E dl m l ch) (r : RuM m hh L jk ml pn n) (K : KcI σ B m hh L ch) (hch : ch + 300 < 2 ^ 31) (o : OkT B0) (h0 : bD B0 = []) (hF : bF B0 = 0) (ok : okB p B0 (bD B)) (hB : B = runB p B0 (bD B)) (hp : p < n) (tp : m 67 24 = nI p) (hm : m 72 p = 0 ∨ m 72 p = 1) (hc : m 67 25 = nI c) (hcn : c < n) (hE : E.length < 1024) (hj : j < n) (h1 : m 74 j = nI (liB (bR (dwB B B0 pn p)) n)) (h2 : ∀ i, i < j → ¬ m 74 i = nI (liB (bR (dwB B B0 pn p)) n)) : ∃ τ c2, f_X10_endByDrawing σ (nI s) = some (nI (dwN B B0 pn p), τ) ∧ CI τ (dwB B B0 pn p) (E ++ [(s, p, 0, dwN B B0 pn p)]) dl (dwM m B B0 pn p n c j) (paL (pasB B m p) B0 hh L l p) c2 ∧ FrCl σ τ ∧ ch ≤ c2 ∧ c2 ≤ ch + 300 ∧ KcI τ (dwB B B0 pn p) (dwM m B B0 pn p n c j) hh L c2 := by
  have hn4 := r.2.2.2.2.2.2.2.2
  have hpn := r.2.2.2.2.2.2
  obtain ⟨-, hl⟩ := OkT_run o h0 hF (bD B).length (bD B) rfl ok
  have e6 : rI σ 5 6 = nI (bD B).length := C.1.2.2.2.2.2.1.1
  have hcnt : dcN B pn ≤ 9 := by unfold dcN; split <;> omega
  obtain ⟨σ3, cu, a1, a2, a3, a4⟩ := undoAll_eq (b := 5) (ch := ch) h0 hF ok hl (by rw [← hB]; exact C.1)
  have C3 := CI_B C a2 a4
  have ex : (if rI σ 5 6 ≤ 0 then (0 : Int32) else 1) = if (bD B).isEmpty then 0 else 1 := by
    rw [e6]
    have c0 : (nI (bD B).length ≤ 0) = ((bD B).length = 0) := nI_le0 (by omega)
    simp only [c0]
    cases bD B <;> rfl
  have F3 : FrCl σ σ3 := FrCl_L (FrX_B a4)
  have k3 : FrK σ σ3 := FrK_X (FrX_B a4) fun x j w => by omega
  have r4 : rI σ3 4 4 = nI pn := (CI_4 C3 (x := 4) (j := 4) (by omega)).trans r.1.2.2.2.2.1
  have K3 : KcI σ3 B0 m hh L (ch + cu) := KcI_c K k3 (by omega) (fun e => by
    have : bD B = [] := List.length_eq_zero_iff.mp (by omega)
    rw [this] at hB
    exact hB.symm) fun _ _ => rfl
  have c20 : dwN B B0 pn p ≤ 9 := Nat.le_trans (drUp_ok (p := p) (by omega) (dcN B pn) B0 o.1).2 hcnt
  have fin : ∀ (σ4 : rS) (x : Int32), x = nI (dcN B pn) → CI σ4 B0 E dl (paMb (pasB B m p) m p) (paL (pasB B m p) B0 hh L l p) (ch + cu) → FrCl σ3 σ4 → KcI σ4 B0 m hh L (ch + cu) → ∃ τ c2, (oB (f_X1_drawUpTo σ4 5 (nI p) x) fun v9 σ10 => oB (f_X6_freshen σ10 (nI p) v9) fun _ σ12 => oB (f_X2_add σ12 (nI s) (nI p) ((-1)) v9) fun _ σ14 => oLet (wI σ14 3 9 ((if v9 = 0 then ((rI σ14 3 9) + 1) else 0 : Int32))) fun σ15 => if (rI σ15 3 9) < (rI σ15 19 0) then (oB (f_X10_passOn σ15) fun _ σ17 => some ((v9, σ17))) else ((f_X1_lightest σ15 5 (rI σ15 19 0)).bind fun v18 => oB (f_X10_endRound σ15 v18) fun _ σ20 => some ((v9, σ20)))) = some (nI (dwN B B0 pn p), τ) ∧ CI τ (dwB B B0 pn p) (E ++ [(s, p, 0, dwN B B0 pn p)]) dl (dwM m B B0 pn p n c j) (paL (pasB B m p) B0 hh L l p) c2 ∧ FrCl σ τ ∧ ch ≤ c2 ∧ c2 ≤ ch + 300 ∧ KcI τ (dwB B B0 pn p) (dwM m B B0 pn p n c j) hh L c2 := fun σ4 x hx D F4 K4 => by
    obtain ⟨τ, g1, g2, g3, g4⟩ := cTail_eq (s := s) (c := c) (cnt := dcN B pn) (j := j) D o.1 (by rw [paMb_at _ _ _ (by omega)]; exact r.1.2.2.2.2.2) hn4 hp (by rw [paMb_at _ _ _ (by omega)]; exact tp) (by rw [paMb_at _ _ _ (by omega)]; exact hc) hcn (by omega) hE hj (by rw [paMb_at _ _ _ (by omega)]; exact h1) (fun i hi => by rw [paMb_at _ _ _ (by omega)]; exact h2 i hi) x hx
    refine ⟨τ, ch + cu + dwN B B0 pn p, g1, g2, (F3.tr F4).tr g3, by omega, by omega, ?_⟩
    refine KcI_c K4 g4 (by omega) (fun e => drUp_0 _ _ e) fun q _ => ?_
    unfold dwM
    rw [drM_72, paMb_at _ _ _ (by omega)]
  unfold f_X10_endByDrawing
  rw [ex, oLet_eq, CI_p C tp, a1, oB_some]
  cases hD : bD B with
  | cons d D =>
    have ep : pasB B m p = false := by unfold pasB; rw [hD]; rfl
    have en : dcN B pn = pn := by unfold dcN; rw [hD]; rfl
    have e0 : (if (if (d :: D).isEmpty = true then (0 : Int32) else 1) = 0 then (if v_X10_hasMelded σ3 (nI p) = 0 then true else false) else true) = true := rfl
    rw [e0, if_pos rfl, oJ_inr]
    have e1 : (if (if (d :: D).isEmpty = true then (0 : Int32) else 1) = 0 then (1 : Int32) else rI σ3 4 4) = rI σ3 4 4 := rfl
    rw [e1]
    refine fin σ3 _ (by rw [r4, en]) ?_ (FrCl.rf σ3) K3
    rw [ep]
    exact C3
  | nil =>
    have en : dcN B pn = 1 := by unfold dcN; rw [hD]; rfl
    have e1 : ∀ z : Int32, (if (if ([] : List (Nat × Nat)).isEmpty = true then (0 : Int32) else 1) = 0 then (1 : Int32) else z) = nI (dcN B pn) := fun z => by rw [en]; rfl
    have e0 : (if (if ([] : List (Nat × Nat)).isEmpty = true then (0 : Int32) else 1) = 0 then (if v_X10_hasMelded σ3 (nI p) = 0 then true else false) else true) = (if m 72 p = 0 then true else false) := by rw [hasM_v C3 (by omega) hm]; rfl
    rw [e0]
    rcases hm with hm | hm
    · have ep : pasB B m p = false := by unfold pasB; rw [hD, hm]; rfl
      rw [hm, if_pos rfl, if_pos rfl, oJ_inr, e1]
      refine fin σ3 _ rfl ?_ (FrCl.rf σ3) K3
      rw [ep]
      exact C3
    · have ep : pasB B m p = true := by unfold pasB; rw [hD, hm]; rfl
      have nz : ¬ (if m 72 p = 0 then true else false) = true := by rw [hm]; decide
      obtain ⟨v, σ5, τ5, b1, b2, b3, b4, b5⟩ := cPass_eq C3 o r K3 (p := p) (by omega)
      rw [if_neg nz, b1, oB_some, b2, oB_some, oJ_inr, e1]
      refine fin τ5 _ rfl ?_ b4 b5
      rw [ep]
      exact b3
