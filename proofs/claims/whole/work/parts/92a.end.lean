/-! a turn ended by laying -/
def elM (m : Mem) (R : Nat → Nat) (p n j : Nat) : Mem := if nI (rsz R p) = 0 then erM (up2 (up2 m 72 p 1) 67 25 0) R p n j else up2 (up2 (up2 m 72 p 1) 67 25 0) 67 24 (nI ((p + 1) % n))
theorem cEndL_eq {σ : rS} {B : Bd} {E : List Ent} {dl : Option (Nat × Nat × Nat)} {m : Mem} {l : Nat → Int64} {ch n p j : Nat} (C : CI σ B E dl m l ch) (hn : m 67 6 = nI n) (hn4 : n ≤ 4) (hp : p < n) (tp : m 67 24 = nI p) (hE : E.length < 1024) (hj : j < n) (h1 : m 74 j = nI p) (h2 : ∀ i, i < j → ¬ m 74 i = nI p) : ∃ τ, f_X10_endByLaying σ = some ((), τ) ∧ CI τ (stB B) (E ++ [(5, p, 0, 0)]) dl (elM m (bR B) p n j) l (ch + 1) ∧ FrCl σ τ ∧ FrK σ τ := by
  obtain ⟨σ6, a1, a2, a3, a4⟩ := cEndL1_eq C (by omega) tp hE
  have z : v_X1_sizeOf σ6 5 (nI p) = nI (rsz (bR B) p) := by
    show vAt (rI σ6 8) 4 (nI p) = _
    rw [vAt_nI (by decide) (by omega)]
    exact a2.1.2.2.1 p (by omega)
  rw [a1, z]
  unfold elM
  by_cases c : nI (rsz (bR B) p) = 0
  · rw [if_pos c, if_pos c]
    obtain ⟨τ, b1, b2, b3, b4⟩ := cEndRound_eq a2 (n := n) (w := p) (j := j) (by rw [up2_at, if_neg (by omega), up2_at, if_neg (by omega), hn]) hn4 hp hj (by rw [up2_at, if_neg (by omega), up2_at, if_neg (by omega), h1]) (fun i hi => by rw [up2_at, if_neg (by omega), up2_at, if_neg (by omega)]; exact h2 i hi)
    rw [b1, oB_some]
    exact ⟨τ, rfl, b2, a3.tr b3, a4.tr b4⟩
  · rw [if_neg c, if_neg c]
    have hn6 : up2 (up2 m 72 p 1) 67 25 0 67 6 = nI n := by rw [up2_at, if_neg (by omega), up2_at, if_neg (by omega), hn]
    obtain ⟨τ, b1, b2, b3, b4⟩ := passOn_eq a2 (n := n) (p := p) ((CI_4 a2 (x := 19) (j := 0) (by omega)).trans hn6) hn4 hp (by rw [up2_at, if_neg (by omega), up2_at, if_neg (by omega), tp])
    rw [b1, oB_some]
    exact ⟨τ, rfl, b2, a3.tr b3, a4.tr b4⟩
theorem mEndL_eq {σ : rS} {B : Bd} {E : List Ent} {m : Mem} {l : Nat → Int64} {n p j : Nat} (M : MI σ B E m l) (hn : m 67 6 = nI n) (hn4 : n ≤ 4) (hp : p < n) (tp : m 67 24 = nI p) (hE : E.length ≤ 20000) (hj : j < n) (h1 : m 74 j = nI p) (h2 : ∀ i, i < j → ¬ m 74 i = nI p) : ∃ τ, (oB (f_X11_enter σ 5 (nI p) ((-1)) 0) fun _ σ4 => if inB (nI p) 4 then (oLet (wI σ4 72 (nI p : Int32).toNatClampNeg 1) fun σ6 => oLet (wI σ6 67 25 0) fun σ7 => oLet (wI σ7 67 30 0) fun σ8 => (f_X11_inRack σ8 (nI p)).bind fun v9 => if v9 = 0 then (oB (f_X11_roundEnds σ8 (nI p)) fun _ σ11 => some (((1 : Int32), σ11))) else (if ¬ (rI σ8 67 6) = 0 then (oLet (wI σ8 67 24 (iRem ((nI p) + 1) (rI σ8 67 6))) fun σ13 => some ((1, σ13))) else none)) else none) = some (1, τ) ∧ MI τ (stB B) (E ++ [(5, p, 0, 0)]) (elM m (bR B) p n j) l ∧ FrRf σ τ ∧ rI τ 67 0 = rI σ 67 0 := by
  obtain ⟨τ0, e1, -, e3⟩ := enter_eq (s := 5) (w := p) (k := 0) (dr := 0) M.2.1 hE
  have e1 : f_X11_enter σ 5 (nI p) (-1) 0 = some ((), τ0) := e1
  obtain ⟨τ, a1, a2, a3⟩ := mEndL1_eq (p := p) M (by omega) hE
  have et : τ0 = τ := by
    rw [e1] at a1
    injection a1 with a1
    exact congrArg Prod.snd a1
  subst et
  have z0 : rI (wI (wI (wI τ0 72 p 1) 67 25 0) 67 30 0) 67 0 = rI σ 67 0 := by
    rw [fld_eq, if_neg (by omega), fld_eq, if_neg (by omega), fld_eq, if_neg (by omega)]
    exact e3.2.2.2.2 67 0 (by omega)
  rw [e1, oB_some, if_pos (inB_nI (by decide) (by omega)), nI_clamp (by omega), oLet_eq, oLet_eq, oLet_eq]
  generalize wI (wI (wI τ0 72 p 1) 67 25 0) 67 30 0 = σ8 at a2 a3 z0
  rw [inRack_eq a2.1 (by omega), Option.bind_some]
  have hn6 : up2 (up2 m 72 p 1) 67 25 0 67 6 = nI n := by rw [up2_at, if_neg (by omega), up2_at, if_neg (by omega), hn]
  unfold elM
  have zz : nI (rsz (bR (stB B)) p) = nI (rsz (bR B) p) := rfl
  rw [zz]
  by_cases c : nI (rsz (bR B) p) = 0
  · rw [if_pos c, if_pos c]
    obtain ⟨τ, b1, b2, b3, b4⟩ := mRoundEnds_eq a2 rfl (n := n) (w := p) (j := j) hn6 hn4 hp hj (by rw [up2_at, if_neg (by omega), up2_at, if_neg (by omega), h1]) (fun i hi => by rw [up2_at, if_neg (by omega), up2_at, if_neg (by omega)]; exact h2 i hi)
    rw [b1, oB_some]
    exact ⟨τ, rfl, b2, a3.tr b3, b4.trans z0⟩
  · rw [if_neg c, if_neg c]
    have q6 : rI σ8 67 6 = nI n := (a2.2.2.1 67 6 (by omega)).trans hn6
    rw [q6, if_pos (show ¬ nI n = 0 from fun h => by have := (nI_eq (b := 0) (by omega) (by omega)).mp h; omega), nI_1, nI_rem (by omega) (by omega), oLet_eq]
    exact ⟨_, rfl, MI_w a2 (a := 67) (k := 24) (by omega) _, a3.tr (FrRf_w (by omega) _), by rw [fld_eq, if_neg (by omega), z0]⟩
theorem mEndsL_eq {σ : rS} {B : Bd} {E : List Ent} {m : Mem} {l : Nat → Int64} {hh L jk ml pn n p j : Nat} (M : MI σ B E m l) (o : OkT B) (r : RuM m hh L jk ml pn n) (hp : p < n) (tp : m 67 24 = nI p) {mel : Bool} (hm : m 72 p = if mel then 1 else 0) (hl : (bD B).length ≤ 64) (hd : ∀ d ∈ bD B, d.1 ≤ 3 ∧ d.2 < 52) (hk : mel = false → ∀ k, lcB (bD B) k ≤ 2) (hE : E.length ≤ 20000) (hj : j < n) (h1 : m 74 j = nI p) (h2 : ∀ i, i < j → ¬ m 74 i = nI p) : ∃ τ, f_X11_endsByLaying σ = some (b2i (meB B mel ml L hh), τ) ∧ FrRf σ τ ∧ rI τ 67 0 = rI σ 67 0 ∧ (if meB B mel ml L hh = true then MI τ (stB B) (E ++ [(5, p, 0, 0)]) (elM m (bR B) p n j) l else MI τ B E m l) := by
  have hn4 := r.2.2.2.2.2.2.2.2
  obtain ⟨τ, a1, a2, a3, a4⟩ := mMayEnd_eq M o r (by omega) tp hm hl hd hk
  unfold f_X11_endsByLaying
  rw [a1, oB_some]
  by_cases c : meB B mel ml L hh = true
  · rw [c]
    rw [if_neg (show ¬ b2i true = 0 by decide), (a2.2.2.1 67 24 (by omega)).trans tp]
    obtain ⟨τ2, b1, b2, b3, b4⟩ := mEndL_eq a2 r.1.2.2.2.2.2 hn4 hp tp hE hj h1 h2
    exact ⟨τ2, b1, a3.tr b3, b4.trans a4, by rw [if_pos rfl]; exact b2⟩
  · have c2 : meB B mel ml L hh = false := by simpa using c
    rw [c2, if_pos (show b2i false = 0 from rfl)]
    exact ⟨τ, rfl, a3, a4, by rw [if_neg (by decide)]; exact a2⟩
