/-! end -/
theorem q_ex2 {fL fR : rS → Option (Int32 × rS)} {σ σ1 : rS} {B B' : Bd} {E E' : List Ent} {dl : Option (Nat × Nat × Nat)} {m m' : Mem} {l l' : Nat → Int64} {ch : Nat} (C : CI σ1 B' E' dl m' l' ch) (M : MI σ B E m l) (f : FrCl σ σ1) (fk : FrK σ σ1) {Kp : rS → Prop} (hK : ∀ τ, FrK σ τ → Kp τ) (c : Int32) (hc : c ≠ 0) (hL : fL σ = some (c, σ1)) (hR : ∀ τ, MI τ B E m l → ∃ w τ', fR τ = some (w, τ') ∧ MI τ' B' E' m' l' ∧ rI τ' 67 0 = c ∧ FrRf τ τ') : QStep Kp fL fR σ B' E' dl m' l' ch := by
  obtain ⟨w, τ', a1, a2, a3, a4⟩ := hR _ (MI_fr M f)
  exact ⟨c, σ1, w, τ', hL, a1, a3, fun z => absurd z hc, CI_fr C a4, a2, (Fr2_Cl f).tr (Fr2_Rf a4), hK _ (fk.tr (FrK_R a4))⟩
theorem mayEnd_no {σ : rS} {B : Bd} {E : List Ent} {dl : Option (Nat × Nat × Nat)} {m : Mem} {l : Nat → Int64} {ch : Nat} (C : CI σ B E dl m l ch) (tp : m 67 24 = -1) : f_X10_mayEnd σ = some (0, σ) := by
  unfold f_X10_mayEnd
  rw [isOn_no C tp, if_pos rfl, if_pos rfl]
theorem endsL_no {σ : rS} {B : Bd} {E : List Ent} {m : Mem} {l : Nat → Int64} (M : MI σ B E m l) (tp : m 67 24 = -1) : f_X11_endsByLaying σ = some (0, σ) := by
  unfold f_X11_endsByLaying f_X11_mayEnd
  rw [(M.2.2.1 67 24 (by omega)).trans tp, if_pos rfl, if_pos rfl, oB_some, if_pos rfl]
theorem end_s {σ : rS} {B : Bd} {E : List Ent} {dl : Option (Nat × Nat × Nat)} {m : Mem} {l : Nat → Int64} {ch hh L jk ml pn n : Nat} (C : CI σ B E dl m l ch) (M : MI σ B E m l) {Kp : rS → Prop} (hK : ∀ τ, FrK σ τ → Kp τ) (r : RuM m hh L jk ml pn n) (o : OkT B) (tp : m 67 24 = -1 ∨ ∃ p, p < n ∧ m 67 24 = nI p) (la : LaI m n) (hM : ∀ p, p < 4 → m 72 p = 0 ∨ m 72 p = 1) (hl : (bD B).length ≤ 64) (hd : ∀ d ∈ bD B, d.1 ≤ 3 ∧ d.2 < 52) (hk : ∀ p, p < n → m 67 24 = nI p → m 72 p = 0 → ∀ k, lcB (bD B) k ≤ 2) (hE : E.length < 1024) : QStep Kp (fun σ => f_L_end σ) (fun σ => f_X11_end σ) σ B E dl m l ch ∨ ∃ p j mel, p < n ∧ m 67 24 = nI p ∧ j < n ∧ m 74 j = nI p ∧ (∀ i, i < j → ¬ m 74 i = nI p) ∧ m 72 p = (if mel then 1 else 0) ∧ meB B mel ml L hh = true ∧ QStep Kp (fun σ => f_L_end σ) (fun σ => f_X11_end σ) σ (stB B) (E ++ [(5, p, 0, 0)]) dl (elM m (bR B) p n j) l (ch + 1) := by
  have hn4 := r.2.2.2.2.2.2.2.2
  rcases tp with tp | ⟨p, hp, tp⟩
  · refine Or.inl (q_ex2 C M (FrCl.rf σ) (FrK.rf σ) hK 1 (by decide) ?_ fun τ N => ⟨-1, wI τ 67 0 1, ?_, MI_t N _, by rw [fld_eq, if_pos ⟨rfl, rfl⟩], FrRf_w (by omega) _⟩)
    · show f_L_end σ = _
      unfold f_L_end f_X10_end
      rw [mayEnd_no C tp, oB_some, if_pos rfl, oBc_r lk6]
    · show f_X11_end τ = _
      unfold f_X11_end
      rw [endsL_no N tp, oB_some, if_pos rfl, holds1, oB_some, if_neg (by decide)]
  · obtain ⟨mel, hm, hk'⟩ : ∃ mel : Bool, m 72 p = (if mel then 1 else 0) ∧ (mel = false → ∀ k, lcB (bD B) k ≤ 2) := by
      rcases hM p (by omega) with e | e
      · exact ⟨false, e, fun _ => hk p hp tp e⟩
      · exact ⟨true, e, fun z => by cases z⟩
    obtain ⟨j, hj, h1, h2⟩ := la p hp
    obtain ⟨τ1, a1, a2, a3, a4⟩ := cMayEnd_eq C o r (by omega) tp hm hl hd hk'
    by_cases c : meB B mel ml L hh = true
    · obtain ⟨τ2, b1, b2, b3, b4⟩ := cEndL_eq a2 r.1.2.2.2.2.2 hn4 hp tp hE hj h1 h2
      refine Or.inr ⟨p, j, mel, hp, tp, hj, h1, h2, hm, c, q_w2 (v := elM m (bR B) p n j 67 24) b2 M (a3.tr b3) (a4.tr b4) hK ?_ fun τ N => ?_⟩
      · show f_L_end σ = _
        unfold f_L_end f_X10_end
        rw [a1, oB_some, c, if_neg (show ¬ b2i true = 0 by decide), b1, oB_some, oBc_l, CI_4 b2 (x := 3) (j := 8) (by omega)]
        rfl
      · obtain ⟨τ3, c1, c2, c3, c4⟩ := mEndsL_eq N o r hp tp hm hl hd hk' (by omega) hj h1 h2
        rw [c, if_pos rfl] at c4
        refine ⟨wI τ3 67 0 0, ?_, MI_t c4 _, by rw [fld_eq, if_pos ⟨rfl, rfl⟩], c2.tr (FrRf_w (by omega) _)⟩
        show f_X11_end τ = _
        unfold f_X11_end
        rw [c1, oB_some, c, if_neg (show ¬ b2i true = 0 by decide), holds0, oB_some, if_pos rfl, (MI_t c4 0).2.2.1 67 24 (by omega)]
    · have c' : meB B mel ml L hh = false := by simpa using c
      refine Or.inl (q_ex2 a2 M a3 a4 hK 1 (by decide) ?_ fun τ N => ?_)
      · show f_L_end σ = _
        unfold f_L_end f_X10_end
        rw [a1, oB_some, c', if_pos (show b2i false = 0 from rfl), oBc_r lk6]
      · obtain ⟨τ3, c1, c2, c3, c4⟩ := mEndsL_eq N o r hp tp hm hl hd hk' (by omega) hj h1 h2
        rw [c', if_neg (by decide)] at c4
        refine ⟨-1, wI τ3 67 0 1, ?_, MI_t c4 _, by rw [fld_eq, if_pos ⟨rfl, rfl⟩], c2.tr (FrRf_w (by omega) _)⟩
        show f_X11_end τ = _
        unfold f_X11_end
        rw [c1, oB_some, c', if_pos (show b2i false = 0 from rfl), holds1, oB_some, if_neg (by decide)]
