/-! cutsAnew and alone -/
theorem CI_E48 {σ τ : rS} {B : Bd} {E : List Ent} {dl : Option (Nat × Nat × Nat)} {m : Mem} {l : Nat → Int64} {ch : Nat} (H : CI σ B E dl m l ch) (f : E48 σ τ) : CI τ B E dl m l ch := CI_48 H ⟨f.1, f.2.1, f.2.2.1, f.2.2.2.1, fun x j a => f.2.2.2.2 x j (by omega)⟩
theorem tot_tjB (B : Bd) : tot (tjB B) = natSum (bT B) 52 + natSum (bJ B) 52 := by
  unfold tot
  rw [← natSum_plus]
  exact natSum_congr fun k hk => if_pos hk
/-- no kind that the rules leave out lies on the table -/
def AbT (B : Bd) (hh : Nat) : Prop := ∀ k, k < 52 → hh ≤ k % 13 → tjB B k = 0
theorem tjB_t2 {B : Bd} (o : OkT B) : natSum (bT B) 52 + natSum (bJ B) 52 ≤ 104 := by
  rw [← tot_tjB]
  exact natSum_le (B := 2) fun k _ => tjB_le o k
theorem cutsAnew_s {σ : rS} {B : Bd} {E : List Ent} {dl : Option (Nat × Nat × Nat)} {m : Mem} {l : Nat → Int64} {ch hh L jk ml pn n : Nat} (C : CI σ B E dl m l ch) (M : MI σ B E m l) {Kp : rS → Prop} (hK : ∀ τ, FrK σ τ → Kp τ) (r : RuM m hh L jk ml pn n) (o : OkT B) (ab : AbT B hh) : QStep Kp (fun σ => f_L_cutsAnew σ) (fun σ => f_X11_cutsAnew σ) σ B E dl m l ch := by
  have h13 := r.2.2.1
  have h2 := tjB_t2 o
  have q8 : rI σ 5 8 = nI (natSum (bT B) 52 + natSum (bJ B) 52) := C.1.2.2.2.2.2.2.2.1
  have c0 : (nI (natSum (bT B) 52 + natSum (bJ B) 52) ≤ 14) = (natSum (bT B) 52 + natSum (bJ B) 52 ≤ 14) := propext (nI_leI (b := 14) (by omega) (by omega))
  by_cases c : natSum (bT B) 52 + natSum (bJ B) 52 ≤ 14
  · obtain ⟨σ1, a1, a2, a3, a4⟩ := takeTable_eq C o
    obtain ⟨τ, b1, -, b3⟩ := count_eq r.2.2.2.1 20 σ1 (tjB B) 0 0 0 a2.2.2.2.2.2.1.2.2.1 a3.1 (fun k _ => tjB_le o k) (by omega) (by omega) (by rw [tot_tjB]; omega) (by omega) (by omega) (fun k hk => absurd hk (Nat.not_lt_zero k))
    obtain ⟨d1, d2⟩ := anew_cnt r.2.2.2.1 h13 (fun k => tjB_le o k) ab (by rw [tot_tjB]; exact c)
    have ev : nI (DD L (tjB B) 0) = cuS 0 (cuV (cntR L hh (tjB B))) := by
      rw [d2]
      cases cntR L hh (tjB B) <;> rfl
    have fk : FrX W48 σ1 τ := ⟨b3.1, b3.2.1, b3.2.2.1, b3.2.2.2.1, fun x j a => b3.2.2.2.2 x j (by omega)⟩
    refine q_w2 (v := cuS 0 (cuV (cntR L hh (tjB B)))) (CI_48 a2 fk) M ((FrCl_48 a4).tr (FrCl_48 fk)) ((FrK_48 a4).tr (FrK_48 fk)) hK ?_ fun υ N => ?_
    · show f_L_cutsAnew σ = _
      unfold f_L_cutsAnew f_X10_cutsAnew
      rw [q8]
      simp only [c0]
      have b1 : f_X0_count 20 σ1 0 0 (nI L) 0 = some (nI (DD L (tjB B) 0), τ) := b1
      rw [if_pos c, a1, oB_some, (CI_Ru a2 r).1, b1, oB_some, show (1000000007 : Int32) = nI 1000000007 from rfl, nI_rem (by omega) (by omega), Nat.mod_eq_of_lt d1, oBc_l, ev]
      rfl
    · obtain ⟨υ2, e1, e2, e3, e4⟩ := mCuts_eq (p := 0) (MI_t N 0) o r (by omega)
      refine ⟨υ2, ?_, e2, e4, (FrRf_w (by omega) _).tr e3⟩
      show f_X11_cutsAnew υ = _
      have e1 : f_X11_cuts (wI υ 67 0 0) 0 = some (cuS 0 (cuV (cntR L hh (tjB B))), υ2) := e1
      unfold f_X11_cutsAnew
      rw [onTable_eq N.1, Option.bind_some]
      simp only [c0]
      rw [if_pos c, holds0, oB_some, if_pos rfl, e1, oB_some]
  · refine q_ex C M hK 1 (-1) (by decide) ?_ ?_
    · show f_L_cutsAnew σ = _
      unfold f_L_cutsAnew f_X10_cutsAnew
      rw [q8]
      simp only [c0]
      rw [if_neg c, oBc_r lk6]
    · show f_X11_cutsAnew σ = _
      unfold f_X11_cutsAnew
      rw [onTable_eq M.1, Option.bind_some]
      simp only [c0]
      rw [if_neg c, holds1, oB_some, if_neg (by decide)]
theorem cAlone_eq {σ : rS} {B : Bd} {E : List Ent} {dl : Option (Nat × Nat × Nat)} {m : Mem} {l : Nat → Int64} {ch hh L jk ml pn n : Nat} (C : CI σ B E dl m l ch) (o : OkT B) (r : RuM m hh L jk ml pn n) (K : KcI σ B m hh L ch) : ∃ v τ, f_X10_findAlone σ = some (v, τ) ∧ CI τ B E dl m l ch ∧ FrCl σ τ ∧ KcI τ B m hh L ch ∧ ∀ kk, kk < 52 → (hb v kk ↔ aloP B hh L kk) := by
  unfold f_X10_findAlone
  rw [CI_ch C]
  by_cases c : rI σ 3 16 = nI ch
  · rw [if_pos c]
    exact ⟨_, σ, rfl, C, FrCl.rf σ, K, K.2.1.2 c⟩
  · rw [if_neg c]
    obtain ⟨σ1, a1, a2, a3, a4⟩ := takeTable_eq C o
    obtain ⟨σ2, n2, v, b1, b2, b3, b4, b5, b6, b7⟩ := go_extra a2.2.2.2.2.2.1 (CI_Ru a2 r) a3
    have D := CI_O a2 b3 b4
    have F0 : FrCl σ σ2 := (FrCl_48 a4).tr (FrCl_O a2.2.2.2.2.2.1 b4)
    have k0 : FrK σ σ2 := (FrK_48 a4).tr (FrK_O b4)
    have en : (if nI n2 ≤ 0 then (some (.inr (0 : Int64))) else (if inB 0 ((rK σ2 (rR σ2 (rR σ2 37 5) 0)).2) then (some (.inr (rL σ2 (rR σ2 (rR σ2 37 5) 1) (0 : Int32).toNatClampNeg))) else none) : Option ((Int64 × rS) ⊕ Int64)) = some (.inr v) := by
      have c0 : (nI n2 ≤ 0) = (n2 = 0) := nI_le0 (by omega)
      simp only [c0]
      by_cases z : n2 = 0
      · rw [if_pos z]; rw [if_pos z] at b6; rw [b6]
      · rw [if_neg z, if_pos b5]; rw [if_neg z] at b6; rw [← b6]; rfl
    have D3 := CI_317 D v
    have W : FrX WKc (wL σ2 3 17 v) (wI (wL σ2 3 17 v) 3 16 (nI ch)) := FrX.w _ _ (by omega)
    have e17 : rL (wI (wL σ2 3 17 v) 3 16 (nI ch)) 3 17 = v := by
      show rL (wL σ2 3 17 v) 3 17 = v
      rw [q_LL, if_pos ⟨rfl, rfl⟩]
    refine ⟨v, wI (wL σ2 3 17 v) 3 16 (nI ch), ?_, CI_Kc D3 W, (F0.tr (FrCl_317 σ2 v)).tr (FrCl_X W fun x j w => by omega), ⟨?_, ?_, KpI_fr K.2.2 (fun j => ?_) fun j => ?_⟩, b7⟩
    · rw [a1, oB_some, CI_h a2 r, b1, oB_some, en, oJ_inr, oLet_eq, CI_ch D3, oLet_eq, e17]
    · have g : ∀ j, 12 ≤ j → j ≤ 15 → rI (wI (wL σ2 3 17 v) 3 16 (nI ch)) 3 j = rI σ 3 j := fun j h1 h2 => by
        rw [fld_eq, if_neg (by omega)]
        exact k0.1 j h1 (by omega)
      have := K.1
      unfold KuI at *
      rw [g 12 (by decide) (by decide), g 13 (by decide) (by decide), g 14 (by decide) (by decide), g 15 (by decide) (by decide)]
      exact this
    · exact ⟨by rw [fld_eq, if_pos ⟨rfl, rfl⟩]; exact StI_now ch, fun _ => by rw [e17]; exact b7⟩
    · rw [fld_eq, if_neg (by omega)]; exact k0.2.2.1 j
    · rw [fld_eq, if_neg (by omega)]; exact k0.2.2.2 j
