/-! questions that change nothing -/
def RuM (m : Mem) (hh L jk ml pn n : Nat) : Prop := (m 67 1 = nI hh ∧ m 67 2 = nI L ∧ m 67 3 = nI jk ∧ m 67 4 = nI ml ∧ m 67 5 = nI pn ∧ m 67 6 = nI n) ∧ 5 ≤ hh ∧ hh ≤ 13 ∧ (L = 3 ∨ L = 4) ∧ jk ≤ 3 ∧ ml ≤ 99 ∧ 1 ≤ pn ∧ pn ≤ 9 ∧ n ≤ 4
def Fr2 (σ τ : rS) : Prop := rK τ 2 = rK σ 2 ∧ ∀ j, rI τ 2 j = rI σ 2 j
def Fr3 (σ τ υ : rS) : Prop := Fr2 σ τ ∧ Fr2 τ υ
theorem Fr2.rf (σ : rS) : Fr2 σ σ := ⟨rfl, fun _ => rfl⟩
theorem Fr2.tr {σ τ υ : rS} (h : Fr2 σ τ) (g : Fr2 τ υ) : Fr3 σ τ υ := ⟨h, g⟩
theorem Fr2_Cl {σ τ : rS} (f : FrCl σ τ) : Fr2 σ τ := ⟨f.2.2, fun j => f.1 2 j (Or.inl rfl)⟩
theorem Fr2_Rf {σ τ : rS} (f : FrRf σ τ) : Fr2 σ τ := ⟨by rw [f.1], fun j => f.2.2.2.1 2 j (by omega)⟩
/-- what the class remembers of cuts, of extras and of a plan is left alone -/
def FrK (σ τ : rS) : Prop := (∀ j, 12 ≤ j → j ≤ 16 → rI τ 3 j = rI σ 3 j) ∧ rL τ 3 17 = rL σ 3 17 ∧ (∀ j, rI τ 65 j = rI σ 65 j) ∧ ∀ j, rI τ 66 j = rI σ 66 j
theorem FrK.rf (σ : rS) : FrK σ σ := ⟨fun _ _ _ => rfl, rfl, fun _ => rfl, fun _ => rfl⟩
theorem FrK.tr {σ τ υ : rS} (h : FrK σ τ) (g : FrK τ υ) : FrK σ υ := ⟨fun j a b => (g.1 j a b).trans (h.1 j a b), g.2.1.trans h.2.1, fun j => (g.2.2.1 j).trans (h.2.2.1 j), fun j => (g.2.2.2 j).trans (h.2.2.2 j)⟩
theorem FrK_R {σ τ : rS} (f : FrRf σ τ) : FrK σ τ := ⟨fun j _ _ => f.2.2.2.1 _ _ (by omega), f.2.2.2.2 _ _ (by omega), fun j => f.2.2.2.1 _ _ (by omega), fun j => f.2.2.2.1 _ _ (by omega)⟩
theorem FrK_114 (σ : rS) (v : Int64) : FrK σ (wL σ 114 0 v) := ⟨fun _ _ _ => rfl, by rw [q_LL, if_neg (by omega)], fun _ => rfl, fun _ => rfl⟩
theorem FrK_X {W : Nat → Nat → Prop} {σ τ : rS} (f : FrX W σ τ) (h : ∀ x j, W x j → ¬ ((x = 3 ∧ 12 ≤ j) ∨ x = 65 ∨ x = 66)) : FrK σ τ := ⟨fun j a _ => f.2.2.2.2 _ _ fun w => h _ _ w (by omega), by rw [f.2.2.2.1], fun j => f.2.2.2.2 _ _ fun w => h _ _ w (by omega), fun j => f.2.2.2.2 _ _ fun w => h _ _ w (by omega)⟩
def QStep (Kp : rS → Prop) (fL fR : rS → Option (Int32 × rS)) (σ : rS) (B : Bd) (E : List Ent) (dl : Option (Nat × Nat × Nat)) (m : Mem) (l : Nat → Int64) (ch : Nat) : Prop :=
  ∃ v σ1 w σ2, fL σ = some (v, σ1) ∧ fR σ1 = some (w, σ2) ∧ rI σ2 67 0 = v ∧ (v = 0 → rL σ2 114 0 = w.toInt64) ∧ CI σ2 B E dl m l ch ∧ MI σ2 B E m l ∧ Fr3 σ σ1 σ2 ∧ Kp σ2
theorem q_ok {fL fR : rS → Option (Int32 × rS)} {σ : rS} {B : Bd} {E : List Ent} {dl : Option (Nat × Nat × Nat)} {m : Mem} {l : Nat → Int64} {ch : Nat} (C : CI σ B E dl m l ch) (M : MI σ B E m l) {Kp : rS → Prop} (hK : ∀ τ, FrK σ τ → Kp τ) (v : Int32) (hL : fL σ = some (0, wL σ 114 0 v.toInt64)) (hR : ∀ τ, MI τ B E m l → fR τ = some (v, wI τ 67 0 0)) : QStep Kp fL fR σ B E dl m l ch := by
  have M1 := MI_fr M (FrCl_114 σ v.toInt64)
  exact ⟨0, _, v, _, hL, hR _ M1, by rw [fld_eq, if_pos ⟨rfl, rfl⟩], fun _ => by rw [show rL (wI (wL σ 114 0 v.toInt64) 67 0 0) 114 0 = rL (wL σ 114 0 v.toInt64) 114 0 from rfl, q_LL, if_pos ⟨rfl, rfl⟩], CI_fr (CI_114 C _) (FrRf_w (by omega) _), MI_t M1 _, (Fr2_Cl (FrCl_114 σ _)).tr (Fr2_Rf (FrRf_w (by omega) _)), hK _ ((FrK_114 σ _).tr (FrK_R (FrRf_w (by omega) _)))⟩
theorem q_ex {fL fR : rS → Option (Int32 × rS)} {σ : rS} {B : Bd} {E : List Ent} {dl : Option (Nat × Nat × Nat)} {m : Mem} {l : Nat → Int64} {ch : Nat} (C : CI σ B E dl m l ch) (M : MI σ B E m l) {Kp : rS → Prop} (hK : ∀ τ, FrK σ τ → Kp τ) (c w : Int32) (hc : c ≠ 0) (hL : fL σ = some (c, σ)) (hR : fR σ = some (w, wI σ 67 0 c)) : QStep Kp fL fR σ B E dl m l ch :=
  ⟨c, σ, w, _, hL, hR, by rw [fld_eq, if_pos ⟨rfl, rfl⟩], fun z => absurd z hc, CI_fr C (FrRf_w (by omega) _), MI_t M _, (Fr2.rf _).tr (Fr2_Rf (FrRf_w (by omega) _)), hK _ (FrK_R (FrRf_w (by omega) _))⟩
theorem CI_4 {σ : rS} {B : Bd} {E : List Ent} {dl : Option (Nat × Nat × Nat)} {m : Mem} {l : Nat → Int64} {ch : Nat} (C : CI σ B E dl m l ch) {x j : Nat} (d : dC x j) : rI σ x j = m (cx x) (cj x j) := C.2.2.2.1 x j d
theorem CI_n {σ : rS} {B : Bd} {E : List Ent} {dl : Option (Nat × Nat × Nat)} {m : Mem} {l : Nat → Int64} {ch hh L jk ml pn n : Nat} (C : CI σ B E dl m l ch) (r : RuM m hh L jk ml pn n) : rI σ 19 0 = nI n := (CI_4 C (x := 19) (j := 0) (by omega)).trans r.1.2.2.2.2.2
theorem CI_h {σ : rS} {B : Bd} {E : List Ent} {dl : Option (Nat × Nat × Nat)} {m : Mem} {l : Nat → Int64} {ch hh L jk ml pn n : Nat} (C : CI σ B E dl m l ch) (r : RuM m hh L jk ml pn n) : rI σ 4 0 = nI hh := (CI_4 C (x := 4) (j := 0) (by omega)).trans r.1.1
theorem MI_n {σ : rS} {B : Bd} {E : List Ent} {m : Mem} {l : Nat → Int64} {hh L jk ml pn n : Nat} (M : MI σ B E m l) (r : RuM m hh L jk ml pn n) : rI σ 67 6 = nI n := (M.2.2.1 67 6 (by omega)).trans r.1.2.2.2.2.2
theorem MI_h {σ : rS} {B : Bd} {E : List Ent} {m : Mem} {l : Nat → Int64} {hh L jk ml pn n : Nat} (M : MI σ B E m l) (r : RuM m hh L jk ml pn n) : rI σ 67 1 = nI hh := (M.2.2.1 67 1 (by omega)).trans r.1.1
theorem kind_same {σ τ : rS} {hh : Nat} (h : rI σ 4 0 = nI hh) (g : rI τ 67 1 = nI hh) (k : Int32) : v_X11_isKind τ k = v_X5_isKind σ k := by
  unfold v_X11_isKind v_X5_isKind
  rw [in_eq, h, g]
  by_cases c1 : k < 0
  · rw [if_pos c1, if_pos]
    unfold vIn
    rw [if_neg (fun z => absurd z.1 (Int32.not_le.mpr c1))]
  · rw [if_neg c1]
    by_cases c2 : 52 ≤ k
    · rw [if_pos c2, if_pos]
      unfold vIn
      rw [if_neg (fun z => absurd (Int32.le_trans c2 z.2) (by decide))]
    · rw [if_neg c2, if_neg]
      unfold vIn
      rw [if_pos ⟨Int32.not_lt.mp c1, le51 c2⟩]
      decide
theorem pl_same {σ τ : rS} {n : Nat} (h : rI σ 19 0 = nI n) (g : rI τ 67 6 = nI n) (p : Int32) : v_X11_isPlayer τ p = vIn p 0 ((rI σ 19 0) - 1) := by
  unfold v_X11_isPlayer
  rw [in_eq, h, g]
theorem lk1 : ([("java/lang/IllegalArgumentException", (1 : Int32))] : List (String × Int32)).lookup "java/lang/IllegalArgumentException" = some 1 := rfl
theorem lk2 : ([("java/lang/IndexOutOfBoundsException", (1 : Int32)), ("java/lang/IllegalArgumentException", 2)] : List (String × Int32)).lookup "java/lang/IndexOutOfBoundsException" = some 1 := rfl
theorem lk3 : ([("java/lang/IndexOutOfBoundsException", (1 : Int32)), ("java/lang/IllegalArgumentException", 2)] : List (String × Int32)).lookup "java/lang/IllegalArgumentException" = some 2 := rfl
theorem lk4 : ([("java/lang/IllegalArgumentException", (1 : Int32)), ("java/lang/IllegalStateException", 2)] : List (String × Int32)).lookup "java/lang/IllegalArgumentException" = some 1 := rfl
theorem lk5 : ([("java/lang/IllegalArgumentException", (1 : Int32)), ("java/lang/IllegalStateException", 2)] : List (String × Int32)).lookup "java/lang/IllegalStateException" = some 2 := rfl
theorem lk6 : ([("java/lang/IllegalStateException", (1 : Int32))] : List (String × Int32)).lookup "java/lang/IllegalStateException" = some 1 := rfl
theorem oBc_l {T2 : Type} {v : T2} {τ : rS} {hcs : List (String × Int32)} {g : T2 → rS → Option (Int32 × rS)} : oBc (some (.inl v, τ)) hcs g = g v τ := rfl
theorem oBc_r {T2 : Type} {e : String} {τ : rS} {hcs : List (String × Int32)} {g : T2 → rS → Option (Int32 × rS)} {c : Int32} (h : hcs.lookup e = some c) : oBc (some (.inr e, τ)) hcs g = some (c, τ) := by
  show (hcs.lookup e).map (fun c => (c, τ)) = _
  rw [h]
  rfl
theorem oBx_l {T T2 : Type} {v : T2} {τ : rS} {g : T2 → rS → Option ((T ⊕ String) × rS)} : oBx (some (.inl v, τ)) g = g v τ := rfl
theorem oBx_r {T T2 : Type} {e : String} {τ : rS} {g : T2 → rS → Option ((T ⊕ String) × rS)} : oBx (some (.inr e, τ)) g = some (.inr e, τ) := rfl
theorem rackIs_s {σ : rS} {B : Bd} {E : List Ent} {dl : Option (Nat × Nat × Nat)} {m : Mem} {l : Nat → Int64} {ch hh L jk ml pn n : Nat} (C : CI σ B E dl m l ch) (M : MI σ B E m l) {Kp : rS → Prop} (hK : ∀ τ, FrK σ τ → Kp τ) (r : RuM m hh L jk ml pn n) (p k : Int32) : QStep Kp (fun σ => f_L_rackIs σ p k) (fun σ => f_X11_rackIs σ p k) σ B E dl m l ch := by
  have h4 := CI_h C r
  have hn := CI_n C r
  have h13 := r.2.2.1
  have hn4 := r.2.2.2.2.2.2.2.2
  by_cases c1 : vIn p 0 ((rI σ 19 0) - 1) = 0
  · refine q_ex C M hK 1 (-1) (by decide) ?_ ?_
    · show f_L_rackIs σ p k = _
      unfold f_L_rackIs f_X10_rackIs f_X10_needPlayer
      rw [if_pos c1, oBx_r, oBc_r lk2]
    · show f_X11_rackIs σ p k = _
      unfold f_X11_rackIs
      rw [pl_same hn (MI_n M r), if_pos c1, holds_eq, oB_some, if_neg (by decide)]
  · rw [hn] at c1
    obtain ⟨q, hq, rfl⟩ := vIn_pl hn4 c1
    rw [← hn] at c1
    by_cases c2 : k = 52 ∨ ¬ v_X5_isKind σ k = 0
    · have hk : ∃ j, j < 53 ∧ k = nI j := by
        rcases c2 with e | e
        · exact ⟨52, by decide, e⟩
        · obtain ⟨j, h1, -, h3⟩ := isKind_of h4 h13 e
          exact ⟨j, by omega, h3⟩
      obtain ⟨j, hj, rfl⟩ := hk
      have e1 : (if nI j = 52 then true else (if v_X5_isKind σ (nI j) = 0 then false else true)) = true := by
        by_cases e : nI j = 52
        · rw [if_pos e]
        · rw [if_neg e]
          rcases c2 with f | f
          · exact absurd f e
          · rw [if_neg f]
      refine q_ok C M hK (nI (bR B (53 * q + j))) ?_ fun τ N => ?_
      · show f_L_rackIs σ (nI q) (nI j) = _
        unfold f_L_rackIs f_X10_rackIs f_X10_needPlayer f_X10_needPiece
        rw [if_neg c1, oBx_l, if_pos e1, oBx_l, rackOf_eq C.1 (by omega) hj, oBc_l]
        rfl
      · show f_X11_rackIs τ (nI q) (nI j) = _
        have e2 : ¬ v_X11_isKindOrJoker τ (nI j) = 0 := by
          unfold v_X11_isKindOrJoker
          rw [kind_same h4 (MI_h N r)]
          by_cases e : nI j = 52
          · rw [if_pos e]; decide
          · rw [if_neg e]
            rcases c2 with f | f
            · exact absurd f e
            · rw [if_neg f]; decide
        unfold f_X11_rackIs
        rw [pl_same hn (MI_n N r), if_neg c1, if_neg e2, holds_eq, oB_some, if_pos (by decide), i53, if_pos (inB_nI (by decide) (by omega)), nI_clamp (by omega), fld_eq, if_neg (by omega), N.1.2.1 _ (by omega)]
    · have n1 : ¬ k = 52 := fun z => c2 (Or.inl z)
      have n2 : v_X5_isKind σ k = 0 := Classical.byContradiction fun z => c2 (Or.inr z)
      refine q_ex C M hK 2 (-1) (by decide) ?_ ?_
      · show f_L_rackIs σ (nI q) k = _
        unfold f_L_rackIs f_X10_rackIs f_X10_needPlayer f_X10_needPiece
        rw [if_neg c1, oBx_l, if_neg n1, if_pos n2, if_neg (by decide), oBx_r, oBc_r lk3]
      · show f_X11_rackIs σ (nI q) k = _
        unfold f_X11_rackIs v_X11_isKindOrJoker
        rw [pl_same hn (MI_n M r), if_neg c1, kind_same h4 (MI_h M r), if_neg n1, if_pos n2, if_pos rfl, holds_eq, oB_some, if_neg (by decide)]
