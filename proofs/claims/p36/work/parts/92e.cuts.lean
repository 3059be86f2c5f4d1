/-! what the class remembers; cuts -/
abbrev WKc (x j : Nat) : Prop := (x = 3 ∧ 12 ≤ j) ∨ x = 65 ∨ x = 66
theorem CI_Kc {σ τ : rS} {B : Bd} {E : List Ent} {dl : Option (Nat × Nat × Nat)} {m : Mem} {l : Nat → Int64} {ch : Nat} (H : CI σ B E dl m l ch) (f : FrX WKc σ τ) : CI τ B E dl m l ch := by
  obtain ⟨h1, h2, h3, h4, h5, h6, B', ch', h7⟩ := H
  have q := f.2.2.2.2
  exact ⟨BQ_fr h1 fun x j a b => q x j (by omega), CeR_fr h2 fun x j a => q x j (by omega), CdR_fr h3 fun x j a => q x j (by omega), fun x j a => (q x j (by omega)).trans (h4 x j a), fun j hj k hk => by rw [f.2.2.2.1]; exact h5 j hj k hk, ClI_fr h6 ⟨f.1, f.2.1, f.2.2.1, fun x j a => q x j (by omega), fun x j a => by rw [f.2.2.2.1]⟩, B', ch', BQ_fr h7 fun x j a b => q x j (by omega)⟩
theorem CI_317 {σ : rS} {B : Bd} {E : List Ent} {dl : Option (Nat × Nat × Nat)} {m : Mem} {l : Nat → Int64} {ch : Nat} (H : CI σ B E dl m l ch) (v : Int64) : CI (wL σ 3 17 v) B E dl m l ch := by
  obtain ⟨h1, h2, h3, h4, h5, h6, B', ch', h7⟩ := H
  refine ⟨h1, h2, h3, h4, fun j hj k hk => ?_, ClI_fr h6 ⟨rfl, rfl, rfl, fun _ _ _ => rfl, fun x j d => ?_⟩, B', ch', h7⟩
  · rw [q_LL, if_neg (by omega)]; exact h5 j hj k hk
  · rw [q_LL, if_neg (by omega)]
theorem FrCl_317 (σ : rS) (v : Int64) : FrCl σ (wL σ 3 17 v) := ⟨fun _ _ _ => rfl, fun x j d => by rw [q_LL, if_neg (by omega)], rfl⟩
/-- a stamp: a count of changes that has been, or none -/
def StI (x : Int32) (ch : Nat) : Prop := ∃ z : Int, -1 ≤ z ∧ z ≤ (ch : Int) ∧ x = iI z
theorem StI_lt {x : Int32} {ch c2 : Nat} (h : StI x ch) (h1 : ch < c2) (h2 : c2 < 2 ^ 31) : ¬ x = nI c2 := by
  obtain ⟨z, a, b, rfl⟩ := h
  intro e
  rw [← iI_nat] at e
  have := (iI_eq ⟨by omega, by omega⟩ ⟨by omega, by omega⟩).mp e
  omega
theorem StI_le {x : Int32} {ch c2 : Nat} (h : StI x ch) (h1 : ch ≤ c2) : StI x c2 := by
  obtain ⟨z, a, b, e⟩ := h
  exact ⟨z, a, by omega, e⟩
theorem StI_now (ch : Nat) : StI (nI ch) ch := ⟨ch, by omega, by omega, (iI_nat ch).symm⟩
def cuV (o : Option N3) : Int32 × Int32 × Int32 := match o with
  | none => (0, -1, -1)
  | some v => (nI v.1, nI v.2.1, nI v.2.2)
def KuI (σ : rS) (B : Bd) (hh L ch : Nat) : Prop := StI (rI σ 3 12) ch ∧ (rI σ 3 12 = nI ch → rI σ 3 13 = (cuV (cntR L hh (tjB B))).1 ∧ rI σ 3 14 = (cuV (cntR L hh (tjB B))).2.1 ∧ rI σ 3 15 = (cuV (cntR L hh (tjB B))).2.2)
def aloP (B : Bd) (hh L kk : Nat) : Prop := kk % 13 < hh ∧ tjB B kk ≤ 1 ∧ AccR L (tN (tjB B) (unX kk)) hh
def KaI (σ : rS) (B : Bd) (hh L ch : Nat) : Prop := StI (rI σ 3 16) ch ∧ (rI σ 3 16 = nI ch → ∀ kk, kk < 52 → (hb (rL σ 3 17) kk ↔ aloP B hh L kk))
theorem KuI_fr {σ τ : rS} {B : Bd} {hh L ch : Nat} (H : KuI σ B hh L ch) (f : FrK σ τ) : KuI τ B hh L ch := by
  unfold KuI at *
  rw [f.1 12 (by decide) (by decide), f.1 13 (by decide) (by decide), f.1 14 (by decide) (by decide), f.1 15 (by decide) (by decide)]
  exact H
theorem KaI_fr {σ τ : rS} {B : Bd} {hh L ch : Nat} (H : KaI σ B hh L ch) (f : FrK σ τ) : KaI τ B hh L ch := by
  unfold KaI at *
  rw [f.1 16 (by decide) (by decide), f.2.1]
  exact H
theorem KuI_up {σ : rS} {B B' : Bd} {hh L hh' L' ch c2 : Nat} (H : KuI σ B hh L ch) (h : ch < c2) (h2 : c2 < 2 ^ 31) : KuI σ B' hh' L' c2 := ⟨StI_le H.1 (Nat.le_of_lt h), fun e => absurd e (StI_lt H.1 h h2)⟩
theorem KaI_up {σ : rS} {B B' : Bd} {hh L hh' L' ch c2 : Nat} (H : KaI σ B hh L ch) (h : ch < c2) (h2 : c2 < 2 ^ 31) : KaI σ B' hh' L' c2 := ⟨StI_le H.1 (Nat.le_of_lt h), fun e => absurd e (StI_lt H.1 h h2)⟩
theorem lN_32 {n : Nat} (h : n < 2 ^ 32) : (lN n).toInt32 = nI n := by
  have e := lo_2 (b := 0) h
  rw [show two32 0 n = n by unfold two32; omega] at e
  exact e
theorem CI_ch {σ : rS} {B : Bd} {E : List Ent} {dl : Option (Nat × Nat × Nat)} {m : Mem} {l : Nat → Int64} {ch : Nat} (C : CI σ B E dl m l ch) : rI σ 5 12 = nI ch := C.1.2.2.2.2.2.2.2.2.2.2.2
theorem cCuts_eq {σ : rS} {B : Bd} {E : List Ent} {dl : Option (Nat × Nat × Nat)} {m : Mem} {l : Nat → Int64} {ch hh L jk ml pn n : Nat} (C : CI σ B E dl m l ch) (o : OkT B) (r : RuM m hh L jk ml pn n) (K : KuI σ B hh L ch) : ∃ τ, f_X10_findCuts σ = some ((), τ) ∧ CI τ B E dl m l ch ∧ FrCl σ τ ∧ KuI τ B hh L ch ∧ (rI τ 3 13 = (cuV (cntR L hh (tjB B))).1 ∧ rI τ 3 14 = (cuV (cntR L hh (tjB B))).2.1 ∧ rI τ 3 15 = (cuV (cntR L hh (tjB B))).2.2) ∧ ∀ x j, (x = 65 ∨ x = 66 ∨ (x = 3 ∧ j = 16)) → rI τ x j = rI σ x j ∧ rL τ 3 17 = rL σ 3 17 := by
  unfold f_X10_findCuts
  rw [CI_ch C]
  by_cases c : rI σ 3 12 = nI ch
  · rw [if_pos c]
    exact ⟨σ, rfl, C, FrCl.rf σ, K, K.2 c, fun _ _ _ => ⟨rfl, rfl⟩⟩
  · rw [if_neg c]
    obtain ⟨σ1, a1, a2, a3, a4⟩ := takeTable_eq C o
    obtain ⟨σ2, b1, b2, b3, b4, b5⟩ := go_count a2.2.2.2.2.2.1 (CI_Ru a2 r) a3
    have D := CI_O a2 b2 b3
    have F0 : FrCl σ σ2 := (FrCl_48 a4).tr (FrCl_O a2.2.2.2.2.2.1 b3)
    have k0 : FrK σ σ2 := (FrK_48 a4).tr (FrK_O b3)
    rw [a1, oB_some, CI_h a2 r, b1, oB_some]
    have fin : ∀ x y z : Int32, (x, y, z) = cuV (cntR L hh (tjB B)) → ∃ τ, some ((), wI (wI (wI (wI σ2 3 13 x) 3 14 y) 3 15 z) 3 12 (nI ch)) = some ((), τ) ∧ CI τ B E dl m l ch ∧ FrCl σ τ ∧ KuI τ B hh L ch ∧ (rI τ 3 13 = (cuV (cntR L hh (tjB B))).1 ∧ rI τ 3 14 = (cuV (cntR L hh (tjB B))).2.1 ∧ rI τ 3 15 = (cuV (cntR L hh (tjB B))).2.2) ∧ ∀ x j, (x = 65 ∨ x = 66 ∨ (x = 3 ∧ j = 16)) → rI τ x j = rI σ x j ∧ rL τ 3 17 = rL σ 3 17 := fun x y z e => by
      have W : FrX WKc σ2 (wI (wI (wI (wI σ2 3 13 x) 3 14 y) 3 15 z) 3 12 (nI ch)) := ((((FrX.w _ _ (by omega)).tr (FrX.w _ _ (by omega))).tr (FrX.w _ _ (by omega))).tr (FrX.w _ _ (by omega)))
      have v : rI (wI (wI (wI (wI σ2 3 13 x) 3 14 y) 3 15 z) 3 12 (nI ch)) 3 13 = x ∧ rI (wI (wI (wI (wI σ2 3 13 x) 3 14 y) 3 15 z) 3 12 (nI ch)) 3 14 = y ∧ rI (wI (wI (wI (wI σ2 3 13 x) 3 14 y) 3 15 z) 3 12 (nI ch)) 3 15 = z := ⟨by rw [fld_eq, if_neg (by omega), fld_eq, if_neg (by omega), fld_eq, if_neg (by omega), fld_eq, if_pos ⟨rfl, rfl⟩], by rw [fld_eq, if_neg (by omega), fld_eq, if_neg (by omega), fld_eq, if_pos ⟨rfl, rfl⟩], by rw [fld_eq, if_neg (by omega), fld_eq, if_pos ⟨rfl, rfl⟩]⟩
      rw [← e]
      refine ⟨_, rfl, CI_Kc D W, F0.tr (FrCl_X W fun x j w => by omega), ⟨by rw [fld_eq, if_pos ⟨rfl, rfl⟩]; exact StI_now ch, fun _ => by rw [← e]; exact v⟩, v, fun a j h => ⟨?_, k0.2.1⟩⟩
      have n : ∀ i, 12 ≤ i → i ≤ 15 → ¬ (a = 3 ∧ j = i) := fun i _ _ w => by omega
      rw [fld_eq, if_neg (n _ (by decide) (by decide)), fld_eq, if_neg (n _ (by decide) (by decide)), fld_eq, if_neg (n _ (by decide) (by decide)), fld_eq, if_neg (n _ (by decide) (by decide))]
      rcases h with rfl | rfl | ⟨rfl, rfl⟩
      · exact k0.2.2.1 j
      · exact k0.2.2.2 j
      · exact k0.1 16 (by decide) (by decide)
    have q12 : ∀ x y z : Int32, rI (wI (wI (wI σ2 3 13 x) 3 14 y) 3 15 z) 5 12 = nI ch := fun x y z => by
      rw [fld_eq, if_neg (by omega), fld_eq, if_neg (by omega), fld_eq, if_neg (by omega), CI_ch D]
    cases hc : cntR L hh (tjB B) with
    | none =>
      have e0 : (if b2i (none : Option N3).isSome ≤ 0 then (0 : Int32) else 1) = 0 := by decide
      rw [e0, oLet_eq, if_pos rfl, oJ_inr, oLet_eq, if_pos rfl, oJ_inr, oLet_eq, if_pos rfl, oLet_eq, q12, oLet_eq]
      have := fin 0 (-1) (-1) (by rw [hc]; rfl)
      rw [hc] at this
      exact this
    | some v =>
      obtain ⟨v1, v2, v3⟩ := b5 v hc
      have e0 : (if b2i (some v).isSome ≤ 0 then (0 : Int32) else 1) = 1 := by
        show (if b2i true ≤ 0 then (0 : Int32) else 1) = 1
        decide
      have h13 := r.2.2.1
      have l1 := v3.1
      have l2 := v3.2.1
      have l3 := v3.2.2
      have w2 : ∀ σ' : rS, rL σ' = rL σ2 → rR σ' = rR σ2 → rL σ' (rR σ' (rR σ' 37 5) 2) 0 = lN (two32 v.2.1 v.2.2) := fun σ' h1 h2 => by rw [h1, h2]; exact v2
      have hi := hiW_2 (b := v.2.1) (c := v.2.2) (by omega) (by omega)
      unfold hiW at hi
      have cl : (0 : Int32).toNatClampNeg = 0 := rfl
      have g : ∀ σ' : rS, rK σ' = rK σ2 → rR σ' = rR σ2 → inB 0 ((rK σ' (rR σ' (rR σ' 37 5) 0)).2) := fun σ' h1 h2 => by rw [h1, h2]; exact b4
      rw [e0, oLet_eq, if_neg (by decide), if_pos b4, oJ_inr, cl, v1, lN_32 (by omega), oLet_eq, if_neg (by decide), if_pos (g (wI σ2 3 13 (nI v.1)) rfl rfl), w2 (wI σ2 3 13 (nI v.1)) rfl rfl, hi, lN_32 (by omega), oJ_inr, oLet_eq, if_neg (by decide), if_pos (g (wI (wI σ2 3 13 (nI v.1)) 3 14 (nI v.2.1)) rfl rfl), w2 (wI (wI σ2 3 13 (nI v.1)) 3 14 (nI v.2.1)) rfl rfl, lo_2 (by omega), oLet_eq, q12, oLet_eq]
      have := fin (nI v.1) (nI v.2.1) (nI v.2.2) (by rw [hc]; rfl)
      rw [hc] at this
      exact this
def cuS (p : Nat) (t : Int32 × Int32 × Int32) : Int32 := if p = 0 then t.1 else if p = 1 then t.2.1 else t.2.2
theorem cu_val (υ : rS) (o : Option N3) (a3 : BoR υ (o.map phR)) (hb : ∀ v, o = some v → v.1 < 2 ^ 32 ∧ v.2.1 < 2 ^ 32 ∧ v.2.2 < 2 ^ 32) (p : Nat) : (if p = 0 then (rL υ 67 61).toInt32 else if b2i (o.map phR).isSome = 0 then -1 else if p = 1 then (rL υ 67 62).toInt32 else (rL υ 67 63).toInt32) = cuS p (cuV o) := by
  cases o with
  | none =>
    have h1 : rL υ 67 61 = 0 := a3.1
    rw [h1, if_pos (show b2i (Option.map phR none).isSome = 0 from rfl)]
    unfold cuS
    by_cases c : p = 0
    · rw [if_pos c, if_pos c]; rfl
    · rw [if_neg c, if_neg c]
      split <;> rfl
  | some v =>
    have h1 : rL υ 67 61 = lN v.1 := a3.1
    have h2 : rL υ 67 62 = lN v.2.1 := a3.2.1
    have h3 : rL υ 67 63 = lN v.2.2 := a3.2.2
    obtain ⟨l1, l2, l3⟩ := hb v rfl
    have hn : ¬ b2i (Option.map phR (some v)).isSome = 0 := fun z => absurd (show (1 : Int32) = 0 from z) (by decide)
    rw [h1, h2, h3, if_neg hn, lN_32 l1, lN_32 l2, lN_32 l3]
    rfl
