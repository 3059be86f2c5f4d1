/-! programs: what a method does, as a function of the world that may fail; the rows that bind it to the bytes -/
def natSum (f : Nat → Nat) : Nat → Nat
  | 0 => 0
  | n + 1 => natSum f n + f n
def rSz (q : Nat × Nat) : Nat := match q with
  | (0, n) => n
  | (1, n) => n
  | (2, n) => n
  | (c + 3, _) => rF c
abbrev uC (σ : rS) : Nat := rN σ
/-- the room of all that was made (the two read rows don't count) -/
def uS (σ : rS) : Nat := natSum (fun i => rSz (rK σ (i + 3))) (rN σ - 3)
abbrev bC : Nat := 1000
abbrev bS : Nat := 3000000
def J (I : rS → Prop) (σ : rS) : Prop := I σ ∧ uC σ ≤ bC ∧ uS σ ≤ bS
/-- from this point of a method the program p is what it does; I holds all the while; W tells the world of a result, K what a result leads to -/
def rP (I : rS → Prop) (M : rM) (k kc ks : Nat) (o : Option Value ⊕ String) (τ : rS) {R : Type} (W : R → rS) (K : R → Prop) (pc : Nat) (ls : List (Option Value)) (st : List Value) (σ : rS) (p : Option R) : Prop :=
  J I σ → ∀ r, p = some r → (J I (W r) ∧ uC σ ≤ uC (W r) ∧ uS σ ≤ uS (W r)) ∧ (uC (W r) ≤ uC τ → uS (W r) ≤ uS τ → K r → rE M k pc ls st σ (kc + (uC τ - uC σ)) (ks + (uS τ - uS σ)) o τ)
abbrev oLet {α β : Type} (v : α) (f : α → β) : β := f v
abbrev iRem (x y : Int32) : Int32 := x - x / y * y
abbrev lRem (x y : Int64) : Int64 := x - x / y * y
abbrev inB (i : Int32) (n : Nat) : Prop := 0 ≤ i.toInt ∧ i.toInt < (n : Int)
theorem inB_vp {i : Int32} {n : Nat} (h : inB i n) : vp_in i n := vp_in_iff.mpr h
def oLoop {R S : Type} (body : S → Option (R ⊕ S)) : Nat → S → Option R
  | 0, _ => none
  | n + 1, s => match body s with
    | none => none
    | some (.inl r) => some r
    | some (.inr s') => oLoop body n s'
def oJoin {R S : Type} (m : Option (R ⊕ S)) (rest : S → Option R) : Option R := match m with
  | none => none
  | some (.inl r) => some r
  | some (.inr s) => rest s
def W2 {R S : Type} (W : R → rS) (w : S → rS) : R ⊕ S → rS
  | .inl r => W r
  | .inr s => w s
def K2 {R S : Type} (K : R → Prop) (Q : S → Prop) : R ⊕ S → Prop
  | .inl r => K r
  | .inr s => Q s
/-- how a result is answered -/
abbrev tI (v : Int32) : Option Value ⊕ String := .inl (some (.int v))
abbrev tL (v : Int64) : Option Value ⊕ String := .inl (some (.long v))
abbrev tU (_ : Unit) : Option Value ⊕ String := .inl none
def tX {T : Type} (t : T → Option Value ⊕ String) : T ⊕ String → Option Value ⊕ String
  | .inl v => t v
  | .inr e => .inr e
def rMO (y : MethodName) (M : rM) (k : Nat) (as : List Value) (σ : rS) (mc ms : Nat) (o : Option Value ⊕ String) (τ : rS) : Prop := match o with
  | .inl v => rMet y M k as σ mc ms v τ
  | .inr E => rMetX y M k as σ mc ms E τ
theorem rMO_of {y : MethodName} {M : rM} {k n : Nat} {as : List Value} {ls : List (Option Value)} {σ τ : rS} {mc ms : Nat} {o : Option Value ⊕ String} (hy : rYn y M n) (hls : rEn M.2.2.1 as = ls) (hsz : (rEnt as).length ≤ M.2.2.1) (hE : rE M k 0 ls [] σ mc ms o τ) : rMO y M k as σ mc ms o τ := by
  cases o with
  | inl v => exact rMet_of hy hls hsz hE
  | inr E => exact rMetX_of hy hls hsz hE
/-- the method y, called with as in the world σ, does what p says; it throws with m cells of s slots at most -/
def rFn (I : rS → Prop) (y : MethodName) (M : rM) (k : Nat) (as : List Value) (σ : rS) (m s : Nat) {T : Type} (t : T → Option Value ⊕ String) (p : Option (T × rS)) : Prop :=
  J I σ → ∀ v τ, p = some (v, τ) → (J I τ ∧ uC σ ≤ uC τ ∧ uS σ ≤ uS τ) ∧ rMO y M k as σ (m + (uC τ - uC σ)) (s + (uS τ - uS σ)) (t v) τ
abbrev K0 {T : Type} (t : T → Option Value ⊕ String) (o : Option Value ⊕ String) (τ : rS) : T × rS → Prop := fun r => t r.1 = o ∧ r.2 = τ
theorem rF_of {I : rS → Prop} {y : MethodName} {M : rM} {k n : Nat} {as : List Value} {ls : List (Option Value)} {σ : rS} {m s : Nat} {T : Type} {t : T → Option Value ⊕ String} {p : Option (T × rS)} (hy : rYn y M n) (hls : rEn M.2.2.1 as = ls) (hsz : (rEnt as).length ≤ M.2.2.1) (h : ∀ o τ, rP I M k m s o τ Prod.snd (K0 t o τ) 0 ls [] σ p) : rFn I y M k as σ m s t p := fun hJ v τ hp => by
  obtain ⟨h1, h2⟩ := h (t v) τ hJ (v, τ) hp
  exact ⟨h1, rMO_of hy hls hsz (h2 (Nat.le_refl _) (Nat.le_refl _) ⟨rfl, rfl⟩)⟩
/-- a call of an expression -/
theorem rF_pure {I : rS → Prop} {y : MethodName} {M : rM} {k : Nat} {as : List Value} {σ : rS} {v : Option Value} (h : rMet y M k as σ 0 0 v σ) : rMet y M k as σ 0 0 v σ := h

theorem P_l {M : rM} {k kc ks : Nat} {o : Option Value ⊕ String} {τ : rS} {I : rS → Prop} {R : Type} {W : R → rS} {K : R → Prop} {pc pc2 : Nat} {ls ls2 : List (Option Value)} {st st2 : List Value} {σ : rS} {p : Option R} (h : J I σ → ∀ kc ks, rE M k pc2 ls2 st2 σ kc ks o τ → rE M k pc ls st σ kc ks o τ) (kk : rP I M k kc ks o τ W K pc2 ls2 st2 σ p) : rP I M k kc ks o τ W K pc ls st σ p := fun hJ r hr =>
  ⟨(kk hJ r hr).1, fun a b c => h hJ _ _ ((kk hJ r hr).2 a b c)⟩
/-- a write -/
theorem P_w {M : rM} {k kc ks : Nat} {o : Option Value ⊕ String} {τ : rS} {I : rS → Prop} {R : Type} {W : R → rS} {K : R → Prop} {pc pc2 : Nat} {ls ls2 : List (Option Value)} {st st2 : List Value} {σ σ2 : rS} {f : rS → Option R} (h : J I σ → ∀ kc ks, rE M k pc2 ls2 st2 σ2 kc ks o τ → rE M k pc ls st σ kc ks o τ) (hI : J I σ → I σ2) (hK : rK σ2 = rK σ) (hC : uC σ2 = uC σ) (hS : uS σ2 = uS σ) (kk : ∀ z, rK z = rK σ → rP I M k kc ks o τ W K pc2 ls2 st2 z (f z)) : rP I M k kc ks o τ W K pc ls st σ (oLet σ2 f) := fun hJ r hr => by
  have hJ2 : J I σ2 := ⟨hI hJ, by rw [hC]; exact hJ.2.1, by rw [hS]; exact hJ.2.2⟩
  obtain ⟨h1, h2⟩ := kk σ2 hK hJ2 r hr
  rw [hC, hS] at h1 h2
  exact ⟨h1, fun a b c => h hJ _ _ (h2 a b c)⟩
/-- a new cell -/
theorem uS_wN (σ : rS) (q : Nat × Nat) (h3 : 3 ≤ rN σ) : uS (wN σ q) = uS σ + rSz q := by
  unfold uS
  show natSum _ (rN σ + 1 - 3) = _
  rw [show rN σ + 1 - 3 = (rN σ - 3) + 1 by omega]
  show natSum _ (rN σ - 3) + _ = _
  have : ∀ n, n ≤ rN σ - 3 → natSum (fun i => rSz (rK (wN σ q) (i + 3))) n = natSum (fun i => rSz (rK σ (i + 3))) n := by
    intro n hn
    induction n with
    | zero => rfl
    | succ n ih =>
      simp only [natSum]
      rw [ih (by omega)]
      congr 2
      exact up_other _ _ (by omega)
  rw [this _ (Nat.le_refl _)]
  congr 1
  show rSz (rK (wN σ q) (rN σ - 3 + 3)) = rSz q
  congr 1
  rw [show rN σ - 3 + 3 = rN σ by omega]
  exact up_same _ _ _
theorem P_n {M : rM} {k kc ks : Nat} {o : Option Value ⊕ String} {τ : rS} {I : rS → Prop} {R : Type} {W : R → rS} {K : R → Prop} {pc pc2 n : Nat} {ls ls2 : List (Option Value)} {st st2 : List Value} {σ : rS} {q : Nat × Nat} {f : rS → Option R} (h : J I σ → ∀ kc ks, rE M k pc2 ls2 st2 (wN σ q) kc ks o τ → rE M k pc ls st σ (kc + 1) (ks + n) o τ) (hn : rSz q = n) (h3 : J I σ → 3 ≤ rN σ) (hI : J I σ → I (wN σ q)) (kk : rP I M k kc ks o τ W K pc2 ls2 st2 (wN σ q) (f (wN σ q))) : rP I M k kc ks o τ W K pc ls st σ (if uC σ + 1 ≤ bC ∧ uS σ + n ≤ bS then oLet (wN σ q) f else none) := fun hJ r hr => by
  split at hr
  · rename_i hb
    have e1 : uC (wN σ q) = uC σ + 1 := rfl
    have e2 : uS (wN σ q) = uS σ + n := by rw [uS_wN _ _ (h3 hJ), hn]
    have hJ2 : J I (wN σ q) := ⟨hI hJ, by rw [e1]; exact hb.1, by rw [e2]; exact hb.2⟩
    obtain ⟨h1, h2⟩ := kk hJ2 r hr
    rw [e1, e2] at h1 h2
    refine ⟨⟨h1.1, by omega, by omega⟩, fun a b c => ?_⟩
    have h3 := h hJ _ _ (h2 a b c)
    exact E_room h3 (by omega) (by omega)
  · cases hr
/-- the value of a place is given a name -/
theorem P_v {M : rM} {k kc ks : Nat} {o : Option Value ⊕ String} {τ : rS} {I : rS → Prop} {R : Type} {W : R → rS} {K : R → Prop} {α : Type} {pc : Nat} {σ : rS} {st : List Value} (v : α) {f : α → Option R} (ls : α → List (Option Value)) (kk : ∀ x, rP I M k kc ks o τ W K pc (ls x) st σ (f x)) : rP I M k kc ks o τ W K pc (ls v) st σ (oLet v f) := kk v
theorem P_if {M : rM} {k kc ks : Nat} {o : Option Value ⊕ String} {τ : rS} {I : rS → Prop} {R : Type} {W : R → rS} {K : R → Prop} {c : Prop} [dc : Decidable c] {pc pc1 pc2 : Nat} {ls ls1 ls2 : List (Option Value)} {st st1 st2 : List Value} {σ : rS} {p1 p2 : Option R} (h : J I σ → ∀ kc ks, (c → rE M k pc1 ls1 st1 σ kc ks o τ) → (¬ c → rE M k pc2 ls2 st2 σ kc ks o τ) → rE M k pc ls st σ kc ks o τ) (h1 : rP I M k kc ks o τ W K pc1 ls1 st1 σ p1) (h2 : rP I M k kc ks o τ W K pc2 ls2 st2 σ p2) : rP I M k kc ks o τ W K pc ls st σ (if c then p1 else p2) := fun hJ r hr => by
  by_cases hc : c
  · rw [if_pos hc] at hr
    exact ⟨(h1 hJ r hr).1, fun a b c' => h hJ _ _ (fun _ => (h1 hJ r hr).2 a b c') (fun q => absurd hc q)⟩
  · rw [if_neg hc] at hr
    exact ⟨(h2 hJ r hr).1, fun a b c' => h hJ _ _ (fun q => absurd q hc) (fun _ => (h2 hJ r hr).2 a b c')⟩
theorem P_case {M : rM} {k kc ks : Nat} {o : Option Value ⊕ String} {τ : rS} {I : rS → Prop} {R : Type} {W : R → rS} {K : R → Prop} {c : Prop} [dc : Decidable c] {pc : Nat} {ls : List (Option Value)} {st : List Value} {σ : rS} {p1 p2 : Option R} (h1 : c → rP I M k kc ks o τ W K pc ls st σ p1) (h2 : ¬ c → rP I M k kc ks o τ W K pc ls st σ p2) : rP I M k kc ks o τ W K pc ls st σ (if c then p1 else p2) := fun hJ r hr => by
  by_cases hc : c
  · rw [if_pos hc] at hr; exact h1 hc hJ r hr
  · rw [if_neg hc] at hr; exact h2 hc hJ r hr
theorem P_g {M : rM} {k kc ks : Nat} {o : Option Value ⊕ String} {τ : rS} {I : rS → Prop} {R : Type} {W : R → rS} {K : R → Prop} {c : Prop} [dc : Decidable c] {pc : Nat} {ls : List (Option Value)} {st : List Value} {σ : rS} {p : Option R} (h : c → rP I M k kc ks o τ W K pc ls st σ p) : rP I M k kc ks o τ W K pc ls st σ (if c then p else none) := fun hJ r hr => by
  by_cases hc : c
  · rw [if_pos hc] at hr; exact h hc hJ r hr
  · rw [if_neg hc] at hr; cases hr
theorem P_ret {M : rM} {k kc ks : Nat} {o : Option Value ⊕ String} {τ : rS} {I : rS → Prop} {T : Type} {t : T → Option Value ⊕ String} {pc : Nat} {ls : List (Option Value)} {st : List Value} {σ : rS} {v : T} (h : ∀ kc ks, rE M k pc ls st σ kc ks (t v) σ) : rP I M k kc ks o τ Prod.snd (K0 t o τ) pc ls st σ (some (v, σ)) := fun hJ r hr => by
  cases hr
  refine ⟨⟨hJ, Nat.le_refl _, Nat.le_refl _⟩, fun _ _ q => ?_⟩
  obtain ⟨rfl, rfl⟩ := q
  exact h _ _
theorem P_thr {M : rM} {k kc ks : Nat} {o : Option Value ⊕ String} {τ : rS} {I : rS → Prop} {T : Type} {t : T → Option Value ⊕ String} {pc : Nat} {ls : List (Option Value)} {st : List Value} {σ : rS} {E : String} (h : ∀ kc ks, rE M k pc ls st σ (kc + 1) (ks + 6) (.inr E) σ) (h1 : 1 ≤ kc) (h2 : 6 ≤ ks) : rP I M k kc ks o τ Prod.snd (K0 (tX t) o τ) pc ls st σ (some (.inr E, σ)) := fun hJ r hr => by
  cases hr
  refine ⟨⟨hJ, Nat.le_refl _, Nat.le_refl _⟩, fun _ _ q => ?_⟩
  obtain ⟨rfl, rfl⟩ := q
  exact E_room (h 0 0) (by omega) (by omega)
theorem P_inl {M : rM} {k kc ks : Nat} {o : Option Value ⊕ String} {τ : rS} {I : rS → Prop} {R : Type} {W : R → rS} {K : R → Prop} {S : Type} {w : S → rS} {Q : S → Prop} {pc : Nat} {ls : List (Option Value)} {st : List Value} {σ : rS} {r : R} (h : rP I M k kc ks o τ W K pc ls st σ (some r)) : rP I M k kc ks o τ (W2 W w) (K2 K Q) pc ls st σ (some (.inl r)) := fun hJ r' hr => by
  cases hr
  exact h hJ r rfl
abbrev QL (M : rM) (k kc ks : Nat) (o : Option Value ⊕ String) (τ : rS) {S : Type} (pc : Nat) (ls : S → List (Option Value)) (st : S → List Value) (w : S → rS) : S → Prop := fun s => rE M k pc (ls s) (st s) (w s) (kc + (uC τ - uC (w s))) (ks + (uS τ - uS (w s))) o τ
theorem P_back {M : rM} {k kc ks : Nat} {o : Option Value ⊕ String} {τ : rS} {I : rS → Prop} {R : Type} {W : R → rS} {K : R → Prop} {S : Type} {w : S → rS} {pc : Nat} {ls : S → List (Option Value)} {st : S → List Value} (s : S) : rP I M k kc ks o τ (W2 W w) (K2 K (QL M k kc ks o τ pc ls st w)) pc (ls s) (st s) (w s) (some (.inr s)) := fun hJ r hr => by
  cases hr
  exact ⟨⟨hJ, Nat.le_refl _, Nat.le_refl _⟩, fun _ _ q => q⟩
theorem P_loop {M : rM} {k kc ks : Nat} {o : Option Value ⊕ String} {τ : rS} {I : rS → Prop} {R : Type} {W : R → rS} {K : R → Prop} {S : Type} {pc : Nat} (ls : S → List (Option Value)) (w : S → rS) {body : S → Option (R ⊕ S)} (hb : ∀ s, rP I M k kc ks o τ (W2 W w) (K2 K (QL M k kc ks o τ pc ls (fun _ => []) w)) pc (ls s) [] (w s) (body s)) (n : Nat) (s : S) : rP I M k kc ks o τ W K pc (ls s) [] (w s) (oLoop body n s) := by
  induction n generalizing s with
  | zero => intro _ r hr; cases hr
  | succ n ih =>
    intro hJ r hr
    simp only [oLoop] at hr
    have hs := hb s hJ
    split at hr
    · cases hr
    · rename_i r' hbs
      cases hr
      exact hs _ hbs
    · rename_i s' hbs
      obtain ⟨⟨h1, h2, h3⟩, h4⟩ := hs _ hbs
      obtain ⟨⟨g1, g2, g3⟩, g4⟩ := ih s' h1 r hr
      have e2 : uC (w s) ≤ uC (w s') := h2
      have e3 : uS (w s) ≤ uS (w s') := h3
      exact ⟨⟨g1, Nat.le_trans e2 g2, Nat.le_trans e3 g3⟩, fun a b c => h4 (Nat.le_trans g2 a) (Nat.le_trans g3 b) (g4 a b c)⟩
theorem P_join {M : rM} {k kc ks : Nat} {o : Option Value ⊕ String} {τ : rS} {I : rS → Prop} {R : Type} {W : R → rS} {K : R → Prop} {S : Type} {pc pc2 : Nat} {ls : List (Option Value)} {st : List Value} {σ : rS} (ls2 : S → List (Option Value)) (st2 : S → List Value) (w : S → rS) {m : Option (R ⊕ S)} {rest : S → Option R} (hm : rP I M k kc ks o τ (W2 W w) (K2 K (QL M k kc ks o τ pc2 ls2 st2 w)) pc ls st σ m) (hr : ∀ s, rP I M k kc ks o τ W K pc2 (ls2 s) (st2 s) (w s) (rest s)) : rP I M k kc ks o τ W K pc ls st σ (oJoin m rest) := by
  intro hJ r hq
  rcases m with _ | (r' | s')
  · cases hq
  · cases hq
    exact hm hJ _ rfl
  · obtain ⟨⟨h1, h2, h3⟩, h4⟩ := hm hJ _ rfl
    have hq : rest s' = some r := hq
    obtain ⟨⟨g1, g2, g3⟩, g4⟩ := hr s' h1 r hq
    have e2 : uC σ ≤ uC (w s') := h2
    have e3 : uS σ ≤ uS (w s') := h3
    exact ⟨⟨g1, Nat.le_trans e2 g2, Nat.le_trans e3 g3⟩, fun a b c => h4 (Nat.le_trans g2 a) (Nat.le_trans g3 b) (g4 a b c)⟩
/-- a call -/
def oB {T R : Type} (f : Option (T × rS)) (g : T → rS → Option R) : Option R := f.bind fun r => g r.1 r.2
theorem P_call {M : rM} {k kc ks kc2 ks2 : Nat} {o : Option Value ⊕ String} {τ : rS} {I : rS → Prop} {R : Type} {W : R → rS} {K : R → Prop} {T : Type} {t : T → Option Value} {y : MethodName} {M2 : rM} {k2 m s : Nat} {as : List Value} {f : Option (T × rS)} {rest : T → rS → Option R} {pc pc2 : Nat} {ls : List (Option Value)} {st : List Value} {st2 : T → List Value} {σ : rS} (hF : J I σ → rFn I y M2 k2 as σ m s (fun v => .inl (t v)) f) (hE : J I σ → ∀ kc ks mc ms v τ1, rMet y M2 k2 as σ mc ms (t v) τ1 → rE M k pc2 ls (st2 v) τ1 kc ks o τ → rE M k pc ls st σ (kc + mc) (ks + ms) o τ) (hm : kc2 + m ≤ kc) (hs : ks2 + s ≤ ks) (kk : ∀ v τ1, rP I M k kc2 ks2 o τ W K pc2 ls (st2 v) τ1 (rest v τ1)) : rP I M k kc ks o τ W K pc ls st σ (oB f rest) := by
  intro hJ r hr
  obtain ⟨⟨v, τ1⟩, hf, hr2⟩ := Option.bind_eq_some_iff.mp hr
  obtain ⟨⟨h1, h2, h3⟩, h4⟩ := hF hJ hJ v τ1 hf
  obtain ⟨⟨g1, g2, g3⟩, g4⟩ := kk v τ1 h1 r hr2
  refine ⟨⟨g1, Nat.le_trans h2 g2, Nat.le_trans h3 g3⟩, fun a b c => ?_⟩
  have h5 := hE hJ _ _ _ _ v τ1 h4 (g4 a b c)
  exact E_room h5 (by omega) (by omega)
def oBx {T T2 : Type} (f : Option ((T2 ⊕ String) × rS)) (rest : T2 → rS → Option ((T ⊕ String) × rS)) : Option ((T ⊕ String) × rS) := f.bind fun r => match r with
  | (.inl v, τ) => rest v τ
  | (.inr e, τ) => some (.inr e, τ)
theorem P_callx {M : rM} {k kc ks kc2 ks2 : Nat} {o : Option Value ⊕ String} {τ : rS} {I : rS → Prop} {T : Type} {t : T → Option Value ⊕ String} {T2 : Type} {t2 : T2 → Option Value} {y : MethodName} {M2 : rM} {k2 m s : Nat} {as : List Value} {f : Option ((T2 ⊕ String) × rS)} {rest : T2 → rS → Option ((T ⊕ String) × rS)} {pc pc2 : Nat} {ls : List (Option Value)} {st : List Value} {st2 : T2 → List Value} {σ : rS} (hF : J I σ → rFn I y M2 k2 as σ m s (tX fun v => .inl (t2 v)) f) (hE : J I σ → ∀ kc ks mc ms v τ1, rMet y M2 k2 as σ mc ms (t2 v) τ1 → rE M k pc2 ls (st2 v) τ1 kc ks o τ → rE M k pc ls st σ (kc + mc) (ks + ms) o τ) (hEx : J I σ → ∀ kc ks mc ms E τ1, rMetX y M2 k2 as σ mc ms E τ1 → rE M k pc ls st σ (kc + mc) (ks + ms) (.inr E) τ1) (hm : kc2 + m ≤ kc) (hs : ks2 + s ≤ ks) (kk : ∀ v τ1, rP I M k kc2 ks2 o τ Prod.snd (K0 (tX t) o τ) pc2 ls (st2 v) τ1 (rest v τ1)) : rP I M k kc ks o τ Prod.snd (K0 (tX t) o τ) pc ls st σ (oBx f rest) := by
  intro hJ r hr
  obtain ⟨⟨v, τ1⟩, hf, hr2⟩ := Option.bind_eq_some_iff.mp hr
  obtain ⟨⟨h1, h2, h3⟩, h4⟩ := hF hJ hJ v τ1 hf
  cases v with
  | inl v =>
    obtain ⟨⟨g1, g2, g3⟩, g4⟩ := kk v τ1 h1 r hr2
    refine ⟨⟨g1, Nat.le_trans h2 g2, Nat.le_trans h3 g3⟩, fun a b c => ?_⟩
    have h5 := hE hJ _ _ _ _ v τ1 h4 (g4 a b c)
    exact E_room h5 (by omega) (by omega)
  | inr e =>
    cases hr2
    refine ⟨⟨h1, h2, h3⟩, fun a b c => ?_⟩
    obtain ⟨c1, c2⟩ := c
    have c1' : (Sum.inr e : Option Value ⊕ String) = o := c1
    have c2' : τ1 = τ := c2
    subst c1'; subst c2'
    exact E_room (hEx hJ kc2 ks2 _ _ e τ1 h4) (by omega) (by omega)
/-- a method that only reads -/
def rFr (I : rS → Prop) (y : MethodName) (M : rM) (k : Nat) (as : List Value) (σ : rS) {T : Type} (t : T → Option Value) (p : Option T) : Prop :=
  J I σ → ∀ v, p = some v → rMet y M k as σ 0 0 (t v) σ
theorem rFr_of {I : rS → Prop} {y : MethodName} {M : rM} {k n : Nat} {as : List Value} {ls : List (Option Value)} {σ : rS} {T : Type} {t : T → Option Value} {p : Option T} (hy : rYn y M n) (hls : rEn M.2.2.1 as = ls) (hsz : (rEnt as).length ≤ M.2.2.1) (h : ∀ o τ, rP I M k 0 0 o τ (fun _ => σ) (fun r => (.inl (t r) : Option Value ⊕ String) = o ∧ σ = τ) 0 ls [] σ p) : rFr I y M k as σ t p := fun hJ v hp => by
  obtain ⟨h1, h2⟩ := h (.inl (t v)) σ hJ v hp
  have h3 := h2 (Nat.le_refl _) (Nat.le_refl _) ⟨rfl, rfl⟩
  rw [Nat.sub_self, Nat.sub_self] at h3
  exact rMet_of hy hls hsz h3
theorem P_retr {M : rM} {k kc ks : Nat} {o : Option Value ⊕ String} {τ : rS} {I : rS → Prop} {T : Type} {t : T → Option Value} {pc : Nat} {ls : List (Option Value)} {st : List Value} {σ : rS} {v : T} (h : ∀ kc ks, rE M k pc ls st σ kc ks (.inl (t v)) σ) : rP I M k kc ks o τ (fun _ => σ) (fun r => (.inl (t r) : Option Value ⊕ String) = o ∧ σ = τ) pc ls st σ (some v) := fun hJ r hr => by
  cases hr
  refine ⟨⟨hJ, Nat.le_refl _, Nat.le_refl _⟩, fun _ _ q => ?_⟩
  obtain ⟨rfl, rfl⟩ := q
  exact h _ _
theorem P_callr {M : rM} {k kc ks : Nat} {o : Option Value ⊕ String} {τ : rS} {I : rS → Prop} {R : Type} {W : R → rS} {K : R → Prop} {T : Type} {t : T → Option Value} {y : MethodName} {M2 : rM} {k2 : Nat} {as : List Value} {f : Option T} {rest : T → Option R} {pc pc2 : Nat} {ls : List (Option Value)} {st : List Value} {st2 : T → List Value} {σ : rS} (hF : J I σ → rFr I y M2 k2 as σ t f) (hE : J I σ → ∀ kc ks v, rMet y M2 k2 as σ 0 0 (t v) σ → rE M k pc2 ls (st2 v) σ kc ks o τ → rE M k pc ls st σ kc ks o τ) (kk : ∀ v, rP I M k kc ks o τ W K pc2 ls (st2 v) σ (rest v)) : rP I M k kc ks o τ W K pc ls st σ (f.bind rest) := by
  intro hJ r hr
  obtain ⟨v, hf, hr2⟩ := Option.bind_eq_some_iff.mp hr
  obtain ⟨g1, g4⟩ := kk v hJ r hr2
  exact ⟨g1, fun a b c => hE hJ _ _ v (hF hJ hJ v hf) (g4 a b c)⟩
theorem P_J {M : rM} {k kc ks : Nat} {o : Option Value ⊕ String} {τ : rS} {I : rS → Prop} {R : Type} {W : R → rS} {K : R → Prop} {pc : Nat} {ls : List (Option Value)} {st : List Value} {σ : rS} {p : Option R} (h : J I σ → rP I M k kc ks o τ W K pc ls st σ p) : rP I M k kc ks o τ W K pc ls st σ p := fun hJ => h hJ hJ
def oFuel : Nat := 100000
/-- places that are not used any more -/
abbrev rLe : List (Option Value) → List (Option Value) → Prop
  | [], _ => True
  | none :: a, _ :: b => rLe a b
  | some x :: a, y :: b => some x = y ∧ rLe a b
  | none :: a, [] => rLe a []
  | some _ :: _, [] => False
theorem rLe_at : ∀ (a b : List (Option Value)), rLe a b → ∀ (i : Nat) (v : Value), a[i]? = some (some v) → b[i]? = some (some v)
  | [], _, _, i, v, h => by simp at h
  | none :: a, _ :: b, hl, i, v, h => by
    cases i with
    | zero => simp at h
    | succ i => exact rLe_at a b hl i v h
  | some x :: a, y :: b, hl, i, v, h => by
    cases i with
    | zero => rw [← hl.1]; exact h
    | succ i => exact rLe_at a b hl.2 i v h
  | none :: a, [], hl, i, v, h => by
    cases i with
    | zero => simp at h
    | succ i => exact absurd (rLe_at a [] hl i v h) (by simp)
  | some _ :: _, [], hl, i, v, h => hl.elim
theorem P_less {M : rM} {k kc ks : Nat} {o : Option Value ⊕ String} {τ : rS} {I : rS → Prop} {R : Type} {W : R → rS} {K : R → Prop} {pc : Nat} {ls : List (Option Value)} (ls2 : List (Option Value)) {st : List Value} {σ : rS} {p : Option R} (h : rLe ls2 ls) (kk : rP I M k kc ks o τ W K pc ls2 st σ p) : rP I M k kc ks o τ W K pc ls st σ p := P_l (fun _ _ _ q => E_less q (rLe_at _ _ h)) kk
/-- numbers of switches -/
theorem sw_ne {x y : Int32} (h : ¬ x = y) : x.toInt ≠ y.toInt := fun q => h (Int32.toInt_inj.mp q)
/-- throws of the class -/
theorem xt_ok {ic : Nat} {cls : String} {names : List String} {M : rM} {k pc : Nat} {ls : List (Option Value)} {st : List Value} {σ : rS} {ik : Nat} (hM : M.1 = RX10) (hcls : Bundle.fit cls = true) (hnames : ∀ n ∈ names, Bundle.fit n = true) (hln : Cond.classLink RX10 ik cls ∈ rWd) (hini : Cond.initialized cls ∈ rWd) (hat : ∀ w ∈ vx_at0 RX10 ic cls names, w ∈ rWd ∨ w ∈ rNw) (hgood : ∀ w ∈ Cond.classLink RX10 ik cls :: Cond.initialized cls :: vx_at0 RX10 ic cls names, vx_ot w = true) (hnm : names.length ≤ 2) (htab : M.2.2.2.2.2 = []) (hk : 6 ≤ k) (hst : (st.map fun v => v.category).sum ≤ 8)
    (d0 : decode M.2.1 pc = .ok (.new ik, 3)) (d3 : decode M.2.1 (pc + 3) = .ok (.dup, 1)) (d4 : decode M.2.1 (pc + 4) = .ok (.invokespecial ic, 3)) (d7 : decode M.2.1 (pc + 7) = .ok (.athrow, 1)) (kc ks : Nat) : rE M k pc ls st σ (kc + 1) (ks + 6) (.inr cls) σ := by
  rw [← hM] at hln hat hgood
  exact E_throw0 hcls hnames hln hini hat hgood htab hk hnm hst d0 d3 d4 d7
