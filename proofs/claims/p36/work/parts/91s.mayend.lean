/-! what was laid in a turn -/
def lcB : List (Nat × Nat) → Nat → Nat
  | [], _ => 0
  | d :: l, k => (if d.2 = k then 1 else 0) + lcB l k
theorem lcB_app (l l' : List (Nat × Nat)) (k : Nat) : lcB (l ++ l') k = lcB l k + lcB l' k := by
  induction l with
  | nil => exact (Nat.zero_add _).symm
  | cons d l ih =>
    show (if d.2 = k then 1 else 0) + lcB (l ++ l') k = (if d.2 = k then 1 else 0) + lcB l k + lcB l' k
    rw [ih, Nat.add_assoc]
theorem apB_TJ {p : Nat} {B : Bd} {d : Nat × Nat} (v : vaB p B d) (h3 : d.1 ≠ 3) (k : Nat) : bT (apB p B d) k + bJ (apB p B d) k = bT B k + bJ B k + if d.2 = k then 1 else 0 := by
  obtain ⟨h, j⟩ := d
  obtain ⟨hk, hp, hl, v⟩ := v
  have a : ∀ f : Nat → Nat, up1 f j (f j + 1) k = f k + if j = k then 1 else 0 := fun f => by
    rw [up1_at]
    by_cases e : k = j
    · rw [if_pos e, if_pos e.symm, e]
    · rw [if_neg e, if_neg (fun z => e z.symm), Nat.add_zero]
  rcases v with ⟨e, -⟩ | ⟨e, -⟩ | ⟨e, -⟩ | ⟨e, -⟩
  · have e : h = 0 := e
    subst e
    rw [apB_0]
    show up1 (bT B) j (bT B j + 1) k + bJ B k = bT B k + bJ B k + if j = k then 1 else 0
    rw [a]; omega
  · have e : h = 1 := e
    subst e
    rw [apB_1]
    show bT B k + up1 (bJ B) j (bJ B j + 1) k = bT B k + bJ B k + if j = k then 1 else 0
    rw [a]; omega
  · have e : h = 2 := e
    subst e
    rw [apB_2]
    show bT B k + up1 (bJ B) j (bJ B j + 1) k = bT B k + bJ B k + if j = k then 1 else 0
    rw [a]; omega
  · exact absurd e h3
theorem runB_TJ {p : Nat} : ∀ {B : Bd} (l : List (Nat × Nat)), okB p B l → (∀ d ∈ l, d.1 ≠ 3) → ∀ k, bT (runB p B l) k + bJ (runB p B l) k = bT B k + bJ B k + lcB l k
  | B, [], _, _, k => rfl
  | B, d :: l, ok, h3, k => by
    have ih := runB_TJ (B := apB p B d) l ok.2 (fun e he => h3 e (List.mem_cons_of_mem _ he)) k
    have a := apB_TJ ok.1 (h3 d List.mem_cons_self) k
    show bT (runB p (apB p B d) l) k + bJ (runB p (apB p B d) l) k = bT B k + bJ B k + ((if d.2 = k then 1 else 0) + lcB l k)
    omega
theorem okB_mem {p : Nat} : ∀ {B : Bd} {l : List (Nat × Nat)}, okB p B l → ∀ d ∈ l, d.1 ≤ 3 ∧ d.2 < 52
  | B, [], _, d, h => by cases h
  | B, e :: l, ok, d, h => by
    rcases List.mem_cons.mp h with rfl | h
    · refine ⟨?_, ok.1.1⟩
      rcases ok.1.2.2.2 with ⟨e, -⟩ | ⟨e, -⟩ | ⟨e, -⟩ | ⟨e, -⟩ <;> omega
    · exact okB_mem ok.2 d h
theorem lcB_52 {l : List (Nat × Nat)} (h : ∀ d ∈ l, d.2 < 52) {k : Nat} (hk : 52 ≤ k) : lcB l k = 0 := by
  induction l with
  | nil => rfl
  | cons d l ih =>
    have := h d List.mem_cons_self
    show (if d.2 = k then 1 else 0) + lcB l k = 0
    rw [if_neg (by omega), ih fun e he => h e (List.mem_cons_of_mem _ he)]
theorem take_lc {D : List (Nat × Nat)} {i : Nat} {d : Nat × Nat} (h : D[i]? = some d) (k : Nat) : lcB (D.take (i + 1)) k = lcB (D.take i) k + if d.2 = k then 1 else 0 := by
  rw [take_sn h, lcB_app]
  rfl
theorem lc_take (D : List (Nat × Nat)) (i k : Nat) : lcB (D.take i) k ≤ lcB D k := by
  have := lcB_app (D.take i) (D.drop i) k
  rw [List.take_append_drop] at this
  omega
theorem takeLaid_eq {σ : rS} {B : Bd} {E : List Ent} {dl : Option (Nat × Nat × Nat)} {m : Mem} {l : Nat → Int64} {ch : Nat} (C : CI σ B E dl m l ch) (hl : (bD B).length ≤ 64) (hd : ∀ d ∈ bD B, d.1 ≤ 3 ∧ d.2 < 52) (h2 : ∀ k, lcB (bD B) k ≤ 2) : ∃ τ, f_X10_takeLaid σ = some ((), τ) ∧ CI τ B E dl m l ch ∧ LoS τ (lcB (bD B)) (lcB (bD B)) ∧ FrX W48 σ τ := by
  obtain ⟨σ1, a1, a2, a3⟩ := sclear_eq σ
  obtain ⟨x, b1, b2⟩ := oL_ix (body := b_X10_takeLaid_9) (fun k s => s.1 = nI k ∧ LoF s.2 (lcB ((bD B).take k)) (lcB ((bD B).take k)) ∧ FrX W48 σ s.2) (N := (bD B).length) (fun x => ∃ τ, x = ((), τ) ∧ LoF τ (lcB (bD B)) (lcB (bD B)) ∧ FrX W48 σ τ) (by
      intro k s hk ⟨e, A, Fr⟩
      obtain ⟨s1, σ'⟩ := s
      dsimp only at e A Fr
      subst e
      have C' := CI_48 C Fr
      obtain ⟨d, hkd⟩ : ∃ d, (bD B)[k]? = some d := ⟨_, List.getElem?_eq_getElem hk⟩
      have e6 := C'.1.2.2.2.2.2.1.2 k d hkd
      have hm := hd d (List.mem_of_getElem? hkd)
      obtain ⟨k1, -⟩ := dn_kind (h := d.1) (k := d.2) (by omega) hm.1
      have t1 := take_lc hkd d.2
      rw [if_pos rfl] at t1
      have t2 := lc_take (bD B) (k + 1) d.2
      have t3 := h2 d.2
      obtain ⟨τ, c1, c2, c3⟩ := sadd_eq A (k := d.2) (x := 1) hm.2 (by omega)
      have up : ∀ i, up1 (lcB ((bD B).take k)) d.2 (lcB ((bD B).take k) d.2 + 1) i = lcB ((bD B).take (k + 1)) i := fun i => by
        rw [up1_at, take_lc hkd i]
        by_cases c : i = d.2
        · rw [if_pos c, if_pos c.symm, c]
        · rw [if_neg c, if_neg (fun z => c z.symm), Nat.add_zero]
      refine ⟨(nI (k + 1), τ), ?_, rfl, ⟨fun i hi => (c2.1 i hi).trans (congrArg nI (up i)), fun i hi => (c2.2 i hi).trans (congrArg nI (up i))⟩, Fr.tr c3⟩
      have ek : v_X1_doneKind σ' 5 (nI k) = nI d.2 := by
        unfold v_X1_doneKind
        rw [vAt_nI (by decide) (by omega), e6, k1]
      have c1 : f_X9_add σ' (nI d.2) 1 = some ((), τ) := c1
      unfold b_X10_takeLaid_9
      dsimp only
      rw [C'.1.2.2.2.2.2.1.1, if_neg (show ¬ nI (bD B).length ≤ nI k from fun z => by have := (nI_leI (by omega) (by omega)).mp z; omega), ek, c1, oB_some, nI_1])
    (by
      intro s ⟨e, A, Fr⟩
      obtain ⟨s1, σ'⟩ := s
      dsimp only at e A Fr
      subst e
      have C' := CI_48 C Fr
      rw [List.take_of_length_le (Nat.le_refl _)] at A
      exact ⟨_, by unfold b_X10_takeLaid_9; rw [C'.1.2.2.2.2.2.1.1, if_pos (show nI (bD B).length ≤ nI (bD B).length from (nI_leI (by omega) (by omega)).mpr (Nat.le_refl _))], σ', rfl, A, Fr⟩)
    (n := oFuel) (by rw [oFuel_eq]; omega) (s := (0, σ1)) ⟨rfl, a2, a3⟩
  obtain ⟨τ, rfl, A, Fr⟩ := b2
  refine ⟨τ, ?_, CI_48 C Fr, ⟨A.1, A.2, fun k => ⟨h2 k, h2 k, Nat.le_refl _⟩⟩, Fr⟩
  unfold f_X10_takeLaid
  rw [a1, oB_some]
  exact b1
