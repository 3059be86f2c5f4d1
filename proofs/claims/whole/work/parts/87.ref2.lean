/-! the reference: codes and options -/
def shT (i : Nat) : Nat := [0, 0, 0, 0, 0, 1, 1, 1, 1, 2, 2, 2, 3, 3, 4, 0].getD i 0
def loT (i : Nat) : Nat := [0, 1, 2, 3, 4, 1, 2, 3, 4, 2, 3, 4, 3, 4, 4, 0].getD i 0
def prM (s g : Nat) : Nat := 4 + g + [0, 0, 3, 5, 6].getD s 0
theorem pr_fact {s g : Nat} (h1 : 1 ≤ s) (h2 : s ≤ g) (h3 : g ≤ 4) : 5 ≤ prM s g ∧ prM s g < 15 ∧ shT (prM s g) = s ∧ loT (prM s g) = g ∧ ∀ j, j < prM s g → 5 ≤ j → ¬ (shT j = s ∧ loT j = g) := by
  have h : ∀ g ∈ List.range 5, ∀ s ∈ List.range 5, 1 ≤ s → s ≤ g → 5 ≤ prM s g ∧ prM s g < 15 ∧ shT (prM s g) = s ∧ loT (prM s g) = g ∧ ∀ j ∈ List.range (prM s g), 5 ≤ j → ¬ (shT j = s ∧ loT j = g) := by decide +kernel
  have := h g (List.mem_range.mpr (by omega)) s (List.mem_range.mpr (by omega)) h1 h2
  exact ⟨this.1, this.2.1, this.2.2.1, this.2.2.2.1, fun j hj => this.2.2.2.2 j (List.mem_range.mpr hj)⟩
theorem tT_le (i : Nat) : shT i ≤ 4 ∧ loT i ≤ 4 := by
  by_cases h : i < 16
  · have q : ∀ i ∈ List.range 16, shT i ≤ 4 ∧ loT i ≤ 4 := by decide
    exact q i (List.mem_range.mpr h)
  · have e1 : shT i = 0 := by
      unfold shT
      rw [List.getD_eq_getElem?_getD, List.getElem?_eq_none (by simp; omega)]; rfl
    have e2 : loT i = 0 := by
      unfold loT
      rw [List.getD_eq_getElem?_getD, List.getElem?_eq_none (by simp; omega)]; rfl
    omega
/-- the code of two open runs -/
def codeM (L a b : Nat) (u : Bool) : Nat := if min a b = 0 then max a b else if min a b = L ∧ u = true then 15 else prM (min a b) (max a b)
/-- the constant rows of the reference -/
def ShM (σ : rS) (L : Nat) : Prop := rI σ 67 2 = nI L ∧ (L = 3 ∨ L = 4) ∧ ∀ i, i < 16 → rI σ 89 i = nI (shT i) ∧ rI σ 90 i = nI (loT i)
theorem code_eq {σ : rS} {L a b : Nat} (H : ShM σ L) (ha : a ≤ 4) (hb : b ≤ 4) (u : Bool) {w : Int32} (hw : w = if u then 1 else 0) : f_X11_code σ (nI a) (nI b) w = some (nI (codeM L a b u)) := by
  obtain ⟨h1, h2, h3⟩ := H
  unfold f_X11_code codeM
  have e1 : (if nI b ≤ nI a then nI b else nI a) = nI (min a b) := by
    by_cases q : b ≤ a
    · rw [if_pos ((nI_leI (by omega) (by omega)).mpr q)]; congr 1; omega
    · rw [if_neg (fun z => q ((nI_leI (by omega) (by omega)).mp z))]; congr 1; omega
  have e2 : (if nI b ≤ nI a then nI a else nI b) = nI (max a b) := by
    by_cases q : b ≤ a
    · rw [if_pos ((nI_leI (by omega) (by omega)).mpr q)]; congr 1; omega
    · rw [if_neg (fun z => q ((nI_leI (by omega) (by omega)).mp z))]; congr 1; omega
  simp only [oLet_eq]
  rw [e1, e2, h1]
  have e3 : (nI (min a b) = 0) = (min a b = 0) := propext (nI_eq (b := 0) (by omega) (by omega))
  have e4 : (nI (min a b) = nI L) = (min a b = L) := propext (nI_eq (by omega) (by omega))
  simp only [e3, e4]
  by_cases c1 : min a b = 0
  · rw [if_pos c1, if_pos c1]
  · rw [if_neg c1, if_neg c1]
    have pf := pr_fact (s := min a b) (g := max a b) (by omega) (by omega) (by omega)
    by_cases c2 : min a b = L ∧ u = true
    · have hw1 : ¬ w = 0 := by rw [hw, c2.2]; decide
      rw [if_pos c2, if_neg (by rw [if_pos c2.1, if_neg hw1]; exact Bool.false_ne_true)]
      rfl
    · rw [if_neg c2, if_pos (by
        by_cases c3 : min a b = L
        · have hu : u = false := by cases u with
            | false => rfl
            | true => exact absurd ⟨c3, rfl⟩ c2
          have hw0 : w = 0 := by rw [hw, hu]; rfl
          rw [if_pos c3, if_pos hw0]
        · rw [if_neg c3])]
      obtain ⟨p1, p2, p3, p4, p5⟩ := pf
      refine oL_up (N := prM (min a b) (max a b)) (fun k => nI k) 5 p1 (fun k hk1 hk2 => ?_) ?_ (by have : oFuel = 100000 := rfl; omega)
      · have hk := p5 k hk2 hk1
        obtain ⟨q1, q2⟩ := h3 k (by omega)
        obtain ⟨t1, t2⟩ := tT_le k
        unfold b_X11_code_51
        rw [if_pos (inB_nI (by decide) (by omega)), nI_clamp (by omega), q1]
        have e5 : (nI (shT k) = nI (min a b)) = (shT k = min a b) := propext (nI_eq (by omega) (by omega))
        simp only [e5]
        by_cases c3 : shT k = min a b
        · rw [if_pos c3, oJ_inr, if_pos (inB_nI (by decide) (by omega)), nI_clamp (by omega), q2]
          have e6 : ¬ nI (loT k) = nI (max a b) := fun z => hk ⟨c3, nI_inj (by omega) (by omega) z⟩
          rw [if_neg e6, nI_1]
        · rw [if_neg c3, nI_1]
          rfl
      · obtain ⟨q1, q2⟩ := h3 (prM (min a b) (max a b)) (by omega)
        unfold b_X11_code_51
        rw [if_pos (inB_nI (by decide) (by omega)), nI_clamp (by omega), q1, p3, if_pos rfl, oJ_inr, if_pos (inB_nI (by decide) (by omega)), nI_clamp (by omega), q2, p4, if_pos rfl]
/-- the options that are laid out -/
def OpM (σ : rS) (os : List (Nat × Nat)) : Prop := rI σ 67 65 = nI os.length ∧ ∀ i o, os[i]? = some o → rI σ 110 i = nI o.1 ∧ rI σ 111 i = nI o.2
def FrQ (σ τ : rS) : Prop := rK τ = rK σ ∧ rR τ = rR σ ∧ rN τ = rN σ ∧ rL τ = rL σ ∧ ∀ x j, x ≠ 110 → x ≠ 111 → (x = 67 → j ≠ 65) → rI τ x j = rI σ x j
theorem FrQ.rf (σ : rS) : FrQ σ σ := ⟨rfl, rfl, rfl, rfl, fun _ _ _ _ _ => rfl⟩
theorem FrQ.tr {σ τ υ : rS} (h : FrQ σ τ) (g : FrQ τ υ) : FrQ σ υ := ⟨g.1.trans h.1, g.2.1.trans h.2.1, g.2.2.1.trans h.2.2.1, g.2.2.2.1.trans h.2.2.2.1, fun x j a b c => (g.2.2.2.2 x j a b c).trans (h.2.2.2.2 x j a b c)⟩
theorem ShM.fr {σ τ : rS} {L : Nat} (H : ShM σ L) (f : FrQ σ τ) : ShM τ L := by
  have g := f.2.2.2.2
  exact ⟨(g 67 2 (by decide) (by decide) (fun _ => by decide)).trans H.1, H.2.1, fun i hi => ⟨(g 89 i (by decide) (by decide) (fun q => absurd q (by decide))).trans (H.2.2 i hi).1, (g 90 i (by decide) (by decide) (fun q => absurd q (by decide))).trans (H.2.2 i hi).2⟩⟩
theorem option_eq {σ : rS} {os : List (Nat × Nat)} (H : OpM σ os) (hl : os.length < 64) (x y : Nat) : ∃ τ, f_X11_option σ (nI x) (nI y) = some ((), τ) ∧ OpM τ (os ++ [(x, y)]) ∧ FrQ σ τ := by
  obtain ⟨h1, h2⟩ := H
  have r1 : rI (wI σ 110 os.length (nI x)) 67 65 = nI os.length := by rw [q_II, if_neg (fun q => absurd q.1 (by decide))]; exact h1
  have r2 : rI (wI (wI σ 110 os.length (nI x)) 111 os.length (nI y)) 67 65 = nI os.length := by rw [q_II, if_neg (fun q => absurd q.1 (by decide))]; exact r1
  unfold f_X11_option
  rw [h1, if_pos (inB_nI (by decide) hl), nI_clamp (by omega)]
  simp only [oLet_eq]
  rw [r1, if_pos (inB_nI (by decide) hl), nI_clamp (by omega), r2, nI_1]
  refine ⟨_, rfl, ⟨?_, fun i o hi => ?_⟩, rfl, rfl, rfl, rfl, fun z j y1 y2 y3 => ?_⟩
  · rw [q_II, if_pos ⟨rfl, rfl⟩, List.length_append]; rfl
  · rw [q_II, if_neg (fun q => absurd q.1 (by decide)), q_II, if_neg (c := (110 : Nat) = 111 ∧ _) (fun q => absurd q.1 (by decide)), q_II, q_II, if_neg (c := (111 : Nat) = 67 ∧ _) (fun q => absurd q.1 (by decide)), q_II]
    by_cases hil : i < os.length
    · rw [List.getElem?_append_left hil] at hi
      have hne : ¬ i = os.length := by omega
      rw [if_neg (fun q => hne q.2), if_neg (fun q => hne q.2), q_II, if_neg (fun q => absurd q.1 (by decide))]
      exact h2 i o hi
    · rw [List.getElem?_append_right (by omega)] at hi
      have hi0 : i = os.length := by
        have := (List.getElem?_eq_some_iff.mp hi).1
        simp at this; omega
      subst hi0
      simp only [Nat.sub_self, List.getElem?_cons_zero, Option.some.injEq] at hi
      subst hi
      rw [if_pos ⟨rfl, rfl⟩, if_pos ⟨rfl, rfl⟩]
      exact ⟨rfl, rfl⟩
  · rw [q_II, if_neg (fun q => y3 q.1 q.2), q_II, if_neg (fun q => y2 q.1), q_II, if_neg (fun q => y1 q.1)]
