/-! a notation played -/
theorem psT_len {m : Mem} {wr hh : Nat} : ∀ d i l, i ≤ wr → psT m wr hh d i = some l → i + l.length ≤ wr := by
  intro d
  induction d with
  | zero => intro i l hi h; cases h; exact hi
  | succ d ih =>
    intro i l hi h
    unfold psT at h
    by_cases c : wr ≤ i
    · rw [if_pos c] at h; cases h; exact hi
    · rw [if_neg c] at h
      cases hp : psS m wr hh i with
      | none => rw [hp] at h; cases h
      | some p =>
        obtain ⟨c', k, i'⟩ := p
        rw [hp] at h
        obtain ⟨l2, e1, rfl⟩ := Option.map_eq_some_iff.mp h
        have h1 := ih i' l2 (psS_le (by omega) hp) e1
        have h2 := psS_gt hp
        rw [List.length_cons]
        omega
theorem psT_ok {m : Mem} {wr hh : Nat} (h13 : hh ≤ 13) : ∀ d i l, psT m wr hh d i = some l → ∀ x ∈ l, 1 ≤ x.1 ∧ x.1 ≤ 6 ∧ x.2 < 52 ∧ (x.1 ≤ 3 → x.2 % 13 < hh) := by
  intro d
  induction d with
  | zero => intro i l h; cases h; exact fun x hx => absurd hx List.not_mem_nil
  | succ d ih =>
    intro i l h
    unfold psT at h
    by_cases c : wr ≤ i
    · rw [if_pos c] at h; cases h; exact fun x hx => absurd hx List.not_mem_nil
    · rw [if_neg c] at h
      cases hp : psS m wr hh i with
      | none => rw [hp] at h; cases h
      | some p =>
        obtain ⟨c', k, i'⟩ := p
        rw [hp] at h
        obtain ⟨l2, e1, rfl⟩ := Option.map_eq_some_iff.mp h
        intro x hx
        rcases List.mem_cons.mp hx with rfl | hx
        · exact psS_ok h13 hp
        · exact ih i' l2 e1 x hx
/-- the moves that both have read -/
def PyF (m : Mem) (ms : List (Nat × Nat)) : Prop := (m 67 200 = nI ms.length ∧ ∀ i d, ms[i]? = some d → m 133 i = nI d.1 ∧ (d.1 ≤ 3 → m 134 i = nI d.2)) ∧ m 67 37 = nI ms.length ∧ ∀ i d, ms[i]? = some d → m 87 i = leS d.1 ∧ (d.1 ≤ 3 → m 88 i = nI d.2)
theorem PyF_cg {m m' : Mem} {ms : List (Nat × Nat)} (H : PyF m ms) (h : ∀ x k, (x = 86 ∨ x = 87 ∨ x = 88 ∨ x = 133 ∨ x = 134 ∨ (x = 67 ∧ (k = 37 ∨ k = 200))) → m' x k = m x k) : PyF m' ms := by
  obtain ⟨⟨a1, a2⟩, b1, b2⟩ := H
  refine ⟨⟨by rw [h _ _ (by omega)]; exact a1, fun i d hi => ?_⟩, by rw [h _ _ (by omega)]; exact b1, fun i d hi => ?_⟩
  · rw [h _ _ (by omega), h _ _ (by omega)]; exact a2 i d hi
  · rw [h _ _ (by omega), h _ _ (by omega)]; exact b2 i d hi
/-- what a play leaves, on the class's side and on the reference's -/
def PyC (i d : Nat) (j : Nat) (B : Bd) (E : List Ent) (dl : Option (Nat × Nat × Nat)) (m : Mem) (l : Nat → Int64) (B' : Bd) (E' : List Ent) (m' : Mem) (l' : Nat → Int64) (hh L : Nat) : Prop := ∀ σ ch N, CI σ B E dl m l ch → KcI σ B m hh L ch → ch + 300 * (d + 1) < 2000000000 → d < N → ∃ τ c2, oLoop b_X10_play_28 N (nI i, σ) = some (.inl (nI j), τ) ∧ CI τ B' E' dl m' l' c2 ∧ FrCl σ τ ∧ ch ≤ c2 ∧ c2 ≤ ch + 300 * d ∧ KcI τ B' m' hh L c2
theorem py0 (ch d : Nat) : ch + 300 * (d + 1) = ch + 300 + 300 * d := by rw [Nat.mul_succ, Nat.add_comm (300 * d) 300, ← Nat.add_assoc]
theorem py1 {ch c2 d : Nat} (h : c2 ≤ ch + 300) : c2 ≤ ch + 300 * (d + 1) := by
  rw [py0]
  exact Nat.le_trans h (Nat.le_add_right _ _)
theorem py2 {ch c2 d : Nat} (h : c2 ≤ ch + 300) (g : ch + 300 * (d + 1 + 1) < 2000000000) : c2 + 300 * (d + 1) < 2000000000 := by
  rw [py0] at g
  exact Nat.lt_of_le_of_lt (Nat.add_le_add_right h _) g
theorem py3 {ch d : Nat} (g : ch + 300 * (d + 1 + 1) < 2000000000) : ch + 300 < 2 ^ 31 := by
  rw [py0] at g
  exact Nat.lt_of_le_of_lt (Nat.le_add_right _ _) (Nat.lt_trans g (by decide))
theorem py4 {ch c2 c3 d : Nat} (h : c2 ≤ ch + 300) (g : c3 ≤ c2 + 300 * d) : c3 ≤ ch + 300 * (d + 1) := by
  rw [py0]
  exact Nat.le_trans g (Nat.add_le_add_right h _)
