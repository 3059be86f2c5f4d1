/-! the signs read as moves -/
def soC (c : Int32) : Nat := if c = 108 then 1 else if c = 106 then 2 else 3
/-- one move read at a sign: its sort, its kind, where the next begins -/
def psS (m : Mem) (wr hh i : Nat) : Option (Nat × Nat × Nat) :=
  if m 86 i = 108 ∨ m 86 i = 106 ∨ m 86 i = 115 then
    (if i + 2 < wr ∧ ¬ vIn (m 86 (i + 1) - 97) 0 3 = 0 ∧ ¬ vIn (m 86 (i + 2) - 48) 1 9 = 0 then
      (if i + 3 < wr ∧ ¬ vIn (m 86 (i + 3)) 48 57 = 0 then
        (if 10 * (m 86 (i + 2) - 48).toNatClampNeg + ((m 86 (i + 3)).toNatClampNeg - 48) ≤ hh then some (soC (m 86 i), 13 * (m 86 (i + 1) - 97).toNatClampNeg + (10 * (m 86 (i + 2) - 48).toNatClampNeg + ((m 86 (i + 3)).toNatClampNeg - 48)) - 1, i + 4) else none)
      else (if (m 86 (i + 2) - 48).toNatClampNeg ≤ hh then some (soC (m 86 i), 13 * (m 86 (i + 1) - 97).toNatClampNeg + (m 86 (i + 2) - 48).toNatClampNeg - 1, i + 3) else none))
    else none)
  else if m 86 i = 116 then some (4, 0, i + 1) else if m 86 i = 101 then some (5, 0, i + 1) else if m 86 i = 119 then some (6, 0, i + 1) else none
def psT (m : Mem) (wr hh : Nat) : Nat → Nat → Option (List (Nat × Nat))
  | 0, _ => some []
  | d + 1, i => if wr ≤ i then some [] else match psS m wr hh i with
    | none => none
    | some (c, k, i') => (psT m wr hh d i').map fun l => (c, k) :: l
theorem psS_gt {m : Mem} {wr hh i c k i' : Nat} (h : psS m wr hh i = some (c, k, i')) : i < i' := by
  unfold psS at h
  split at h
  · split at h
    · split at h
      · split at h
        · cases h; omega
        · cases h
      · split at h
        · cases h; omega
        · cases h
    · cases h
  · split at h
    · cases h; omega
    · split at h
      · cases h; omega
      · split at h
        · cases h; omega
        · cases h
/-- a move read is one of six sorts, and of a kind that is -/
theorem psS_ok {m : Mem} {wr hh i c k i' : Nat} (h13 : hh ≤ 13) (h : psS m wr hh i = some (c, k, i')) : 1 ≤ c ∧ c ≤ 6 ∧ k < 52 ∧ (c ≤ 3 → k % 13 < hh) := by
  unfold psS at h
  split at h
  · split at h
    · rename_i g1 g2
      obtain ⟨a, -, ha, ea⟩ := vIn_of (a := 0) (b := 3) (by decide) g2.2.1 (by decide)
      obtain ⟨d, hd1, hd, ed⟩ := vIn_of (a := 1) (b := 9) (by decide) g2.2.2 (by decide)
      rw [ea, ed, nI_clamp (by omega), nI_clamp (by omega)] at h
      have hs : 1 ≤ soC (m 86 i) ∧ soC (m 86 i) ≤ 3 := by
        unfold soC
        split
        · omega
        · split <;> omega
      split at h
      · rename_i g3
        obtain ⟨e, he1, he, ee⟩ := vIn_of (a := 48) (b := 57) (by decide) g3.2 (by decide)
        rw [ee, nI_clamp (by omega)] at h
        split at h
        · cases h; omega
        · cases h
      · split at h
        · cases h; omega
        · cases h
    · cases h
  · split at h
    · cases h; omega
    · split at h
      · cases h; omega
      · split at h
        · cases h; omega
        · cases h
abbrev WRd (x j : Nat) : Prop := (x = 31 ∧ j = 4) ∨ x = 33 ∨ x = 34
def mcU (m : Mem) (τ : rS) : Mem := fun x k => if x = 133 then rI τ 33 k else if x = 134 then rI τ 34 k else if x = 67 ∧ k = 200 then rI τ 31 4 else m x k
theorem mcU_at (m : Mem) (τ : rS) {x k : Nat} (h : x ≤ 88 ∧ ¬ (x = 67 ∧ k = 200)) : mcU m τ x k = m x k := by
  unfold mcU
  rw [if_neg (by omega), if_neg (by omega), if_neg h.2]
theorem mcU_tw (m : Mem) (σ τ : rS) : mcU (mcU m σ) τ = mcU m τ := by
  funext x k
  unfold mcU
  by_cases h1 : x = 133
  · rw [if_pos h1, if_pos h1]
  · rw [if_neg h1]
    by_cases h2 : x = 134
    · rw [if_pos h2, if_neg h1, if_pos h2]
    · rw [if_neg h2]
      by_cases h3 : x = 67 ∧ k = 200
      · rw [if_pos h3, if_neg h1, if_neg h2, if_pos h3]
      · rw [if_neg h3, if_neg h1, if_neg h2, if_neg h3, if_neg h1, if_neg h2, if_neg h3]
theorem cx_o {x j : Nat} (d : dC x j) (h : x ≠ 33 ∧ x ≠ 34 ∧ ¬ (x = 31 ∧ j = 4)) : cx x ≤ 86 ∧ ¬ (cx x = 67 ∧ (cj x j = 200 ∨ cj x j = 37)) := by
  unfold cx cj
  refine ⟨?_, ?_⟩ <;> repeat' split
  all_goals omega
theorem CI_Rd {σ τ : rS} {B : Bd} {E : List Ent} {dl : Option (Nat × Nat × Nat)} {m : Mem} {l : Nat → Int64} {ch : Nat} (H : CI σ B E dl m l ch) (f : FrX WRd σ τ) : CI τ B E dl (mcU m τ) l ch := by
  obtain ⟨h1, h2, h3, h4, h5, h6, B', ch', h7⟩ := H
  have q := f.2.2.2.2
  refine ⟨BQ_fr h1 fun x j a b => q x j (by omega), CeR_fr h2 fun x j a => q x j (by omega), CdR_fr h3 fun x j a => q x j (by omega), fun x j a => ?_, fun j hj k hk => by rw [f.2.2.2.1]; exact h5 j hj k hk, ClI_fr h6 ⟨f.1, f.2.1, f.2.2.1, fun x j a => q x j (by omega), fun x j a => by rw [f.2.2.2.1]⟩, B', ch', BQ_fr h7 fun x j a b => q x j (by omega)⟩
  by_cases e33 : x = 33
  · subst e33; rfl
  by_cases e34 : x = 34
  · subst e34; rfl
  by_cases e31 : x = 31 ∧ j = 4
  · obtain ⟨rfl, rfl⟩ := e31; rfl
  · obtain ⟨g1, g2⟩ := cx_o a ⟨e33, e34, e31⟩
    rw [mcU_at m τ ⟨by omega, fun z => g2 ⟨z.1, Or.inl z.2⟩⟩, q x j (by omega)]
    exact h4 x j a
theorem CI_cg {σ : rS} {B : Bd} {E : List Ent} {dl : Option (Nat × Nat × Nat)} {m m' : Mem} {l : Nat → Int64} {ch : Nat} (H : CI σ B E dl m l ch) (h : ∀ x j, dC x j → m' (cx x) (cj x j) = m (cx x) (cj x j)) : CI σ B E dl m' l ch := ⟨H.1, H.2.1, H.2.2.1, fun x j d => (H.2.2.2.1 x j d).trans (h x j d).symm, H.2.2.2.2⟩
theorem psS_cg {m m' : Mem} {wr hh i : Nat} (h : ∀ j, m' 86 j = m 86 j) : psS m' wr hh i = psS m wr hh i := by
  unfold psS
  simp only [h]
theorem psS_le {m : Mem} {wr hh i c k i' : Nat} (hi : i < wr) (h : psS m wr hh i = some (c, k, i')) : i' ≤ wr := by
  unfold psS at h
  split at h
  · split at h
    · split at h
      · split at h
        · cases h; omega
        · cases h
      · split at h
        · cases h; omega
        · cases h
    · cases h
  · split at h
    · cases h; omega
    · split at h
      · cases h; omega
      · split at h
        · cases h; omega
        · cases h
/-- the moves that the class has read -/
def RdC (σ : rS) (ms : List (Nat × Nat)) : Prop := rI σ 31 4 = nI ms.length ∧ ∀ i d, ms[i]? = some d → rI σ 33 i = nI d.1 ∧ (d.1 ≤ 3 → rI σ 34 i = nI d.2)
theorem sortOf_3 (σ : rS) {c : Int32} (h : c = 108 ∨ c = 106 ∨ c = 115) : f_X7_sortOf σ c = some (nI (soC c)) := by
  rcases h with rfl | rfl | rfl <;> rfl
theorem sortOf_no (σ : rS) {c : Int32} (h1 : ¬ (c = 108 ∨ c = 106 ∨ c = 115)) (h2 : ¬ c = 116) (h3 : ¬ c = 101) (h4 : ¬ c = 119) : f_X7_sortOf σ c = some (-1) := by
  unfold f_X7_sortOf
  rw [if_neg h3, if_neg (c := c = 106) (fun z => h1 (Or.inr (Or.inl z))), if_neg (c := c = 108) (fun z => h1 (Or.inl z)), if_neg (c := c = 115) (fun z => h1 (Or.inr (Or.inr z))), if_neg h2, if_neg h4]
  simp only [ite_self]
theorem isDig_eq {σ : rS} {B : Bd} {E : List Ent} {dl : Option (Nat × Nat × Nat)} {m : Mem} {l : Nat → Int64} {ch wr i : Nat} (C : CI σ B E dl m l ch) (hw : m 67 34 = nI wr) (h40 : wr ≤ 40) (hi : i < 2 ^ 30) : v_X7_isDigit σ (nI i) = if i < wr ∧ ¬ vIn (m 86 i) 48 57 = 0 then 1 else 0 := by
  unfold v_X7_isDigit
  have q : rI σ 31 1 = nI wr := (CI_4 C (x := 31) (j := 1) (by omega)).trans hw
  have c0 : (nI wr ≤ nI i) = (wr ≤ i) := propext (nI_leI (by omega) (by omega))
  rw [q]
  simp only [c0]
  by_cases h : wr ≤ i
  · rw [if_pos h, if_neg (fun z => by have := z.1; omega)]
  · rw [if_neg h, vAt_nI (by decide) (by omega), CI_4 C (x := 32) (j := i) (by omega), show m (cx 32) (cj 32 i) = m 86 i from rfl]
    by_cases g : vIn (m 86 i) 48 57 = 0
    · rw [if_pos g, if_neg (fun z => z.2 g)]
    · rw [if_neg g, if_pos ⟨by omega, g⟩]
