/-! the reference: goesOn, the options of each colour -/
theorem nib_eq {k c : Nat} (hk : k < 65536) (hc : c < 4) : (nI k >>> ((4 * nI c) &&& 31)) &&& 15 = nI (k / 16 ^ c % 16) := by
  have e : nI k >>> ((4 * nI c) &&& 31) = nI (k / 16 ^ c) := by
    have hp : 16 ^ c = 2 ^ (4 * c) := by rw [Nat.pow_mul]
    rw [hp]
    have hcs : c = 0 ∨ c = 1 ∨ c = 2 ∨ c = 3 := by omega
    refine nI_shrG (by omega) _ (4 * c) ?_ (by omega)
    rcases hcs with rfl | rfl | rfl | rfl <;> decide
  rw [e]
  exact nI_mod (k / 16 ^ c) 4
theorem codeM_lt {L a b : Nat} (ha : a ≤ 4) (hb : b ≤ 4) (u : Bool) : codeM L a b u < 16 := by
  unfold codeM
  split
  · omega
  · split
    · omega
    · have := pr_fact (s := min a b) (g := max a b) (by omega) (by omega) (by omega)
      omega
theorem onM_le {L x : Nat} (hL : L = 3 ∨ L = 4) : onM L x ≤ 4 := by unfold onM; split <;> omega
theorem optsM_lt {L code next : Nat} (hL : L = 3 ∨ L = 4) : ∀ o ∈ optsM L code next, o.1 < 16 := by
  intro o ho
  have hw : wdM next ≤ 4 := by unfold wdM; split <;> omega
  have h1 := @onM_le L (aM L code) hL
  have h2 := @onM_le L (bM L code) hL
  unfold optsM at ho
  simp only [List.mem_append] at ho
  rcases ho with ((q | q) | q) | q
  · unfold o1M at q
    split at q
    · rw [List.mem_singleton.mp q]
      dsimp only
      split
      · omega
      · exact codeM_lt hw (by omega) _
    · exact absurd q List.not_mem_nil
  · unfold o2M at q
    split at q
    · rw [List.mem_singleton.mp q]; exact codeM_lt hw h2 _
    · exact absurd q List.not_mem_nil
  · unfold o3M at q
    split at q
    · rw [List.mem_singleton.mp q]; exact codeM_lt hw h1 _
    · exact absurd q List.not_mem_nil
  · unfold o4M at q
    split at q
    · rw [List.mem_singleton.mp q]; exact codeM_lt h1 h2 _
    · exact absurd q List.not_mem_nil
theorem optsM_len (L code next : Nat) : (optsM L code next).length ≤ 4 := by
  obtain ⟨h1, h2, h3, h4⟩ := o_len L code next
  unfold optsM
  simp only [List.length_append]
  omega
/-- what a colour's options change -/
def FrC (c : Nat) (σ τ : rS) : Prop := rK τ = rK σ ∧ rR τ = rR σ ∧ rN τ = rN σ ∧ rL τ = rL σ ∧ ∀ x j, x ≠ 110 → x ≠ 111 → (x = 67 → j ≠ 65) → (x = 112 → j ≠ c) → (x = 113 → j ≠ c) → rI τ x j = rI σ x j
theorem FrC_Q {c : Nat} {σ τ : rS} (f : FrQ σ τ) : FrC c σ τ := ⟨f.1, f.2.1, f.2.2.1, f.2.2.2.1, fun x j a b d _ _ => f.2.2.2.2 x j a b d⟩
theorem FrC.tr {c : Nat} {σ τ υ : rS} (h : FrC c σ τ) (g : FrC c τ υ) : FrC c σ υ := ⟨g.1.trans h.1, g.2.1.trans h.2.1, g.2.2.1.trans h.2.2.1, g.2.2.2.1.trans h.2.2.2.1, fun x j a b d e f => (g.2.2.2.2 x j a b d e f).trans (h.2.2.2.2 x j a b d e f)⟩
