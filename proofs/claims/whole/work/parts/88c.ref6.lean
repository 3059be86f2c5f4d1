/-! the reference: goesOn, the options of each colour -/
theorem nib_eq {k c : Nat} (hk : k < 65536) (hc : c < 4) : (nI k >>> ((4 * nI c) &&& 31)) &&& 15 = nI (k / 16 ^ c % 16) := by
  have e : nI k >>> ((4 * nI c) &&& 31) = nI (k / 16 ^ c) := by
    have hp : 16 ^ c = 2 ^ (4 * c) := by rw [Nat.pow_mul]
    rw [hp]
    have hcs : c = 0 ∨ c = 1 ∨ c = 2 ∨ c = 3 := by omega
    refine nI_shrG (by omega) _ (4 * c) ?_ (by omega)
    rcases hcs with rfl | rfl | rfl | rfl <;> decide
  rw [e]
  exact nI_mod (k / 16 ^ c) 4
theorem codeM_lt {L a b : Nat} (ha : a ≤ 4) (hb : b ≤ 4) (u : Bool) : codeM L a b u < 16 := by
  unfold codeM
  split
  · omega
  · split
    · omega
    · have := pr_fact (s := min a b) (g := max a b) (by omega) (by omega) (by omega)
      omega
theorem onM_le {L x : Nat} (hL : L = 3 ∨ L = 4) : onM L x ≤ 4 := by unfold onM; split <;> omega
theorem optsM_lt {L code next : Nat} (hL : L = 3 ∨ L = 4) : ∀ o ∈ optsM L code next, o.1 < 16 := by
  intro o ho
  have hw : wdM next ≤ 4 := by unfold wdM; split <;> omega
  have h1 := @onM_le L (aM L code) hL
  have h2 := @onM_le L (bM L code) hL
  unfold optsM at ho
  simp only [List.mem_append] at ho
  rcases ho with ((q | q) | q) | q
  · unfold o1M at q
    split at q
    · rw [List.mem_singleton.mp q]
      dsimp only
      split
      · omega
      · exact codeM_lt hw (by omega) _
    · exact absurd q List.not_mem_nil
  · unfold o2M at q
    split at q
    · rw [List.mem_singleton.mp q]; exact codeM_lt hw h2 _
    · exact absurd q List.not_mem_nil
  · unfold o3M at q
    split at q
    · rw [List.mem_singleton.mp q]; exact codeM_lt hw h1 _
    · exact absurd q List.not_mem_nil
  · unfold o4M at q
    split at q
    · rw [List.mem_singleton.mp q]; exact codeM_lt h1 h2 _
    · exact absurd q List.not_mem_nil
theorem optsM_len (L code next : Nat) : (optsM L code next).length ≤ 4 := by
  obtain ⟨h1, h2, h3, h4⟩ := o_len L code next
  unfold optsM
  simp only [List.length_append]
  omega
/-- what a colour's options change -/
def FrC (c : Nat) (σ τ : rS) : Prop := rK τ = rK σ ∧ rR τ = rR σ ∧ rN τ = rN σ ∧ rL τ = rL σ ∧ ∀ x j, x ≠ 110 → x ≠ 111 → (x = 67 → j ≠ 65) → (x = 112 → j ≠ c) → (x = 113 → j ≠ c) → rI τ x j = rI σ x j
theorem FrC_Q {c : Nat} {σ τ : rS} (f : FrQ σ τ) : FrC c σ τ := ⟨f.1, f.2.1, f.2.2.1, f.2.2.2.1, fun x j a b d _ _ => f.2.2.2.2 x j a b d⟩
theorem FrC.tr {c : Nat} {σ τ υ : rS} (h : FrC c σ τ) (g : FrC c τ υ) : FrC c σ υ := ⟨g.1.trans h.1, g.2.1.trans h.2.1, g.2.2.1.trans h.2.2.1, g.2.2.2.1.trans h.2.2.2.1, fun x j a b d e f => (g.2.2.2.2 x j a b d e f).trans (h.2.2.2.2 x j a b d e f)⟩
theorem round_eq {σ : rS} {L k c ru : Nat} {os : List (Nat × Nat)} (S : ShM σ L) (O : OpM σ os) (hl : os.length ≤ 12) (hk : k < 65536) (hc : c < 4) (hr : rI σ 107 c = nI ru) (hr2 : ru ≤ 2) (p2 : Int32) (p3 p4 p5 : Int64) (p6 : Int32) : ∃ τ, b_X11_goesOn_8 (nI k) p2 p3 p4 p5 p6 (nI c, σ) = (if optsM L (k / 16 ^ c % 16) ru = [] then some (.inl ((), τ)) else some (.inr (nI (c + 1), τ))) ∧ OpM τ (os ++ optsM L (k / 16 ^ c % 16) ru) ∧ rI τ 112 c = nI os.length ∧ rI τ 113 c = nI (os.length + (optsM L (k / 16 ^ c % 16) ru).length) ∧ FrC c σ τ := by
  have O1 : OpM (wI σ 112 c (nI os.length)) os := ⟨by rw [q_II, if_neg (fun q => absurd q.1 (by decide))]; exact O.1, fun i o hi => ⟨by rw [q_II, if_neg (fun q => absurd q.1 (by decide))]; exact (O.2 i o hi).1, by rw [q_II, if_neg (fun q => absurd q.1 (by decide))]; exact (O.2 i o hi).2⟩⟩
  have F1 : FrC c σ (wI σ 112 c (nI os.length)) := ⟨rfl, rfl, rfl, rfl, fun x j _ _ _ d _ => by rw [q_II, if_neg (fun q => d q.1 q.2)]⟩
  have S1 : ShM (wI σ 112 c (nI os.length)) L := ⟨by rw [q_II, if_neg (fun q => absurd q.1 (by decide))]; exact S.1, S.2.1, fun i hi => ⟨by rw [q_II, if_neg (fun q => absurd q.1 (by decide))]; exact (S.2.2 i hi).1, by rw [q_II, if_neg (fun q => absurd q.1 (by decide))]; exact (S.2.2 i hi).2⟩⟩
  have hr1 : rI (wI σ 112 c (nI os.length)) 107 c = nI ru := by rw [q_II, if_neg (fun q => absurd q.1 (by decide))]; exact hr
  have hlo := optsM_len L (k / 16 ^ c % 16) ru
  obtain ⟨τ, g1, g2, g3⟩ := lays_eq S1 O1 (by omega) (code := k / 16 ^ c % 16) (next := ru) (Nat.mod_lt _ (by decide)) hr2
  have e112 : rI τ 112 c = nI os.length := by
    rw [g3.2.2.2.2 112 c (by decide) (by decide) (fun q => absurd q (by decide)), q_II, if_pos ⟨rfl, rfl⟩]
  have e65 : rI τ 67 65 = nI (os.length + (optsM L (k / 16 ^ c % 16) ru).length) := by
    rw [g2.1, List.length_append]
  have O2 : OpM (wI τ 113 c (nI (os.length + (optsM L (k / 16 ^ c % 16) ru).length))) (os ++ optsM L (k / 16 ^ c % 16) ru) := ⟨by rw [q_II, if_neg (fun q => absurd q.1 (by decide))]; exact g2.1, fun i o hi => ⟨by rw [q_II, if_neg (fun q => absurd q.1 (by decide))]; exact (g2.2 i o hi).1, by rw [q_II, if_neg (fun q => absurd q.1 (by decide))]; exact (g2.2 i o hi).2⟩⟩
  have F2 : FrC c τ (wI τ 113 c (nI (os.length + (optsM L (k / 16 ^ c % 16) ru).length))) := ⟨rfl, rfl, rfl, rfl, fun x j _ _ _ _ d => by rw [q_II, if_neg (fun q => d q.1 q.2)]⟩
  have v112 : rI (wI τ 113 c (nI (os.length + (optsM L (k / 16 ^ c % 16) ru).length))) 112 c = nI os.length := by rw [q_II, if_neg (fun q => absurd q.1 (by decide))]; exact e112
  have v113 : rI (wI τ 113 c (nI (os.length + (optsM L (k / 16 ^ c % 16) ru).length))) 113 c = nI (os.length + (optsM L (k / 16 ^ c % 16) ru).length) := by rw [q_II, if_pos ⟨rfl, rfl⟩]
  refine ⟨wI τ 113 c (nI (os.length + (optsM L (k / 16 ^ c % 16) ru).length)), ?_, O2, v112, v113, (F1.tr (FrC_Q g3)).tr F2⟩
  unfold b_X11_goesOn_8
  dsimp only
  have c1 : ¬ (4 : Int32) ≤ nI c := fun q => by have := (nI_leI (a := 4) (by omega) (by omega)).mp q; omega
  rw [if_neg c1, if_pos (inB_nI (by decide) hc), nI_clamp (by omega), O.1, oLet_eq, hr1, nib_eq hk hc, g1, oB_some, e65, oLet_eq, v112, v113]
  have ec : (nI os.length = nI (os.length + (optsM L (k / 16 ^ c % 16) ru).length)) = (optsM L (k / 16 ^ c % 16) ru = []) := by
    refine propext ⟨fun q => ?_, fun q => ?_⟩
    · have := nI_inj (by omega) (by omega) q
      exact List.length_eq_zero_iff.mp (by omega)
    · rw [q]; rfl
  simp only [ec]
  rw [show nI c + 1 = nI (c + 1) from nI_1 c]
