/-! a turn ended by laying -/
def elM (m : Mem) (R : Nat → Nat) (p n j : Nat) : Mem := if nI (rsz R p) = 0 then erM (up2 (up2 m 72 p 1) 67 25 0) R p n j else up2 (up2 (up2 m 72 p 1) 67 25 0) 67 24 (nI ((p + 1) % n))
theorem cEndL_eq {σ : rS} {B : Bd} {E : List Ent} {dl : Option (Nat × Nat × Nat)} {m : Mem} {l : Nat → Int64} {ch n p j : Nat} (C : CI σ B E dl m l ch) (hn : m 67 6 = nI n) (hn4 : n ≤ 4) (hp : p < n) (tp : m 67 24 = nI p) (hE : E.length < 1024) (hj : j < n) (h1 : m 74 j = nI p) (h2 : ∀ i, i < j → ¬ m 74 i = nI p) : ∃ τ, f_X10_endByLaying σ = some ((), τ) ∧ CI τ (stB B) (E ++ [(5, p, 0, 0)]) dl (elM m (bR B) p n j) l (ch + 1) ∧ FrCl σ τ ∧ FrK σ τ := by
  obtain ⟨σ6, a1, a2, a3, a4⟩ := cEndL1_eq C (by omega) tp hE
  have z : v_X1_sizeOf σ6 5 (nI p) = nI (rsz (bR B) p) := by
    show vAt (rI σ6 8) 4 (nI p) = _
    rw [vAt_nI (by decide) (by omega)]
    exact a2.1.2.2.1 p (by omega)
  rw [a1, z]
  unfold elM
  by_cases c : nI (rsz (bR B) p) = 0
  · rw [if_pos c, if_pos c]
    obtain ⟨τ, b1, b2, b3, b4⟩ := cEndRound_eq a2 (n := n) (w := p) (j := j) (by rw [up2_at, if_neg (by omega), up2_at, if_neg (by omega), hn]) hn4 hp hj (by rw [up2_at, if_neg (by omega), up2_at, if_neg (by omega), h1]) (fun i hi => by rw [up2_at, if_neg (by omega), up2_at, if_neg (by omega)]; exact h2 i hi)
    rw [b1, oB_some]
    exact ⟨τ, rfl, b2, a3.tr b3, a4.tr b4⟩
  · rw [if_neg c, if_neg c]
    have hn6 : up2 (up2 m 72 p 1) 67 25 0 67 6 = nI n := by rw [up2_at, if_neg (by omega), up2_at, if_neg (by omega), hn]
    obtain ⟨τ, b1, b2, b3, b4⟩ := passOn_eq a2 (n := n) (p := p) ((CI_4 a2 (x := 19) (j := 0) (by omega)).trans hn6) hn4 hp (by rw [up2_at, if_neg (by omega), up2_at, if_neg (by omega), tp])
    rw [b1, oB_some]
    exact ⟨τ, rfl, b2, a3.tr b3, a4.tr b4⟩
