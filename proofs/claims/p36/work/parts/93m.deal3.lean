/-! a deal: the reference deals; deal as a call of the game -/
theorem deM_eq (m : Mem) (n : Nat) (c : Int32) : up2 (fun x k => if x = 71 ∧ k < n then c else (fun x k => if (x = 72 ∨ x = 76 ∨ x = 77) ∧ k < 4 then 0 else (fun x k => if x = 78 ∧ k < 208 then 0 else up2 m 67 25 0 x k) x k) x k) 67 24 0 = deM m n c := by
  funext x k
  unfold deM
  rw [up2_at]
  dsimp only
  rw [up2_at]
  by_cases hx : x = 67
  · subst hx
    have a1 : ¬ ((67 : Nat) = 71 ∧ k < n) := fun z => absurd z.1 (by decide)
    have a2 : ¬ (((67 : Nat) = 72 ∨ (67 : Nat) = 76 ∨ (67 : Nat) = 77) ∧ k < 4) := fun z => absurd z.1 (by decide)
    have a3 : ¬ ((67 : Nat) = 78 ∧ k < 208) := fun z => absurd z.1 (by decide)
    rw [if_neg a1, if_neg a2, if_neg a3, if_neg a1, if_neg a2, if_neg a3]
    by_cases h24 : k = 24
    · rw [if_pos ⟨rfl, h24⟩, if_pos ⟨rfl, Or.inl h24⟩]
    · rw [if_neg (fun z => h24 z.2)]
      by_cases h25 : k = 25
      · rw [if_pos ⟨rfl, h25⟩, if_pos ⟨rfl, Or.inr h25⟩]
      · rw [if_neg (fun z => h25 z.2), if_neg (fun z => z.2.elim h24 h25)]
  · rw [if_neg (c := x = 67 ∧ k = 24) (fun z => hx z.1), if_neg (c := x = 67 ∧ k = 25) (fun z => hx z.1), if_neg (c := x = 67 ∧ (k = 24 ∨ k = 25)) (fun z => hx z.1)]
theorem deB_D {each : Nat} : ∀ (n : Nat) (B : Bd), bD (deB each n B) = bD B ∧ bT (deB each n B) = bT B ∧ bJ (deB each n B) = bJ B ∧ bF (deB each n B) = bF B := by
  intro n B
  induction n with
  | zero => exact ⟨rfl, rfl, rfl, rfl⟩
  | succ n ih =>
    obtain ⟨a1, a2, a3, a4⟩ := drUp_D (p := n) each (deB each n B)
    exact ⟨a1.trans ih.1, a2.trans ih.2.1, a3.trans ih.2.2.1, a4.trans ih.2.2.2⟩
theorem Bo2_de {hh jk n each : Nat} {B : Bd} (hn4 : n ≤ 4) (H : Bo2 B hh jk n) : ∀ k, k ≤ n → Bo2 (deB each k B) hh jk n := by
  intro k
  induction k with
  | zero => exact fun _ => H
  | succ k ih => exact fun h => Bo2_drUp (by omega) hn4 each _ (ih (by omega))
theorem BoI_de {hh L jk n sd each : Nat} (hL : L = 3 ∨ L = 4) (h13 : hh ≤ 13) (hj : jk ≤ 3) (hn4 : n ≤ 4) (hs : sd < 65536) : BoI (deB each n (b0B hh jk sd)) hh L jk n := by
  obtain ⟨d1, d2, d3, d4⟩ := deB_D (each := each) n (b0B hh jk sd)
  have s0 : ∀ n, natSum (fun _ => 0) n = 0 := fun n => natSum_zero fun _ _ => rfl
  refine ⟨⟨⟨deB_ok n _ hn4 (b0B_ok h13 hj hs), fun k _ => ?_, ?_⟩, d1, d4⟩, Bo2_de hn4 ⟨fun _ _ _ _ _ => rfl, ⟨1, by decide, fun k hk => ?_, ?_⟩, fun _ _ _ => rfl⟩ n (Nat.le_refl _), ?_⟩
  · rw [d2, d3]
    show 0 + 0 ≤ 2
    omega
  · rw [d4]
    show 0 ≤ 64
    omega
  · show p0B hh jk k + natSum (fun _ => 0) 4 + 0 = _
    rw [s0]
    unfold p0B
    rw [if_pos hk]
    by_cases c : hh ≤ k % 13
    · rw [if_pos c, if_neg (by omega)]
    · rw [if_neg c, if_pos (by omega)]
  · show jk + natSum (fun _ => 0) 4 + natSum (fun _ => 0) 52 + 0 = jk * 1
    rw [s0, s0]
    omega
  · refine accB_iff.mpr (acc_0 hL fun a c => ?_)
    unfold tN tjB xZ
    rw [d2, d3]
    split <;> rfl
theorem deM_at (m : Mem) (n : Nat) (c : Int32) {x k : Nat} (h : x ≠ 71 ∧ x ≠ 72 ∧ x ≠ 76 ∧ x ≠ 77 ∧ x ≠ 78 ∧ ¬ (x = 67 ∧ (k = 24 ∨ k = 25))) : deM m n c x k = m x k := by
  unfold deM
  rw [if_neg (fun z => h.1 z.1), if_neg (fun z => z.1.elim h.2.1 fun y => y.elim h.2.2.1 h.2.2.2.1), if_neg (fun z => h.2.2.2.2.1 z.1), if_neg h.2.2.2.2.2]
theorem deM_24 (m : Mem) (n : Nat) (c : Int32) {k : Nat} (h : k = 24 ∨ k = 25) : deM m n c 67 k = 0 := by
  unfold deM
  rw [if_neg (fun z => absurd z.1 (by decide)), if_neg (fun z => absurd z.1 (by decide)), if_neg (fun z => absurd z.1 (by decide)), if_pos ⟨rfl, h⟩]
theorem Gm_deal {t : Nat} {B : Bd} {E : List Ent} {dl : Option (Nat × Nat × Nat)} {m : Mem} {B0 : Bd} {D : List (Nat × Nat)} {hh L jk ml pn n wr sd each ck : Nat} (S : GmS t B E dl m B0 D hh L jk ml pn n wr) (h2 : 2 ≤ n) (hs : sd < 65536) (he : each ≤ 14) (hck : ck ≤ 9999) : GmS (t + 1) (deB each n (b0B hh jk sd)) [] (some (sd, each, n)) (deM m n (nI ck)) (deB each n (b0B hh jk sd)) [] hh L jk ml pn n wr := by
  obtain ⟨r, T, se, ⟨c1, c2, c3, c4⟩, rp⟩ := S
  have hn4 := r.2.2.2.2.2.2.2.2
  have z4 : ∀ x k, (x = 72 ∨ x = 76) → k < 4 → deM m n (nI ck) x k = 0 := fun x k hx hk => by
    unfold deM
    rw [if_neg (fun z => by have := z.1; omega), if_pos ⟨by omega, hk⟩]
  refine ⟨RuM_cg r fun j _ _ => deM_at _ _ _ (by omega), Tr_new (BoI_de r.2.2.2.1 r.2.2.1 r.2.2.2.2.1 hn4 hs) (Or.inr ⟨0, 0, by omega, deM_24 _ _ _ (Or.inl rfl), by omega, deM_24 _ _ _ (Or.inr rfl)⟩), ⟨LaI_cg se.1 fun k => deM_at _ _ _ (by omega), fun p hp => Or.inl (z4 72 p (by omega) hp), fun p hp => Or.inl (z4 76 p (by omega) hp), fun p hp => ?_⟩, ⟨by rw [deM_at _ _ _ (by omega)]; exact c1, c2, by show wr ≤ t + 1 ∧ 0 + wr ≤ t + 1 + _; omega, fun x hx => absurd hx List.not_mem_nil⟩, ⟨hs, he, hn4, fun _ => (deB each n (b0B hh jk sd), []), fun _ => 0, rfl, fun i e hi => by simp at hi, rfl, Or.inl rfl⟩⟩
  by_cases c : p < n
  · refine ⟨ck, hck, ?_⟩
    unfold deM
    rw [if_pos ⟨rfl, c⟩]
  · have e : deM m n (nI ck) 71 p = m 71 p := by
      unfold deM
      rw [if_neg (fun z => c z.2), if_neg (fun z => by have := z.1; omega), if_neg (fun z => by have := z.1; omega), if_neg (fun z => by have := z.1; omega)]
    rw [e]
    exact se.2.2.2 p hp
