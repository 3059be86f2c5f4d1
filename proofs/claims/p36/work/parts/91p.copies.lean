/-! copies -/
def clS (m : Mem) (k : Nat) : Nat → Int32
  | 0 => 0
  | j + 1 => clS m k j + m 78 (52 * j + k)
def coM (m : Mem) (B : Bd) (n : Nat) : Nat → Int64
  | 0 => 0
  | k + 1 => if clS m k n + nI (bT B k) ≤ 2 then coM m B n k else coM m B n k ||| ((1 : Int64) <<< (((nI k : Int32)).toInt64 &&& 63))
theorem claimed_eq {σ : rS} {B : Bd} {E : List Ent} {dl : Option (Nat × Nat × Nat)} {m : Mem} {l : Nat → Int64} {ch n k : Nat} (C : CI σ B E dl m l ch) (hn : rI σ 19 0 = nI n) (hn4 : n ≤ 4) (hk : k < 52) : f_X6_claimed σ (nI k) = some (clS m k n) := by
  obtain ⟨x, a1, a2⟩ := oL_ix (body := b_X6_claimed_4 σ (nI k)) (fun i s => s = (clS m k i, nI i)) (N := n) (fun x => x = clS m k n) (by
      intro i s hi e
      subst e
      refine ⟨_, ?_, rfl⟩
      have ei : nI i * 52 + nI k = nI (52 * i + k) := by rw [show (52 : Int32) = nI 52 from rfl, nI_mul, nI_add, Nat.mul_comm]
      unfold b_X6_claimed_4
      dsimp only
      rw [hn, if_neg (show ¬ nI n ≤ nI i from fun z => by have := (nI_leI (by omega) (by omega)).mp z; omega), ei, vAt_nI (by decide) (by omega), CI_4 C (x := 30) (j := 52 * i + k) (by omega), oLet_eq, nI_1]
      rfl)
    (by
      intro s e
      subst e
      exact ⟨clS m k n, by unfold b_X6_claimed_4; rw [hn, if_pos (show nI n ≤ nI n from (nI_leI (by omega) (by omega)).mpr (Nat.le_refl _))], rfl⟩)
    (n := oFuel) (by rw [oFuel_eq]; omega) (s := (0, 0)) rfl
  subst a2
  exact a1
theorem ccopies_eq {σ : rS} {B : Bd} {E : List Ent} {dl : Option (Nat × Nat × Nat)} {m : Mem} {l : Nat → Int64} {ch n : Nat} (C : CI σ B E dl m l ch) (hn : rI σ 19 0 = nI n) (hn4 : n ≤ 4) : f_X10_copies σ = some (coM m B n 52) := by
  obtain ⟨x, a1, a2⟩ := oL_ix (body := b_X10_copies_4 σ) (fun i s => s = (coM m B n i, nI i)) (N := 52) (fun x => x = coM m B n 52) (by
      intro i s hi e
      subst e
      refine ⟨_, ?_, rfl⟩
      unfold b_X10_copies_4
      dsimp only
      rw [if_neg (show ¬ (52 : Int32) ≤ nI i from fun z => by have := (nI_leI (a := 52) (by omega) (by omega)).mp z; omega), claimed_eq C hn hn4 hi, vAt_nI (by decide) hi, show rI σ 9 i = nI (bT B i) from C.1.2.2.2.1 i hi, Option.bind_some, oLet_eq, nI_1]
      rfl)
    (by
      intro s e
      subst e
      exact ⟨coM m B n 52, by unfold b_X10_copies_4; rw [if_pos (show (52 : Int32) ≤ nI 52 by decide)], rfl⟩)
    (n := oFuel) (by rw [oFuel_eq]; decide) (s := (0, 0)) rfl
  subst a2
  exact a1
theorem or_z (x : Int64) : x ||| 0 = x := by
  apply bit_lt
  intro i hi
  rw [Int64.toBitVec_or, BitVec.getLsbD_or]
  have : (0 : Int64).toBitVec.getLsbD i = false := by
    have : ∀ i : Fin 64, (0 : Int64).toBitVec.getLsbD i.val = false := by decide
    exact this ⟨i, hi⟩
  rw [this, Bool.or_false]
