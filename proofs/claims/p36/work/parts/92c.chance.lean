/-! chance: the products -/
def chA (N : Nat) : Nat → Int64
  | 0 => 1
  | i + 1 => chA N i * (nI (N - i)).toInt64
def chF (v : Int32) (i : Nat) : Int32 := if v - nI i ≤ 0 then 0 else v - nI i
def chB (v : Int32) : Nat → Int64
  | 0 => 1
  | i + 1 => chB v i * (chF v i).toInt64
theorem i32_pos (x : Int32) : (0 < x) = ¬ (x ≤ 0) := propext Int32.not_le.symm
theorem nI_64 {n : Nat} (h : n < 2 ^ 31) : (nI n).toInt64 = lN n := Int32.toInt64_ofNat' (by rw [show Int32.maxValue.toInt = 2147483647 from rfl]; omega)
theorem chA_pos {N H : Nat} (h3 : H ≤ 3) (hN : H ≤ N) (h2 : N ≤ 2000) : ∃ a, chA N H = lN a ∧ 1 ≤ a ∧ a < 2 ^ 62 := by
  have key : ∀ i, i ≤ H → ∃ a, chA N i = lN a ∧ 1 ≤ a ∧ a ≤ 2000 ^ i := by
    intro i
    induction i with
    | zero => exact fun _ => ⟨1, rfl, by omega, by omega⟩
    | succ i ih =>
      intro hi
      obtain ⟨a, e, a1, a2⟩ := ih (by omega)
      refine ⟨a * (N - i), ?_, ?_, ?_⟩
      · rw [chA, e, nI_64 (by omega), lN_mul]
      · exact Nat.mul_pos a1 (by omega)
      · rw [Nat.pow_succ]
        exact Nat.mul_le_mul a2 (by omega)
  obtain ⟨a, e, a1, a2⟩ := key H (Nat.le_refl _)
  refine ⟨a, e, a1, Nat.lt_of_le_of_lt a2 (Nat.lt_of_le_of_lt (Nat.pow_le_pow_right (by decide) h3) (by decide))⟩
theorem thou_eq (σ : rS) {N H : Nat} (t : Int32) (h3 : H ≤ 3) (hN : H ≤ N) (h2 : N ≤ 2000) : f_X10_thousandths σ (nI N) (nI H) t = some (((1000 * (chA N H - chB (nI N - t) H)) / chA N H).toInt32) := by
  obtain ⟨r, a1, a2⟩ := oL_ix (body := b_X10_thousandths_8 (nI N) (nI H) t) (fun i s => s = (chA N i, chB (nI N - t) i, nI i)) (N := H) (fun r => r = .inr (chA N H, chB (nI N - t) H)) (by
      intro i s hi e
      subst e
      refine ⟨_, ?_, rfl⟩
      unfold b_X10_thousandths_8
      dsimp only
      rw [if_neg (show ¬ nI H ≤ nI i from fun z => by have := (nI_leI (by omega) (by omega)).mp z; omega), oLet_eq, oLet_eq, nI_1, nI_sub (by omega)]
      have c0 : (0 < nI (N - i)) = (0 < N - i) := propext (nI_lt' (a := 0) (by omega) (by omega))
      simp only [c0]
      rw [if_pos (by omega), chA, chB]
      congr 5
      unfold chF
      by_cases c : nI N - t - nI i ≤ 0
      · rw [if_pos c, if_neg (fun z => absurd c (Int32.not_le.mpr z))]
      · rw [if_neg c, if_pos (Int32.not_le.mp c)])
    (by
      intro s e
      subst e
      exact ⟨_, by unfold b_X10_thousandths_8; dsimp only; rw [if_pos (show nI H ≤ nI H from (nI_leI (by omega) (by omega)).mpr (Nat.le_refl _))], rfl⟩)
    (n := oFuel) (by rw [oFuel_eq]; omega) (s := (1, 1, 0)) rfl
  subst a2
  obtain ⟨a, e, g1, g2⟩ := chA_pos h3 hN h2
  unfold f_X10_thousandths
  rw [a1, oJ_inr]
  dsimp only
  rw [if_pos (by rw [e]; exact ((lN_cmp (b := 0) (by omega) (by omega)).1).mpr g1), if_pos (by rw [e]; exact fun z => by have := lN_inj (b := 0) (by omega) (by omega) z; omega)]
theorem hi_ah (B : Bd) (p : Nat) {k : Nat} (hk : k < 53) : hiB B p k ≤ ahB B p := by
  unfold hiB ahB
  have h1 := natSum_ge (f := bP B) hk
  have h2 : natSum (fun i => if i = p then 0 else bR B (53 * i + k)) 4 ≤ natSum (fun i => if i = p then 0 else rsz (bR B) i) 4 := natSum_mono fun i _ => by
    split
    · exact Nat.le_refl _
    · exact rsz_ge hk
  omega
theorem ah_le {B : Bd} (o : OkB B) (p : Nat) : ahB B p ≤ 2000 := by
  unfold ahB
  have h1 := o.1
  have h2 : natSum (fun i => if i = p then 0 else rsz (bR B) i) 4 ≤ 4 * 24 := natSum_le fun i hi => by
    split
    · omega
    · exact o.2.1 i hi
  omega
/-- racks of nobody are empty -/
def RkI (B : Bd) (n : Nat) : Prop := ∀ i, i < 4 → n ≤ i → ∀ k, k < 53 → bR B (53 * i + k) = 0
theorem natSum_ext0 {f : Nat → Nat} {a b : Nat} (h : a ≤ b) (z : ∀ i, a ≤ i → i < b → f i = 0) : natSum f b = natSum f a := by
  have e := natSum_app f a (b - a)
  rw [Nat.add_sub_cancel' h] at e
  rw [e, natSum_zero (f := fun i => f (a + i)) fun i hi => z _ (by omega) (by omega), Nat.add_zero]
theorem natSum_s (f : Nat → Nat) (n : Nat) : natSum f (n + 1) = natSum f n + f n := rfl
