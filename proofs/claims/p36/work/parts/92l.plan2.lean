/-! the plan: the class reads its digits -/
theorem dig_1 {A k : Nat} {g : Nat → Nat} (hk : k < 24) (hg : ∀ j, j < 52 → g j ≤ 2) : (A * 2 ^ 48 + HN 4 g 24) / 2 ^ (2 * (23 - k)) % 4 = g k := by
  obtain ⟨d, hd⟩ : ∃ d, 23 - k = d := ⟨_, rfl⟩
  have e24 : k + 1 + d = 24 := by omega
  have h1 := HN_dig (B := 4) (f := g) (m := k) (d := d) fun j hj => by have := hg j (by omega); omega
  rw [e24] at h1
  rw [hd, Nat.pow_mul, show (2 : Nat) ^ 2 = 4 from rfl]
  have e48 : (2 : Nat) ^ 48 = 4 ^ (k + 1) * 4 ^ d := by rw [← Nat.pow_add, e24]
  rw [e48, ← Nat.mul_assoc, Nat.add_comm, Nat.add_mul_div_right _ _ (Nat.pow_pos (by decide)), Nat.pow_succ, ← Nat.mul_assoc, Nat.add_mul_mod_self_right, h1]
theorem dig_2 {k : Nat} {g : Nat → Nat} (h24 : 24 ≤ k) (hk : k < 52) (hg : ∀ j, j < 52 → g j ≤ 2) : HN 4 (fun i => g (24 + i)) 28 / 2 ^ (2 * (51 - k)) % 4 = g k := by
  obtain ⟨d, hd⟩ : ∃ d, 51 - k = d := ⟨_, rfl⟩
  have h1 := HN_dig (B := 4) (f := fun i => g (24 + i)) (m := k - 24) (d := d) fun j hj => by have := hg (24 + j) (by omega); omega
  rw [show k - 24 + 1 + d = 28 by omega, show 24 + (k - 24) = k by omega] at h1
  rw [hd, Nat.pow_mul, show (2 : Nat) ^ 2 = 4 from rfl]
  exact h1
theorem shL {k : Nat} (hk : k < 32) : (((nI (2 * k)).toInt64.toUInt64 &&& Int64.toUInt64 63).toBitVec % 64#64) = BitVec.ofNat 64 (2 * k) := by
  have : ∀ k : Fin 32, (((nI (2 * k.val)).toInt64.toUInt64 &&& Int64.toUInt64 63).toBitVec % 64#64) = BitVec.ofNat 64 (2 * k.val) := by decide
  exact this ⟨k, hk⟩
theorem and3_32 (N : Nat) : (lN N &&& 3).toInt32 = nI (N % 4) := by
  rw [show (3 : Int64) = lN 3 from rfl, lN_and, show N &&& 3 = N % 4 from Nat.and_two_pow_sub_one_eq_mod N 2, lN_32 (by omega)]
theorem tilesOf_eq {σ : rS} {bw : Bool} {g : Nat → Nat} (hg : ∀ j, j < 52 → g j ≤ 2) (cg : ctK g ≤ 24) {k : Nat} (hk : k < 52) : v_X9_tilesOf σ (lN (SW (fw1 bw) g)) (lN (SW fw2 g)) (nI k) = nI (g k) := by
  have b := f_lt (bw := bw) hg cg
  have c0 : ((24 : Int32) ≤ nI k) = (24 ≤ k) := propext (nI_leI (a := 24) (by omega) (by omega))
  unfold v_X9_tilesOf
  simp only [c0]
  by_cases h : 24 ≤ k
  · rw [if_pos h, show (51 : Int32) = nI 51 from rfl, show (2 : Int32) = nI 2 from rfl, nI_sub (by omega), nI_mul, lN_ushr (by omega) _ _ (shL (by omega)) (by omega), and3_32, fw2_sum, dig_2 h hk hg]
  · rw [if_neg h, show (23 : Int32) = nI 23 from rfl, show (2 : Int32) = nI 2 from rfl, nI_sub (by omega), nI_mul, lN_ushr (by omega) _ _ (shL (by omega)) (by omega), and3_32, fw1_sum, dig_1 (by omega) hg]
abbrev W66 (x j : Nat) : Prop := x = 66 ∨ (x = 65 ∧ (j = 4 ∨ j = 5))
/-- the kinds planned below a kind -/
def plK (g : Nat → Nat) (n : Nat) : List Nat := (List.range n).flatMap fun k => List.replicate (g k) k
theorem plK_s (g : Nat → Nat) (n : Nat) : plK g (n + 1) = plK g n ++ List.replicate (g n) n := by
  unfold plK
  rw [List.range_succ, List.flatMap_append]
  simp
theorem plK_len (g : Nat → Nat) : ∀ n, (plK g n).length = natSum g n := by
  intro n
  induction n with
  | zero => rfl
  | succ n ih => rw [plK_s, List.length_append, ih, List.length_replicate]; rfl
def R66 (σ : rS) (l : List Nat) (w : Nat) : Prop := rI σ 65 4 = nI l.length ∧ rI σ 65 5 = nI w ∧ ∀ i k, l[i]? = some k → rI σ 66 i = nI k
theorem unpack_in {σ : rS} {a b : Int64} {g : Nat → Nat} {k w : Nat} (ht : ∀ σ, v_X9_tilesOf σ a b (nI k) = nI (g k)) (hk : k < 52) (h2 : g k ≤ 2) (hc : natSum g k + g k ≤ 24) (H : R66 σ (plK g k) w) : ∃ τ, oLoop (b_X4_unpack_39 a b (nI k, σ)) oFuel (0, σ) = some (.inr (nI (k + 1), τ)) ∧ R66 τ (plK g (k + 1)) (w + g k * (k % 13 + 1)) ∧ FrX W66 σ τ := by
  obtain ⟨x, b1, b2⟩ := oL_ix (body := b_X4_unpack_39 a b (nI k, σ)) (fun t s => s.1 = nI t ∧ R66 s.2 (plK g k ++ List.replicate t k) (w + t * (k % 13 + 1)) ∧ FrX W66 σ s.2) (N := g k) (fun x => ∃ τ, x = .inr (nI (k + 1), τ) ∧ R66 τ (plK g (k + 1)) (w + g k * (k % 13 + 1)) ∧ FrX W66 σ τ) (by
      intro t s ht2 ⟨e, A, Fr⟩
      obtain ⟨s1, σ'⟩ := s
      dsimp only at e A Fr
      subst e
      obtain ⟨q1, q2, q3⟩ := A
      have ln : (plK g k ++ List.replicate t k).length = natSum g k + t := by rw [List.length_append, plK_len, List.length_replicate]
      rw [ln] at q1
      have hi : natSum g k + t < 24 := by omega
      refine ⟨(nI (t + 1), wI (wI (wI σ' 66 (natSum g k + t) (nI k)) 65 4 (nI (natSum g k + t + 1))) 65 5 (nI (w + (t + 1) * (k % 13 + 1)))), ?_, rfl, ⟨?_, ?_, fun i v hv => ?_⟩, Fr.tr (((FrX.w _ _ (by omega)).tr (FrX.w _ _ (by omega))).tr (FrX.w _ _ (by omega)))⟩
      · unfold b_X4_unpack_39
        dsimp only
        have r4 : rI (wI σ' 66 (natSum g k + t) (nI k)) 65 4 = nI (natSum g k + t) := by rw [fld_eq, if_neg (by omega), q1]
        have r5 : rI (wI (wI σ' 66 (natSum g k + t) (nI k)) 65 4 (nI (natSum g k + t + 1))) 65 5 = nI (w + t * (k % 13 + 1)) := by rw [fld_eq, if_neg (by omega), fld_eq, if_neg (by omega), q2]
        rw [ht, if_neg (show ¬ nI (g k) ≤ nI t from fun z => by have := (nI_leI (by omega) (by omega)).mp z; omega), q1, vSet_nI (by decide) hi, row_w, oLet_eq, r4, nI_1, oLet_eq, r5, show (13 : Int32) = nI 13 from rfl, nI_rem (by omega) (by omega), nI_1, nI_add, oLet_eq, nI_1]
        rw [show w + t * (k % 13 + 1) + (k % 13 + 1) = w + (t + 1) * (k % 13 + 1) by rw [Nat.succ_mul]; omega]
      · show rI (wI (wI (wI σ' 66 (natSum g k + t) (nI k)) 65 4 (nI (natSum g k + t + 1))) 65 5 (nI (w + (t + 1) * (k % 13 + 1)))) 65 4 = _
        rw [fld_eq, if_neg (by omega), fld_eq, if_pos ⟨rfl, rfl⟩, List.length_append, plK_len, List.length_replicate]
        rfl
      · show rI (wI (wI (wI σ' 66 (natSum g k + t) (nI k)) 65 4 (nI (natSum g k + t + 1))) 65 5 (nI (w + (t + 1) * (k % 13 + 1)))) 65 5 = _
        rw [fld_eq, if_pos ⟨rfl, rfl⟩]
      · show rI (wI (wI (wI σ' 66 (natSum g k + t) (nI k)) 65 4 (nI (natSum g k + t + 1))) 65 5 (nI (w + (t + 1) * (k % 13 + 1)))) 66 i = _
        rw [fld_eq, if_neg (by omega), fld_eq, if_neg (by omega), fld_eq]
        rw [List.replicate_succ', ← List.append_assoc] at hv
        by_cases e : i = natSum g k + t
        · rw [if_pos ⟨rfl, e⟩]
          rw [List.getElem?_append_right (by omega), ln, e, Nat.sub_self] at hv
          simp at hv
          rw [hv]
        · rw [if_neg (fun z => e z.2)]
          by_cases lt : i < natSum g k + t
          · rw [List.getElem?_append_left (by omega)] at hv
            exact q3 i v hv
          · rw [List.getElem?_append_right (by omega), ln, List.getElem?_eq_none (by simp only [List.length_singleton]; omega)] at hv
            cases hv)
    (by
      intro s ⟨e, A, Fr⟩
      obtain ⟨s1, σ'⟩ := s
      dsimp only at e A Fr
      subst e
      refine ⟨.inr (nI (k + 1), σ'), ?_, σ', rfl, by rw [plK_s]; exact A, Fr⟩
      unfold b_X4_unpack_39
      dsimp only
      rw [ht, if_pos (show nI (g k) ≤ nI (g k) from (nI_leI (by omega) (by omega)).mpr (Nat.le_refl _)), nI_1])
    (n := oFuel) (by rw [oFuel_eq]; omega) (s := (0, σ)) ⟨rfl, by rw [List.replicate_zero, List.append_nil, Nat.zero_mul]; exact H, FrX.rf _ σ⟩
  obtain ⟨τ, rfl, A⟩ := b2
  exact ⟨τ, b1, A⟩
theorem wtK_n (g : Nat → Nat) : wtK g = natSum (fun k => g k * (k % 13 + 1)) 52 := rfl
theorem unpack_eq {σ : rS} {bw : Bool} {g : Nat → Nat} (hg : ∀ j, j < 52 → g j ≤ 2) (cg : ctK g ≤ 24) (h3 : rI σ 65 3 = 1) : ∃ τ, f_X4_unpack σ (lN (SW (fw1 bw) g)) (lN (SW fw2 g)) = some ((), τ) ∧ rI τ 65 4 = nI (ctK g) ∧ rI τ 65 5 = nI (wtK g) ∧ (∀ i k, (plL g)[i]? = some k → rI τ 66 i = nI k) ∧ FrX W66 σ τ := by
  have F0 : FrX W66 σ (wI (wI σ 65 4 0) 65 5 0) := (FrX.w _ _ (by omega)).tr (FrX.w _ _ (by omega))
  obtain ⟨x, b1, b2⟩ := oL_ix (body := b_X4_unpack_13 (lN (SW (fw1 bw) g)) (lN (SW fw2 g))) (fun k s => s.1 = nI k ∧ R66 s.2 (plK g k) (natSum (fun k => g k * (k % 13 + 1)) k) ∧ FrX W66 σ s.2) (N := 52) (fun x => ∃ τ, x = ((), τ) ∧ R66 τ (plK g 52) (wtK g) ∧ FrX W66 σ τ) (by
      intro k s hk ⟨e, A, Fr⟩
      obtain ⟨s1, σ'⟩ := s
      dsimp only at e A Fr
      subst e
      have hc : natSum g k + g k ≤ 24 := by
        have := natSum_n (f := g) (a := k + 1) (b := 52) (by omega)
        rw [natSum_s] at this
        unfold ctK at cg
        omega
      obtain ⟨τ, c1, c2, c3⟩ := unpack_in (σ := σ') (g := g) (k := k) (fun _ => tilesOf_eq hg cg hk) hk (hg k hk) hc A
      refine ⟨(nI (k + 1), τ), ?_, rfl, c2, Fr.tr c3⟩
      have q3 : rI σ' 65 3 = 1 := (Fr.2.2.2.2 65 3 (by omega)).trans h3
      unfold b_X4_unpack_13
      dsimp only
      rw [q3, if_neg (show ¬ (1 : Int32) = 0 by decide), if_neg (show ¬ (52 : Int32) ≤ nI k from fun z => by have := (nI_leI (a := 52) (by omega) (by omega)).mp z; omega), if_neg (by decide), c1])
    (by
      intro s ⟨e, A, Fr⟩
      obtain ⟨s1, σ'⟩ := s
      dsimp only at e A Fr
      subst e
      have q3 : rI σ' 65 3 = 1 := (Fr.2.2.2.2 65 3 (by omega)).trans h3
      exact ⟨_, by unfold b_X4_unpack_13; dsimp only; rw [q3, if_neg (show ¬ (1 : Int32) = 0 by decide), if_pos (show (52 : Int32) ≤ nI 52 by decide), if_pos rfl], σ', rfl, A, Fr⟩)
    (n := oFuel) (by rw [oFuel_eq]; decide) (s := (0, wI (wI σ 65 4 0) 65 5 0)) ⟨rfl, ⟨by rw [fld_eq, if_neg (by omega), fld_eq, if_pos ⟨rfl, rfl⟩]; rfl, by rw [fld_eq, if_pos ⟨rfl, rfl⟩]; rfl, fun i k h => by simp [plK] at h⟩, F0⟩
  obtain ⟨τ, rfl, A, Fr⟩ := b2
  refine ⟨τ, ?_, by rw [A.1, plK_len]; rfl, A.2.1, A.2.2, Fr⟩
  unfold f_X4_unpack
  rw [oLet_eq, oLet_eq]
  exact b1
theorem unpack_0 {σ : rS} {a b : Int64} (h3 : rI σ 65 3 = 0) : f_X4_unpack σ a b = some ((), wI (wI σ 65 4 0) 65 5 0) := by
  unfold f_X4_unpack
  rw [oLet_eq, oLet_eq]
  have q3 : rI (wI (wI σ 65 4 0) 65 5 0) 65 3 = 0 := by rw [fld_eq, if_neg (by omega), fld_eq, if_neg (by omega), h3]
  have hb : b_X4_unpack_13 a b (0, wI (wI σ 65 4 0) 65 5 0) = some (.inl ((), wI (wI σ 65 4 0) 65 5 0)) := by
    unfold b_X4_unpack_13
    dsimp only
    rw [q3, if_pos rfl, if_pos rfl]
  rw [oFuel_eq]
  show oLoop _ (99999 + 1) _ = _
  unfold oLoop
  rw [hb]
