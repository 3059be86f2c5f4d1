/-! states -/
def acI (L k : Nat) (i : Nat) : Nat := natSum (fun j => prj L (nib k j) * 16 ^ j) i
theorem acI_4 (L k : Nat) : acI L k 4 = imgM L k := by
  unfold acI imgM pk4
  simp only [natSum]
  omega
theorem acI_lt {L : Nat} (hL : L = 3 ∨ L = 4) (k : Nat) : ∀ i, acI L k i < 16 ^ i := by
  intro i
  induction i with
  | zero => exact Nat.zero_lt_one
  | succ i ih =>
    have h := prj_lt hL (nib_lt k i)
    have h2 : prj L (nib k i) * 16 ^ i ≤ 15 * 16 ^ i := Nat.mul_le_mul_right _ (by omega)
    show acI L k i + prj L (nib k i) * 16 ^ i < 16 ^ (i + 1)
    rw [Nat.pow_succ]
    omega
theorem acI_or {L : Nat} (hL : L = 3 ∨ L = 4) (k : Nat) {i : Nat} (hi : i < 4) : nI (acI L k i) ||| (nI (prj L (nib k i)) <<< ((4 * nI i) &&& 31)) = nI (acI L k (i + 1)) := by
  rw [sh_at (prj_lt hL (nib_lt k i)) hi]
  have e : prj L (nib k i) * 16 ^ i = 2 ^ (4 * i) * prj L (nib k i) := by rw [Nat.pow_mul, Nat.mul_comm]
  have h : acI L k i < 2 ^ (4 * i) := by rw [Nat.pow_mul]; exact acI_lt hL k i
  rw [e, nI_orp (4 * i) h, ← e, Nat.add_comm]
  rfl
theorem inner76 {σ : rS} {L k i : Nat} (hL : L = 3 ∨ L = 4) (S : ShM σ L) (hk : k < 65536) (q : rI σ 99 i = nI k) (hi : i < 65536) (s1 : Int32) : oLoop (b_X11_states_76 (s1, nI i, σ)) oFuel (0, 0) = some (.inr (nI (imgM L k))) := by
  obtain ⟨r, a1, a2⟩ := oL_ix (body := b_X11_states_76 (s1, nI i, σ)) (fun c s => s = (nI (acI L k c), nI c)) (N := 4) (fun r => r = .inr (nI (imgM L k))) (by
      intro c s hc e
      subst e
      refine ⟨_, ?_, rfl⟩
      unfold b_X11_states_76
      dsimp only
      rw [if_neg (show ¬ (4 : Int32) ≤ nI c from fun z => by have := (nI_leI (a := 4) (by omega) (by omega)).mp z; omega), if_pos (inB_nI (by decide) hi), nI_clamp (by omega), q, nib_eq hk hc, oLet_eq]
      have e16 : k / 16 ^ c % 16 = nib k c := rfl
      rw [e16]
      have hn := nib_lt k c
      have c15 : (nI (nib k c) = 15) = (nib k c = 15) := propext (nI_eq (b := 15) (by omega) (by omega))
      simp only [c15]
      by_cases z : nib k c = 15
      · rw [if_pos z, S.1, code_eq S (by omega) (by omega) false (w := 0) rfl, Option.bind_some]
        have ep : codeM L L L false = prj L (nib k c) := by unfold prj; rw [if_pos z]
        rw [ep, acI_or hL k hc, oLet_eq, nI_1]
      · rw [if_neg z]
        have ep : nib k c = prj L (nib k c) := by unfold prj; rw [if_neg z]
        have := acI_or hL k hc
        rw [← ep] at this
        rw [this, oLet_eq, nI_1])
    (by
      intro s e
      subst e
      exact ⟨_, by unfold b_X11_states_76; dsimp only; rw [if_pos (show (4 : Int32) ≤ nI 4 by decide)], by rw [acI_4]⟩)
    (n := oFuel) (by rw [oFuel_eq]; decide) (s := (0, 0)) rfl
  subst a2
  exact a1
theorem outer62 {σ : rS} {L : Nat} {l : List (Nat × V3)} (hL : L = 3 ∨ L = 4) (S : ShM σ L) (Li : LiM σ l) (z : ∀ k, k < 65536 → rI σ 98 k = 0) : ∃ τ, oLoop b_X11_states_62 oFuel (0, 0, σ) = some (.inr (nI (ddL (l.map fun p => imgM L p.1)).length, τ)) ∧ FrX (fun x _ => x = 98) σ τ := by
  have hl := nd_le Li.2.1 Li.2.2.1
  obtain ⟨x, b1, b2⟩ := oL_ix (body := b_X11_states_62) (fun i s => s.1 = nI (ddL ((l.take i).map fun p => imgM L p.1)).length ∧ s.2.1 = nI i ∧ (∀ k, k < 65536 → rI s.2.2 98 k = if k ∈ (l.take i).map fun p => imgM L p.1 then 1 else 0) ∧ FrX (fun x _ => x = 98) σ s.2.2) (N := l.length) (fun x => ∃ τ, x = .inr (nI (ddL (l.map fun p => imgM L p.1)).length, τ) ∧ FrX (fun x _ => x = 98) σ τ) (by
      intro i s hi ⟨e1, e2, A, Fr⟩
      obtain ⟨s1, s2, σ'⟩ := s
      dsimp only at e1 e2 A Fr
      subst e1 e2
      obtain ⟨p, hp⟩ : ∃ p, l[i]? = some p := ⟨l[i], List.getElem?_eq_getElem hi⟩
      obtain ⟨q1, -⟩ := Li.2.2.2 i p hp
      have hk := Li.2.2.1 p (List.mem_of_getElem? hp)
      have q50 : rI σ' 67 50 = nI l.length := (Fr.2.2.2.2 67 50 (by omega)).trans Li.1
      have S' : ShM σ' L := ⟨(Fr.2.2.2.2 67 2 (by omega)).trans S.1, S.2.1, fun j hj => ⟨(Fr.2.2.2.2 89 j (by omega)).trans (S.2.2 j hj).1, (Fr.2.2.2.2 90 j (by omega)).trans (S.2.2 j hj).2⟩⟩
      have him := (nib_imgM hL p.1).1
      obtain ⟨dn, dm⟩ := ddL_spec ((l.take i).map fun p => imgM L p.1)
      have et : (l.take (i + 1)).map (fun p => imgM L p.1) = (l.take i).map (fun p => imgM L p.1) ++ [imgM L p.1] := by rw [take_snoc hp, List.map_append]; rfl
      refine ⟨(nI (ddL ((l.take (i + 1)).map fun p => imgM L p.1)).length, nI (i + 1), wI σ' 98 (imgM L p.1) 1), ?_, rfl, rfl, fun k hk2 => ?_, Fr.tr (FrX.w (W := fun x _ => x = 98) _ _ rfl)⟩
      · unfold b_X11_states_62
        dsimp only
        rw [q50, if_neg (show ¬ nI l.length ≤ nI i from fun z => by have := (nI_leI (by omega) (by omega)).mp z; omega), inner76 hL S' hk ((Fr.2.2.2.2 99 i (by omega)).trans q1) (by omega), oJ_inr, if_pos (inB_nI (by decide) him), nI_clamp (by omega), A _ him]
        rw [et, ddL_snoc]
        by_cases c : imgM L p.1 ∈ (l.take i).map fun p => imgM L p.1
        · rw [if_pos c, if_neg (show ¬ (1 : Int32) = 0 by decide), ad0, oLet_eq, oLet_eq, nI_1, if_pos ((dm _).mpr c)]
        · rw [if_neg c, if_pos rfl, oLet_eq, oLet_eq, nI_1, nI_1, if_neg (fun z => c ((dm _).mp z)), List.length_append]
          rfl
      · show rI (wI σ' 98 (imgM L p.1) 1) 98 k = _
        rw [fld_eq, et]
        by_cases e : k = imgM L p.1
        · rw [if_pos ⟨rfl, e⟩, if_pos (List.mem_append.mpr (Or.inr (List.mem_singleton.mpr e)))]
        · rw [if_neg (fun z => e z.2), A k hk2]
          have : (k ∈ (l.take i).map (fun p => imgM L p.1) ++ [imgM L p.1]) = (k ∈ (l.take i).map fun p => imgM L p.1) := propext (by rw [List.mem_append, List.mem_singleton]; exact ⟨fun h => h.resolve_right e, Or.inl⟩)
          simp only [this])
    (by
      intro s ⟨e1, e2, A, Fr⟩
      obtain ⟨s1, s2, σ'⟩ := s
      dsimp only at e1 e2 A Fr
      subst e1 e2
      have q50 : rI σ' 67 50 = nI l.length := (Fr.2.2.2.2 67 50 (by omega)).trans Li.1
      exact ⟨_, by unfold b_X11_states_62; dsimp only; rw [q50, if_pos (show nI l.length ≤ nI l.length from (nI_leI (by omega) (by omega)).mpr (Nat.le_refl _))], σ', by rw [List.take_length], Fr⟩)
    (n := oFuel) (by rw [oFuel_eq]; omega) (s := (0, 0, σ)) ⟨rfl, rfl, fun k hk => by rw [z k hk]; rfl, FrX.rf _ σ⟩
  obtain ⟨τ, rfl, A⟩ := b2
  exact ⟨τ, b1, A⟩
theorem clear173 (v : Int32) (σ0 σ : rS) : ∃ τ, oLoop (b_X11_states_173 (v, σ0)) oFuel (0, σ) = some (v, τ) ∧ (∀ k, k < 65536 → rI τ 98 k = 0) ∧ FrX (fun x _ => x = 98) σ τ := by
  obtain ⟨x, b1, b2⟩ := oL_ix (body := b_X11_states_173 (v, σ0)) (fun i s => s.1 = nI i ∧ (∀ k, k < i → rI s.2 98 k = 0) ∧ FrX (fun x _ => x = 98) σ s.2) (N := 65536) (fun x => ∃ τ, x = (v, τ) ∧ (∀ k, k < 65536 → rI τ 98 k = 0) ∧ FrX (fun x _ => x = 98) σ τ) (by
      intro i s hi ⟨e, A, Fr⟩
      obtain ⟨s1, σ'⟩ := s
      dsimp only at e A Fr
      subst e
      refine ⟨(nI (i + 1), wI σ' 98 i 0), ?_, rfl, fun k hk => ?_, Fr.tr (FrX.w (W := fun x _ => x = 98) _ _ rfl)⟩
      · unfold b_X11_states_173
        dsimp only
        rw [if_neg (show ¬ (65536 : Int32) ≤ nI i from fun z => by have := (nI_leI (a := 65536) (by omega) (by omega)).mp z; omega), if_pos (inB_nI (by decide) hi), nI_clamp (by omega), oLet_eq, nI_1]
      · show rI (wI σ' 98 i 0) 98 k = 0
        rw [fld_eq]
        by_cases e : k = i
        · rw [if_pos ⟨rfl, e⟩]
        · rw [if_neg (fun z => e z.2)]; exact A k (by omega))
    (by
      intro s ⟨e, A, Fr⟩
      obtain ⟨s1, σ'⟩ := s
      dsimp only at e A Fr
      subst e
      exact ⟨_, by unfold b_X11_states_173; dsimp only; rw [if_pos (show (65536 : Int32) ≤ nI 65536 by decide)], σ', rfl, A, Fr⟩)
    (n := oFuel) (by rw [oFuel_eq]; decide) (s := (0, σ)) ⟨rfl, fun k hk => absurd hk (Nat.not_lt_zero k), FrX.rf _ σ⟩
  obtain ⟨τ, rfl, A⟩ := b2
  exact ⟨τ, b1, A⟩
