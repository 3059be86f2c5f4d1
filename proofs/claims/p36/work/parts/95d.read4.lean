/-! all is read -/
theorem psT_0 {m : Mem} {wr hh d i : Nat} (h : wr ≤ i) : psT m wr hh d i = some [] := by
  cases d with
  | zero => rfl
  | succ d => unfold psT; rw [if_pos h]
theorem cRead_go {B : Bd} {E : List Ent} {dl : Option (Nat × Nat × Nat)} {m : Mem} {l : Nat → Int64} {ch hh L jk ml pn n wr : Nat} (r : RuM m hh L jk ml pn n) (hw : m 67 34 = nI wr) (h40 : wr ≤ 40) : ∀ d i (ms : List (Nat × Nat)) (σ : rS) N, wr ≤ i + d → i ≤ wr → ms.length ≤ i → CI σ B E dl (mcU m σ) l ch → RdC σ ms → d < N → (psT m wr hh d i = none → ∃ τ, oLoop b_X7_read_7 N (nI i, σ) = some (0, τ) ∧ FrX WRd σ τ) ∧ ∀ l', psT m wr hh d i = some l' → ∃ τ, oLoop b_X7_read_7 N (nI i, σ) = some ((if (ms ++ l').length = 0 then 0 else 1), τ) ∧ RdC τ (ms ++ l') ∧ FrX WRd σ τ := by
  have exit : ∀ d i (ms : List (Nat × Nat)) (σ : rS) N, wr ≤ i → i ≤ wr → ms.length ≤ i → CI σ B E dl (mcU m σ) l ch → RdC σ ms → 0 < N → (psT m wr hh d i = none → ∃ τ, oLoop b_X7_read_7 N (nI i, σ) = some (0, τ) ∧ FrX WRd σ τ) ∧ ∀ l', psT m wr hh d i = some l' → ∃ τ, oLoop b_X7_read_7 N (nI i, σ) = some ((if (ms ++ l').length = 0 then 0 else 1), τ) ∧ RdC τ (ms ++ l') ∧ FrX WRd σ τ := fun d i ms σ N h1 h2 h3 C R hN => by
    obtain ⟨N, rfl⟩ : ∃ k, N = k + 1 := ⟨N - 1, by omega⟩
    rw [psT_0 h1]
    refine ⟨fun h => (by cases h), fun l' h => ?_⟩
    cases h
    have q1 : rI σ 31 1 = nI wr := (CI_4 C (x := 31) (j := 1) (by omega)).trans ((mcU_at (x := 67) (k := 34) m σ (by omega)).trans hw)
    refine ⟨σ, oLoop_l ?_, by rw [List.append_nil]; exact R, FrX.rf _ σ⟩
    have c0 : (nI ms.length ≤ 0) = (ms.length = 0) := nI_le0 (by omega)
    unfold b_X7_read_7
    dsimp only
    rw [q1, if_pos ((nI_leI (by omega) (by omega)).mpr h1), R.1, List.append_nil]
    simp only [c0]
    by_cases z : ms.length = 0
    · rw [if_pos z, if_pos z]
    · rw [if_neg z, if_neg z]
  intro d
  induction d with
  | zero => exact fun i ms σ N h1 h2 h3 C R hN => exit 0 i ms σ N h1 h2 h3 C R hN
  | succ d ih =>
    intro i ms σ N h1 h2 h3 C R hN
    by_cases hi : wr ≤ i
    · exact exit (d + 1) i ms σ N hi h2 h3 C R (by omega)
    obtain ⟨N, rfl⟩ : ∃ k, N = k + 1 := ⟨N - 1, by omega⟩
    have rU : RuM (mcU m σ) hh L jk ml pn n := RuM_cg r fun j _ _ => mcU_at m σ (by omega)
    obtain ⟨g1, g2⟩ := cRead_step C rU ((mcU_at m σ (by omega)).trans hw) h40 (by omega) h3 R
    rw [psS_cg (m := m) (m' := mcU m σ) fun j => mcU_at m σ (by omega)] at g1 g2
    have et : psT m wr hh (d + 1) i = match psS m wr hh i with
        | none => none
        | some (c, k, i') => (psT m wr hh d i').map fun l => (c, k) :: l := by
      show (if wr ≤ i then some [] else _) = _
      rw [if_neg hi]
      rfl
    rw [et]
    cases hp : psS m wr hh i with
    | none =>
      refine ⟨fun _ => ⟨σ, oLoop_l (g1 hp), FrX.rf _ σ⟩, fun l' h => (by cases h)⟩
    | some p =>
      obtain ⟨c, k, i'⟩ := p
      obtain ⟨τ, k1, k2, k3⟩ := g2 c k i' hp
      have lt := psS_gt hp
      have C' := CI_Rd C k3
      rw [mcU_tw] at C'
      obtain ⟨f1, f2⟩ := ih i' (ms ++ [(c, k)]) τ N (by omega) (psS_le (by omega) hp) (by rw [List.length_append, List.length_singleton]; omega) C' k2 (by omega)
      rw [oLoop_r k1]
      dsimp only
      refine ⟨fun h => ?_, fun l' h => ?_⟩
      · obtain ⟨τ2, a1, a2⟩ := f1 (Option.map_eq_none_iff.mp h)
        exact ⟨τ2, a1, k3.tr a2⟩
      · obtain ⟨l2, e1, rfl⟩ := Option.map_eq_some_iff.mp h
        obtain ⟨τ2, a1, a2, a3⟩ := f2 l2 e1
        rw [List.append_assoc, List.singleton_append] at a1 a2
        exact ⟨τ2, a1, a2, k3.tr a3⟩
