/-! the law's loop, to its end -/
theorem law_go {σ : rS} {L : Nat} (hL : L ≤ 3072) (hk : (rK σ 2).2 = L) (G : GI 0 σ) : ∃ τ, oLoop b_L_law 513 (0, σ) = some (1, τ) := by
  obtain ⟨r, a1, τ, a2⟩ := oL_ix (body := b_L_law) (fun t s => s.1 = nI (6 * t) ∧ GI t s.2 ∧ Fr2 σ s.2) (N := L / 6) (fun r => ∃ τ, r = (1, τ)) (by
      intro t s ht ⟨e, Gs, f⟩
      obtain ⟨i, τ⟩ := s
      dsimp only at e Gs f
      have h6 : 6 * t + 6 ≤ L := by omega
      have hk2 : (rK τ 2).2 = L := by rw [f.1, hk]
      have H : ∀ j, j < 6 → inB (i + nI j) L := fun j hj => by
        rw [e, nI_add]
        exact inB_nI (by omega) (by omega)
      have H0 : inB i L := by rw [e]; exact inB_nI (by omega) (by omega)
      have he : ¬ nI L - 6 < i := fun z => by
        rw [e, show (6 : Int32) = nI 6 from rfl, nI_sub (by omega)] at z
        have := (nI_lt' (by omega) (by omega)).mp z
        omega
      obtain ⟨υ, b1, b2, b3⟩ := law_step Gs (by omega) hk2 H0 (H 1 (by omega)) (H 2 (by omega)) (H 3 (by omega)) (H 4 (by omega)) (H 5 (by omega)) he
      refine ⟨_, b1, ?_, b3, (f.tr b2).all⟩
      show i + 6 = _
      rw [e, show (6 : Int32) = nI 6 from rfl, nI_add]
      rfl)
    (by
      intro s ⟨e, Gs, f⟩
      obtain ⟨i, τ⟩ := s
      dsimp only at e Gs f
      have hk2 : (rK τ 2).2 = L := by rw [f.1, hk]
      refine ⟨_, ?_, τ, rfl⟩
      unfold b_L_law
      dsimp only
      rw [hk2, if_pos]
      rw [e]
      by_cases h6 : 6 ≤ L
      · rw [show (6 : Int32) = nI 6 from rfl, nI_sub h6]
        exact (nI_lt' (by omega) (by omega)).mpr (by omega)
      · have k : ∀ l : Fin 6, nI l.val - 6 < nI 0 := by decide
        rw [show L / 6 = 0 by omega]
        exact k ⟨L, by omega⟩)
    (n := 513) (by omega) (s := (0, σ)) ⟨rfl, G, ⟨rfl, fun _ => rfl⟩⟩
  exact ⟨τ, by rw [a1, a2]⟩
