theorem law_true (L : Nat) (xs : Nat → Int32) (hL : L ≤ 3072) : ∃ τ, f_law (σ00 L xs) = some (1, τ) ∧ ∀ τ1 τ2, f_X10_init (wN (σ00 L xs) (12, 0)) = some ((), τ1) → f_X11_init (wN τ1 (13, 0)) = some ((), τ2) → Sy (wN τ2 (1, 1)) := by
  obtain ⟨τ, h, -⟩ := za_sh L xs 0
  obtain ⟨G, S⟩ := start_ok h
  obtain ⟨υ, hυ⟩ := law_go hL (zt_len h) G
  refine ⟨υ, ?_, fun τ1 τ2 e1 e2 => ?_⟩
  · rw [f_law_zt, h]
    exact hυ
  · have e : wN τ2 (1, 1) = τ := by
      unfold zt at h
      rw [e1, Option.bind_some] at h
      dsimp only at h
      split at h
      · rw [e2, Option.bind_some] at h
        dsimp only at h
        split at h
        · exact Option.some.inj h
        · cases h
      · cases h
    rw [e]
    exact S
