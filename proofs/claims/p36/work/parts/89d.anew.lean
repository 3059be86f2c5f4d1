/-! the class's count of cuts piece by piece -/
def E48 (σ τ : rS) : Prop := rK τ = rK σ ∧ rR τ = rR σ ∧ rN τ = rN σ ∧ rL τ = rL σ ∧ ∀ x j, ¬ (x = 48 ∧ j < 52) → rI τ x j = rI σ x j
theorem E48.rf (σ : rS) : E48 σ σ := ⟨rfl, rfl, rfl, rfl, fun _ _ _ => rfl⟩
theorem E48.tr {σ τ υ : rS} (h : E48 σ τ) (g : E48 τ υ) : E48 σ υ := ⟨g.1.trans h.1, g.2.1.trans h.2.1, g.2.2.1.trans h.2.2.1, g.2.2.2.1.trans h.2.2.2.1, fun x j a => (g.2.2.2.2 x j a).trans (h.2.2.2.2 x j a)⟩
def Ro48 (σ : rS) (t : Nat → Nat) : Prop := ∀ k, k < 52 → rI σ 48 k = nI (t k)
def Gr1 (σ : rS) : Prop := ∀ g, g < 21 → rI σ 1 g = gr g
theorem Gr1.e {σ τ : rS} (h : Gr1 σ) (f : E48 σ τ) : Gr1 τ := fun g hg => (f.2.2.2.2 1 g (by omega)).trans (h g hg)
theorem fgr : ((List.range 5).all fun g => (gr (g + 1) == nI (cd4 (gd (g + 1)))) && ((if (gr (g + 1) &&& 1) = 1 then (0 : Int32) else 1) == nI (fcol (g + 1))) && (List.range 4).all fun s => (((gr (g + 1) >>> ((4 * nI s) &&& 31)) &&& 1) == nI (at4 (gd (g + 1)) s)) && decide (at4 (gd (g + 1)) s ≤ 1)) = true := by decide +kernel
theorem fgr_at {g : Nat} (h1 : 1 ≤ g) (h5 : g ≤ 5) : (if (gr g &&& 1) = 1 then (0 : Int32) else 1) = nI (fcol g) ∧ ∀ s, s < 4 → ((gr g >>> ((4 * nI s) &&& 31)) &&& 1) = nI (at4 (gd g) s) ∧ at4 (gd g) s ≤ 1 := by
  have h := List.all_eq_true.mp fgr (g - 1) (List.mem_range.mpr (by omega))
  rw [show g - 1 + 1 = g by omega] at h
  simp only [Bool.and_eq_true, beq_iff_eq, decide_eq_true_eq] at h
  refine ⟨h.1.2, fun s hs => ?_⟩
  have := List.all_eq_true.mp h.2 s (List.mem_range.mpr hs)
  simp only [Bool.and_eq_true, beq_iff_eq, decide_eq_true_eq] at this
  exact this
theorem row_get {σ : rS} {t : Nat → Nat} (H : Ro48 σ t) {k : Nat} (hk : k < 52) : vAt (rI σ 48) 52 (nI k) = nI (t k) := by
  rw [vAt_nI (by decide) hk, H k hk]
theorem hasRun_eq {σ : rS} {t : Nat → Nat} (H : Ro48 σ t) (h2 : ∀ k, k < 52 → t k ≤ 2) {k c : Nat} (hkc : k + c ≤ 52) : ∃ b : Bool, f_X0_hasRun σ (nI k) (nI c) = some (b2i b) ∧ (b = true ↔ ∀ j, j < c → 1 ≤ t (k + j)) := by
  have hx := oL_ixE (body := b_X0_hasRun_2 σ (nI k) (nI c)) (N := c) (fun m s => s = nI m ∧ ∀ j, j < m → 1 ≤ t (k + j)) (fun r => ∃ b : Bool, r = b2i b ∧ (b = true ↔ ∀ j, j < c → 1 ≤ t (k + j))) ?_ ?_ (n := oFuel) (by have : oFuel = 100000 := rfl; omega) (s := 0) ⟨rfl, fun j hj => absurd hj (Nat.not_lt_zero j)⟩
  · obtain ⟨r, h1, b, h3, h4⟩ := hx
    exact ⟨b, by unfold f_X0_hasRun; rw [h1, h3], h4⟩
  · rintro m s hm ⟨rfl, h1⟩
    have c1 : ¬ nI c ≤ nI m := fun q => by have := (nI_leI (by omega) (by omega)).mp q; omega
    unfold b_X0_hasRun_2
    rw [if_neg c1, nI_add, row_get H (by omega)]
    have := h2 (k + m) (by omega)
    by_cases h0 : t (k + m) = 0
    · refine Or.inr ⟨0, by rw [h0, if_pos (by decide)], false, rfl, ⟨fun q => absurd q (by decide), fun q => by have := q m hm; omega⟩⟩
    · refine Or.inl ⟨nI (m + 1), by rw [if_neg (show ¬ nI (t (k + m)) = 0 from fun q => h0 (nI_inj (b := 0) (by omega) (by omega) q))]; rw [show nI m + 1 = nI (m + 1) from nI_1 m], rfl, fun j hj => ?_⟩
      by_cases e : j = m
      · subst e; omega
      · exact h1 j (by omega)
  · rintro s ⟨rfl, h1⟩
    refine ⟨1, ?_, true, rfl, ⟨fun _ => h1, fun _ => rfl⟩⟩
    unfold b_X0_hasRun_2
    rw [if_pos ((nI_leI (by omega) (by omega)).mpr (Nat.le_refl _))]
theorem hasGroup_eq {σ : rS} {t : Nat → Nat} (H : Ro48 σ t) (h2 : ∀ k, k < 52 → t k ≤ 2) {j g : Nat} (hj : j < 13) (h1 : 1 ≤ g) (h5 : g ≤ 5) : ∃ b : Bool, f_X0_hasGroup σ (nI j) (gr g) = some (b2i b) ∧ (b = true ↔ ∀ s, s < 4 → at4 (gd g) s ≤ t (13 * s + j)) := by
  obtain ⟨-, fb⟩ := fgr_at h1 h5
  have hx := oL_ixE (body := b_X0_hasGroup_2 σ (nI j) (gr g)) (N := 4) (fun m s => s = nI m ∧ ∀ s, s < m → at4 (gd g) s ≤ t (13 * s + j)) (fun r => ∃ b : Bool, r = b2i b ∧ (b = true ↔ ∀ s, s < 4 → at4 (gd g) s ≤ t (13 * s + j))) ?_ ?_ (n := oFuel) (by decide) (s := 0) ⟨rfl, fun s hs => absurd hs (Nat.not_lt_zero s)⟩
  · obtain ⟨r, h1, b, h3, h4⟩ := hx
    exact ⟨b, by unfold f_X0_hasGroup; rw [h1, h3], h4⟩
  · rintro m s hm ⟨rfl, h1⟩
    have c1 : ¬ (4 : Int32) ≤ nI m := fun q => by have := (nI_leI (a := 4) (by omega) (by omega)).mp q; omega
    have c2 : (13 : Int32) * nI m + nI j = nI (13 * m + j) := by rw [show (13 : Int32) = nI 13 from rfl, nI_mul, nI_add]
    obtain ⟨b1, b2⟩ := fb m hm
    have := h2 (13 * m + j) (by omega)
    have e1 : (nI (at4 (gd g) m) = 1) = (at4 (gd g) m = 1) := propext (nI_eq (b := 1) (by omega) (by omega))
    have e0 : (nI (t (13 * m + j)) = 0) = (t (13 * m + j) = 0) := propext (nI_eq (b := 0) (by omega) (by omega))
    unfold b_X0_hasGroup_2
    rw [if_neg c1, b1, c2, row_get H (by omega)]
    simp only [e1, e0]
    by_cases h0 : at4 (gd g) m ≤ t (13 * m + j)
    · refine Or.inl ⟨nI (m + 1), ?_, rfl, fun s hs => ?_⟩
      · rw [show nI m + 1 = nI (m + 1) from nI_1 m]
        by_cases q : at4 (gd g) m = 1
        · rw [if_pos q, if_neg (show ¬ t (13 * m + j) = 0 by omega), if_pos rfl]
        · rw [if_neg q, if_pos rfl]
      · by_cases e : s = m
        · subst e; exact h0
        · exact h1 s (by omega)
    · refine Or.inr ⟨0, ?_, false, rfl, ⟨fun q => absurd q (by decide), fun q => absurd (q m hm) h0⟩⟩
      rw [if_pos (show at4 (gd g) m = 1 by omega), if_pos (show t (13 * m + j) = 0 by omega), if_neg (by decide)]
  · rintro s ⟨rfl, h1⟩
    refine ⟨1, ?_, true, rfl, ⟨fun _ => h1, fun _ => rfl⟩⟩
    unfold b_X0_hasGroup_2
    rw [if_pos (by decide)]
theorem svC_run {k c j : Nat} (hc : c < 14) : svC (19 * k + c) j = if k ≤ j ∧ j < k + c then 1 else 0 := by
  unfold svC
  rw [show (19 * k + c) % 19 = c by omega, show (19 * k + c) / 19 = k by omega, if_pos hc]
theorem svC_grp {k c j : Nat} (hc : 14 ≤ c) (hc2 : c < 19) : svC (19 * k + c) j = if j % 13 = k % 13 then at4 (gd (c - 13)) (j / 13) else 0 := by
  unfold svC
  rw [show (19 * k + c) % 19 = c by omega, show (19 * k + c) / 19 = k by omega, if_neg (by omega)]
theorem fits_eq {σ : rS} {t : Nat → Nat} {L : Nat} (G : Gr1 σ) (H : Ro48 σ t) (h2 : ∀ k, k < 52 → t k ≤ 2) (hL : L = 3 ∨ L = 4) {k c : Nat} (hk : k < 52) (hc : c < 19) : ∃ b : Bool, f_X0_fits σ (nI k) (nI c) (nI L) = some (b2i b) ∧ (b = true ↔ vlC L (19 * k + c) = true ∧ leV (svC (19 * k + c)) t = true) := by
  unfold f_X0_fits
  have e13 : iRem (nI k) 13 = nI (k % 13) := by rw [show (13 : Int32) = nI 13 from rfl, nI_rem (by omega) (by decide)]
  have d13 : nI k / 13 = nI (k / 13) := by rw [show (13 : Int32) = nI 13 from rfl, nI_div (by omega) (by decide)]
  have c14 : ((14 : Int32) ≤ nI c) = (14 ≤ c) := propext (nI_leI (a := 14) (by omega) (by omega))
  have hvl : vlC L (19 * k + c) = if c < 14 then decide (L ≤ c ∧ k % 13 + c ≤ 13) else decide (fcol (c - 13) = k / 13) := by
    unfold vlC
    rw [show (19 * k + c) % 19 = c by omega, show (19 * k + c) / 19 = k by omega]
  have bb : ∀ b : Bool, (if b2i b = 0 then (0 : Int32) else 1) = b2i b := fun b => by cases b <;> rfl
  by_cases h14 : 14 ≤ c
  · rw [if_pos (c14 ▸ h14)]
    have hg1 : 1 ≤ c - 13 := by omega
    have hg5 : c - 13 ≤ 5 := by omega
    have eg : nI c - 14 + 1 = nI (c - 13) := by rw [show (14 : Int32) = nI 14 from rfl, nI_sub h14, nI_1]; congr 1; omega
    rw [eg, vAt_nI (by decide) (by omega), G _ (by omega), oLet_eq]
    obtain ⟨fc, -⟩ := fgr_at hg1 hg5
    have efc : v_X0_firstColour σ (gr (c - 13)) = nI (fcol (c - 13)) := fc
    rw [efc, d13]
    have hfl : fcol (c - 13) ≤ 1 := by unfold fcol; split <;> omega
    have ec : (nI (fcol (c - 13)) = nI (k / 13)) = (fcol (c - 13) = k / 13) := propext (nI_eq (by omega) (by omega))
    by_cases hf : fcol (c - 13) = k / 13
    · rw [if_pos (ec ▸ hf), e13]
      obtain ⟨b, q1, q2⟩ := hasGroup_eq H h2 (j := k % 13) (by omega) hg1 hg5
      refine ⟨b, by rw [q1, Option.bind_some, bb], q2.trans ?_⟩
      rw [hvl, if_neg (by omega), decide_eq_true_eq, leV_iff]
      constructor
      · intro q
        refine ⟨hf, fun j hj => ?_⟩
        rw [svC_grp h14 hc]
        split
        · rename_i e
          have := q (j / 13) (by omega)
          rw [← e, show 13 * (j / 13) + j % 13 = j by omega] at this
          exact this
        · exact Nat.zero_le _
      · rintro ⟨-, q⟩ s hs
        have := q (13 * s + k % 13) (by omega)
        rw [svC_grp h14 hc, if_pos (by omega), show (13 * s + k % 13) / 13 = s by omega] at this
        exact this
    · rw [if_neg (fun q => hf (ec ▸ q))]
      refine ⟨false, rfl, ⟨fun q => absurd q (by decide), fun q => ?_⟩⟩
      rw [hvl, if_neg (by omega), decide_eq_true_eq] at q
      exact absurd q.1 hf
  · rw [if_neg (fun q => h14 (c14 ▸ q)), e13, nI_add]
    have cL' : (nI c < nI L) = (c < L) := propext (nI_lt' (by omega) (by omega))
    have c13 : ((13 : Int32) < nI (k % 13 + c)) = (13 < k % 13 + c) := propext (nI_lt' (a := 13) (by omega) (by omega))
    simp only [cL', c13]
    by_cases hv : L ≤ c ∧ k % 13 + c ≤ 13
    · rw [if_neg (show ¬ c < L by omega), if_neg (show ¬ 13 < k % 13 + c by omega), if_neg (by decide)]
      obtain ⟨b, q1, q2⟩ := hasRun_eq H h2 (k := k) (c := c) (by omega)
      refine ⟨b, by rw [q1, Option.bind_some, bb], q2.trans ?_⟩
      rw [hvl, if_pos (by omega), decide_eq_true_eq, leV_iff]
      constructor
      · intro q
        refine ⟨hv, fun j hj => ?_⟩
        rw [svC_run (by omega)]
        split
        · rename_i e
          have := q (j - k) (by omega)
          rw [show k + (j - k) = j by omega] at this
          exact this
        · exact Nat.zero_le _
      · rintro ⟨-, q⟩ j hj
        have := q (k + j) (by omega)
        rw [svC_run (by omega), if_pos (by omega)] at this
        exact this
    · refine ⟨false, ?_, ⟨fun q => absurd q (by decide), fun q => ?_⟩⟩
      · by_cases q : c < L
        · rw [if_pos q, if_pos rfl]; rfl
        · rw [if_neg q, if_pos (show 13 < k % 13 + c by omega), if_pos rfl]; rfl
      · rw [hvl, if_pos (by omega), decide_eq_true_eq] at q
        exact absurd q.1 hv
/-- a piece taken away, or put back -/
theorem take_eq {σ : rS} {t q : Nat → Nat} {L : Nat} {p : Int32} (G : Gr1 σ) (H : Ro48 σ t) (hL : L = 3 ∨ L = 4) {k c : Nat} (hk : k < 52) (hc : c < 19) (hv : vlC L (19 * k + c) = true) (hq : ∀ j, j < 52 → (if svC (19 * k + c) j = 1 then nI (t j) - p * 1 else nI (t j) - p * 0) = nI (q j)) : ∃ τ, f_X0_take σ (nI k) (nI c) p = some ((), τ) ∧ Ro48 τ q ∧ E48 σ τ := by
  have hvl : vlC L (19 * k + c) = if c < 14 then decide (L ≤ c ∧ k % 13 + c ≤ 13) else decide (fcol (c - 13) = k / 13) := by
    unfold vlC
    rw [show (19 * k + c) % 19 = c by omega, show (19 * k + c) / 19 = k by omega]
  rw [hvl] at hv
  have c14 : ((14 : Int32) ≤ nI c) = (14 ≤ c) := propext (nI_leI (a := 14) (by omega) (by omega))
  have p1 : p * 1 = p := Int32.mul_one p
  have p0 : ∀ x : Int32, x - p * 0 = x := fun x => by rw [Int32.mul_zero, Int32.sub_zero]
  unfold f_X0_take
  by_cases h14 : 14 ≤ c
  · rw [if_pos (c14 ▸ h14)]
    have eg : nI c - 14 + 1 = nI (c - 13) := by rw [show (14 : Int32) = nI 14 from rfl, nI_sub h14, nI_1]; congr 1; omega
    rw [eg, vAt_nI (by decide) (by omega), G _ (by omega), oLet_eq]
    obtain ⟨-, fb⟩ := fgr_at (g := c - 13) (by omega) (by omega)
    have e13 : iRem (nI k) 13 = nI (k % 13) := by rw [show (13 : Int32) = nI 13 from rfl, nI_rem (by omega) (by decide)]
    have hx := oL_ix (body := b_X0_take_57 (nI k) p (gr (c - 13))) (N := 4) (fun m s => s.1 = nI m ∧ (∀ j, j < 52 → rI s.2 48 j = if j % 13 = k % 13 ∧ j / 13 < m then nI (q j) else nI (t j)) ∧ E48 σ s.2) (fun r => ∃ τ, r = ((), τ) ∧ Ro48 τ q ∧ E48 σ τ) ?_ ?_ (n := oFuel) (by decide) (s := (0, σ)) ⟨rfl, fun j hj => by rw [if_neg (by omega)]; exact H j hj, E48.rf σ⟩
    · obtain ⟨r, h1, τ, h3, h4⟩ := hx
      exact ⟨τ, by rw [h1, h3], h4⟩
    · rintro m ⟨mm, τ⟩ hm ⟨h1, h2, h3⟩
      dsimp only at h1 h2 h3
      have c1 : ¬ (4 : Int32) ≤ nI m := fun q => by have := (nI_leI (a := 4) (by omega) (by omega)).mp q; omega
      have c2 : (13 : Int32) * nI m + nI (k % 13) = nI (13 * m + k % 13) := by rw [show (13 : Int32) = nI 13 from rfl, nI_mul, nI_add]
      obtain ⟨b1, b2⟩ := fb m hm
      have hjk : 13 * m + k % 13 < 52 := by omega
      have ev : rI τ 48 (13 * m + k % 13) = nI (t (13 * m + k % 13)) := by rw [h2 _ hjk, if_neg (by omega)]
      have eq1 : nI (t (13 * m + k % 13)) - p * nI (at4 (gd (c - 13)) m) = nI (q (13 * m + k % 13)) := by
        have es : svC (19 * k + c) (13 * m + k % 13) = at4 (gd (c - 13)) m := by rw [svC_grp h14 hc, if_pos (by omega), show (13 * m + k % 13) / 13 = m by omega]
        have := hq _ hjk
        rw [es] at this
        have hb : at4 (gd (c - 13)) m = 0 ∨ at4 (gd (c - 13)) m = 1 := by omega
        rcases hb with e | e
        · rw [e] at this ⊢
          rw [if_neg (by decide)] at this
          exact this
        · rw [e] at this ⊢
          rw [if_pos rfl] at this
          exact this
      refine ⟨(nI (m + 1), rowI τ 48 (va_up (rI τ 48) (13 * m + k % 13) (nI (q (13 * m + k % 13))))), ?_, rfl, fun j hj => ?_, h3.tr ⟨rfl, rfl, rfl, rfl, fun x j hx => ?_⟩⟩
      · unfold b_X0_take_57
        dsimp only
        rw [h1, if_neg c1, e13, c2, vAt_nI (by decide) hjk, ev, b1, eq1, vSet_nI (by decide) hjk, oLet_eq, show nI m + 1 = nI (m + 1) from nI_1 m]
      · dsimp only
        rw [q_rI, if_pos rfl, up_at]
        by_cases e : j = 13 * m + k % 13
        · rw [if_pos e, if_pos (by omega), e]
        · rw [if_neg e, h2 j hj]
          by_cases e2 : j % 13 = k % 13 ∧ j / 13 < m
          · rw [if_pos e2, if_pos (by omega)]
          · rw [if_neg e2, if_neg (by omega)]
      · rw [q_rI]
        by_cases e : x = 48
        · subst e
          rw [if_pos rfl, up_at, if_neg (by omega)]
        · rw [if_neg e]
    · rintro ⟨mm, τ⟩ ⟨h1, h2, h3⟩
      dsimp only at h1 h2 h3
      refine ⟨((), τ), ?_, τ, rfl, fun j hj => ?_, h3⟩
      · unfold b_X0_take_57
        dsimp only
        rw [h1, if_pos (by decide)]
      · rw [h2 j hj]
        by_cases e : j % 13 = k % 13
        · rw [if_pos ⟨e, by omega⟩]
        · have es : svC (19 * k + c) j = 0 := by rw [svC_grp h14 hc, if_neg e]
          rw [if_neg (fun z => e z.1), ← hq j hj, es, if_neg (by decide), p0]
  · rw [if_neg (fun q => h14 (c14 ▸ q))]
    rw [if_pos (by omega), decide_eq_true_eq] at hv
    have hx := oL_ix (body := b_X0_take_9 (nI k) (nI c) p) (N := c) (fun m s => s.1 = nI m ∧ (∀ j, j < 52 → rI s.2 48 j = if k ≤ j ∧ j < k + m then nI (q j) else nI (t j)) ∧ E48 σ s.2) (fun r => ∃ τ, r = ((), τ) ∧ Ro48 τ q ∧ E48 σ τ) ?_ ?_ (n := oFuel) (by have : oFuel = 100000 := rfl; omega) (s := (0, σ)) ⟨rfl, fun j hj => by rw [if_neg (by omega)]; exact H j hj, E48.rf σ⟩
    · obtain ⟨r, h1, τ, h3, h4⟩ := hx
      exact ⟨τ, by rw [h1, h3], h4⟩
    · rintro m ⟨mm, τ⟩ hm ⟨h1, h2, h3⟩
      dsimp only at h1 h2 h3
      have c1 : ¬ nI c ≤ nI m := fun q => by have := (nI_leI (by omega) (by omega)).mp q; omega
      have hjk : k + m < 52 := by omega
      have ev : rI τ 48 (k + m) = nI (t (k + m)) := by rw [h2 _ hjk, if_neg (by omega)]
      have eq1 : nI (t (k + m)) - p = nI (q (k + m)) := by
        have es : svC (19 * k + c) (k + m) = 1 := by rw [svC_run (by omega), if_pos (by omega)]
        have := hq _ hjk
        rw [es, if_pos rfl, p1] at this
        exact this
      refine ⟨(nI (m + 1), rowI τ 48 (va_up (rI τ 48) (k + m) (nI (q (k + m))))), ?_, rfl, fun j hj => ?_, h3.tr ⟨rfl, rfl, rfl, rfl, fun x j hx => ?_⟩⟩
      · unfold b_X0_take_9
        dsimp only
        rw [h1, if_neg c1, nI_add, vAt_nI (by decide) hjk, ev, eq1, vSet_nI (by decide) hjk, oLet_eq, show nI m + 1 = nI (m + 1) from nI_1 m]
      · dsimp only
        rw [q_rI, if_pos rfl, up_at]
        by_cases e : j = k + m
        · rw [if_pos e, if_pos (by omega), e]
        · rw [if_neg e, h2 j hj]
          by_cases e2 : k ≤ j ∧ j < k + m
          · rw [if_pos e2, if_pos (by omega)]
          · rw [if_neg e2, if_neg (by omega)]
      · rw [q_rI]
        by_cases e : x = 48
        · subst e
          rw [if_pos rfl, up_at, if_neg (by omega)]
        · rw [if_neg e]
    · rintro ⟨mm, τ⟩ ⟨h1, h2, h3⟩
      dsimp only at h1 h2 h3
      refine ⟨((), τ), ?_, τ, rfl, fun j hj => ?_, h3⟩
      · unfold b_X0_take_9
        dsimp only
        rw [h1, if_pos ((nI_leI (by omega) (by omega)).mpr (Nat.le_refl _))]
      · rw [h2 j hj]
        by_cases e : k ≤ j ∧ j < k + c
        · rw [if_pos e]
        · have es : svC (19 * k + c) j = 0 := by rw [svC_run (by omega), if_neg e]
          rw [if_neg e, ← hq j hj, es, if_neg (by decide), p0]
