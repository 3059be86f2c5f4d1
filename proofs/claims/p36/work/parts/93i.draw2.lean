/-! draw and tick as calls of the game -/
theorem needR_y {σ : rS} {B : Bd} {E : List Ent} {dl : Option (Nat × Nat × Nat)} {m : Mem} {l : Nat → Int64} {ch p : Nat} (C : CI σ B E dl m l ch) (hp : p < 4) (tp : m 67 24 = nI p) : f_X10_needRound σ = some (.inl (), σ) := by
  unfold f_X10_needRound
  rw [isOn_yes C hp tp, if_neg (by decide)]
theorem needR_n {σ : rS} {B : Bd} {E : List Ent} {dl : Option (Nat × Nat × Nat)} {m : Mem} {l : Nat → Int64} {ch : Nat} (C : CI σ B E dl m l ch) (tp : m 67 24 = -1) : f_X10_needRound σ = some (.inr "java/lang/IllegalStateException", σ) := by
  unfold f_X10_needRound
  rw [isOn_no C tp, if_pos rfl]
/-- a clock runs -/
theorem Gm_clk {t : Nat} {B : Bd} {E : List Ent} {dl : Option (Nat × Nat × Nat)} {m : Mem} {B0 : Bd} {D : List (Nat × Nat)} {hh L jk ml pn n wr p q : Nat} (S : GmS t B E dl m B0 D hh L jk ml pn n wr) (hq : q ≤ 9999) : GmS t B E dl (up2 m 71 p (nI q)) B0 D hh L jk ml pn n wr := by
  obtain ⟨r, T, se, ⟨c1, c2, c3, c4⟩, rp⟩ := S
  have at' : ∀ x k, x ≠ 71 → up2 m 71 p (nI q) x k = m x k := fun x k h => by rw [up2_at, if_neg (fun z => h z.1)]
  refine ⟨RuM_cg r fun i _ _ => at' _ _ (by decide), ⟨T.1, ?_⟩, ⟨LaI_cg se.1 fun k => at' _ _ (by decide), fun i hi => by rw [at' _ _ (by decide)]; exact se.2.1 i hi, fun i hi => by rw [at' _ _ (by decide)]; exact se.2.2.1 i hi, fun i hi => ?_⟩, ⟨by rw [at' _ _ (by decide)]; exact c1, c2, c3, c4⟩, ?_⟩
  · rcases T.2 with ⟨h, h2⟩ | ⟨p', on⟩
    · exact Or.inl ⟨by rw [at' _ _ (by decide)]; exact h, h2⟩
    · obtain ⟨u1, u2, u3, u4, u5, u6, c, u7, u8⟩ := on
      exact Or.inr ⟨p', u1, by rw [at' _ _ (by decide)]; exact u2, u3, u4, u5, by rw [at' _ _ (by decide)]; exact u6, c, u7, by rw [at' _ _ (by decide)]; exact u8⟩
  · rw [up2_at]
    by_cases c : i = p
    · rw [if_pos ⟨rfl, c⟩]; exact ⟨q, hq, rfl⟩
    · rw [if_neg (fun z => c z.2)]; exact se.2.2.2 i hi
  · exact RpI_m rp (at' _ _ (by decide))
