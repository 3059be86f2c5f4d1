/-! the law's tell and its act: refused, and all is told the same; or done -/
def tlV (B : Bd) (E : List Ent) (m : Mem) (hh L : Nat) (k : Nat) : Int64 := if k < 12 then (adS B E m k).toInt64 else if k < 42 then (adP B m ((k - 12) / 10) ((k - 12) % 10)).toInt64 else if k = 42 then coM m B 3 52 else if k = 43 then (cuS 0 (cuV (cntR L hh (tjB B)))).toInt64 else if k < 53 then adT B hh (13 * ((k - 44) % 4) + (k - 44) / 4) 0 else adR B hh ((k - 44) % 3) (5 * (k - 44))
theorem adS_m {B : Bd} {E : List Ent} {m m' : Mem} (h : mEq m m') (q : Nat) : adS B E m' q = adS B E m q := by
  unfold adS
  split <;> first | rfl | exact h _ _ (by omega) (by omega)
theorem adJ_m {m m' : Mem} (h : mEq m m') (q : Nat) : adJ m' q = adJ m q := by
  unfold adJ
  rw [h 74 0 (by omega) (by omega), h 74 1 (by omega) (by omega)]
theorem adP_m {B : Bd} {m m' : Mem} (h : mEq m m') (p q : Nat) : adP B m' p q = adP B m p q := by
  unfold adP
  split <;> first | rfl | exact h _ _ (by omega) (by omega) | rw [adJ_m h] | rw [h 72 p (by omega) (by omega)]
theorem clS_m {m m' : Mem} (h : mEq m m') (k : Nat) : ∀ n, clS m' k n = clS m k n
  | 0 => rfl
  | n + 1 => by
    show clS m' k n + m' 78 (52 * n + k) = clS m k n + m 78 (52 * n + k)
    rw [clS_m h k n, h 78 _ (by omega) (by omega)]
theorem coM_m {m m' : Mem} (h : mEq m m') (B : Bd) (n : Nat) : ∀ k, coM m' B n k = coM m B n k
  | 0 => rfl
  | k + 1 => by
    show (if clS m' k n + nI (bT B k) ≤ 2 then coM m' B n k else coM m' B n k ||| ((1 : Int64) <<< (((nI k : Int32)).toInt64 &&& 63))) = (if clS m k n + nI (bT B k) ≤ 2 then coM m B n k else coM m B n k ||| ((1 : Int64) <<< (((nI k : Int32)).toInt64 &&& 63)))
    rw [clS_m h, coM_m h B n k]
theorem tlV_m {B : Bd} {E : List Ent} {m m' : Mem} {hh L : Nat} (h : mEq m m') (k : Nat) : tlV B E m' hh L k = tlV B E m hh L k := by
  unfold tlV
  rw [adS_m h, adP_m h, coM_m h]
theorem tq_1 : ∀ k, k < 42 → 12 ≤ k → nI (k - 12) / 10 = nI ((k - 12) / 10) ∧ nI (k - 12) - nI (k - 12) / 10 * 10 = nI ((k - 12) % 10) := by decide +kernel
theorem tq_2 : ∀ k, k < 53 → 44 ≤ k → 13 * (nI (k - 44) - nI (k - 44) / 4 * 4) + nI (k - 44) / 4 = nI (13 * ((k - 44) % 4) + (k - 44) / 4) := by decide +kernel
theorem tq_3 : ∀ k, k < 62 → 53 ≤ k → nI (k - 44) - nI (k - 44) / 3 * 3 = nI ((k - 44) % 3) ∧ 5 * nI (k - 44) = nI (5 * (k - 44)) := by decide +kernel
section
variable {t : Nat} {σ : rS} {B : Bd} {E : List Ent} {dl : Option (Nat × Nat × Nat)} {m : Mem} {l : Nat → Int64} {ch : Nat} {B0 : Bd} {D : List (Nat × Nat)} {hh L jk ml pn wr : Nat}
theorem tq_ok (G : GAx t σ B E dl m l ch B0 D hh L jk ml pn wr) (ht : t ≤ 700) {k : Nat} (hk : k < 62) : AK t σ B E dl m l ch B0 D hh L jk ml pn wr (fun σ => f_L_ask σ (tq k).1 (tq k).2.1 (tq k).2.2) (tlV B E m hh L k) := by
  unfold tq tlV
  by_cases c1 : k < 12
  · simp only [c1, if_true]
    exact k_sum G (by omega) 0
  simp only [c1, if_false]
  by_cases c2 : k < 42
  · simp only [c2, if_true]
    rw [(tq_1 k c2 (by omega)).2, (tq_1 k c2 (by omega)).1]
    exact k_player G (by omega) (by omega)
  simp only [c2, if_false]
  by_cases c3 : k = 42
  · simp only [c3, if_true]
    exact k_copies G 0 0
  simp only [c3, if_false]
  by_cases c4 : k = 43
  · simp only [c4, if_true]
    exact k_cuts G ht (q := 0) (by omega) 0
  simp only [c4, if_false]
  by_cases c5 : k < 53
  · simp only [c5, if_true]
    rw [tq_2 k c5 (by omega)]
    exact k_table G (by omega) 0
  · simp only [c5, if_false]
    rw [(tq_3 k hk (by omega)).1, (tq_3 k hk (by omega)).2]
    exact k_rack G (by omega) (by omega)
theorem tG_ok (ht : t ≤ 700) : ∀ n k (f : Nat → Int64) σ, k + n = 62 → GAx t σ B E dl m l ch B0 D hh L jk ml pn wr → ∃ g τ, tG n k f σ = some (g, τ) ∧ (∀ j, k ≤ j → j < 62 → g j = tlV B E m hh L j) ∧ (∀ j, j < k → g j = f j) ∧ GAx t τ B E dl m l ch B0 D hh L jk ml pn wr
  | 0, k, f, σ, hk, G => ⟨f, σ, rfl, fun j h1 h2 => absurd h1 (by omega), fun _ _ => rfl, G⟩
  | n + 1, k, f, σ, hk, G => by
    obtain ⟨τ, a1, a2⟩ := tq_ok G ht (k := k) (by omega)
    obtain ⟨g, τ2, b1, b2, b3, b4⟩ := tG_ok ht n (k + 1) (va_up f k (tlV B E m hh L k)) τ (by omega) a2
    refine ⟨g, τ2, ?_, fun j h1 h2 => ?_, fun j h => ?_, b4⟩
    · have a1 : f_L_ask σ (tq k).1 (tq k).2.1 (tq k).2.2 = some (tlV B E m hh L k, τ) := a1
      show ((f_L_ask σ (tq k).1 (tq k).2.1 (tq k).2.2).bind fun r => tG n (k + 1) (va_up f k r.1) r.2) = _
      rw [a1]
      exact b1
    · by_cases e : j = k
      · subst e; rw [b3 j (by omega), up_same]
      · exact b2 j (by omega) h2
    · rw [b3 j (by omega), up_other _ _ (by omega)]
theorem tell_ok (G : GAx t σ B E dl m l ch B0 D hh L jk ml pn wr) (ht : t ≤ 700) : ∃ g τ, f_tell σ = some (g, τ) ∧ (∀ j, j < 62 → g j = tlV B E m hh L j) ∧ GAx t τ B E dl m l ch B0 D hh L jk ml pn wr := by
  obtain ⟨g, τ, a1, a2, -, a4⟩ := tG_ok ht 62 0 (fun _ => 0) σ (by omega) G
  exact ⟨g, τ, a1, fun j h => a2 j (Nat.zero_le _) h, a4⟩
theorem sG_1 {f g : Nat → Int64} : ∀ n k, k + n = 62 → (∀ j, j < 62 → f j = g j) → sG f g n k = 1
  | 0, _, _, _ => rfl
  | n + 1, k, hk, h => by
    unfold sG
    rw [if_pos ((lg_0 _ _).mpr (h k (by omega)))]
    exact sG_1 n (k + 1) (by omega) h
theorem GAx_s (G : GAx t σ B E dl m l ch B0 D hh L jk ml pn wr) : GAx (t + 1) σ B E dl m l ch B0 D hh L jk ml pn wr := ⟨G.1, G.2.1, by have := G.2.2.1; omega, GmS_s G.2.2.2.1, Xt_t G.2.2.2.2 (by omega)⟩
theorem AR_cg {f g : rS → Option (Int64 × rS)} (e : g σ = f σ) (A : AR t f σ B E dl m l ch B0 D hh L jk ml pn wr) : AR t g σ B E dl m l ch B0 D hh L jk ml pn wr := by
  unfold AR at *
  rw [e]
  exact A
theorem a_player (G : GAx t σ B E dl m l ch B0 D hh L jk ml pn wr) (ht : t ≤ 512) (on : ∃ p, p < 3 ∧ m 67 24 = nI p) (a b : Int32) : AR t (fun σ => f_L_player σ a b) σ B E dl m l ch B0 D hh L jk ml pn wr := by
  have F := G_facts G.2.2.2.1 (by omega)
  rcases player_s G.1 (Kp := FrK σ) (fun _ f => f) G.2.2.2.1.1 F.2.1 a b with Q | ⟨-, h, -⟩
  · exact ar_x G Q
  · obtain ⟨p, hp, e⟩ := on
    rw [e] at h
    exact absurd h (n_m1 (by omega))
theorem low_some (σ : rS) (a : Int32) {b : Int32} (h : ¬ b = 0) : f_L_low σ a b = some (iRem (a &&& 2147483647) b) := by
  unfold f_L_low
  rw [if_pos h]
theorem oB_id {T : Type} (x : Option (T × rS)) : (oB x fun v σ => some (v, σ)) = x := by
  cases x <;> rfl
end
