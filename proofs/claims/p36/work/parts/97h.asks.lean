/-! what the class answers where nothing is written -/
def adS (B : Bd) (E : List Ent) (m : Mem) : Nat → Int32
  | 0 => m 67 24
  | 1 => nI (natSum (bP B) 53)
  | 2 => nI (natSum (bT B) 52 + natSum (bJ B) 52)
  | 3 => nI (natSum (bJ B) 52)
  | 4 => nI (bF B)
  | 5 => nI (bD B).length
  | 6 => m 67 25
  | 7 => nI E.length
  | 8 => m 67 26
  | 9 => m 67 27
  | 10 => m 67 34
  | 11 => nI (bX B)
  | _ => 0
theorem sum_v {σ : rS} {B : Bd} {E : List Ent} {dl : Option (Nat × Nat × Nat)} {m : Mem} {l : Nat → Int64} {ch : Nat} (C : CI σ B E dl m l ch) {q : Nat} (hq : q ≤ 11) : f_X10_sum σ (nI q) = some (.inl (adS B E m q), σ) := by
  match q, hq with
  | 0, _ => unfold f_X10_sum; rw [if_pos (by decide), CI_4 C (x := 3) (j := 8) (by omega)]; rfl
  | 1, _ => unfold f_X10_sum; rw [if_neg (by decide), if_pos (by decide), C.1.2.2.2.2.2.2.1] <;> rfl
  | 2, _ => unfold f_X10_sum; rw [if_neg (by decide), if_neg (by decide), if_pos (by decide), C.1.2.2.2.2.2.2.2.1] <;> rfl
  | 3, _ => unfold f_X10_sum; rw [if_neg (by decide), if_neg (by decide), if_neg (by decide), if_pos (by decide), C.1.2.2.2.2.2.2.2.2.1] <;> rfl
  | 4, _ => unfold f_X10_sum; rw [if_neg (by decide), if_neg (by decide), if_neg (by decide), if_neg (by decide), if_pos (by decide), C.1.2.2.2.2.2.2.2.2.2.1] <;> rfl
  | 5, _ => unfold f_X10_sum; rw [if_neg (by decide), if_neg (by decide), if_neg (by decide), if_neg (by decide), if_neg (by decide), if_pos (by decide), C.1.2.2.2.2.2.1.1] <;> rfl
  | 6, _ => unfold f_X10_sum; rw [if_neg (by decide), if_neg (by decide), if_neg (by decide), if_neg (by decide), if_neg (by decide), if_neg (by decide), if_pos (by decide), CI_4 C (x := 3) (j := 9) (by omega)]; rfl
  | 7, _ => unfold f_X10_sum; rw [if_neg (by decide), if_neg (by decide), if_neg (by decide), if_neg (by decide), if_neg (by decide), if_neg (by decide), if_neg (by decide), if_pos (by decide), C.2.1.1] <;> rfl
  | 8, _ => unfold f_X10_sum; rw [if_neg (by decide), if_neg (by decide), if_neg (by decide), if_neg (by decide), if_neg (by decide), if_neg (by decide), if_neg (by decide), if_neg (by decide), if_pos (by decide), CI_4 C (x := 3) (j := 10) (by omega)]; rfl
  | 9, _ => unfold f_X10_sum; rw [if_neg (by decide), if_neg (by decide), if_neg (by decide), if_neg (by decide), if_neg (by decide), if_neg (by decide), if_neg (by decide), if_neg (by decide), if_neg (by decide), if_pos (by decide), CI_4 C (x := 3) (j := 11) (by omega)]; rfl
  | 10, _ => unfold f_X10_sum; rw [if_neg (by decide), if_neg (by decide), if_neg (by decide), if_neg (by decide), if_neg (by decide), if_neg (by decide), if_neg (by decide), if_neg (by decide), if_neg (by decide), if_neg (by decide), if_pos (by decide), CI_4 C (x := 31) (j := 1) (by omega)]; rfl
  | 11, _ => unfold f_X10_sum; rw [if_neg (by decide), if_neg (by decide), if_neg (by decide), if_neg (by decide), if_neg (by decide), if_neg (by decide), if_neg (by decide), if_neg (by decide), if_neg (by decide), if_neg (by decide), if_neg (by decide), if_pos (by decide), C.1.2.2.2.2.2.2.2.2.2.2.1] <;> rfl
  | x + 12, h => exact absurd h (by omega)
theorem ask_sum {σ : rS} {B : Bd} {E : List Ent} {dl : Option (Nat × Nat × Nat)} {m : Mem} {l : Nat → Int64} {ch : Nat} (C : CI σ B E dl m l ch) {q : Nat} (hq : q ≤ 11) (b : Int32) : f_L_ask σ 32 (nI q) b = some ((adS B E m q).toInt64, σ) := by
  rw [ask_eq, does_32]
  unfold f_L_sum
  rw [sum_v C hq, oBc_l]
def adJ (m : Mem) (q : Nat) : Nat := if m 74 0 = nI q then 0 else if m 74 1 = nI q then 1 else 2
def adP (B : Bd) (m : Mem) (q : Nat) : Nat → Int32
  | 0 => m 68 q
  | 1 => m 69 q
  | 2 => m 70 q
  | 3 => m 71 q
  | 4 => if m 72 q = 0 then 0 else 1
  | 5 => nI (rsz (bR B) q)
  | 6 => nI (woB (bR B) q)
  | 7 => nI (adJ m q)
  | 8 => m 77 q
  | 9 => m 73 q
  | _ => 0
theorem adJ_eq {m : Mem} (la : LaI m 3) {q : Nat} (hq : q < 3) : adJ m q < 3 ∧ m 74 (adJ m q) = nI q ∧ ∀ i, i < adJ m q → ¬ m 74 i = nI q := by
  obtain ⟨j, hj, j1, j2⟩ := la q hq
  have e : adJ m q = j := by
    unfold adJ
    rcases (by omega : j = 0 ∨ j = 1 ∨ j = 2) with rfl | rfl | rfl
    · rw [if_pos j1]
    · rw [if_neg (j2 0 (by omega)), if_pos j1]
    · rw [if_neg (j2 0 (by omega)), if_neg (j2 1 (by omega))]
  rw [e]
  exact ⟨hj, j1, j2⟩
theorem player_v {σ : rS} {B : Bd} {E : List Ent} {dl : Option (Nat × Nat × Nat)} {m : Mem} {l : Nat → Int64} {ch hh L jk ml pn : Nat} (C : CI σ B E dl m l ch) (r : RuM m hh L jk ml pn 3) (la : LaI m 3) (hM : ∀ p, p < 4 → m 72 p = 0 ∨ m 72 p = 1) {q t : Nat} (hq : q < 3) (ht : t ≤ 9) : f_X10_playerIs σ (nI q) (nI t) = some (.inl (adP B m q t), σ) := by
  have hn := CI_n C r
  have q4 : q < 4 := by omega
  have c1 : ¬ vIn (nI q) 0 ((rI σ 19 0) - 1) = 0 := by
    rw [hn, nI_s1 (by decide), show (0 : Int32) = nI 0 from rfl, vIn_in (by decide) (by omega) (by omega)]
    decide
  match t, ht with
  | 0, _ => unfold f_X10_playerIs f_X10_needPlayer; rw [if_neg c1, oBx_l, if_pos (by decide), vAt_nI (by decide) q4, CI_4 C (x := 20) (j := q) (by omega)]; rfl
  | 1, _ => unfold f_X10_playerIs f_X10_needPlayer; rw [if_neg c1, oBx_l, if_neg (by decide), if_pos (by decide), vAt_nI (by decide) q4, CI_4 C (x := 21) (j := q) (by omega)]; rfl
  | 2, _ => unfold f_X10_playerIs f_X10_needPlayer; rw [if_neg c1, oBx_l, if_neg (by decide), if_neg (by decide), if_pos (by decide), vAt_nI (by decide) q4, CI_4 C (x := 22) (j := q) (by omega)]; rfl
  | 3, _ => unfold f_X10_playerIs f_X10_needPlayer; rw [if_neg c1, oBx_l, if_neg (by decide), if_neg (by decide), if_neg (by decide), if_pos (by decide), vAt_nI (by decide) q4, CI_4 C (x := 23) (j := q) (by omega)]; rfl
  | 4, _ => unfold f_X10_playerIs f_X10_needPlayer; rw [if_neg c1, oBx_l, if_neg (by decide), if_neg (by decide), if_neg (by decide), if_neg (by decide), if_pos (by decide), hasM_eq C q4]; unfold adP; rcases hM q q4 with e | e <;> rw [e] <;> rfl
  | 5, _ => unfold f_X10_playerIs f_X10_needPlayer; rw [if_neg c1, oBx_l, if_neg (by decide), if_neg (by decide), if_neg (by decide), if_neg (by decide), if_neg (by decide), if_pos (by decide), sizeOf_eq C.1 q4] <;> rfl
  | 6, _ => unfold f_X10_playerIs f_X10_needPlayer; rw [if_neg c1, oBx_l, if_neg (by decide), if_neg (by decide), if_neg (by decide), if_neg (by decide), if_neg (by decide), if_neg (by decide), if_pos (by decide), worthOf_eq C.1 q4]; rfl
  | 7, _ => unfold f_X10_playerIs f_X10_needPlayer; rw [if_neg c1, oBx_l, if_neg (by decide), if_neg (by decide), if_neg (by decide), if_neg (by decide), if_neg (by decide), if_neg (by decide), if_neg (by decide), if_pos (by decide), cplace_eq C hn (by decide) (adJ_eq la hq).1 (adJ_eq la hq).2.1 (adJ_eq la hq).2.2]; rfl
  | 8, _ => unfold f_X10_playerIs f_X10_needPlayer; rw [if_neg c1, oBx_l, if_neg (by decide), if_neg (by decide), if_neg (by decide), if_neg (by decide), if_neg (by decide), if_neg (by decide), if_neg (by decide), if_neg (by decide), if_pos (by decide), vAt_nI (by decide) q4, CI_4 C (x := 25) (j := q) (by omega)]; rfl
  | 9, _ => unfold f_X10_playerIs f_X10_needPlayer; rw [if_neg c1, oBx_l, if_neg (by decide), if_neg (by decide), if_neg (by decide), if_neg (by decide), if_neg (by decide), if_neg (by decide), if_neg (by decide), if_neg (by decide), if_neg (by decide), if_pos (by decide), vAt_nI (by decide) q4, CI_4 C (x := 27) (j := q) (by omega)]; rfl
  | x + 10, h => exact absurd h (by omega)
theorem ask_player {σ : rS} {B : Bd} {E : List Ent} {dl : Option (Nat × Nat × Nat)} {m : Mem} {l : Nat → Int64} {ch hh L jk ml pn : Nat} (C : CI σ B E dl m l ch) (r : RuM m hh L jk ml pn 3) (la : LaI m 3) (hM : ∀ p, p < 4 → m 72 p = 0 ∨ m 72 p = 1) {q t : Nat} (hq : q < 3) (ht : t ≤ 9) : f_L_ask σ 28 (nI q) (nI t) = some ((adP B m q t).toInt64, σ) := by
  rw [ask_eq, does_28]
  unfold f_L_playerIs
  rw [player_v C r la hM hq ht, oBc_l]
def adK (hh j : Nat) : Bool := decide (j < 52 ∧ j % 13 < hh)
theorem kind_v {σ : rS} {hh j : Nat} (h : rI σ 4 0 = nI hh) (h13 : hh ≤ 13) (hj : j < 2 ^ 31) : v_X5_isKind σ (nI j) = if adK hh j then 1 else 0 := by
  unfold adK
  by_cases c : j < 52
  · rw [isKind_k h h13 c]
    by_cases d : j % 13 < hh
    · rw [if_neg (by omega), if_pos (by simp [c, d])]
    · rw [if_pos (by omega), if_neg (by simp [d])]
  · have e : v_X5_isKind σ (nI j) = 0 := Classical.byContradiction fun z => by
      obtain ⟨q, q1, -, q3⟩ := isKind_of h h13 z
      have := (nI_eq (by omega) (by omega)).mp q3
      omega
    rw [e, if_neg (by simp [c])]
def adR (B : Bd) (hh q j : Nat) : Int64 := if adK hh j then (nI (bR B (53 * q + j))).toInt64 else if j = 52 then (nI (bR B (53 * q + 52))).toInt64 else -10003
theorem ask_rack {σ : rS} {B : Bd} {E : List Ent} {dl : Option (Nat × Nat × Nat)} {m : Mem} {l : Nat → Int64} {ch hh L jk ml pn : Nat} (C : CI σ B E dl m l ch) (r : RuM m hh L jk ml pn 3) {q j : Nat} (hq : q < 3) (hj : j < 2 ^ 31) : f_L_ask σ 25 (nI q) (nI j) = some (adR B hh q j, σ) := by
  have hn := CI_n C r
  have c1 : ¬ vIn (nI q) 0 ((rI σ 19 0) - 1) = 0 := by
    rw [hn, nI_s1 (by decide), show (0 : Int32) = nI 0 from rfl, vIn_in (by decide) (by omega) (by omega)]
    decide
  have kk := kind_v (CI_h C r) r.2.2.1 hj
  have e52 : (nI j = 52) = (j = 52) := propext (nI_eq (b := 52) hj (by omega))
  rw [ask_eq, does_25]
  unfold f_L_rackIs f_X10_rackIs f_X10_needPlayer f_X10_needPiece adR
  rw [if_neg c1, oBx_l, kk]
  simp only [e52]
  by_cases k : adK hh j = true
  · have hj52 : j < 52 := by unfold adK at k; simp at k; exact k.1
    simp only [k, if_true]
    rw [if_pos (show (if j = 52 then true else (if (1 : Int32) = 0 then false else true)) = true by rw [if_neg (by omega)]; rfl), oBx_l, rackOf_eq C.1 (by omega) (by omega), oBc_l]
  · have k' : adK hh j = false := by simpa using k
    simp only [k', Bool.false_eq_true, if_false]
    by_cases z : j = 52
    · subst z
      simp only [if_true]
      rw [oBx_l, rackOf_eq C.1 (by omega) (by omega), oBc_l]
    · simp only [z, if_false, if_true, Bool.false_eq_true]
      rw [oBx_r, oBc_r lkA]
def adT (B : Bd) (hh j : Nat) (b : Int32) : Int64 := if adK hh j then (if b = 1 then nI (bJ B j) else nI (bT B j)).toInt64 else -10003
theorem ask_table {σ : rS} {B : Bd} {E : List Ent} {dl : Option (Nat × Nat × Nat)} {m : Mem} {l : Nat → Int64} {ch hh L jk ml pn : Nat} (C : CI σ B E dl m l ch) (r : RuM m hh L jk ml pn 3) {j : Nat} (hj : j < 2 ^ 31) (b : Int32) : f_L_ask σ 26 (nI j) b = some (adT B hh j b, σ) := by
  have kk := kind_v (CI_h C r) r.2.2.1 hj
  rw [ask_eq, does_26]
  unfold f_L_tableIs f_X10_tableIs f_X10_needKind adT
  rw [kk]
  by_cases k : adK hh j = true
  · have hj52 : j < 52 := by unfold adK at k; simp at k; exact k.1
    simp only [k, if_true]
    rw [if_neg (by decide), oBx_l, vAt_nI (by decide) hj52, vAt_nI (by decide) hj52, show rI σ 9 j = nI (bT B j) from C.1.2.2.2.1 j hj52, show rI σ 10 j = nI (bJ B j) from C.1.2.2.2.2.1 j hj52, oBc_l]
    by_cases e : b = 1
    · rw [if_pos e, if_pos e, if_neg (by decide)]
    · rw [if_neg e, if_neg e, if_pos rfl]
  · have k' : adK hh j = false := by simpa using k
    simp only [k', Bool.false_eq_true, if_false, if_true]
    rw [oBx_r, oBc_r lkA]
def adQ (B : Bd) (hh j : Nat) : Int64 := if adK hh j then (nI (bP B j)).toInt64 else if j = 52 then (nI (bP B 52)).toInt64 else -10003
theorem ask_pool {σ : rS} {B : Bd} {E : List Ent} {dl : Option (Nat × Nat × Nat)} {m : Mem} {l : Nat → Int64} {ch hh L jk ml pn : Nat} (C : CI σ B E dl m l ch) (r : RuM m hh L jk ml pn 3) {j : Nat} (hj : j < 2 ^ 31) (b : Int32) : f_L_ask σ 27 (nI j) b = some (adQ B hh j, σ) := by
  have kk := kind_v (CI_h C r) r.2.2.1 hj
  have e52 : (nI j = 52) = (j = 52) := propext (nI_eq (b := 52) hj (by omega))
  rw [ask_eq, does_27]
  unfold f_L_poolIs f_X10_poolIs f_X10_needPiece adQ
  rw [kk]
  simp only [e52]
  by_cases k : adK hh j = true
  · have hj52 : j < 52 := by unfold adK at k; simp at k; exact k.1
    simp only [k, if_true]
    rw [if_pos (show (if j = 52 then true else (if (1 : Int32) = 0 then false else true)) = true by rw [if_neg (by omega)]; rfl), oBx_l, vAt_nI (by decide) (by omega), show rI σ 6 j = nI (bP B j) from C.1.1 j (by omega), oBc_l]
  · have k' : adK hh j = false := by simpa using k
    simp only [k', Bool.false_eq_true, if_false]
    by_cases z : j = 52
    · subst z
      simp only [if_true]
      rw [oBx_l, vAt_nI (by decide) (by omega), show rI σ 6 52 = nI (bP B 52) from C.1.1 52 (by omega), oBc_l]
    · simp only [z, if_false, if_true, Bool.false_eq_true]
      rw [oBx_r, oBc_r lkA]
