/-! entry, playerIs -/
theorem nI_shlG (k : Nat) (b : Int32) (m : Nat) (hb : b.toBitVec.smod 32 = BitVec.ofNat 32 m) (hm : m < 32) : nI k <<< b = nI (2 ^ m * k) := by
  apply Int32.toBitVec_inj.mp
  have e1 : (nI k).toBitVec = BitVec.ofNat 32 k := rfl
  have e2 : (nI (2 ^ m * k)).toBitVec = BitVec.ofNat 32 (2 ^ m * k) := rfl
  rw [Int32.toBitVec_shiftLeft, hb, e1, e2]
  apply BitVec.eq_of_toNat_eq
  rw [BitVec.shiftLeft_eq', BitVec.toNat_shiftLeft, BitVec.toNat_ofNat, BitVec.toNat_ofNat, BitVec.toNat_ofNat, Nat.shiftLeft_eq, Nat.mod_eq_of_lt (show m < 2 ^ 32 by omega), Nat.mod_mul_mod, Nat.mul_comm]
def OkE (E : List Ent) : Prop := ∀ e ∈ E, e.1 < 8 ∧ e.2.1 < 4 ∧ e.2.2.1 < 64 ∧ e.2.2.2 < 2 ^ 16
theorem enE_eq {e : Ent} (h : e.1 < 8 ∧ e.2.1 < 4 ∧ e.2.2.1 < 64 ∧ e.2.2.2 < 2 ^ 16) : enE e = nI (2 ^ 11 * e.2.2.2 + (2 ^ 5 * e.2.2.1 + (2 ^ 3 * e.2.1 + e.1))) := by
  unfold enE
  rw [nI_shlG _ _ 3 (by decide) (by decide), nI_shlG _ _ 5 (by decide) (by decide), nI_shlG _ _ 11 (by decide) (by decide), nI_orp 3 (by omega), nI_orp 5 (by omega), nI_orp 11 (by omega)]
theorem entry_s {σ : rS} {B : Bd} {E : List Ent} {dl : Option (Nat × Nat × Nat)} {m : Mem} {l : Nat → Int64} {ch : Nat} (C : CI σ B E dl m l ch) (M : MI σ B E m l) {Kp : rS → Prop} (hK : ∀ τ, FrK σ τ → Kp τ) (hE : E.length ≤ 1024) (oE : OkE E) (a b : Int32) : QStep Kp (fun σ => f_L_entry σ a b) (fun σ => f_X11_entry σ a b) σ B E dl m l ch := by
  have c35 : rI σ 35 1 = nI E.length := C.2.1.1
  have m32 : ∀ τ, MI τ B E m l → rI τ 67 32 = nI E.length := fun τ N => N.2.1.1
  by_cases c1 : vIn a 0 (nI E.length - 1) = 0
  · refine q_ex C M hK 1 (-1) (by decide) ?_ ?_
    · show f_L_entry σ a b = _
      unfold f_L_entry f_X10_entry
      rw [c35, if_pos c1, oBc_r lk2]
    · show f_X11_entry σ a b = _
      unfold f_X11_entry
      rw [m32 σ M, in_eq, if_pos c1, holds1, oB_some, if_neg (by decide)]
  · have h1 : 1 ≤ E.length := by
      rcases Nat.eq_zero_or_pos E.length with z | z
      · rw [z] at c1
        obtain ⟨q, hq, -⟩ := vIn_pl (n := 0) (by omega) c1
        exact absurd hq (by omega)
      · exact z
    have c1' := c1
    rw [nI_s1 h1] at c1'
    obtain ⟨q, -, hq, rfl⟩ := vIn_of (a := 0) (b := E.length - 1) (by omega) c1' (by decide)
    have ei : (nI E.length - 1) - nI q = nI (E.length - 1 - q) := by rw [nI_s1 h1, nI_sub hq]
    obtain ⟨i, di⟩ : ∃ i, i = E.length - 1 - q := ⟨_, rfl⟩
    have hi : i < E.length := by omega
    obtain ⟨e, he⟩ : ∃ e, E[i]? = some e := ⟨_, List.getElem?_eq_getElem hi⟩
    have hb := oE e (List.mem_of_getElem? he)
    have ce := C.2.1.2 i e he
    rw [enE_eq hb] at ce
    have cv : vAt (rI σ 36) 1024 (nI i) = nI (2 ^ 11 * e.2.2.2 + (2 ^ 5 * e.2.2.1 + (2 ^ 3 * e.2.1 + e.1))) := by rw [vAt_nI (by decide) (by omega), ce]
    by_cases c2 : vIn b 0 3 = 0
    · have ne : ∀ t, t ≤ 3 → ¬ b = nI t := fun t ht e => by
        rw [e, show (0 : Int32) = nI 0 from rfl, show (3 : Int32) = nI 3 from rfl, vIn_in (by decide) (by omega) ht] at c2
        exact absurd c2 (by decide)
      refine q_ex C M hK 2 (-1) (by decide) ?_ ?_
      · show f_L_entry σ (nI q) b = _
        unfold f_L_entry f_X10_entry
        rw [c35, if_neg c1, if_neg (show ¬ b = 0 from ne 0 (by decide)), if_neg (show ¬ b = 1 from ne 1 (by decide)), if_neg (show ¬ b = 2 from ne 2 (by decide)), if_neg (show ¬ b = 3 from ne 3 (by decide)), oBc_r lk3]
      · show f_X11_entry σ (nI q) b = _
        unfold f_X11_entry
        rw [m32 σ M, in_eq, in_eq, if_neg c1, if_pos c2, holds2, oB_some, if_neg (by decide)]
    · have key : ∀ v, f_X10_entry σ (nI q) b = some (.inl v, σ) → (∀ τ, MI τ B E m l → f_X11_entry τ (nI q) b = some (v, wI τ 67 0 0)) → QStep Kp (fun σ => f_L_entry σ (nI q) b) (fun σ => f_X11_entry σ (nI q) b) σ B E dl m l ch := fun v h1 h2 => q_ok C M hK v (by
        show f_L_entry σ (nI q) b = _
        unfold f_L_entry
        rw [h1, oBc_l]
        rfl) h2
      have c2' := c2
      obtain ⟨t, -, ht, rfl⟩ := vIn_of (a := 0) (b := 3) (by decide) c2' (by decide)
      have rf : ∀ τ, MI τ B E m l → f_X11_entry τ (nI q) (nI t) = some (rI τ 85 (4 * i + t), wI τ 67 0 0) := fun τ N => by
        have N0 := MI_t N 0
        unfold f_X11_entry
        rw [m32 τ N, in_eq, in_eq, if_neg c1, if_neg c2, holds0, oB_some, if_pos rfl, m32 _ N0, ei, ← di, show (4 : Int32) = nI 4 from rfl, nI_mul, nI_add, if_pos (inB_nI (by decide) (by omega)), nI_clamp (by omega), fld_eq, if_neg (by omega)]
      rcases (show t = 0 ∨ t = 1 ∨ t = 2 ∨ t = 3 by omega) with rfl | rfl | rfl | rfl
      · exact key (nI e.1) (by unfold f_X10_entry v_X2_sort; rw [c35, if_neg c1, if_pos (by decide), ei, ← di, cv, show (7 : Int32) = nI (2 ^ 3 - 1) from rfl, nI_mod, show (2 ^ 11 * e.2.2.2 + (2 ^ 5 * e.2.2.1 + (2 ^ 3 * e.2.1 + e.1))) % 2 ^ 3 = e.1 by omega]) fun τ N => by rw [rf τ N, Nat.add_zero, (N.2.1.2 i e he).1]
      · exact key (nI e.2.1) (by unfold f_X10_entry v_X2_who; rw [c35, if_neg c1, if_neg (by decide), if_pos (by decide), ei, ← di, cv, nI_shrG (by omega) _ 3 (by decide) (by decide), show (3 : Int32) = nI (2 ^ 2 - 1) from rfl, nI_mod, show (2 ^ 11 * e.2.2.2 + (2 ^ 5 * e.2.2.1 + (2 ^ 3 * e.2.1 + e.1))) / 2 ^ 3 % 2 ^ 2 = e.2.1 by omega]) fun τ N => by rw [rf τ N, (N.2.1.2 i e he).2.1]
      · exact key (nI e.2.2.1 - 1) (by unfold f_X10_entry v_X2_kind; rw [c35, if_neg c1, if_neg (by decide), if_neg (by decide), if_pos (by decide), ei, ← di, cv, nI_shrG (by omega) _ 5 (by decide) (by decide), show (63 : Int32) = nI (2 ^ 6 - 1) from rfl, nI_mod, show (2 ^ 11 * e.2.2.2 + (2 ^ 5 * e.2.2.1 + (2 ^ 3 * e.2.1 + e.1))) / 2 ^ 5 % 2 ^ 6 = e.2.2.1 by omega]) fun τ N => by rw [rf τ N, (N.2.1.2 i e he).2.2.1]
      · exact key (nI e.2.2.2) (by unfold f_X10_entry v_X2_drawn; rw [c35, if_neg c1, if_neg (by decide), if_neg (by decide), if_neg (by decide), if_pos (by decide), ei, ← di, cv, nI_shrG (by omega) _ 11 (by decide) (by decide), show (2 ^ 11 * e.2.2.2 + (2 ^ 5 * e.2.2.1 + (2 ^ 3 * e.2.1 + e.1))) / 2 ^ 11 = e.2.2.2 by omega]) fun τ N => by rw [rf τ N, (N.2.1.2 i e he).2.2.2]
/-- every player has a place -/
def LaI (m : Mem) (n : Nat) : Prop := ∀ q, q < n → ∃ j, j < n ∧ m 74 j = nI q ∧ ∀ i, i < j → ¬ m 74 i = nI q
theorem cplace_eq {σ : rS} {B : Bd} {E : List Ent} {dl : Option (Nat × Nat × Nat)} {m : Mem} {l : Nat → Int64} {ch n j q : Nat} (C : CI σ B E dl m l ch) (hn : rI σ 19 0 = nI n) (hn4 : n ≤ 4) (hj : j < n) (h1 : m 74 j = nI q) (h2 : ∀ i, i < j → ¬ m 74 i = nI q) : f_X6_placeOf σ (nI q) = some (nI j) := by
  have st : ∀ i, i ≤ j → b_X6_placeOf_2 σ (nI q) (nI i) = if i = j then some (.inl (nI j)) else some (.inr (nI (i + 1))) := fun i hi => by
    unfold b_X6_placeOf_2
    rw [hn, if_neg (show ¬ nI n ≤ nI i from fun z => by have := (nI_leI (by omega) (by omega)).mp z; omega), vAt_nI (by decide) (by omega), CI_4 C (x := 28) (j := i) (by omega)]
    show (if m 74 i = nI q then _ else _) = _
    by_cases e : i = j
    · subst e; rw [if_pos h1, if_pos rfl]
    · rw [if_neg (h2 i (by omega)), if_neg e, nI_1]
  obtain ⟨x, a1, a2⟩ := oL_ix (body := b_X6_placeOf_2 σ (nI q)) (fun i s => s = nI i) (N := j) (fun x => x = nI j) (by
      intro i s hi e
      subst e
      exact ⟨_, by rw [st i (by omega), if_neg (by omega)], rfl⟩)
    (by
      intro s e
      subst e
      exact ⟨_, by rw [st j (by omega), if_pos rfl], rfl⟩)
    (n := oFuel) (by rw [oFuel_eq]; omega) (s := 0) rfl
  subst a2
  exact a1
theorem mplace_eq {σ : rS} {B : Bd} {E : List Ent} {m : Mem} {l : Nat → Int64} {j q : Nat} (M : MI σ B E m l) (hj : j < 4) (h1 : m 74 j = nI q) (h2 : ∀ i, i < j → ¬ m 74 i = nI q) : f_X11_placeOf σ (nI q) = some (nI j) := by
  have st : ∀ i, i ≤ j → b_X11_placeOf_2 σ (nI q) (nI i) = if i = j then some (.inl (nI j)) else some (.inr (nI (i + 1))) := fun i hi => by
    unfold b_X11_placeOf_2
    rw [if_pos (inB_nI (by decide) (by omega)), nI_clamp (by omega), M.2.2.1 74 i (by omega)]
    by_cases e : i = j
    · subst e; rw [if_pos h1, if_pos rfl]
    · rw [if_neg (h2 i (by omega)), if_neg e, nI_1]
  obtain ⟨x, a1, a2⟩ := oL_ix (body := b_X11_placeOf_2 σ (nI q)) (fun i s => s = nI i) (N := j) (fun x => x = nI j) (by
      intro i s hi e
      subst e
      exact ⟨_, by rw [st i (by omega), if_neg (by omega)], rfl⟩)
    (by
      intro s e
      subst e
      exact ⟨_, by rw [st j (by omega), if_pos rfl], rfl⟩)
    (n := oFuel) (by rw [oFuel_eq]; omega) (s := 0) rfl
  subst a2
  exact a1
