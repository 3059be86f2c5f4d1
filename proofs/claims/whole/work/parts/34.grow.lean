/-! references that change; layers that grow -/
theorem rR_at (σ : rS) (a k v b j : Nat) : rR (wR σ a k v) b j = if b = a ∧ j = k then v else rR σ b j := by
  by_cases hb : b = a
  · subst hb
    by_cases hj : j = k
    · subst hj; rw [rR_s, if_pos ⟨rfl, rfl⟩]
    · rw [rR_o _ _ _ hj, if_neg (fun q => hj q.2)]
  · rw [if_neg (fun q => hb q.1)]
    exact congrFun (up_other _ _ hb) j
theorem rR_ne (σ : rS) {a k v b j : Nat} (h : ¬ (b = a ∧ j = k)) : rR (wR σ a k v) b j = rR σ b j := by rw [rR_at, if_neg h]
theorem Sh_wR' {σ : rS} {a k v : Nat} (h : Sh σ) (hk : ∀ q ∈ shRs, ¬ (q.1 = a ∧ q.2.1 = k)) : Sh (wR σ a k v) :=
  ⟨h.1, fun q hq => by rw [rR_ne _ (hk q hq)]; exact h.2.1 q hq, h.2.2⟩
theorem layOk_wR {σ : rS} {a k v l : Nat} (h : layOk σ l) (hl : l ≠ a) : layOk (wR σ a k v) l := by
  unfold layOk
  rw [rR_ne _ (fun q => hl q.1), rR_ne _ (fun q => hl q.1), rR_ne _ (fun q => hl q.1)]
  exact h
theorem Sy_wsteps {σ : rS} {v : Nat} (h : Sy σ) (hv : isT v) : Sy (wR σ 37 14 v) := by
  obtain ⟨h0, h1, h2, h3, h4, h5, h6, h7, h8, h9, h10⟩ := h
  refine ⟨Sh_wR' h0 (by decide), h1, ?_, ?_, ?_, layOk_wR h5 (by decide), layOk_wR h6 (by decide), ?_⟩
  · rw [rR_at, if_pos ⟨rfl, rfl⟩]; exact hv
  · rw [rR_ne _ (by decide)]; exact h3
  · rw [rR_ne _ (by decide), rR_ne _ (by decide)]; exact h4
  · rw [rR_ne _ (by decide), rR_ne _ (by decide), rR_ne _ (by decide), rR_ne _ (by decide), rR_ne _ (by decide), rR_ne _ (by decide)]; exact ⟨h7, h8, h9, h10⟩
theorem Sy_wtable {σ : rS} {v : Nat} (h : Sy σ) (hv : v = rR σ 37 14 + 1 ∨ v = rR σ 37 14 + 2 ∨ v = rR σ 37 14 + 3) : Sy (wR σ 37 15 v) := by
  obtain ⟨h0, h1, h2, h3, h4, h5, h6, h7, h8, h9, h10⟩ := h
  refine ⟨Sh_wR' h0 (by decide), h1, ?_, ?_, ?_, layOk_wR h5 (by decide), layOk_wR h6 (by decide), ?_⟩
  · rw [rR_ne _ (by decide)]; exact h2
  · rw [rR_at, if_pos ⟨rfl, rfl⟩]
    rcases hv with e | e | e
    · exact ⟨_, 1, h2, Or.inl rfl, e⟩
    · exact ⟨_, 2, h2, Or.inr (Or.inl rfl), e⟩
    · exact ⟨_, 3, h2, Or.inr (Or.inr rfl), e⟩
  · rw [rR_ne _ (by decide), rR_ne _ (by decide)]; exact h4
  · rw [rR_ne _ (by decide), rR_ne _ (by decide), rR_ne _ (by decide), rR_ne _ (by decide), rR_ne _ (by decide), rR_ne _ (by decide)]; exact ⟨h7, h8, h9, h10⟩
theorem Sy_turn {σ : rS} (h : Sy σ) : Sy (wR (wR σ 37 5 (rR σ 37 6)) 37 6 (rR σ 37 5)) := by
  obtain ⟨h0, h1, h2, h3, h4, h5, h6, h7, h8, h9, h10⟩ := h
  refine ⟨Sh_wR' (Sh_wR' h0 (by decide)) (by decide), h1, ?_, ?_, ?_, layOk_wR (layOk_wR h5 (by decide)) (by decide), layOk_wR (layOk_wR h6 (by decide)) (by decide), ?_⟩
  · rw [rR_ne _ (by decide), rR_ne _ (by decide)]; exact h2
  · rw [rR_ne _ (by decide), rR_ne _ (by decide)]; exact h3
  · rw [rR_ne _ (by decide), rR_at, if_pos ⟨rfl, rfl⟩, rR_at, if_pos ⟨rfl, rfl⟩]
    rcases h4 with ⟨e1, e2⟩ | ⟨e1, e2⟩
    · exact Or.inr ⟨e2, e1⟩
    · exact Or.inl ⟨e2, e1⟩
  · simp only [rR_at, show ¬ ((51 : Nat) = 37 ∧ (0 : Nat) = 6) from by decide, show ¬ ((51 : Nat) = 37) from by decide, show ¬ ((55 : Nat) = 37) from by decide, false_and, if_false]
    exact ⟨h7, h8, h9, h10⟩
theorem tb3 {α : Type} {c1 c2 : Prop} [d1 : Decidable c1] [d2 : Decidable c2] {a b c : α} : (if c1 then a else if c2 then b else c) = a ∨ (if c1 then a else if c2 then b else c) = b ∨ (if c1 then a else if c2 then b else c) = c := by
  by_cases h1 : c1
  · left; rw [if_pos h1]
  · rw [if_neg h1]
    by_cases h2 : c2
    · right; left; rw [if_pos h2]
    · right; right; rw [if_neg h2]
def gN (n : Nat) : Nat := if 2 * n < 65536 then 2 * n else 65536
theorem cpy0 {α : Type} (f g : Nat → α) (n : Nat) : va_cpy f g (0 : Int32).toNatClampNeg (0 : Int32).toNatClampNeg n = fun j => if j < n then f j else g j := by
  funext j
  show (if 0 ≤ j ∧ j < 0 + n then f (0 + (j - 0)) else g j) = _
  simp
/-- a longer copy -/
theorem ok_copyOfI {σ : rS} {a n n2 : Nat} (hk : rK σ a = (0, n)) (h3 : 3 ≤ a) (ha : a < rN σ) (hn : n < n2) (hb : n2 < 60000000) : rMet yJ7_copyOf_59c91 mJ7_copyOf_59c91 1 [.ref a, .int (nI n2)] σ 1 n2 (some (.ref (rN σ))) (rowI (wN σ (0, n2)) (rN σ) (fun j => if j < n then rI σ a j else 0)) := by
  have hk2 : rK (wN σ (0, n2)) a = (0, n) := (up_other _ _ (by omega)).trans hk
  have hk3 : rK (wN σ (0, n2)) (rN σ) = (0, n2) := up_same _ _ _
  have e1 : rI (wN σ (0, n2)) a = rI σ a := up_other _ _ (by omega)
  have e2 : rI (wN σ (0, n2)) (rN σ) = fun _ => 0 := up_same _ _ _
  have hR3 : 3 ≤ rN σ := by omega
  have em : (if nI n2 < nI n then nI n2 else nI n) = nI n := if_neg (nI_nlt (by omega) (by omega))
  refine rMet_of (ls := [some (.ref a), some (.int (nI n2)), none]) yfJ7_copyOf_59c91 rfl (Nat.le_of_ble_eq_true rfl) ?_
  rw [show (1 : Nat) = 0 + 1 from rfl, show n2 = 0 + n2 by omega]
  refine E_iload_n dJ7_copyOf_59c91_0 rfl ?_
  refine E_aload_n dJ7_copyOf_59c91_1 rfl ?_
  refine E_alen (v := nI n) dJ7_copyOf_59c91_2 hk (by decide) rfl ?_
  refine E_icmp_ne 14 dJ7_copyOf_59c91_3 (by decide) (fun c => ?_) (fun c => ?_)
  · refine E_iload_n dJ7_copyOf_59c91_14 rfl ?_
    refine E_newaI (n := n2) ac_int dJ7_copyOf_59c91_15 (by rw [Nat.zero_add]) hb ?_
    refine E_astore_n (ls2 := [some (.ref a), some (.int (nI (0 + n2))), some (.ref (rN σ))]) dJ7_copyOf_59c91_17 (by decide) rfl ?_
    refine E_aload_n dJ7_copyOf_59c91_18 rfl ?_
    refine E_iconst (v := 0) dJ7_copyOf_59c91_19 (by decide) ?_
    refine E_aload_n dJ7_copyOf_59c91_20 rfl ?_
    refine E_iconst (v := 0) dJ7_copyOf_59c91_21 (by decide) ?_
    refine E_aload_n dJ7_copyOf_59c91_22 rfl ?_
    refine E_alen (v := nI n) dJ7_copyOf_59c91_23 hk2 (by decide) rfl ?_
    refine E_iload_n dJ7_copyOf_59c91_24 rfl ?_
    refine E_mmin mlJ7_304 (by decide) (Nat.le_of_ble_eq_true rfl) dJ7_copyOf_59c91_25 ?_
    simp only [Nat.zero_add]
    rw [em]
    refine E_copyi mlJ7_150 acp_native acp_static iniSys dJ7_copyOf_59c91_28 hk2 hk3 h3 hR3 (by decide) (by decide) (nI_pos (by omega)) (by rw [nI_clamp (by omega)]; show 0 + n ≤ n; omega) (by rw [nI_clamp (by omega)]; show 0 + n ≤ n2; omega) (by decide) (Nat.le_of_ble_eq_true rfl) ?_
    rw [nI_clamp (by omega), cpy0, e1, e2]
    refine E_aload_n dJ7_copyOf_59c91_31 rfl ?_
    exact E_aret rfl dJ7_copyOf_59c91_32
  · exfalso
    rw [Nat.zero_add] at c
    exact absurd ((nI_eq (by omega) (by omega)).mp c) (by omega)
/-- a longer copy -/
theorem ok_copyOfL {σ : rS} {a n n2 : Nat} (hk : rK σ a = (1, n)) (h3 : 3 ≤ a) (ha : a < rN σ) (hn : n < n2) (hb : n2 < 60000000) : rMet yJ7_copyOf_c38d5 mJ7_copyOf_c38d5 1 [.ref a, .int (nI n2)] σ 1 n2 (some (.ref (rN σ))) (rowL (wN σ (1, n2)) (rN σ) (fun j => if j < n then rL σ a j else 0)) := by
  have hk2 : rK (wN σ (1, n2)) a = (1, n) := (up_other _ _ (by omega)).trans hk
  have hk3 : rK (wN σ (1, n2)) (rN σ) = (1, n2) := up_same _ _ _
  have e1 : rL (wN σ (1, n2)) a = rL σ a := up_other _ _ (by omega)
  have e2 : rL (wN σ (1, n2)) (rN σ) = fun _ => 0 := up_same _ _ _
  have hR3 : 3 ≤ rN σ := by omega
  have em : (if nI n2 < nI n then nI n2 else nI n) = nI n := if_neg (nI_nlt (by omega) (by omega))
  refine rMet_of (ls := [some (.ref a), some (.int (nI n2)), none]) yfJ7_copyOf_c38d5 rfl (Nat.le_of_ble_eq_true rfl) ?_
  rw [show (1 : Nat) = 0 + 1 from rfl, show n2 = 0 + n2 by omega]
  refine E_iload_n dJ7_copyOf_c38d5_0 rfl ?_
  refine E_aload_n dJ7_copyOf_c38d5_1 rfl ?_
  refine E_alen (v := nI n) dJ7_copyOf_c38d5_2 hk (by decide) rfl ?_
  refine E_icmp_ne 14 dJ7_copyOf_c38d5_3 (by decide) (fun c => ?_) (fun c => ?_)
  · refine E_iload_n dJ7_copyOf_c38d5_14 rfl ?_
    refine E_newaJ (n := n2) ac_long dJ7_copyOf_c38d5_15 (by rw [Nat.zero_add]) hb ?_
    refine E_astore_n (ls2 := [some (.ref a), some (.int (nI (0 + n2))), some (.ref (rN σ))]) dJ7_copyOf_c38d5_17 (by decide) rfl ?_
    refine E_aload_n dJ7_copyOf_c38d5_18 rfl ?_
    refine E_iconst (v := 0) dJ7_copyOf_c38d5_19 (by decide) ?_
    refine E_aload_n dJ7_copyOf_c38d5_20 rfl ?_
    refine E_iconst (v := 0) dJ7_copyOf_c38d5_21 (by decide) ?_
    refine E_aload_n dJ7_copyOf_c38d5_22 rfl ?_
    refine E_alen (v := nI n) dJ7_copyOf_c38d5_23 hk2 (by decide) rfl ?_
    refine E_iload_n dJ7_copyOf_c38d5_24 rfl ?_
    refine E_mmin mlJ7_304 (by decide) (Nat.le_of_ble_eq_true rfl) dJ7_copyOf_c38d5_25 ?_
    simp only [Nat.zero_add]
    rw [em]
    refine E_copyl mlJ7_150 acp_native acp_static iniSys dJ7_copyOf_c38d5_28 hk2 hk3 h3 hR3 (by decide) (by decide) (nI_pos (by omega)) (by rw [nI_clamp (by omega)]; show 0 + n ≤ n; omega) (by rw [nI_clamp (by omega)]; show 0 + n ≤ n2; omega) (by decide) (Nat.le_of_ble_eq_true rfl) ?_
    rw [nI_clamp (by omega), cpy0, e1, e2]
    refine E_aload_n dJ7_copyOf_c38d5_31 rfl ?_
    exact E_aret rfl dJ7_copyOf_c38d5_32
  · exfalso
    rw [Nat.zero_add] at c
    exact absurd ((nI_eq (by omega) (by omega)).mp c) (by omega)
/-- a row of a layer is made anew, longer -/
def gw (σ : rS) : rS :=
  let l := rR σ 37 6
  let n := (rK σ (rR σ l 0)).2
  let σ1 := wR (rowI (wN σ (0, gN n)) (rN σ) (fun j => if j < n then rI σ (rR σ l 0) j else 0)) l 0 (rN σ)
  let σ2 := wR (rowL (wN σ1 (1, gN n)) (rN σ1) (fun j => if j < n then rL σ1 (rR σ1 l 1) j else 0)) l 1 (rN σ1)
  wR (rowL (wN σ2 (1, gN n)) (rN σ2) (fun j => if j < n then rL σ2 (rR σ2 l 2) j else 0)) l 2 (rN σ2)
def f_X3_grow (σ : rS) : Option (Unit × rS) := if (rK σ (rR σ (rR σ 37 6) 0)).2 < 65536 ∧ uC σ + 3 ≤ bC ∧ uS σ + 3 * gN (rK σ (rR σ (rR σ 37 6) 0)).2 ≤ bS then some ((), gw σ) else none
theorem Sy_gw {σ : rS} (h : Sy σ) : Sy (gw σ) := by sorry
theorem ok_X3_grow {σ : rS} : rFn Sy yX3_grow mX3_grow 2 [.ref (rR σ 37 6)] σ 0 0 (fun _ => .inl none) (f_X3_grow σ) := by sorry
