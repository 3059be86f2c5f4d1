/-! references that change; layers that grow -/
theorem rR_at (σ : rS) (a k v b j : Nat) : rR (wR σ a k v) b j = if b = a ∧ j = k then v else rR σ b j := by
  by_cases hb : b = a
  · subst hb
    by_cases hj : j = k
    · subst hj; rw [rR_s, if_pos ⟨rfl, rfl⟩]
    · rw [rR_o _ _ _ hj, if_neg (fun q => hj q.2)]
  · rw [if_neg (fun q => hb q.1)]
    exact congrFun (up_other _ _ hb) j
theorem rR_ne (σ : rS) {a k v b j : Nat} (h : ¬ (b = a ∧ j = k)) : rR (wR σ a k v) b j = rR σ b j := by rw [rR_at, if_neg h]
theorem Sh_wR' {σ : rS} {a k v : Nat} (h : Sh σ) (hk : ∀ q ∈ shRs, ¬ (q.1 = a ∧ q.2.1 = k)) : Sh (wR σ a k v) :=
  ⟨h.1, fun q hq => by rw [rR_ne _ (hk q hq)]; exact h.2.1 q hq, h.2.2⟩
theorem layOk_wR {σ : rS} {a k v l : Nat} (h : layOk σ l) (hl : l ≠ a) : layOk (wR σ a k v) l := by
  unfold layOk
  rw [rR_ne _ (fun q => hl q.1), rR_ne _ (fun q => hl q.1), rR_ne _ (fun q => hl q.1)]
  exact h
theorem Sy_wsteps {σ : rS} {v : Nat} (h : Sy σ) (hv : isT v) : Sy (wR σ 37 14 v) := by
  obtain ⟨h0, h1, h2, h3, h4, h5, h6, h7, h8, h9, h10⟩ := h
  refine ⟨Sh_wR' h0 (by decide), h1, ?_, ?_, ?_, layOk_wR h5 (by decide), layOk_wR h6 (by decide), ?_⟩
  · rw [rR_at, if_pos ⟨rfl, rfl⟩]; exact hv
  · rw [rR_ne _ (by decide)]; exact h3
  · rw [rR_ne _ (by decide), rR_ne _ (by decide)]; exact h4
  · rw [rR_ne _ (by decide), rR_ne _ (by decide), rR_ne _ (by decide), rR_ne _ (by decide), rR_ne _ (by decide), rR_ne _ (by decide)]; exact ⟨h7, h8, h9, h10⟩
theorem Sy_wtable {σ : rS} {v : Nat} (h : Sy σ) (hv : v = rR σ 37 14 + 1 ∨ v = rR σ 37 14 + 2 ∨ v = rR σ 37 14 + 3) : Sy (wR σ 37 15 v) := by
  obtain ⟨h0, h1, h2, h3, h4, h5, h6, h7, h8, h9, h10⟩ := h
  refine ⟨Sh_wR' h0 (by decide), h1, ?_, ?_, ?_, layOk_wR h5 (by decide), layOk_wR h6 (by decide), ?_⟩
  · rw [rR_ne _ (by decide)]; exact h2
  · rw [rR_at, if_pos ⟨rfl, rfl⟩]
    rcases hv with e | e | e
    · exact ⟨_, 1, h2, Or.inl rfl, e⟩
    · exact ⟨_, 2, h2, Or.inr (Or.inl rfl), e⟩
    · exact ⟨_, 3, h2, Or.inr (Or.inr rfl), e⟩
  · rw [rR_ne _ (by decide), rR_ne _ (by decide)]; exact h4
  · rw [rR_ne _ (by decide), rR_ne _ (by decide), rR_ne _ (by decide), rR_ne _ (by decide), rR_ne _ (by decide), rR_ne _ (by decide)]; exact ⟨h7, h8, h9, h10⟩
theorem Sy_turn {σ : rS} (h : Sy σ) : Sy (wR (wR σ 37 5 (rR σ 37 6)) 37 6 (rR σ 37 5)) := by
  obtain ⟨h0, h1, h2, h3, h4, h5, h6, h7, h8, h9, h10⟩ := h
  refine ⟨Sh_wR' (Sh_wR' h0 (by decide)) (by decide), h1, ?_, ?_, ?_, layOk_wR (layOk_wR h5 (by decide)) (by decide), layOk_wR (layOk_wR h6 (by decide)) (by decide), ?_⟩
  · rw [rR_ne _ (by decide), rR_ne _ (by decide)]; exact h2
  · rw [rR_ne _ (by decide), rR_ne _ (by decide)]; exact h3
  · rw [rR_ne _ (by decide), rR_at, if_pos ⟨rfl, rfl⟩, rR_at, if_pos ⟨rfl, rfl⟩]
    rcases h4 with ⟨e1, e2⟩ | ⟨e1, e2⟩
    · exact Or.inr ⟨e2, e1⟩
    · exact Or.inl ⟨e2, e1⟩
  · simp only [rR_at, show ¬ ((51 : Nat) = 37 ∧ (0 : Nat) = 6) from by decide, show ¬ ((51 : Nat) = 37) from by decide, show ¬ ((55 : Nat) = 37) from by decide, false_and, if_false]
    exact ⟨h7, h8, h9, h10⟩
theorem tb3 {α : Type} {c1 c2 : Prop} [d1 : Decidable c1] [d2 : Decidable c2] {a b c : α} : (if c1 then a else if c2 then b else c) = a ∨ (if c1 then a else if c2 then b else c) = b ∨ (if c1 then a else if c2 then b else c) = c := by
  by_cases h1 : c1
  · left; rw [if_pos h1]
  · rw [if_neg h1]
    by_cases h2 : c2
    · right; left; rw [if_pos h2]
    · right; right; rw [if_neg h2]
def gN (n : Nat) : Nat := if 2 * n < 65536 then 2 * n else 65536
theorem cpy0 {α : Type} (f g : Nat → α) (n : Nat) : va_cpy f g (0 : Int32).toNatClampNeg (0 : Int32).toNatClampNeg n = fun j => if j < n then f j else g j := by
  funext j
  show (if 0 ≤ j ∧ j < 0 + n then f (0 + (j - 0)) else g j) = _
  simp
/-- a longer copy -/
theorem ok_copyOfI {σ : rS} {a n n2 : Nat} (hk : rK σ a = (0, n)) (h3 : 3 ≤ a) (ha : a < rN σ) (hn : n < n2) (hb : n2 < 60000000) : rMet yJ7_copyOf_59c91 mJ7_copyOf_59c91 1 [.ref a, .int (nI n2)] σ 1 n2 (some (.ref (rN σ))) (rowI (wN σ (0, n2)) (rN σ) (fun j => if j < n then rI σ a j else 0)) := by
  have hk2 : rK (wN σ (0, n2)) a = (0, n) := (up_other _ _ (by omega)).trans hk
  have hk3 : rK (wN σ (0, n2)) (rN σ) = (0, n2) := up_same _ _ _
  have e1 : rI (wN σ (0, n2)) a = rI σ a := up_other _ _ (by omega)
  have e2 : rI (wN σ (0, n2)) (rN σ) = fun _ => 0 := up_same _ _ _
  have hR3 : 3 ≤ rN σ := by omega
  have em : (if nI n2 < nI n then nI n2 else nI n) = nI n := if_neg (nI_nlt (by omega) (by omega))
  refine rMet_of (ls := [some (.ref a), some (.int (nI n2)), none]) yfJ7_copyOf_59c91 rfl (Nat.le_of_ble_eq_true rfl) ?_
  rw [show (1 : Nat) = 0 + 1 from rfl, show n2 = 0 + n2 by omega]
  refine E_iload_n dJ7_copyOf_59c91_0 rfl ?_
  refine E_aload_n dJ7_copyOf_59c91_1 rfl ?_
  refine E_alen (v := nI n) dJ7_copyOf_59c91_2 hk (by decide) rfl ?_
  refine E_icmp_ne 14 dJ7_copyOf_59c91_3 (by decide) (fun c => ?_) (fun c => ?_)
  · refine E_iload_n dJ7_copyOf_59c91_14 rfl ?_
    refine E_newaI (n := n2) ac_int dJ7_copyOf_59c91_15 (by rw [Nat.zero_add]) hb ?_
    refine E_astore_n (ls2 := [some (.ref a), some (.int (nI (0 + n2))), some (.ref (rN σ))]) dJ7_copyOf_59c91_17 (by decide) rfl ?_
    refine E_aload_n dJ7_copyOf_59c91_18 rfl ?_
    refine E_iconst (v := 0) dJ7_copyOf_59c91_19 (by decide) ?_
    refine E_aload_n dJ7_copyOf_59c91_20 rfl ?_
    refine E_iconst (v := 0) dJ7_copyOf_59c91_21 (by decide) ?_
    refine E_aload_n dJ7_copyOf_59c91_22 rfl ?_
    refine E_alen (v := nI n) dJ7_copyOf_59c91_23 hk2 (by decide) rfl ?_
    refine E_iload_n dJ7_copyOf_59c91_24 rfl ?_
    refine E_mmin mlJ7_304 (by decide) (Nat.le_of_ble_eq_true rfl) dJ7_copyOf_59c91_25 ?_
    simp only [Nat.zero_add]
    rw [em]
    refine E_copyi mlJ7_150 acp_native acp_static iniSys dJ7_copyOf_59c91_28 hk2 hk3 h3 hR3 (by decide) (by decide) (nI_pos (by omega)) (by rw [nI_clamp (by omega)]; show 0 + n ≤ n; omega) (by rw [nI_clamp (by omega)]; show 0 + n ≤ n2; omega) (by decide) (Nat.le_of_ble_eq_true rfl) ?_
    rw [nI_clamp (by omega), cpy0, e1, e2]
    refine E_aload_n dJ7_copyOf_59c91_31 rfl ?_
    exact E_aret rfl dJ7_copyOf_59c91_32
  · exfalso
    rw [Nat.zero_add] at c
    exact absurd ((nI_eq (by omega) (by omega)).mp c) (by omega)
/-- a longer copy -/
theorem ok_copyOfL {σ : rS} {a n n2 : Nat} (hk : rK σ a = (1, n)) (h3 : 3 ≤ a) (ha : a < rN σ) (hn : n < n2) (hb : n2 < 60000000) : rMet yJ7_copyOf_c38d5 mJ7_copyOf_c38d5 1 [.ref a, .int (nI n2)] σ 1 n2 (some (.ref (rN σ))) (rowL (wN σ (1, n2)) (rN σ) (fun j => if j < n then rL σ a j else 0)) := by
  have hk2 : rK (wN σ (1, n2)) a = (1, n) := (up_other _ _ (by omega)).trans hk
  have hk3 : rK (wN σ (1, n2)) (rN σ) = (1, n2) := up_same _ _ _
  have e1 : rL (wN σ (1, n2)) a = rL σ a := up_other _ _ (by omega)
  have e2 : rL (wN σ (1, n2)) (rN σ) = fun _ => 0 := up_same _ _ _
  have hR3 : 3 ≤ rN σ := by omega
  have em : (if nI n2 < nI n then nI n2 else nI n) = nI n := if_neg (nI_nlt (by omega) (by omega))
  refine rMet_of (ls := [some (.ref a), some (.int (nI n2)), none]) yfJ7_copyOf_c38d5 rfl (Nat.le_of_ble_eq_true rfl) ?_
  rw [show (1 : Nat) = 0 + 1 from rfl, show n2 = 0 + n2 by omega]
  refine E_iload_n dJ7_copyOf_c38d5_0 rfl ?_
  refine E_aload_n dJ7_copyOf_c38d5_1 rfl ?_
  refine E_alen (v := nI n) dJ7_copyOf_c38d5_2 hk (by decide) rfl ?_
  refine E_icmp_ne 14 dJ7_copyOf_c38d5_3 (by decide) (fun c => ?_) (fun c => ?_)
  · refine E_iload_n dJ7_copyOf_c38d5_14 rfl ?_
    refine E_newaJ (n := n2) ac_long dJ7_copyOf_c38d5_15 (by rw [Nat.zero_add]) hb ?_
    refine E_astore_n (ls2 := [some (.ref a), some (.int (nI (0 + n2))), some (.ref (rN σ))]) dJ7_copyOf_c38d5_17 (by decide) rfl ?_
    refine E_aload_n dJ7_copyOf_c38d5_18 rfl ?_
    refine E_iconst (v := 0) dJ7_copyOf_c38d5_19 (by decide) ?_
    refine E_aload_n dJ7_copyOf_c38d5_20 rfl ?_
    refine E_iconst (v := 0) dJ7_copyOf_c38d5_21 (by decide) ?_
    refine E_aload_n dJ7_copyOf_c38d5_22 rfl ?_
    refine E_alen (v := nI n) dJ7_copyOf_c38d5_23 hk2 (by decide) rfl ?_
    refine E_iload_n dJ7_copyOf_c38d5_24 rfl ?_
    refine E_mmin mlJ7_304 (by decide) (Nat.le_of_ble_eq_true rfl) dJ7_copyOf_c38d5_25 ?_
    simp only [Nat.zero_add]
    rw [em]
    refine E_copyl mlJ7_150 acp_native acp_static iniSys dJ7_copyOf_c38d5_28 hk2 hk3 h3 hR3 (by decide) (by decide) (nI_pos (by omega)) (by rw [nI_clamp (by omega)]; show 0 + n ≤ n; omega) (by rw [nI_clamp (by omega)]; show 0 + n ≤ n2; omega) (by decide) (Nat.le_of_ble_eq_true rfl) ?_
    rw [nI_clamp (by omega), cpy0, e1, e2]
    refine E_aload_n dJ7_copyOf_c38d5_31 rfl ?_
    exact E_aret rfl dJ7_copyOf_c38d5_32
  · exfalso
    rw [Nat.zero_add] at c
    exact absurd ((nI_eq (by omega) (by omega)).mp c) (by omega)
/-- a row of a layer is made anew, longer -/
def gw (σ : rS) : rS :=
  let l := rR σ 37 6
  let n := (rK σ (rR σ l 0)).2
  let σ1 := wR (rowI (wN σ (0, gN n)) (rN σ) (fun j => if j < n then rI σ (rR σ l 0) j else 0)) l 0 (rN σ)
  let σ2 := wR (rowL (wN σ1 (1, gN n)) (rN σ1) (fun j => if j < n then rL σ1 (rR σ1 l 1) j else 0)) l 1 (rN σ1)
  wR (rowL (wN σ2 (1, gN n)) (rN σ2) (fun j => if j < n then rL σ2 (rR σ2 l 2) j else 0)) l 2 (rN σ2)
def f_X3_grow (σ : rS) : Option (Unit × rS) := if (rK σ (rR σ (rR σ 37 6) 0)).2 < 65536 ∧ uC σ + 3 ≤ bC ∧ uS σ + 3 * gN (rK σ (rR σ (rR σ 37 6) 0)).2 ≤ bS then some ((), gw σ) else none
/-- one step of it -/
def g1s (σ : rS) (q : Nat × Nat) (l j : Nat) (τ : rS) : Prop := rK τ = va_up (rK σ) (rN σ) q ∧ (∀ a i, rR τ a i = if a = l ∧ i = j then rN σ else if a = rN σ then 0 else rR σ a i) ∧ rN τ = rN σ + 1
theorem g1s_I (σ : rS) (n l j : Nat) (f : Nat → Int32) : g1s σ (0, n) l j (wR (rowI (wN σ (0, n)) (rN σ) f) l j (rN σ)) := by
  refine ⟨rfl, fun a i => ?_, rfl⟩
  rw [rR_at]
  congr 1
  show va_up (rR σ) (rN σ) (fun _ => 0) a i = _
  by_cases h : a = rN σ
  · rw [if_pos h, h, up_same]
  · rw [if_neg h, up_other _ _ h]
theorem g1s_L (σ : rS) (n l j : Nat) (f : Nat → Int64) : g1s σ (1, n) l j (wR (rowL (wN σ (1, n)) (rN σ) f) l j (rN σ)) := by
  refine ⟨rfl, fun a i => ?_, rfl⟩
  rw [rR_at]
  congr 1
  show va_up (rR σ) (rN σ) (fun _ => 0) a i = _
  by_cases h : a = rN σ
  · rw [if_pos h, h, up_same]
  · rw [if_neg h, up_other _ _ h]
theorem Sh_g1s {σ τ : rS} {q : Nat × Nat} {l j : Nat} (h : Sh σ) (hg : g1s σ q l j τ) (hl : l = 51 ∨ l = 55) : Sh τ := by
  obtain ⟨k, r, n⟩ := hg
  refine ⟨fun i hi => ?_, fun p hp => ?_, by rw [n]; exact Nat.le_succ_of_le h.2.2⟩
  · rw [k, up_other _ _ (by have := h.2.2; omega)]; exact h.1 i hi
  · have hb : p.1 < 67 ∧ p.1 ≠ 51 ∧ p.1 ≠ 55 := (show ∀ p ∈ shRs, p.1 < 67 ∧ p.1 ≠ 51 ∧ p.1 ≠ 55 by decide) p hp
    rw [r, if_neg (fun z => by rcases hl with e | e <;> omega), if_neg (by have := h.2.2; omega)]
    exact h.2.1 p hp
/-- what is known of the layer that grows -/
theorem gw_facts {σ : rS} (h : Sy σ) : ∃ n, (rR σ 37 6 = 51 ∨ rR σ 37 6 = 55) ∧ rK σ (rR σ (rR σ 37 6) 0) = (0, n) ∧ rK σ (rR σ (rR σ 37 6) 1) = (1, n) ∧ rK σ (rR σ (rR σ 37 6) 2) = (1, n) ∧ 1024 ≤ n ∧ n ≤ 65536 ∧ 3 ≤ rR σ (rR σ 37 6) 0 ∧ 3 ≤ rR σ (rR σ 37 6) 1 ∧ 3 ≤ rR σ (rR σ 37 6) 2 ∧ rR σ (rR σ 37 6) 0 < rN σ ∧ rR σ (rR σ 37 6) 1 < rN σ ∧ rR σ (rR σ 37 6) 2 < rN σ ∧ 67 ≤ rN σ ∧ rK σ (rR σ 37 6) = (5, 0) := by
  have h1 := Sy_thereL h
  have h2 := (Sy_there h).1
  have h3 := h.1.2.2
  have h4 := h.2.2.2.2.1
  obtain ⟨n, c, f, s, e3, rfl, rfl, rfl, k1, k2, k3, k4, k5, k6, k7, k8, k9, k10, k11, k12⟩ := h1
  refine ⟨n, by rcases h4 with ⟨-, e⟩ | ⟨-, e⟩ <;> rw [e] <;> simp, k1, k2, k3, k4, k5, ?_, ?_, ?_, k10, k11, k12, h3, h2⟩
  · rcases k6 with e | e <;> omega
  · rcases k7 with e | e <;> omega
  · rcases k8 with e | e <;> omega
theorem layOk_cong {σ τ : rS} {l : Nat} (h : layOk σ l) (hr : ∀ i, rR τ l i = rR σ l i) (hk : ∀ a, a < rN σ → rK τ a = rK σ a) (hN : rN σ ≤ rN τ) : layOk τ l := by
  obtain ⟨n, c, f, s, h9, h1, h2, h3, k1, k2, k3, k4, k5, k6, k7, k8, k9, k10, k11, k12⟩ := h
  exact ⟨n, c, f, s, h9, (hr 0).trans h1, (hr 1).trans h2, (hr 2).trans h3, (hk c k10).trans k1, (hk f k11).trans k2, (hk s k12).trans k3, k4, k5, k6, k7, k8, k9, by omega, by omega, by omega⟩
theorem Sy_gw {σ : rS} (h : Sy σ) : Sy (gw σ) := by
  obtain ⟨n, hl, k0, k1, k2, n1, n2, a0, a1, a2, b0, b1, b2, hN, kl⟩ := gw_facts h
  obtain ⟨σ3, h3⟩ : ∃ z, z = gw σ := ⟨_, rfl⟩
  obtain ⟨hS, hd1, hd2, ⟨t, j, ht, hj, hd3⟩, hd4, L1, L2, hx1, hx2, hx3, hx4⟩ := h
  unfold gw at h3
  simp only at h3
  generalize hle : rR σ 37 6 = l at hl k0 k1 k2 a0 a1 a2 b0 b1 b2 kl h3
  rw [k0] at h3
  simp only at h3
  have hlN : l < rN σ := by rcases hl with e | e <;> omega
  have hl3 : l = 51 ∨ l = 55 := hl
  generalize e1 : wR (rowI (wN σ (0, gN n)) (rN σ) (fun j => if j < n then rI σ (rR σ l 0) j else 0)) l 0 (rN σ) = σ1 at h3
  have g1 : g1s σ (0, gN n) l 0 σ1 := e1 ▸ g1s_I _ _ _ _ _
  generalize e2 : wR (rowL (wN σ1 (1, gN n)) (rN σ1) (fun j => if j < n then rL σ1 (rR σ1 l 1) j else 0)) l 1 (rN σ1) = σ2 at h3
  have g2 : g1s σ1 (1, gN n) l 1 σ2 := e2 ▸ g1s_L _ _ _ _ _
  have g3 : g1s σ2 (1, gN n) l 2 σ3 := h3 ▸ g1s_L _ _ _ _ _
  have hgw : gw σ = σ3 := by
    unfold gw
    simp only [hle, k0]
    rw [h3, ← e2, ← e1]
  rw [hgw]
  have hN1 : rN σ1 = rN σ + 1 := g1.2.2
  have hN2 : rN σ2 = rN σ + 2 := by rw [g2.2.2, hN1]
  have hN3 : rN σ3 = rN σ + 3 := by rw [g3.2.2, hN2]
  have K : ∀ a, a < rN σ → rK σ3 a = rK σ a := fun a ha => by
    rw [g3.1, up_other _ _ (by omega), g2.1, up_other _ _ (by omega), g1.1, up_other _ _ (by omega)]
  have Rr : ∀ a i, a < rN σ → a ≠ l → rR σ3 a i = rR σ a i := fun a i ha hal => by
    rw [g3.2.1, if_neg (by omega), if_neg (by omega), g2.2.1, if_neg (by omega), if_neg (by omega), g1.2.1, if_neg (by omega), if_neg (by omega)]
  have R0 : rR σ3 l 0 = rN σ := by rw [g3.2.1, if_neg (by omega), if_neg (by omega), g2.2.1, if_neg (by omega), if_neg (by omega), g1.2.1, if_pos ⟨rfl, rfl⟩]
  have R1 : rR σ3 l 1 = rN σ + 1 := by rw [g3.2.1, if_neg (by omega), if_neg (by omega), g2.2.1, if_pos ⟨rfl, rfl⟩, hN1]
  have R2 : rR σ3 l 2 = rN σ + 2 := by rw [g3.2.1, if_pos ⟨rfl, rfl⟩, hN2]
  have K0 : rK σ3 (rN σ) = (0, gN n) := by rw [g3.1, up_other _ _ (by omega), g2.1, up_other _ _ (by omega), g1.1, up_same]
  have K1 : rK σ3 (rN σ + 1) = (1, gN n) := by rw [g3.1, up_other _ _ (by omega), g2.1, ← hN1, up_same]
  have K2 : rK σ3 (rN σ + 2) = (1, gN n) := by rw [g3.1, ← hN2, up_same]
  have hgn1 : 1024 ≤ gN n := by unfold gN; split <;> omega
  have hgn2 : gN n ≤ 65536 := by unfold gN; split <;> omega
  have Lnew : layOk σ3 l := ⟨gN n, rN σ, rN σ + 1, rN σ + 2, by omega, R0, R1, R2, K0, K1, K2, hgn1, hgn2, Or.inr (by omega), Or.inr (by omega), Or.inr (by omega), by omega, by omega, by omega, by omega⟩
  have Lold : ∀ l2, layOk σ l2 → l2 ≠ l → l2 < rN σ → layOk σ3 l2 := fun l2 hL hne hlt => layOk_cong hL (fun i => Rr l2 i hlt hne) K (by omega)
  have lt : ∀ l2, layOk σ l2 → rR σ l2 0 < rN σ ∧ rR σ l2 1 < rN σ ∧ rR σ l2 2 < rN σ := fun l2 hL => by
    obtain ⟨n, c, f, s, h9, rfl, rfl, rfl, k1, k2, k3, k4, k5, k6, k7, k8, k9, k10, k11, k12⟩ := hL
    exact ⟨k10, k11, k12⟩
  refine ⟨Sh_g1s (Sh_g1s (Sh_g1s hS g1 hl3) g2 hl3) g3 hl3, ⟨by rw [K 1 (by omega)]; exact hd1.1, by rw [K 2 (by omega)]; exact hd1.2⟩, ?_, ⟨t, j, ht, hj, ?_⟩, ?_, ?_⟩
  · rw [Rr 37 14 (by omega) (by omega)]; exact hd2
  · rw [Rr 37 15 (by omega) (by omega)]; exact hd3
  · rw [Rr 37 5 (by omega) (by omega), Rr 37 6 (by omega) (by omega)]; exact hd4
  · rcases hl3 with e | e
    · subst e
      have L2' := lt 55 L2
      refine ⟨Lnew, Lold 55 L2 (by decide) (by omega), ?_⟩
      rw [R0, R1, R2, Rr 55 0 (by omega) (by decide), Rr 55 1 (by omega) (by decide), Rr 55 2 (by omega) (by decide)]
      omega
    · subst e
      have L1' := lt 51 L1
      refine ⟨Lold 51 L1 (by decide) (by omega), Lnew, ?_⟩
      rw [R0, R1, R2, Rr 51 0 (by omega) (by decide), Rr 51 1 (by omega) (by decide), Rr 51 2 (by omega) (by decide)]
      omega
theorem gN_le {n : Nat} (h : n ≤ 65536) : gN n ≤ 65536 := by unfold gN; split <;> omega
theorem gN_gt {n : Nat} (h : 1024 ≤ n) (h2 : n < 65536) : n < gN n := by unfold gN; split <;> omega
theorem gN_min {n : Nat} (h : n ≤ 65536) : (if (65536 : Int32) < 2 * nI n then (65536 : Int32) else 2 * nI n) = nI (gN n) := by
  have e : (2 : Int32) * nI n = nI (2 * n) := (Int32.ofNat_mul 2 n).symm
  rw [e, show (65536 : Int32) = nI 65536 from rfl]
  unfold gN
  by_cases h2 : 2 * n < 65536
  · rw [if_neg (nI_nlt (by omega) (by omega)), if_pos h2]
  · rw [if_neg h2]
    split
    · rfl
    · rename_i h3
      have : ¬ 65536 < 2 * n := fun q => h3 (nI_lt q (by omega))
      rw [show 2 * n = 65536 by omega]
theorem ok_X3_grow {σ : rS} : rFn Sy yX3_grow mX3_grow 2 [.ref (rR σ 37 6)] σ 0 0 (fun _ => .inl none) (f_X3_grow σ) := by
  intro hJ v τ hp
  unfold f_X3_grow at hp
  split at hp
  case isFalse => cases hp
  rename_i hc
  cases hp
  obtain ⟨n, hl, k0, k1, k2, n1, n2, a0, a1, a2, b0, b1, b2, hN, kl⟩ := gw_facts hJ.1
  have hSg := Sy_gw hJ.1
  generalize hle : rR σ 37 6 = l at hl k0 k1 k2 a0 a1 a2 b0 b1 b2 kl hc
  have hlN : l < rN σ := by rcases hl with e | e <;> omega
  rw [k0] at hc
  have hg := gN_gt n1 hc.1
  have hgl := gN_le n2
  obtain ⟨σ1, h1⟩ : ∃ z, z = wR (rowI (wN σ (0, gN n)) (rN σ) (fun j => if j < n then rI σ (rR σ l 0) j else 0)) l 0 (rN σ) := ⟨_, rfl⟩
  have g1 : g1s σ (0, gN n) l 0 σ1 := h1 ▸ g1s_I _ _ _ _ _
  obtain ⟨σ2, h2⟩ : ∃ z, z = wR (rowL (wN σ1 (1, gN n)) (rN σ1) (fun j => if j < n then rL σ1 (rR σ1 l 1) j else 0)) l 1 (rN σ1) := ⟨_, rfl⟩
  have g2 : g1s σ1 (1, gN n) l 1 σ2 := h2 ▸ g1s_L _ _ _ _ _
  obtain ⟨σ3, h3⟩ : ∃ z, z = wR (rowL (wN σ2 (1, gN n)) (rN σ2) (fun j => if j < n then rL σ2 (rR σ2 l 2) j else 0)) l 2 (rN σ2) := ⟨_, rfl⟩
  have g3 : g1s σ2 (1, gN n) l 2 σ3 := h3 ▸ g1s_L _ _ _ _ _
  have hgw : gw σ = σ3 := by
    unfold gw
    simp only [hle, k0]
    rw [h3, h2, h1]
  rw [hgw] at hSg ⊢
  have hN1 : rN σ1 = rN σ + 1 := g1.2.2
  have hN2 : rN σ2 = rN σ + 2 := by rw [g2.2.2, hN1]
  have hN3 : rN σ3 = rN σ + 3 := by rw [g3.2.2, hN2]
  have u1 : uS σ1 = uS σ + gN n := by rw [h1]; exact uS_wN σ (0, gN n) (by omega)
  have u2 : uS σ2 = uS σ + 2 * gN n := by rw [h2]; have := uS_wN σ1 (1, gN n) (by omega); rw [u1] at this; exact this.trans (by show uS σ + gN n + gN n = _; omega)
  have u3 : uS σ3 = uS σ + 3 * gN n := by rw [h3]; have := uS_wN σ2 (1, gN n) (by omega); rw [u2] at this; exact this.trans (by show uS σ + 2 * gN n + gN n = _; omega)
  have r1 : rR σ1 l 1 = rR σ l 1 := by rw [g1.2.1, if_neg (by omega), if_neg (by omega)]
  have r2 : rR σ2 l 2 = rR σ l 2 := by rw [g2.2.1, if_neg (by omega), if_neg (by omega), g1.2.1, if_neg (by omega), if_neg (by omega)]
  have q1 : rK σ1 (rR σ1 l 1) = (1, n) := by rw [r1, g1.1, up_other _ _ (by omega)]; exact k1
  have q2 : rK σ2 (rR σ2 l 2) = (1, n) := by rw [r2, g2.1, up_other _ _ (by omega), g1.1, up_other _ _ (by omega)]; exact k2
  have kl1 : rK σ1 l = (5, 0) := by rw [g1.1, up_other _ _ (by omega)]; exact kl
  have kl2 : rK σ2 l = (5, 0) := by rw [g2.1, up_other _ _ (by omega)]; exact kl1
  refine ⟨⟨⟨hSg, by rw [show uC σ3 = uC σ + 3 from hN3]; exact hc.2.1, by rw [u3]; exact hc.2.2⟩, by rw [show uC σ3 = uC σ + 3 from hN3]; omega, by rw [u3]; omega⟩, ?_⟩
  rw [show uC σ3 = uC σ + 3 from hN3, u3, show 0 + (uC σ + 3 - uC σ) = 0 + 1 + 1 + 1 by omega, show 0 + (uS σ + 3 * gN n - uS σ) = 0 + gN n + gN n + gN n by omega]
  show rMet _ _ _ _ _ _ _ none σ3
  refine rMet_of (ls := [some (.ref l), none]) yfX3_grow rfl (Nat.le_of_ble_eq_true rfl) ?_
  refine E_iconst (v := 2) dX3_grow_0 (by decide) ?_
  refine E_aload_n dX3_grow_1 rfl ?_
  refine E_getR (b := rR σ l 0) clX3 0 (by decide) flX3_9 (Or.inr ⟨_, rfl⟩) dX3_grow_2 kl rfl (by omega) ?_
  refine E_alen (v := nI n) dX3_grow_5 k0 (by decide) rfl ?_
  refine E_imul dX3_grow_6 ?_
  refine E_ldc (v := 65536) dX3_grow_7 kcX3_20 ?_
  refine E_mmin mlX3_21 (by decide) (Nat.le_of_ble_eq_true rfl) dX3_grow_9 ?_
  refine E_topI (v := nI (gN n)) (gN_min n2) ?_
  refine E_istore_n (ls2 := [some (.ref l), some (.int (nI (gN n)))]) dX3_grow_12 (by decide) rfl ?_
  refine E_aload_n dX3_grow_13 rfl ?_
  refine E_aload_n dX3_grow_14 rfl ?_
  refine E_getR (b := rR σ l 0) clX3 0 (by decide) flX3_9 (Or.inr ⟨_, rfl⟩) dX3_grow_15 kl rfl (by omega) ?_
  refine E_iload_n dX3_grow_18 rfl ?_
  refine E_callS (as := [.ref (rR σ l 0), .int (nI (gN n))]) (st := [.ref l]) (ok_copyOfI k0 a0 b0 hg (by omega)) (by decide) yfJ7_copyOf_59c91 mlX3_27 stJ7_copyOf_59c91 rfl (Nat.le_of_ble_eq_true rfl) rfl dX3_grow_19 ?_
  refine E_putR clX3 0 (by decide) flX3_9 (Or.inr ⟨_, rfl⟩) rfl dX3_grow_22 (show rK _ l = (5, 0) from (up_other _ _ (by omega)).trans kl) ?_
  rw [← h1]
  refine E_aload_n dX3_grow_25 rfl ?_
  refine E_aload_n dX3_grow_26 rfl ?_
  refine E_getR (b := rR σ1 l 1) clX3 1 (by decide) flX3_13 (Or.inr ⟨_, rfl⟩) dX3_grow_27 kl1 rfl (by omega) ?_
  refine E_iload_n dX3_grow_30 rfl ?_
  refine E_callS (as := [.ref (rR σ1 l 1), .int (nI (gN n))]) (st := [.ref l]) (ok_copyOfL q1 (by omega) (by omega) hg (by omega)) (by decide) yfJ7_copyOf_c38d5 mlX3_33 stJ7_copyOf_c38d5 rfl (Nat.le_of_ble_eq_true rfl) rfl dX3_grow_31 ?_
  refine E_putR clX3 1 (by decide) flX3_13 (Or.inr ⟨_, rfl⟩) rfl dX3_grow_34 (show rK _ l = (5, 0) from (up_other _ _ (by omega)).trans kl1) ?_
  rw [← h2]
  refine E_aload_n dX3_grow_37 rfl ?_
  refine E_aload_n dX3_grow_38 rfl ?_
  refine E_getR (b := rR σ2 l 2) clX3 2 (by decide) flX3_17 (Or.inr ⟨_, rfl⟩) dX3_grow_39 kl2 rfl (by omega) ?_
  refine E_iload_n dX3_grow_42 rfl ?_
  refine E_callS (as := [.ref (rR σ2 l 2), .int (nI (gN n))]) (st := [.ref l]) (ok_copyOfL q2 (by omega) (by omega) hg (by omega)) (by decide) yfJ7_copyOf_c38d5 mlX3_33 stJ7_copyOf_c38d5 rfl (Nat.le_of_ble_eq_true rfl) rfl dX3_grow_43 ?_
  refine E_putR clX3 2 (by decide) flX3_17 (Or.inr ⟨_, rfl⟩) rfl dX3_grow_46 (show rK _ l = (5, 0) from (up_other _ _ (by omega)).trans kl2) ?_
  rw [← h3]
  exact E_vret rfl dX3_grow_49
