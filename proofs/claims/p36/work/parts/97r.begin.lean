/-! the beginning: rules, three players, a deal; then the law as a whole -/
theorem player_ok {σ : rS} {B : Bd} {E : List Ent} {dl : Option (Nat × Nat × Nat)} {m : Mem} {l : Nat → Int64} {ch hh L jk ml pn n : Nat} (C : CI σ B E dl m l ch) (r : RuM m hh L jk ml pn n) (tp : m 67 24 = -1) (l4 : n < 4) {a b : Int32} (c1 : ¬ vIn a 0 1 = 0) (c2 : ¬ vIn b 0 3 = 0) : ∃ τ, f_L_player σ a b = some ((nI n).toInt64, τ) ∧ CI τ B E dl (up2 (up2 (up2 (up2 m 68 n a) 69 n b) 74 n (nI n)) 67 6 (nI (n + 1))) l ch ∧ FrK σ τ := by
  have hn := CI_n C r
  have hn4 := r.2.2.2.2.2.2.2.2
  have cl : (if vIn a 0 1 = 0 then true else (if vIn b 0 3 = 0 then true else false)) = false := by rw [if_neg c1, if_neg c2]
  have C1 := CI_w C (a := 20) (k := n) (by omega) a
  have C2 := CI_w C1 (a := 21) (k := n) (by omega) b
  have C3 := CI_w C2 (a := 28) (k := n) (by omega) (nI n)
  have C4 := CI_w C3 (a := 19) (k := 0) (by omega) (nI (n + 1))
  refine ⟨_, ?_, C4, ((((FrK_w (by omega) _).tr (FrK_w (by omega) _)).tr (FrK_w (by omega) _)).tr (FrK_w (by omega) _))⟩
  have q3 : rI (wI (wI (wI σ 20 n a) 21 n b) 28 n (nI n)) 19 0 = nI n := by rw [fld_eq, if_neg (by omega), fld_eq, if_neg (by omega), fld_eq, if_neg (by omega), hn]
  unfold f_L_player f_X10_player f_X6_add
  rw [cl, if_neg (by decide), isOn_no C tp, if_pos rfl, hn, if_pos (show nI n < 4 from (nI_lt' (b := 4) (by omega) (by omega)).mpr l4), if_neg (by decide), vSet_nI (by decide) l4, row_w, oLet_eq, vSet_nI (by decide) l4, row_w, oLet_eq, vSet_nI (by decide) l4, row_w, oLet_eq, q3, nI_1, oLet_eq, oB_some, oBc_l]
  all_goals rfl
theorem rules_ok {σ : rS} {B : Bd} {E : List Ent} {dl : Option (Nat × Nat × Nat)} {m : Mem} {l : Nat → Int64} {ch : Nat} (C : CI σ B E dl m l ch) (tp : m 67 24 = -1) {a b c d e : Int32} (g1 : ¬ vIn a 5 13 = 0) (g2 : ¬ vIn b 3 4 = 0) (g3 : ¬ vIn c 0 3 = 0) (g4 : ¬ vIn d 0 99 = 0) (g5 : ¬ vIn e 1 9 = 0) : ∃ τ, f_L_rules σ a b c d e = some ((8 * a + c).toInt64, τ) ∧ CI τ (zB (bX B)) [] none (ruU m a b c d e) l (ch + 1) ∧ FrK σ τ := by
  have all : (if vIn a 5 13 = 0 then (0 : Int32) else (if vIn b 3 4 = 0 then 0 else (if vIn c 0 3 = 0 then 0 else (if vIn d 0 99 = 0 then 0 else (if vIn e 1 9 = 0 then 0 else 1))))) = 1 := by rw [if_neg g1, if_neg g2, if_neg g3, if_neg g4, if_neg g5]
  have C1 := CI_w C (a := 4) (k := 0) (by omega) a
  have C2 := CI_w C1 (a := 4) (k := 1) (by omega) b
  have C3 := CI_w C2 (a := 4) (k := 2) (by omega) c
  have C4 := CI_w C3 (a := 4) (k := 3) (by omega) d
  have C5 := CI_w C4 (a := 4) (k := 4) (by omega) e
  obtain ⟨σ6, d6⟩ : ∃ z, z = wI (wI (wI (wI (wI σ 4 0 a) 4 1 b) 4 2 c) 4 3 d) 4 4 e := ⟨_, rfl⟩
  rw [← d6] at C5
  have C5 : CI σ6 B E dl (ruU m a b c d e) l ch := C5
  have fc : FrCl σ σ6 := by rw [d6]; exact ((((FrCl_w (by omega) _).tr (FrCl_w (by omega) _)).tr (FrCl_w (by omega) _)).tr (FrCl_w (by omega) _)).tr (FrCl_w (by omega) _)
  have fk : FrK σ σ6 := by rw [d6]; exact ((((FrK_w (by omega) _).tr (FrK_w (by omega) _)).tr (FrK_w (by omega) _)).tr (FrK_w (by omega) _)).tr (FrK_w (by omega) _)
  obtain ⟨σ7, e1, e2, e3⟩ := cclear_eq C5
  have C8 := CI_c0 e2
  refine ⟨_, ?_, C8, (fk.tr (FrK_X e3 fun x j w => by omega)).tr ((FrK_w (by omega) _).tr (FrK_w (by omega) _))⟩
  have ep : v_X5_pieces (wI (wI σ7 35 1 0) 35 2 0) = 8 * a + c := by
    unfold v_X5_pieces
    rw [CI_4 C8 (x := 4) (j := 0) (by omega), CI_4 C8 (x := 4) (j := 2) (by omega)]
    all_goals rfl
  unfold f_L_rules f_X10_rules f_X2_clear
  rw [all, oLet_eq, if_neg (show ¬ (1 : Int32) = 0 by decide), isOn_no C tp, if_pos rfl, oLet_eq, oLet_eq, oLet_eq, oLet_eq, oLet_eq, ← d6, e1, oB_some, oLet_eq, oLet_eq, oB_some, ep, oBc_l]
  all_goals rfl
def S1 (n : Nat) (σ : rS) (m : Mem) (l : Nat → Int64) (hh L jk ml pn : Nat) : Prop := CI σ (zB 0) [] none m l 1 ∧ KcI σ (zB 0) m hh L 1 ∧ RuM m hh L jk ml pn n ∧ (m 67 24 = -1 ∧ m 67 26 = 0 ∧ m 67 34 = 0) ∧ (∀ p, p < 4 → m 70 p = 0 ∧ m 71 p = 0 ∧ m 72 p = 0 ∧ m 77 p = 0 ∧ m 76 p = 0 ∧ m 73 p = 0) ∧ (∀ i, i < 208 → m 78 i = 0) ∧ ∀ p, p < n → m 74 p = nI p ∧ (m 68 p = 0 ∨ m 68 p = 1)
theorem vIn_y {q a b : Nat} (hb : b < 2 ^ 31) (h1 : a ≤ q) (h2 : q ≤ b) : ¬ vIn (nI q) (nI a) (nI b) = 0 := by rw [vIn_in hb h1 h2]; decide
theorem be_rules {σ : rS} {m : Mem} {l : Nat → Int64} {hh L jk ml pn : Nat} (S : S0 σ m l) (h5 : 5 ≤ hh) (h13 : hh ≤ 13) (hL : L = 3 ∨ L = 4) (h3 : jk ≤ 3) (h99 : ml ≤ 99) (h1 : 1 ≤ pn) (h9 : pn ≤ 9) : ∃ τ, f_L_rules σ (nI hh) (nI L) (nI jk) (nI ml) (nI pn) = some ((nI (8 * hh + jk)).toInt64, τ) ∧ S1 0 τ (ruU m (nI hh) (nI L) (nI jk) (nI ml) (nI pn)) l hh L jk ml pn := by
  obtain ⟨C, K, m24, m26, m34, m6, z, z78⟩ := S
  obtain ⟨τ, a1, a2, a3⟩ := rules_ok C m24 (a := nI hh) (b := nI L) (c := nI jk) (d := nI ml) (e := nI pn) (vIn_y (a := 5) (b := 13) (by omega) h5 h13) (vIn_y (a := 3) (b := 4) (by omega) (by omega) (by omega)) (vIn_y (a := 0) (b := 3) (by omega) (by omega) h3) (vIn_y (a := 0) (b := 99) (by omega) (by omega) h99) (vIn_y (a := 1) (b := 9) (by omega) h1 h9)
  have f : ∀ x k, (x ≠ 67 ∨ 6 ≤ k) → ruU m (nI hh) (nI L) (nI jk) (nI ml) (nI pn) x k = m x k := fun x k h => by
    unfold ruU
    rw [up2_at, if_neg (by omega), up2_at, if_neg (by omega), up2_at, if_neg (by omega), up2_at, if_neg (by omega), up2_at, if_neg (by omega)]
  refine ⟨τ, ?_, a2, KcI_up (KcI_fr K a3) (by decide) (by decide), ⟨⟨?_, ?_, ?_, ?_, ?_, ?_⟩, h5, h13, hL, h3, h99, h1, h9, by decide⟩, ⟨?_, ?_, ?_⟩, fun p hp => ?_, fun i hi => ?_, fun p hp => absurd hp (Nat.not_lt_zero p)⟩
  · rw [a1, show (8 : Int32) = nI 8 from rfl, nI_mul, nI_add]
  · unfold ruU
    rw [up2_at, if_neg (by omega), up2_at, if_neg (by omega), up2_at, if_neg (by omega), up2_at, if_neg (by omega), up2_at, if_pos ⟨rfl, rfl⟩]
  · unfold ruU
    rw [up2_at, if_neg (by omega), up2_at, if_neg (by omega), up2_at, if_neg (by omega), up2_at, if_pos ⟨rfl, rfl⟩]
  · unfold ruU
    rw [up2_at, if_neg (by omega), up2_at, if_neg (by omega), up2_at, if_pos ⟨rfl, rfl⟩]
  · unfold ruU
    rw [up2_at, if_neg (by omega), up2_at, if_pos ⟨rfl, rfl⟩]
  · unfold ruU
    rw [up2_at, if_pos ⟨rfl, rfl⟩]
  · rw [f _ _ (by omega)]; exact m6
  · rw [f _ _ (by omega)]; exact m24
  · rw [f _ _ (by omega)]; exact m26
  · rw [f _ _ (by omega)]; exact m34
  · rw [f _ _ (by omega), f _ _ (by omega), f _ _ (by omega), f _ _ (by omega), f _ _ (by omega), f _ _ (by omega)]
    exact z p hp
  · rw [f _ _ (by omega)]; exact z78 i hi
theorem be_player {n : Nat} {σ : rS} {m : Mem} {l : Nat → Int64} {hh L jk ml pn : Nat} (S : S1 n σ m l hh L jk ml pn) (hn : n < 3) {a : Int32} {b : Nat} (ha : a = 0 ∨ a = 1) (hb : b ≤ 3) : ∃ τ m', f_L_ask σ 1 a (nI b) = some ((nI n).toInt64, τ) ∧ S1 (n + 1) τ m' l hh L jk ml pn := by
  obtain ⟨C, K, r, ⟨m24, m26, m34⟩, z, z78, pl⟩ := S
  obtain ⟨τ, a1, a2, a3⟩ := player_ok C r m24 (by omega) (a := a) (b := nI b) (by rcases ha with rfl | rfl <;> decide) (vIn_y (a := 0) (b := 3) (by omega) (by omega) hb)
  obtain ⟨m', dm⟩ : ∃ m', m' = up2 (up2 (up2 (up2 m 68 n a) 69 n (nI b)) 74 n (nI n)) 67 6 (nI (n + 1)) := ⟨_, rfl⟩
  have f : ∀ x k, x ≠ 68 → x ≠ 69 → x ≠ 74 → ¬ (x = 67 ∧ k = 6) → m' x k = m x k := fun x k h1 h2 h3 h4 => by
    rw [dm, up2_at, if_neg h4, up2_at, if_neg (by omega), up2_at, if_neg (by omega), up2_at, if_neg (by omega)]
  have f74 : ∀ k, m' 74 k = if k = n then nI n else m 74 k := fun k => by
    rw [dm, up2_at, if_neg (by omega), up2_at]
    by_cases e : k = n
    · rw [if_pos ⟨rfl, e⟩, if_pos e]
    · rw [if_neg (fun z => e z.2), if_neg e, up2_at, if_neg (by omega), up2_at, if_neg (by omega)]
  have f68 : ∀ k, m' 68 k = if k = n then a else m 68 k := fun k => by
    rw [dm, up2_at, if_neg (by omega), up2_at, if_neg (by omega), up2_at, if_neg (by omega), up2_at]
    by_cases e : k = n
    · rw [if_pos ⟨rfl, e⟩, if_pos e]
    · rw [if_neg (fun z => e z.2), if_neg e]
  have f6 : m' 67 6 = nI (n + 1) := by rw [dm, up2_at, if_pos ⟨rfl, rfl⟩]
  rw [← dm] at a2
  obtain ⟨⟨r1, r2, r3, r4, r5, r6⟩, h5, h13, hL, h3, h99, h1, h9, h4⟩ := r
  refine ⟨τ, m', by rw [ask_eq, does_1]; exact a1, a2, KcI_fr (KcI_m K fun q _ => f _ _ (by omega) (by omega) (by omega) (by omega)) a3, ⟨⟨?_, ?_, ?_, ?_, ?_, f6⟩, h5, h13, hL, h3, h99, h1, h9, by omega⟩, ⟨?_, ?_, ?_⟩, fun p hp => ?_, fun i hi => ?_, fun p hp => ?_⟩
  · rw [f _ _ (by omega) (by omega) (by omega) (by omega)]; exact r1
  · rw [f _ _ (by omega) (by omega) (by omega) (by omega)]; exact r2
  · rw [f _ _ (by omega) (by omega) (by omega) (by omega)]; exact r3
  · rw [f _ _ (by omega) (by omega) (by omega) (by omega)]; exact r4
  · rw [f _ _ (by omega) (by omega) (by omega) (by omega)]; exact r5
  · rw [f _ _ (by omega) (by omega) (by omega) (by omega)]; exact m24
  · rw [f _ _ (by omega) (by omega) (by omega) (by omega)]; exact m26
  · rw [f _ _ (by omega) (by omega) (by omega) (by omega)]; exact m34
  · rw [f _ _ (by omega) (by omega) (by omega) (by omega), f _ _ (by omega) (by omega) (by omega) (by omega), f _ _ (by omega) (by omega) (by omega) (by omega), f _ _ (by omega) (by omega) (by omega) (by omega), f _ _ (by omega) (by omega) (by omega) (by omega), f _ _ (by omega) (by omega) (by omega) (by omega)]
    exact z p hp
  · rw [f _ _ (by omega) (by omega) (by omega) (by omega)]; exact z78 i hi
  · rw [f74, f68]
    by_cases e : p = n
    · rw [if_pos e, if_pos e, e]; exact ⟨rfl, ha⟩
    · rw [if_neg e, if_neg e]; exact pl p (by omega)
theorem be_game {σ : rS} {m : Mem} {l : Nat → Int64} {hh L jk ml pn : Nat} (S : S1 3 σ m l hh L jk ml pn) : GAx 0 σ (zB 0) [] none m l 1 (zB 0) [] hh L jk ml pn 0 := by
  obtain ⟨C, K, r, ⟨m24, m26, m34⟩, z, z78, pl⟩ := S
  refine ⟨C, K, by decide, ⟨r, ⟨BoI_z (by decide) r.2.2.2.1, Or.inl ⟨m24, rfl, rfl⟩⟩, ⟨fun q hq => ⟨q, hq, (pl q hq).1, fun i hi e => ?_⟩, fun p hp => Or.inl (z p hp).2.2.1, fun p hp => Or.inl (z p hp).2.2.2.2.1, fun p hp => ⟨0, by decide, (z p hp).2.1⟩⟩, ⟨m34, by decide, ⟨by decide, by show 0 + 0 ≤ _; exact Nat.zero_le _⟩, fun e he => absurd he List.not_mem_nil⟩, m24, rfl, rfl, 0, rfl⟩, fun p hp => ⟨0, Nat.zero_le _, (z p hp).2.2.2.1⟩, ⟨fun _ => 0, fun p hp => ⟨(z p (by omega)).1, by show -(3000 * ((41 * 0 : Nat) : Int)) ≤ (0 : Int); omega, by show (0 : Int) ≤ 3000 * ((41 * 0 : Nat) : Int); omega⟩, rfl⟩, ⟨fun _ => 0, 0, fun p hp => (z p (by omega)).2.2.2.2.2, m26, rfl, Nat.le_refl _⟩, fun i hi => ⟨0, by decide, z78 i hi⟩, fun p hp => (pl p hp).2⟩
  rw [(pl i (by omega)).1] at e
  have := (nI_eq (by omega) (by omega)).mp e
  omega
