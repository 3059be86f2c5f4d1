/-! the board as a mathematical value; what is done on it, and undone -/
abbrev Bd : Type := (Nat → Nat) × (Nat → Nat) × (Nat → Nat) × (Nat → Nat) × List (Nat × Nat) × Nat × Nat
abbrev bP (B : Bd) : Nat → Nat := B.1
abbrev bR (B : Bd) : Nat → Nat := B.2.1
abbrev bT (B : Bd) : Nat → Nat := B.2.2.1
abbrev bJ (B : Bd) : Nat → Nat := B.2.2.2.1
abbrev bD (B : Bd) : List (Nat × Nat) := B.2.2.2.2.1
abbrev bF (B : Bd) : Nat := B.2.2.2.2.2.1
abbrev bX (B : Bd) : Nat := B.2.2.2.2.2.2
def rsz (R : Nat → Nat) (p : Nat) : Nat := natSum (fun k => R (53 * p + k)) 53
def BR (σ : rS) (b : Nat) (B : Bd) (ch : Nat) : Prop := BQ σ b (bP B) (bR B) (rsz (bR B)) (bT B) (bJ B) (bD B) (natSum (bP B) 53) (natSum (bT B) 52 + natSum (bJ B) 52) (natSum (bJ B) 52) (bF B) (bX B) ch
theorem BQ_cg {σ : rS} {b : Nat} {P R Z T J P' R' Z' T' J' : Nat → Nat} {D D' : List (Nat × Nat)} {ps ts jl F X ch ps' ts' jl' F' X' ch' : Nat} (H : BQ σ b P R Z T J D ps ts jl F X ch) (hP : ∀ k, k < 53 → P k = P' k) (hR : ∀ i, i < 212 → R i = R' i) (hZ : ∀ p, p < 4 → Z p = Z' p) (hT : ∀ k, k < 52 → T k = T' k) (hJ : ∀ k, k < 52 → J k = J' k) (hD : D = D') (h1 : ps = ps') (h2 : ts = ts') (h3 : jl = jl') (h4 : F = F') (h5 : X = X') (h6 : ch = ch') : BQ σ b P' R' Z' T' J' D' ps' ts' jl' F' X' ch' := by
  subst hD h1 h2 h3 h4 h5 h6
  obtain ⟨g1, g2, g3, g4, g5, g6⟩ := H
  exact ⟨fun k hk => by rw [← hP k hk]; exact g1 k hk, fun k hk => by rw [← hR k hk]; exact g2 k hk, fun k hk => by rw [← hZ k hk]; exact g3 k hk, fun k hk => by rw [← hT k hk]; exact g4 k hk, fun k hk => by rw [← hJ k hk]; exact g5 k hk, g6⟩
theorem natSum_up {f : Nat → Nat} {i n x : Nat} (hi : i < n) : natSum (up1 f i x) n + f i = natSum f n + x := by
  induction n with
  | zero => omega
  | succ n ih =>
    simp only [natSum]
    by_cases e : i = n
    · subst e
      have : natSum (up1 f i x) i = natSum f i := natSum_congr fun m hm => by rw [up1_at, if_neg (by omega)]
      rw [this, up1_at, if_pos rfl]
      omega
    · have := ih (by omega)
      have e2 : up1 f i x n = f n := by rw [up1_at, if_neg (fun q => e q.symm)]
      omega
theorem natSum_ge {f : Nat → Nat} {i n : Nat} (hi : i < n) : f i ≤ natSum f n := by
  have := natSum_up (f := f) (x := 0) hi
  omega
theorem rsz_up {R : Nat → Nat} {p k x : Nat} (hk : k < 53) : rsz (up1 R (53 * p + k) x) p + R (53 * p + k) = rsz R p + x := by
  unfold rsz
  have : natSum (fun j => up1 R (53 * p + k) x (53 * p + j)) 53 = natSum (up1 (fun j => R (53 * p + j)) k x) 53 := natSum_congr fun j _ => by
    rw [up1_at, up1_at]
    by_cases e : j = k
    · rw [if_pos e, if_pos (by omega)]
    · rw [if_neg e, if_neg (by omega)]
  rw [this]
  exact natSum_up (f := fun j => R (53 * p + j)) hk
theorem rsz_other {R : Nat → Nat} {p q k x : Nat} (hk : k < 53) (h : q ≠ p) : rsz (up1 R (53 * p + k) x) q = rsz R q := natSum_congr fun j hj => by rw [up1_at, if_neg (by omega)]
theorem rsz_ge {R : Nat → Nat} {p k : Nat} (hk : k < 53) : R (53 * p + k) ≤ rsz R p := natSum_ge (f := fun j => R (53 * p + j)) hk
theorem rsz_set {R : Nat → Nat} {p k x : Nat} (hk : k < 53) : ∀ q, up1 (rsz R) p (rsz R p + x - R (53 * p + k)) q = rsz (up1 R (53 * p + k) x) q := fun q => by
  rw [up1_at]
  have := rsz_up (R := R) (p := p) (x := x) hk
  by_cases e : q = p
  · subst e; rw [if_pos rfl]; omega
  · rw [if_neg e, rsz_other hk e]
/-- a thing that is done: 0 a tile laid, 1 a joker of the rack, 2 a free joker, 3 swapped -/
def vaB (p : Nat) (B : Bd) (d : Nat × Nat) : Prop := d.2 < 52 ∧ p < 4 ∧ (bD B).length < 64 ∧ ((d.1 = 0 ∧ 1 ≤ bR B (53 * p + d.2) ∧ bT B d.2 + bJ B d.2 < 2) ∨ (d.1 = 1 ∧ bF B = 0 ∧ 1 ≤ bR B (53 * p + 52) ∧ bT B d.2 + bJ B d.2 < 2) ∨ (d.1 = 2 ∧ 1 ≤ bF B ∧ bT B d.2 + bJ B d.2 < 2) ∨ (d.1 = 3 ∧ 1 ≤ bR B (53 * p + d.2) ∧ 1 ≤ bJ B d.2))
def apB (p : Nat) (B : Bd) (d : Nat × Nat) : Bd :=
  if d.1 = 0 then (bP B, up1 (bR B) (53 * p + d.2) (bR B (53 * p + d.2) - 1), up1 (bT B) d.2 (bT B d.2 + 1), bJ B, bD B ++ [d], bF B, bX B)
  else if d.1 = 1 then (bP B, up1 (bR B) (53 * p + 52) (bR B (53 * p + 52) - 1), bT B, up1 (bJ B) d.2 (bJ B d.2 + 1), bD B ++ [d], bF B, bX B)
  else if d.1 = 2 then (bP B, bR B, bT B, up1 (bJ B) d.2 (bJ B d.2 + 1), bD B ++ [d], bF B - 1, bX B)
  else (bP B, up1 (bR B) (53 * p + d.2) (bR B (53 * p + d.2) - 1), up1 (bT B) d.2 (bT B d.2 + 1), up1 (bJ B) d.2 (bJ B d.2 - 1), bD B ++ [d], bF B + 1, bX B)
theorem apB_0 (p k : Nat) (B : Bd) : apB p B (0, k) = (bP B, up1 (bR B) (53 * p + k) (bR B (53 * p + k) - 1), up1 (bT B) k (bT B k + 1), bJ B, bD B ++ [(0, k)], bF B, bX B) := rfl
theorem apB_1 (p k : Nat) (B : Bd) : apB p B (1, k) = (bP B, up1 (bR B) (53 * p + 52) (bR B (53 * p + 52) - 1), bT B, up1 (bJ B) k (bJ B k + 1), bD B ++ [(1, k)], bF B, bX B) := rfl
theorem apB_2 (p k : Nat) (B : Bd) : apB p B (2, k) = (bP B, bR B, bT B, up1 (bJ B) k (bJ B k + 1), bD B ++ [(2, k)], bF B - 1, bX B) := rfl
theorem apB_3 (p k : Nat) (B : Bd) : apB p B (3, k) = (bP B, up1 (bR B) (53 * p + k) (bR B (53 * p + k) - 1), up1 (bT B) k (bT B k + 1), up1 (bJ B) k (bJ B k - 1), bD B ++ [(3, k)], bF B + 1, bX B) := rfl
theorem apB_D (p : Nat) (B : Bd) (d : Nat × Nat) : bD (apB p B d) = bD B ++ [d] := by
  unfold apB
  split
  · rfl
  · split
    · rfl
    · split <;> rfl
theorem layTile_eq {σ : rS} {b : Nat} {B : Bd} {ch p k : Nat} (H : BR σ b B ch) (v : vaB p B (0, k)) : ∃ τ, f_X1_layTile σ b (nI p) (nI k) = some ((), τ) ∧ BR τ b (apB p B (0, k)) (ch + 2) ∧ FrB2 b σ τ := by
  obtain ⟨hk, hp, hl, v⟩ := v
  have hk : k < 52 := hk
  have v : 1 ≤ bR B (53 * p + k) ∧ bT B k + bJ B k < 2 := by
    rcases v with ⟨-, v⟩ | ⟨e, -⟩ | ⟨e, -⟩ | ⟨e, -⟩
    · exact v
    · exact absurd (show (0 : Nat) = 1 from e) (by decide)
    · exact absurd (show (0 : Nat) = 2 from e) (by decide)
    · exact absurd (show (0 : Nat) = 3 from e) (by decide)
  have hz := rsz_ge (R := bR B) (p := p) (k := k) (by omega)
  obtain ⟨σ1, a1, a2, a3⟩ := give_eq H hp (k := k) (by omega) (nI_m1 v.1) (nI_m1 (n := rsz (bR B) p) (by omega))
  obtain ⟨σ2, b1, b2, b3⟩ := chgT_eq a2 hk (nI_1 (bT B k))
  have c2 := BQ_f8 b2 (natSum (bT B) 52 + natSum (bJ B) 52 + 1)
  obtain ⟨σ3, d1, d2, d3⟩ := note_eq c2 (h := 0) (k := k) hl
  refine ⟨σ3, ?_, ?_, ((a3.tr b3).tr (Fr_f σ2 b 8 _)).tr d3⟩
  · unfold f_X1_layTile
    have e : (0 : Int32) = nI 0 := rfl
    rw [a1, oB_some, b1, oB_some, b2.2.2.2.2.2.2.2.1, nI_1, oLet_eq, e, d1, oB_some]
  · rw [apB_0]
    refine BQ_cg d2 (fun _ _ => rfl) (fun _ _ => rfl) (fun q _ => ?_) (fun _ _ => rfl) (fun _ _ => rfl) rfl rfl ?_ rfl rfl rfl rfl
    · rw [← rsz_set (R := bR B) (p := p) (k := k) (x := bR B (53 * p + k) - 1) (by omega)]
      congr 1
      omega
    · have := natSum_up (f := bT B) (x := bT B k + 1) hk
      show natSum (bT B) 52 + natSum (bJ B) 52 + 1 = natSum (up1 (bT B) k (bT B k + 1)) 52 + natSum (bJ B) 52
      omega
theorem swapJoker_eq {σ : rS} {b : Nat} {B : Bd} {ch p k : Nat} (H : BR σ b B ch) (v : vaB p B (3, k)) : ∃ τ, f_X1_swapJoker σ b (nI p) (nI k) = some ((), τ) ∧ BR τ b (apB p B (3, k)) (ch + 3) ∧ FrB2 b σ τ := by
  obtain ⟨hk, hp, hl, v⟩ := v
  have hk : k < 52 := hk
  have v : 1 ≤ bR B (53 * p + k) ∧ 1 ≤ bJ B k := by
    rcases v with ⟨e, -⟩ | ⟨e, -⟩ | ⟨e, -⟩ | ⟨-, v⟩
    · exact absurd (show (3 : Nat) = 0 from e) (by decide)
    · exact absurd (show (3 : Nat) = 1 from e) (by decide)
    · exact absurd (show (3 : Nat) = 2 from e) (by decide)
    · exact v
  have hz := rsz_ge (R := bR B) (p := p) (k := k) (by omega)
  have hj := natSum_ge (f := bJ B) hk
  obtain ⟨σ1, a1, a2, a3⟩ := give_eq H hp (k := k) (by omega) (nI_m1 v.1) (nI_m1 (n := rsz (bR B) p) (by omega))
  obtain ⟨σ2, b1, b2, b3⟩ := chgT_eq a2 hk (nI_1 (bT B k))
  obtain ⟨σ3, e1, e2, e3⟩ := chgJ_eq b2 hk (nI_m1 v.2)
  have c2 := BQ_f9 e2 (natSum (bJ B) 52 - 1)
  have c3 := BQ_f10 c2 (bF B + 1)
  obtain ⟨σ4, d1, d2, d3⟩ := note_eq c3 (h := 3) (k := k) hl
  refine ⟨σ4, ?_, ?_, (((((a3.tr b3).tr e3).tr (Fr_f σ3 b 9 _)).tr (Fr_f _ b 10 _)).tr d3)⟩
  · unfold f_X1_swapJoker
    have e : (3 : Int32) = nI 3 := rfl
    rw [a1, oB_some, b1, oB_some, e1, oB_some, e2.2.2.2.2.2.2.2.2.1, nI_s1 (by omega), oLet_eq, c2.2.2.2.2.2.2.2.2.2.1, nI_1, oLet_eq, e, d1, oB_some]
  · rw [apB_3]
    have t1 := natSum_up (f := bT B) (x := bT B k + 1) hk
    have t2 := natSum_up (f := bJ B) (x := bJ B k - 1) hk
    refine BQ_cg d2 (fun _ _ => rfl) (fun _ _ => rfl) (fun q _ => ?_) (fun _ _ => rfl) (fun _ _ => rfl) rfl rfl ?_ ?_ rfl rfl rfl
    · rw [← rsz_set (R := bR B) (p := p) (k := k) (x := bR B (53 * p + k) - 1) (by omega)]
      congr 1
      omega
    · show natSum (bT B) 52 + natSum (bJ B) 52 = natSum (up1 (bT B) k (bT B k + 1)) 52 + natSum (up1 (bJ B) k (bJ B k - 1)) 52
      omega
    · show natSum (bJ B) 52 - 1 = natSum (up1 (bJ B) k (bJ B k - 1)) 52
      omega
theorem layJoker_eq {σ : rS} {b : Nat} {B : Bd} {ch p k : Nat} (H : BR σ b B ch) (hF : bF B ≤ 100) (v : vaB p B (if bF B = 0 then 1 else 2, k)) : ∃ τ c, f_X1_layJoker σ b (nI p) (nI k) = some ((), τ) ∧ BR τ b (apB p B (if bF B = 0 then 1 else 2, k)) (ch + c) ∧ 1 ≤ c ∧ c ≤ 2 ∧ FrB2 b σ τ := by
  obtain ⟨hk, hp, hl, v⟩ := v
  have hk : k < 52 := hk
  have e10 := H.2.2.2.2.2.2.2.2.2.1
  have cF : (nI (bF B) ≤ 0) = (bF B ≤ 0) := propext (nI_leI (b := 0) (by omega) (by omega))
  by_cases h0 : bF B = 0
  · rw [if_pos h0] at v ⊢
    have v : 1 ≤ bR B (53 * p + 52) := by
      rcases v with ⟨e, -⟩ | ⟨-, -, v, -⟩ | ⟨e, -⟩ | ⟨e, -⟩
      · exact absurd (show (1 : Nat) = 0 from e) (by decide)
      · exact v
      · exact absurd (show (1 : Nat) = 2 from e) (by decide)
      · exact absurd (show (1 : Nat) = 3 from e) (by decide)
    have hz := rsz_ge (R := bR B) (p := p) (k := 52) (by omega)
    obtain ⟨σ1, a1, a2, a3⟩ := give_eq H hp (k := 52) (by omega) (nI_m1 v) (nI_m1 (n := rsz (bR B) p) (by omega))
    obtain ⟨σ2, b1, b2, b3⟩ := chgJ_eq a2 hk (nI_1 (bJ B k))
    have c2 := BQ_f8 b2 (natSum (bT B) 52 + natSum (bJ B) 52 + 1)
    have c3 := BQ_f9 c2 (natSum (bJ B) 52 + 1)
    obtain ⟨σ3, d1, d2, d3⟩ := note_eq c3 (h := 1) (k := k) hl
    refine ⟨σ3, 2, ?_, ?_, by decide, by decide, (((a3.tr b3).tr (Fr_f σ2 b 8 _)).tr (Fr_f _ b 9 _)).tr d3⟩
    · unfold f_X1_layJoker
      have e : (1 : Int32) = nI 1 := rfl
      have a1 : f_X1_give σ b (nI p) 52 (-1) = some ((), σ1) := a1
      rw [e10]
      simp only [cF]
      rw [if_pos (show bF B ≤ 0 by omega), oLet_eq, if_pos rfl, a1, oB_some, oJ_inr, b1, oB_some, b2.2.2.2.2.2.2.2.1, nI_1, oLet_eq, c2.2.2.2.2.2.2.2.2.1, nI_1, oLet_eq, if_pos rfl, e, d1, oB_some]
    · rw [apB_1]
      have t2 := natSum_up (f := bJ B) (x := bJ B k + 1) hk
      refine BQ_cg d2 (fun _ _ => rfl) (fun _ _ => rfl) (fun q _ => ?_) (fun _ _ => rfl) (fun _ _ => rfl) rfl rfl ?_ ?_ rfl rfl rfl
      · rw [← rsz_set (R := bR B) (p := p) (k := 52) (x := bR B (53 * p + 52) - 1) (by omega)]
        congr 1
        omega
      · show natSum (bT B) 52 + natSum (bJ B) 52 + 1 = natSum (bT B) 52 + natSum (up1 (bJ B) k (bJ B k + 1)) 52
        omega
      · show natSum (bJ B) 52 + 1 = natSum (up1 (bJ B) k (bJ B k + 1)) 52
        omega
  · rw [if_neg h0] at v ⊢
    have c1 := BQ_f10 H (bF B - 1)
    obtain ⟨σ2, b1, b2, b3⟩ := chgJ_eq c1 hk (nI_1 (bJ B k))
    have c2 := BQ_f8 b2 (natSum (bT B) 52 + natSum (bJ B) 52 + 1)
    have c3 := BQ_f9 c2 (natSum (bJ B) 52 + 1)
    obtain ⟨σ3, d1, d2, d3⟩ := note_eq c3 (h := 2) (k := k) hl
    refine ⟨σ3, 1, ?_, ?_, by decide, by decide, ((((Fr_f σ b 10 _).tr b3).tr (Fr_f σ2 b 8 _)).tr (Fr_f _ b 9 _)).tr d3⟩
    · unfold f_X1_layJoker
      have e : (2 : Int32) = nI 2 := rfl
      rw [e10]
      simp only [cF]
      rw [if_neg (show ¬ bF B ≤ 0 by omega), oLet_eq, if_neg (by decide), nI_s1 (by omega), oLet_eq, oJ_inr, b1, oB_some, b2.2.2.2.2.2.2.2.1, nI_1, oLet_eq, c2.2.2.2.2.2.2.2.2.1, nI_1, oLet_eq, if_neg (by decide), e, d1, oB_some]
    · rw [apB_2]
      have t2 := natSum_up (f := bJ B) (x := bJ B k + 1) hk
      refine BQ_cg d2 (fun _ _ => rfl) (fun _ _ => rfl) (fun q _ => rfl) (fun _ _ => rfl) (fun _ _ => rfl) rfl rfl ?_ ?_ rfl rfl rfl
      · show natSum (bT B) 52 + natSum (bJ B) 52 + 1 = natSum (bT B) 52 + natSum (up1 (bJ B) k (bJ B k + 1)) 52
        omega
      · show natSum (bJ B) 52 + 1 = natSum (up1 (bJ B) k (bJ B k + 1)) 52
        omega
theorem lift_eq {σ : rS} {b : Nat} {P R Z T J : Nat → Nat} {D : List (Nat × Nat)} {ps ts jl F X ch : Nat} (H : BQ σ b P R Z T J D ps ts jl F X ch) {k : Nat} (hk : k < 52) (hj : 1 ≤ J k) (ht : 1 ≤ ts) (hl : 1 ≤ jl) : ∃ τ, f_X1_liftJoker σ b (nI k) = some ((), τ) ∧ BQ τ b P R Z T (up1 J k (J k - 1)) D ps (ts - 1) (jl - 1) F X (ch + 1) ∧ FrB2 b σ τ := by
  obtain ⟨σ1, a1, a2, a3⟩ := chgJ_eq H hk (nI_m1 hj)
  have c2 := BQ_f8 a2 (ts - 1)
  have c3 := BQ_f9 c2 (jl - 1)
  refine ⟨_, ?_, c3, (a3.tr (Fr_f σ1 b 8 _)).tr (Fr_f _ b 9 _)⟩
  unfold f_X1_liftJoker
  rw [a1, oB_some, a2.2.2.2.2.2.2.2.1, nI_s1 ht, oLet_eq, c2.2.2.2.2.2.2.2.2.1, nI_s1 hl, oLet_eq]
theorem dn_kind {h k : Nat} (hk : k < 64) (hh : h ≤ 3) : nI (64 * h + k) &&& 63 = nI k ∧ nI (64 * h + k) >>> ((6 : Int32) &&& 31) = nI h := by
  constructor
  · rw [show (63 : Int32) = nI (2 ^ 6 - 1) from rfl, nI_mod]
    congr 1
    omega
  · rw [nI_shrG (by omega) _ 6 (by decide) (by decide)]
    congr 1
    omega
theorem up1_back (f : Nat → Nat) {i x y : Nat} (h : y = f i) : ∀ j, up1 (up1 f i x) i y j = f j := fun j => by
  rw [up1_at, up1_at]
  split
  · rename_i e; rw [h, e]
  · rfl
theorem undo_eq {σ : rS} {b : Nat} {B : Bd} {ch p : Nat} {d : Nat × Nat} (v : vaB p B d) (hF : bF B ≤ 100) (H : BR σ b (apB p B d) ch) : ∃ τ c, f_X1_undo σ b (nI p) = some (nI d.2, τ) ∧ BR τ b B (ch + c) ∧ 1 ≤ c ∧ c ≤ 3 ∧ FrB2 b σ τ := by
  obtain ⟨h, k⟩ := d
  obtain ⟨hk, hp, hl, v⟩ := v
  have hk : k < 52 := hk
  have hD := apB_D p B (h, k)
  have e6 : rI σ b 6 = nI ((bD B).length + 1) := by
    rw [H.2.2.2.2.2.1.1, hD, List.length_append]; rfl
  have e6' := H.2.2.2.2.2.1.2 (bD B).length (h, k) (by rw [hD, List.getElem?_append_right (Nat.le_refl _), Nat.sub_self]; rfl)
  have H1 := BQ_f6 H (bD B) [(h, k)] hD
  have hh : h ≤ 3 := by rcases v with ⟨e, -⟩ | ⟨e, -⟩ | ⟨e, -⟩ | ⟨e, -⟩ <;> simp only at e <;> omega
  obtain ⟨k1, k2⟩ := dn_kind (h := h) (k := k) (by omega) hh
  have r6 : rI (wI σ b 6 (nI (bD B).length)) b 6 = nI (bD B).length := by rw [fld_eq, if_pos ⟨rfl, rfl⟩]
  have rD : vAt (rI (wI σ b 6 (nI (bD B).length)) (b + 6)) 64 (nI (bD B).length) = nI (64 * h + k) := by
    rw [vAt_nI (by decide) hl, fld_eq, if_neg (by omega)]
    exact e6'
  have hdk : v_X1_doneKind (wI σ b 6 (nI (bD B).length)) b (nI (bD B).length) = nI k := by
    unfold v_X1_doneKind
    rw [rD, k1]
  have c0 : (0 : Int32) < nI ((bD B).length + 1) := (nI_lt' (a := 0) (by omega) (by omega)).mpr (by omega)
  have pre : ∀ {x : Option (Int32 × rS)}, (if nI h = 0 then (oB (f_X1_change (wI σ b 6 (nI (bD B).length)) b (b + 4) (nI k) ((-1))) fun _ σ5 => oLet (wI σ5 b 8 ((rI σ5 b 8) - 1)) fun σ6 => oB (f_X1_give σ6 b (nI p) (nI k) 1) fun _ σ8 => some ((nI k, σ8))) else (if nI h = 1 then (oB (f_X1_liftJoker (wI σ b 6 (nI (bD B).length)) b (nI k)) fun _ σ11 => oB (f_X1_give σ11 b (nI p) 52 1) fun _ σ13 => some ((nI k, σ13))) else (if nI h = 2 then (oB (f_X1_liftJoker (wI σ b 6 (nI (bD B).length)) b (nI k)) fun _ σ16 => oLet (wI σ16 b 10 ((rI σ16 b 10) + 1)) fun σ17 => some ((nI k, σ17))) else (if nI h = 3 then (oB (f_X1_change (wI σ b 6 (nI (bD B).length)) b (b + 4) (nI k) ((-1))) fun _ σ20 => oB (f_X1_change σ20 b (b + 5) (nI k) 1) fun _ σ22 => oLet (wI σ22 b 9 ((rI σ22 b 9) + 1)) fun σ23 => oLet (wI σ23 b 10 ((rI σ23 b 10) - 1)) fun σ24 => oB (f_X1_give σ24 b (nI p) (nI k) 1) fun _ σ26 => some ((nI k, σ26))) else (oB (f_X1_liftJoker (wI σ b 6 (nI (bD B).length)) b (nI k)) fun _ σ28 => oLet (wI σ28 b 10 ((rI σ28 b 10) + 1)) fun σ29 => some ((nI k, σ29))))))) = x → f_X1_undo σ b (nI p) = x := fun hx => by
    unfold f_X1_undo
    rw [e6, if_pos c0, nI_s1 (by omega), Nat.add_sub_cancel, oLet_eq, r6, hdk, oLet_eq, rD, k2]
    exact hx
  rcases v with ⟨e, v1, v2⟩ | ⟨e, v0, v1, v2⟩ | ⟨e, v1, v2⟩ | ⟨e, v1, v2⟩
  · have e : h = 0 := e
    subst e
    have v1 : 1 ≤ bR B (53 * p + k) := v1
    have hz := rsz_ge (R := bR B) (p := p) (k := k) (by omega)
    have hzu := rsz_up (R := bR B) (p := p) (k := k) (x := bR B (53 * p + k) - 1) (by omega)
    have t1 := natSum_up (f := bT B) (i := k) (x := bT B k + 1) hk
    rw [apB_0] at H1
    have H1 : BQ (wI σ b 6 (nI (bD B).length)) b (bP B) (up1 (bR B) (53 * p + k) (bR B (53 * p + k) - 1)) (rsz (up1 (bR B) (53 * p + k) (bR B (53 * p + k) - 1))) (up1 (bT B) k (bT B k + 1)) (bJ B) (bD B) (natSum (bP B) 53) (natSum (up1 (bT B) k (bT B k + 1)) 52 + natSum (bJ B) 52) (natSum (bJ B) 52) (bF B) (bX B) ch := H1
    have a0 : up1 (bT B) k (bT B k + 1) k = bT B k + 1 := by rw [up1_at, if_pos rfl]
    have g0 : up1 (bR B) (53 * p + k) (bR B (53 * p + k) - 1) (53 * p + k) = bR B (53 * p + k) - 1 := by rw [up1_at, if_pos rfl]
    obtain ⟨σ1, a1, a2, a3⟩ := chgT_eq H1 (k := k) hk (r := bT B k) (by rw [a0, nI_m1 (by omega)]; rfl)
    have c2 := BQ_f8 a2 (natSum (bT B) 52 + natSum (bJ B) 52)
    obtain ⟨σ2, b1, b2, b3⟩ := give_eq c2 hp (k := k) (r := bR B (53 * p + k)) (z := rsz (bR B) p) (by_ := 1) (by omega) (by rw [g0, nI_1]; congr 1; omega) (by rw [nI_1]; congr 1; omega)
    refine ⟨σ2, 2, pre ?_, ?_, by decide, by decide, (((Fr_f σ b 6 _).tr a3).tr (Fr_f σ1 b 8 _)).tr b3⟩
    · rw [if_pos (show nI 0 = 0 from rfl), a1, oB_some, a2.2.2.2.2.2.2.2.1, nI_s1 (by omega), oLet_eq, show natSum (up1 (bT B) k (bT B k + 1)) 52 + natSum (bJ B) 52 - 1 = natSum (bT B) 52 + natSum (bJ B) 52 by omega, b1, oB_some]
    · refine BQ_cg b2 (fun _ _ => rfl) (fun i _ => up1_back (bR B) rfl i) (fun q _ => ?_) (fun i _ => up1_back (bT B) rfl i) (fun _ _ => rfl) rfl rfl rfl rfl rfl rfl rfl
      rw [up1_at]
      by_cases e : q = p
      · rw [if_pos e, e]
      · rw [if_neg e, rsz_other (by omega) e]
  · have e : h = 1 := e
    subst e
    have v1 : 1 ≤ bR B (53 * p + 52) := v1
    have hz := rsz_ge (R := bR B) (p := p) (k := 52) (by omega)
    have hzu := rsz_up (R := bR B) (p := p) (k := 52) (x := bR B (53 * p + 52) - 1) (by omega)
    have t1 := natSum_up (f := bJ B) (i := k) (x := bJ B k + 1) hk
    rw [apB_1] at H1
    have H1 : BQ (wI σ b 6 (nI (bD B).length)) b (bP B) (up1 (bR B) (53 * p + 52) (bR B (53 * p + 52) - 1)) (rsz (up1 (bR B) (53 * p + 52) (bR B (53 * p + 52) - 1))) (bT B) (up1 (bJ B) k (bJ B k + 1)) (bD B) (natSum (bP B) 53) (natSum (bT B) 52 + natSum (up1 (bJ B) k (bJ B k + 1)) 52) (natSum (up1 (bJ B) k (bJ B k + 1)) 52) (bF B) (bX B) ch := H1
    have a0 : up1 (bJ B) k (bJ B k + 1) k = bJ B k + 1 := by rw [up1_at, if_pos rfl]
    have g0 : up1 (bR B) (53 * p + 52) (bR B (53 * p + 52) - 1) (53 * p + 52) = bR B (53 * p + 52) - 1 := by rw [up1_at, if_pos rfl]
    obtain ⟨σ1, a1, a2, a3⟩ := lift_eq H1 (k := k) hk (by omega) (by omega) (by omega)
    obtain ⟨σ2, b1, b2, b3⟩ := give_eq a2 hp (k := 52) (r := bR B (53 * p + 52)) (z := rsz (bR B) p) (by_ := 1) (by omega) (by rw [g0, nI_1]; congr 1; omega) (by rw [nI_1]; congr 1; omega)
    have b1 : f_X1_give σ1 b (nI p) 52 1 = some ((), σ2) := b1
    refine ⟨σ2, 2, pre ?_, ?_, by decide, by decide, ((Fr_f σ b 6 _).tr a3).tr b3⟩
    · rw [if_neg (show ¬ nI 1 = 0 by decide), if_pos (show nI 1 = 1 from rfl), a1, oB_some, b1, oB_some]
    · refine BQ_cg b2 (fun _ _ => rfl) (fun i _ => up1_back (bR B) rfl i) (fun q _ => ?_) (fun _ _ => rfl) (fun i _ => up1_back (bJ B) (by omega) i) rfl rfl (by omega) (by omega) rfl rfl rfl
      rw [up1_at]
      by_cases e : q = p
      · rw [if_pos e, e]
      · rw [if_neg e, rsz_other (by omega) e]
  · have e : h = 2 := e
    subst e
    have v1 : 1 ≤ bF B := v1
    have t1 := natSum_up (f := bJ B) (i := k) (x := bJ B k + 1) hk
    rw [apB_2] at H1
    have H1 : BQ (wI σ b 6 (nI (bD B).length)) b (bP B) (bR B) (rsz (bR B)) (bT B) (up1 (bJ B) k (bJ B k + 1)) (bD B) (natSum (bP B) 53) (natSum (bT B) 52 + natSum (up1 (bJ B) k (bJ B k + 1)) 52) (natSum (up1 (bJ B) k (bJ B k + 1)) 52) (bF B - 1) (bX B) ch := H1
    have a0 : up1 (bJ B) k (bJ B k + 1) k = bJ B k + 1 := by rw [up1_at, if_pos rfl]
    obtain ⟨σ1, a1, a2, a3⟩ := lift_eq H1 (k := k) hk (by omega) (by omega) (by omega)
    have c2 := BQ_f10 a2 (bF B)
    refine ⟨_, 1, pre ?_, ?_, by decide, by decide, ((Fr_f σ b 6 _).tr a3).tr (Fr_f σ1 b 10 (nI (bF B)))⟩
    · rw [if_neg (show ¬ nI 2 = 0 by decide), if_neg (show ¬ nI 2 = 1 by decide), if_pos (show nI 2 = 2 from rfl), a1, oB_some, a2.2.2.2.2.2.2.2.2.2.1, nI_1, oLet_eq, show bF B - 1 + 1 = bF B by omega]
    · exact BQ_cg c2 (fun _ _ => rfl) (fun i _ => rfl) (fun q _ => rfl) (fun _ _ => rfl) (fun i _ => up1_back (bJ B) (by omega) i) rfl rfl (by omega) (by omega) rfl rfl rfl
  · have e : h = 3 := e
    subst e
    have v1 : 1 ≤ bR B (53 * p + k) := v1
    have v2 : 1 ≤ bJ B k := v2
    have hz := rsz_ge (R := bR B) (p := p) (k := k) (by omega)
    have hj := natSum_ge (f := bJ B) (i := k) hk
    have hzu := rsz_up (R := bR B) (p := p) (k := k) (x := bR B (53 * p + k) - 1) (by omega)
    have t1 := natSum_up (f := bT B) (i := k) (x := bT B k + 1) hk
    have t2 := natSum_up (f := bJ B) (i := k) (x := bJ B k - 1) hk
    rw [apB_3] at H1
    have H1 : BQ (wI σ b 6 (nI (bD B).length)) b (bP B) (up1 (bR B) (53 * p + k) (bR B (53 * p + k) - 1)) (rsz (up1 (bR B) (53 * p + k) (bR B (53 * p + k) - 1))) (up1 (bT B) k (bT B k + 1)) (up1 (bJ B) k (bJ B k - 1)) (bD B) (natSum (bP B) 53) (natSum (up1 (bT B) k (bT B k + 1)) 52 + natSum (up1 (bJ B) k (bJ B k - 1)) 52) (natSum (up1 (bJ B) k (bJ B k - 1)) 52) (bF B + 1) (bX B) ch := H1
    have a0 : up1 (bT B) k (bT B k + 1) k = bT B k + 1 := by rw [up1_at, if_pos rfl]
    have j0 : up1 (bJ B) k (bJ B k - 1) k = bJ B k - 1 := by rw [up1_at, if_pos rfl]
    have g0 : up1 (bR B) (53 * p + k) (bR B (53 * p + k) - 1) (53 * p + k) = bR B (53 * p + k) - 1 := by rw [up1_at, if_pos rfl]
    obtain ⟨σ1, a1, a2, a3⟩ := chgT_eq H1 (k := k) hk (r := bT B k) (by rw [a0, nI_m1 (by omega)]; rfl)
    obtain ⟨σ2, d1, d2, d3⟩ := chgJ_eq a2 (k := k) hk (r := bJ B k) (by_ := 1) (by rw [j0, nI_1]; congr 1; omega)
    have c2 := BQ_f9 d2 (natSum (bJ B) 52)
    have c3 := BQ_f10 c2 (bF B)
    obtain ⟨σ3, b1, b2, b3⟩ := give_eq c3 hp (k := k) (r := bR B (53 * p + k)) (z := rsz (bR B) p) (by_ := 1) (by omega) (by rw [g0, nI_1]; congr 1; omega) (by rw [nI_1]; congr 1; omega)
    refine ⟨σ3, 3, pre ?_, ?_, by decide, by decide, (((((Fr_f σ b 6 _).tr a3).tr d3).tr (Fr_f σ2 b 9 (nI (natSum (bJ B) 52)))).tr (Fr_f _ b 10 (nI (bF B)))).tr b3⟩
    · rw [if_neg (show ¬ nI 3 = 0 by decide), if_neg (show ¬ nI 3 = 1 by decide), if_neg (show ¬ nI 3 = 2 by decide), if_pos (show nI 3 = 3 from rfl), a1, oB_some, d1, oB_some, d2.2.2.2.2.2.2.2.2.1, nI_1, oLet_eq, show natSum (up1 (bJ B) k (bJ B k - 1)) 52 + 1 = natSum (bJ B) 52 by omega, c2.2.2.2.2.2.2.2.2.2.1, nI_s1 (by omega), oLet_eq, Nat.add_sub_cancel, b1, oB_some]
    · refine BQ_cg b2 (fun _ _ => rfl) (fun i _ => up1_back (bR B) rfl i) (fun q _ => ?_) (fun i _ => up1_back (bT B) rfl i) (fun i _ => up1_back (bJ B) rfl i) rfl rfl (by omega) rfl rfl rfl rfl
      rw [up1_at]
      by_cases e : q = p
      · rw [if_pos e, e]
      · rw [if_neg e, rsz_other (by omega) e]
