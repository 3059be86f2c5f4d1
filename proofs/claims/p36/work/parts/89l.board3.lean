/-! a turn undone; what is drawn; a deal -/
def runB (p : Nat) (B : Bd) (l : List (Nat × Nat)) : Bd := l.foldl (apB p) B
def okB (p : Nat) : Bd → List (Nat × Nat) → Prop
  | _, [] => True
  | B, d :: l => vaB p B d ∧ okB p (apB p B d) l
theorem runB_sn (p : Nat) (B : Bd) (l : List (Nat × Nat)) (d : Nat × Nat) : runB p B (l ++ [d]) = apB p (runB p B l) d := by
  unfold runB
  rw [List.foldl_append]
  rfl
theorem okB_sn {p : Nat} : ∀ {B : Bd} {l : List (Nat × Nat)} {d : Nat × Nat}, okB p B (l ++ [d]) ↔ okB p B l ∧ vaB p (runB p B l) d
  | B, [], d => ⟨fun h => ⟨trivial, h.1⟩, fun h => ⟨h.2, trivial⟩⟩
  | B, e :: l, d => by
    have ih := okB_sn (p := p) (B := apB p B e) (l := l) (d := d)
    exact ⟨fun h => ⟨⟨h.1, (ih.mp h.2).1⟩, (ih.mp h.2).2⟩, fun h => ⟨h.1.1, ih.mpr ⟨h.1.2, h.2⟩⟩⟩
theorem runB_D {p : Nat} {B : Bd} (l : List (Nat × Nat)) : bD (runB p B l) = bD B ++ l := by
  induction l generalizing B with
  | nil => exact (List.append_nil _).symm
  | cons d l ih =>
    show bD (runB p (apB p B d) l) = _
    rw [ih, apB_D, List.append_assoc]
    rfl
theorem apB_F {p : Nat} {B : Bd} {d : Nat × Nat} : bF (apB p B d) ≤ bF B + 1 := by
  unfold apB
  split
  · show bF B ≤ _; omega
  · split
    · show bF B ≤ _; omega
    · split
      · show bF B - 1 ≤ _; omega
      · show bF B + 1 ≤ _; omega
theorem runB_F {p : Nat} {B : Bd} (l : List (Nat × Nat)) : bF (runB p B l) ≤ bF B + l.length := by
  induction l generalizing B with
  | nil => exact Nat.le_refl _
  | cons d l ih =>
    have := ih (B := apB p B d)
    have h2 := apB_F (p := p) (B := B) (d := d)
    show bF (runB p (apB p B d) l) ≤ _
    rw [List.length_cons]
    omega
theorem undoAll_go {b p : Nat} {B0 : Bd} (h0 : bD B0 = []) (hF0 : bF B0 = 0) : ∀ (m : Nat) (l : List (Nat × Nat)) (σ : rS) (ch n : Nat), l.length = m → okB p B0 l → BR σ b (runB p B0 l) ch → m < n → m ≤ 64 → ∃ τ c, oLoop (b_X1_undoAll_5 b (nI p)) n (nI m, σ) = some ((), τ) ∧ BR τ b B0 (ch + c) ∧ (m ≤ c ∧ c ≤ 3 * m) ∧ FrB2 b σ τ := by
  intro m
  induction m with
  | zero =>
    intro l σ ch n hl ok H hn hm
    obtain ⟨n, rfl⟩ : ∃ m, n = m + 1 := ⟨n - 1, by omega⟩
    have : l = [] := List.length_eq_zero_iff.mp hl
    subst this
    refine ⟨σ, 0, oLoop_l ?_, H, by omega, FrB2.rf b σ⟩
    unfold b_X1_undoAll_5
    rw [if_pos (by show (nI 0) ≤ (nI 0); exact (nI_leI (by omega) (by omega)).mpr (Nat.le_refl _))]
  | succ m ih =>
    intro l σ ch n hl ok H hn hm
    obtain ⟨n, rfl⟩ : ∃ m, n = m + 1 := ⟨n - 1, by omega⟩
    have hne : l ≠ [] := fun e => by rw [e] at hl; exact absurd hl (by simp)
    obtain ⟨l', d, rfl⟩ : ∃ l' d, l = l' ++ [d] := ⟨l.dropLast, l.getLast hne, (List.dropLast_concat_getLast hne).symm⟩
    have hl' : l'.length = m := by rw [List.length_append] at hl; simp at hl; exact hl
    rw [okB_sn] at ok
    rw [runB_sn] at H
    have hF := runB_F (p := p) (B := B0) l'
    obtain ⟨σ1, c1, a1, a2, a3, a4, a5⟩ := undo_eq ok.2 (by omega) H
    obtain ⟨τ, c, b1, b2, b3, b4⟩ := ih l' σ1 (ch + c1) n hl' ok.1 a2 (by omega) (by omega)
    refine ⟨τ, c1 + c, ?_, by rw [← Nat.add_assoc]; exact b2, by omega, a5.tr b4⟩
    rw [oLoop_r (s' := (nI m, σ1))]
    · exact b1
    · unfold b_X1_undoAll_5
      rw [if_neg (by show ¬ (nI (m + 1)) ≤ (nI 0); exact fun z => by have := (nI_leI (by omega) (by omega)).mp z; omega)]
      dsimp only
      rw [a1, oB_some, nI_m1 (by omega), Nat.add_sub_cancel]
theorem undoAll_eq {σ : rS} {b p : Nat} {B0 : Bd} {l : List (Nat × Nat)} {ch : Nat} (h0 : bD B0 = []) (hF0 : bF B0 = 0) (ok : okB p B0 l) (hl : l.length ≤ 64) (H : BR σ b (runB p B0 l) ch) : ∃ τ c, f_X1_undoAll σ b (nI p) = some ((), τ) ∧ BR τ b B0 (ch + c) ∧ (l.length ≤ c ∧ c ≤ 192) ∧ FrB2 b σ τ := by
  have e6 : rI σ b 6 = nI l.length := by rw [H.2.2.2.2.2.1.1, runB_D, h0]; rfl
  obtain ⟨τ, c, a1, a2, a3, a4⟩ := undoAll_go h0 hF0 l.length l σ ch oFuel rfl ok H (by rw [oFuel_eq]; omega) hl
  refine ⟨τ, c, ?_, a2, by omega, a4⟩
  unfold f_X1_undoAll
  rw [e6]
  exact a1
theorem settle_eq {σ : rS} {b : Nat} {B : Bd} {ch : Nat} (H : BR σ b B ch) : ∃ τ, f_X1_settle σ b = some ((), τ) ∧ BR τ b (bP B, bR B, bT B, bJ B, [], bF B, bX B) (ch + 1) ∧ FrB2 b σ τ := by
  have H1 := BQ_f6 H [] (bD B) rfl
  have H2 := BQ_f12 H1 (ch + 1)
  refine ⟨_, ?_, H2, (Fr_f σ b 6 (nI 0)).tr (Fr_f _ b 12 (nI (ch + 1)))⟩
  unfold f_X1_settle
  rw [oLet_eq, oLet_eq]
  have e : rI (wI σ b 6 0) b 12 = nI ch := H1.2.2.2.2.2.2.2.2.2.2.2
  rw [e, nI_1]
  rfl
/-- the kind at a place of the pool -/
def locP (P : Nat → Nat) : Nat → Nat → Nat → Nat
  | 0, k, _ => k
  | n + 1, k, x => if P k ≤ x then locP P n (k + 1) (x - P k) else k
def nxX (x : Nat) : Nat := (25173 * x + 13849) % 65536
def drB (p : Nat) (B : Bd) : Option Bd :=
  if natSum (bP B) 53 = 0 ∨ 24 ≤ rsz (bR B) p then none else
    let k := locP (bP B) 53 0 (nxX (bX B) % natSum (bP B) 53)
    some (up1 (bP B) k (bP B k - 1), up1 (bR B) (53 * p + k) (bR B (53 * p + k) + 1), bT B, bJ B, bD B, bF B, nxX (bX B))
def drUp (p : Nat) : Nat → Bd → Nat × Bd
  | 0, B => (0, B)
  | m + 1, B => match drB p B with
    | none => (0, B)
    | some B' => ((drUp p m B').1 + 1, (drUp p m B').2)
theorem natSum_hd (f : Nat → Nat) (n : Nat) : natSum f (n + 1) = f 0 + natSum (fun i => f (1 + i)) n := by
  induction n with
  | zero => simp [natSum]
  | succ n ih =>
    have e1 : natSum f (n + 1 + 1) = natSum f (n + 1) + f (n + 1) := rfl
    have e2 : natSum (fun i => f (1 + i)) (n + 1) = natSum (fun i => f (1 + i)) n + f (1 + n) := rfl
    rw [e1, ih, e2, Nat.add_comm 1 n]
    omega
theorem natSum_k (P : Nat → Nat) (n k : Nat) : natSum (fun i => P (k + i)) (n + 1) = P k + natSum (fun i => P (k + 1 + i)) n := by
  rw [natSum_hd]
  rw [Nat.add_zero]
  congr 1
  exact natSum_congr fun i _ => by rw [Nat.add_assoc]
theorem locP_ok (P : Nat → Nat) : ∀ n k x, x < natSum (fun i => P (k + i)) n → k ≤ locP P n k x ∧ locP P n k x < k + n ∧ 1 ≤ P (locP P n k x) := by
  intro n
  induction n with
  | zero => intro k x h; exact absurd h (Nat.not_lt_zero _)
  | succ n ih =>
    intro k x h
    have h' := natSum_k P n k
    unfold locP
    by_cases c : P k ≤ x
    · rw [if_pos c]
      have := ih (k + 1) (x - P k) (by omega)
      omega
    · rw [if_neg c]
      exact ⟨Nat.le_refl _, by omega, by omega⟩
theorem draw_loop {σ : rS} {b p : Nat} {P R Z T J : Nat → Nat} {D : List (Nat × Nat)} {ps ts jl F X ch : Nat} (H : BQ σ b P R Z T J D ps ts jl F X ch) (hp : p < 4) (hps : 1 ≤ ps) (hPs : ∀ k, k < 53 → P k < 2 ^ 31) : ∀ d k x n, k + d = 53 → x < natSum (fun i => P (k + i)) d → x < 2 ^ 31 → d < n → ∃ τ, oLoop (b_X1_drawOne_50 b (nI p) σ) n (nI x, nI k) = some (1, τ) ∧ BQ τ b (up1 P (locP P d k x) (P (locP P d k x) - 1)) (up1 R (53 * p + locP P d k x) (R (53 * p + locP P d k x) + 1)) (up1 Z p (Z p + 1)) T J D (ps - 1) ts jl F X (ch + 1) ∧ FrB2 b σ τ := by
  intro d
  induction d with
  | zero => intro k x n hk hx; exact absurd hx (Nat.not_lt_zero _)
  | succ d ih =>
    intro k x n hk hx hx2 hn
    obtain ⟨n, rfl⟩ : ∃ m, n = m + 1 := ⟨n - 1, by omega⟩
    have hk53 : k < 53 := by omega
    have h' := natSum_k P d k
    have n53 : ¬ (53 : Int32) ≤ nI k := fun z => by have := (nI_leI (a := 53) (by omega) (by omega)).mp z; omega
    have cP : (nI (P k) ≤ nI x) = (P k ≤ x) := propext (nI_leI (hPs k hk53) hx2)
    have pre : b_X1_drawOne_50 b (nI p) σ (nI x, nI k) = if P k ≤ x then (some (.inr (nI (x - P k), nI (k + 1)))) else (oLet (wI σ (b + 1) k (nI (P k) - 1)) fun σ7 => oLet (wI σ7 b 7 ((rI σ7 b 7) - 1)) fun σ8 => oB (f_X1_give σ8 b (nI p) (nI k) 1) fun _ σ10 => some (.inl ((1, σ10)))) := by
      unfold b_X1_drawOne_50
      dsimp only
      rw [if_neg n53, if_pos (inB_nI (by decide) hk53), nI_clamp (by omega), H.1 k hk53]
      simp only [cP]
      by_cases c : P k ≤ x
      · rw [if_pos c, if_pos c, nI_sub c, oLet_eq, nI_1]
      · rw [if_neg c, if_neg c]
    unfold locP
    by_cases c : P k ≤ x
    · rw [if_pos c] at pre ⊢
      rw [oLoop_r pre]
      exact ih (k + 1) (x - P k) n (by omega) (by omega) (by omega) (by omega)
    · rw [if_neg c] at pre ⊢
      obtain ⟨h1, h2, h3, h4, h5, ⟨h6, h6'⟩, h7, h8, h9, h10, h11, h12⟩ := H
      have Q1 : BQ (wI σ (b + 1) k (nI (P k - 1))) b (up1 P k (P k - 1)) R Z T J D ps ts jl F X ch := by
        have q : ∀ x j, x ≠ b + 1 → rI (wI σ (b + 1) k (nI (P k - 1))) x j = rI σ x j := fun x j a => by rw [fld_eq, if_neg (by omega)]
        refine ⟨fun j hj => ?_, fun k hk => (q _ _ (by omega)).trans (h2 k hk), fun k hk => (q _ _ (by omega)).trans (h3 k hk), fun k hk => (q _ _ (by omega)).trans (h4 k hk), fun k hk => (q _ _ (by omega)).trans (h5 k hk), ⟨(q _ _ (by omega)).trans h6, fun i d hi => (q _ _ (by omega)).trans (h6' i d hi)⟩, (q _ _ (by omega)).trans h7, (q _ _ (by omega)).trans h8, (q _ _ (by omega)).trans h9, (q _ _ (by omega)).trans h10, (q _ _ (by omega)).trans h11, (q _ _ (by omega)).trans h12⟩
        rw [fld_eq, up1_at]
        by_cases e : j = k
        · rw [if_pos ⟨rfl, e⟩, if_pos e]
        · rw [if_neg (fun z => e z.2), if_neg e]; exact h1 j hj
      have Q2 := BQ_f7 Q1 (ps - 1)
      obtain ⟨τ, a1, a2, a3⟩ := give_eq Q2 hp (k := k) (by omega) (nI_1 _) (nI_1 _)
      refine ⟨τ, oLoop_l ?_, a2, ((?_ : FrB2 b σ _).tr (Fr_f _ b 7 _)).tr a3⟩
      · have e7 := Q1.2.2.2.2.2.2.1
        rw [pre, oLet_eq, nI_s1 (by omega), e7, nI_s1 hps, oLet_eq, a1, oB_some]
      · exact ⟨rfl, rfl, rfl, rfl, fun x j q => by rw [fld_eq, if_neg (by omega)]⟩
theorem nx_eq {X : Nat} (h : X < 65536) : (25173 * nI X + 13849) &&& 65535 = nI (nxX X) := by
  rw [show (25173 : Int32) = nI 25173 from rfl, show (13849 : Int32) = nI 13849 from rfl, nI_mul, nI_add, show (65535 : Int32) = nI (2 ^ 16 - 1) from rfl, nI_mod]
  rfl
theorem nx_lt (X : Nat) : nxX X < 65536 := Nat.mod_lt _ (by decide)
theorem drawOne_eq {σ : rS} {b p : Nat} {B : Bd} {ch : Nat} (H : BR σ b B ch) (hp : p < 4) (hX : bX B < 65536) (hP : natSum (bP B) 53 ≤ 1000) (hR : rsz (bR B) p ≤ 24) : ∃ τ, f_X1_drawOne σ b (nI p) = some (if (drB p B).isNone then 0 else 1, τ) ∧ BR τ b ((drB p B).getD B) (ch + if (drB p B).isNone then 0 else 1) ∧ FrB2 b σ τ := by
  have h7 := H.2.2.2.2.2.2.1
  have h3 := H.2.2.1 p hp
  have h11 := H.2.2.2.2.2.2.2.2.2.2.1
  have ez : v_X1_sizeOf σ b (nI p) = nI (rsz (bR B) p) := by unfold v_X1_sizeOf; rw [vAt_nI (by decide) hp, h3]
  have c1 : (nI (natSum (bP B) 53) ≤ 0) = (natSum (bP B) 53 = 0) := propext ⟨fun z => by have := (nI_leI (b := 0) (by omega) (by omega)).mp z; omega, fun z => by rw [z]; decide⟩
  have c2 : (nI (rsz (bR B) p) < 24) = (rsz (bR B) p < 24) := propext (nI_lt' (b := 24) (by omega) (by omega))
  unfold f_X1_drawOne
  rw [h7, ez]
  simp only [c1, c2]
  by_cases g1 : natSum (bP B) 53 = 0
  · have e : drB p B = none := by unfold drB; rw [if_pos (Or.inl g1)]
    rw [e, if_pos g1]
    exact ⟨σ, rfl, H, FrB2.rf b σ⟩
  · by_cases g2 : rsz (bR B) p < 24
    · have hlt : nxX (bX B) % natSum (bP B) 53 < natSum (bP B) 53 := Nat.mod_lt _ (by omega)
      obtain ⟨k, hk⟩ : ∃ k, k = locP (bP B) 53 0 (nxX (bX B) % natSum (bP B) 53) := ⟨_, rfl⟩
      have e : drB p B = some (up1 (bP B) k (bP B k - 1), up1 (bR B) (53 * p + k) (bR B (53 * p + k) + 1), bT B, bJ B, bD B, bF B, nxX (bX B)) := by unfold drB; rw [if_neg (by omega), hk]
      have hs : nxX (bX B) % natSum (bP B) 53 < natSum (fun i => bP B (0 + i)) 53 := by
        rw [show (fun i => bP B (0 + i)) = bP B from funext fun i => by rw [Nat.zero_add]]
        exact hlt
      have lo := locP_ok (bP B) 53 0 _ hs
      rw [← hk] at lo
      have H1 := BQ_f11 H (nxX (bX B))
      have hx2 : nxX (bX B) % natSum (bP B) 53 < 2 ^ 31 := by omega
      have hxx := nx_lt (bX B)
      obtain ⟨τ, a1, a2, a3⟩ := draw_loop H1 hp (by omega) (fun j hj => by have := natSum_ge (f := bP B) hj; omega) 53 0 (nxX (bX B) % natSum (bP B) 53) oFuel rfl hs hx2 (by rw [oFuel_eq]; decide)
      rw [← hk] at a2
      rw [e, if_neg g1, if_pos g2]
      refine ⟨τ, ?_, ?_, (Fr_f σ b 11 _).tr a3⟩
      · have e7 : rI (wI σ b 11 (nI (nxX (bX B)))) b 7 = nI (natSum (bP B) 53) := H1.2.2.2.2.2.2.1
        have e11 : rI (wI σ b 11 (nI (nxX (bX B)))) b 11 = nI (nxX (bX B)) := H1.2.2.2.2.2.2.2.2.2.2.1
        have nz : ¬ nI (natSum (bP B) 53) = 0 := fun z => g1 ((nI_eq (b := 0) (by omega) (by omega)).mp z)
        rw [if_neg (by decide), h11, nx_eq hX, oLet_eq, e7, e11, if_pos nz, nI_rem (by omega) (by omega), oLet_eq]
        exact a1
      · have s1 := natSum_up (f := bP B) (x := bP B k - 1) (show k < 53 by omega)
        have s2 := rsz_set (R := bR B) (p := p) (k := k) (x := bR B (53 * p + k) + 1) (by omega)
        show BR τ b (up1 (bP B) k (bP B k - 1), up1 (bR B) (53 * p + k) (bR B (53 * p + k) + 1), bT B, bJ B, bD B, bF B, nxX (bX B)) (ch + 1)
        refine BQ_cg a2 (fun _ _ => rfl) (fun _ _ => rfl) (fun q _ => ?_) (fun _ _ => rfl) (fun _ _ => rfl) rfl ?_ rfl rfl rfl rfl rfl
        · rw [show rsz (bR B) p + 1 = rsz (bR B) p + (bR B (53 * p + k) + 1) - bR B (53 * p + k) by omega]
          exact s2 q
        · show natSum (bP B) 53 - 1 = natSum (up1 (bP B) k (bP B k - 1)) 53
          omega
    · have e : drB p B = none := by unfold drB; rw [if_pos (Or.inr (by omega))]
      rw [e, if_neg g1, if_neg g2]
      exact ⟨σ, rfl, H, FrB2.rf b σ⟩
