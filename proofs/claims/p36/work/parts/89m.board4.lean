/-! drawing many; a deal; what a rack is worth -/
/-- what every board keeps -/
def OkB (B : Bd) : Prop := natSum (bP B) 53 ≤ 1000 ∧ (∀ p, p < 4 → rsz (bR B) p ≤ 24) ∧ bX B < 65536
theorem drB_ok {p : Nat} {B B' : Bd} (h : drB p B = some B') (o : OkB B) (hp : p < 4) : OkB B' := by
  unfold drB at h
  by_cases c : natSum (bP B) 53 = 0 ∨ 24 ≤ rsz (bR B) p
  · rw [if_pos c] at h; cases h
  · rw [if_neg c] at h
    have hs : nxX (bX B) % natSum (bP B) 53 < natSum (fun i => bP B (0 + i)) 53 := by
      rw [show (fun i => bP B (0 + i)) = bP B from funext fun i => by rw [Nat.zero_add]]
      exact Nat.mod_lt _ (by omega)
    have lo := locP_ok (bP B) 53 0 _ hs
    obtain ⟨k, hk⟩ : ∃ k, k = locP (bP B) 53 0 (nxX (bX B) % natSum (bP B) 53) := ⟨_, rfl⟩
    rw [← hk] at h lo
    cases h
    have s1 := natSum_up (f := bP B) (x := bP B k - 1) (show k < 53 by omega)
    have s2 := rsz_up (R := bR B) (p := p) (k := k) (x := bR B (53 * p + k) + 1) (by omega)
    have o1 := o.1
    refine ⟨show natSum (up1 (bP B) k (bP B k - 1)) 53 ≤ 1000 by omega, fun q hq => ?_, nx_lt _⟩
    show rsz (up1 (bR B) (53 * p + k) (bR B (53 * p + k) + 1)) q ≤ 24
    by_cases e : q = p
    · subst e; omega
    · rw [rsz_other (by omega) e]; exact o.2.1 q hq
theorem drUp_ok {p : Nat} (hp : p < 4) : ∀ (m : Nat) (B : Bd), OkB B → OkB (drUp p m B).2 ∧ (drUp p m B).1 ≤ m
  | 0, B, o => ⟨o, Nat.le_refl _⟩
  | m + 1, B, o => by
    unfold drUp
    cases h : drB p B with
    | none => exact ⟨o, Nat.zero_le _⟩
    | some B' =>
      have := drUp_ok hp m B' (drB_ok h o hp)
      exact ⟨this.1, Nat.succ_le_succ this.2⟩
theorem drawUp_go {b p : Nat} (hp : p < 4) : ∀ (m c : Nat) (B : Bd) (σ : rS) (ch n : Nat), OkB B → BR σ b B ch → c + m < 2 ^ 31 → m < n → ∃ τ cc, oLoop (b_X1_drawUpTo_2 b (nI p) (nI (c + m))) n (nI c, σ) = some (nI (c + (drUp p m B).1), τ) ∧ BR τ b (drUp p m B).2 (ch + cc) ∧ cc ≤ m ∧ FrB2 b σ τ ∧ cc = (drUp p m B).1 := by
  intro m
  induction m with
  | zero =>
    intro c B σ ch n o H hm hn
    obtain ⟨n, rfl⟩ : ∃ m, n = m + 1 := ⟨n - 1, by omega⟩
    refine ⟨σ, 0, oLoop_l ?_, H, by omega, FrB2.rf b σ, rfl⟩
    unfold b_X1_drawUpTo_2
    rw [if_pos (show nI (c + 0) ≤ nI c from (nI_leI (by omega) (by omega)).mpr (Nat.le_refl _))]
    rfl
  | succ m ih =>
    intro c B σ ch n o H hm hn
    obtain ⟨n, rfl⟩ : ∃ m, n = m + 1 := ⟨n - 1, by omega⟩
    obtain ⟨σ1, a1, a2, a3⟩ := drawOne_eq H hp o.2.2 o.1 (o.2.1 p hp)
    have ng : ¬ nI (c + (m + 1)) ≤ nI c := fun z => by have := (nI_leI (by omega) (by omega)).mp z; omega
    cases h : drB p B with
    | none =>
      rw [h] at a1 a2
      have e : drUp p (m + 1) B = (0, B) := by unfold drUp; rw [h]
      rw [e]
      refine ⟨σ1, 0, oLoop_l ?_, a2, by omega, a3, rfl⟩
      unfold b_X1_drawUpTo_2
      rw [if_neg ng]
      dsimp only
      rw [a1, oB_some, if_pos (by decide)]
      rfl
    | some B' =>
      rw [h] at a1 a2
      have e : drUp p (m + 1) B = ((drUp p m B').1 + 1, (drUp p m B').2) := by rw [drUp, h]
      rw [e]
      obtain ⟨τ, cc, b1, b2, b3, b4, b5⟩ := ih (c + 1) B' σ1 (ch + 1) n (drB_ok h o hp) a2 (by omega) (by omega)
      refine ⟨τ, cc + 1, ?_, ?_, by omega, a3.tr b4, by rw [b5]⟩
      · rw [oLoop_r (s' := (nI (c + 1), σ1))]
        · rw [show c + (m + 1) = c + 1 + m by omega, b1]
          dsimp only
          rw [show c + 1 + (drUp p m B').1 = c + ((drUp p m B').1 + 1) by omega]
        · unfold b_X1_drawUpTo_2
          rw [if_neg ng]
          dsimp only
          rw [a1, oB_some, if_neg (show ¬ (if (some B').isNone = true then (0 : Int32) else 1) = 0 from fun z => absurd (show (1 : Int32) = 0 from z) (by decide)), nI_1]
      · rw [show ch + (cc + 1) = ch + 1 + cc by omega]; exact b2
theorem drawUp_eq {σ : rS} {b p m : Nat} {B : Bd} {ch : Nat} (H : BR σ b B ch) (o : OkB B) (hp : p < 4) (hm : m ≤ 200) : ∃ τ, f_X1_drawUpTo σ b (nI p) (nI m) = some (nI (drUp p m B).1, τ) ∧ BR τ b (drUp p m B).2 (ch + (drUp p m B).1) ∧ FrB2 b σ τ := by
  obtain ⟨τ, cc, a1, a2, a3, a4, a5⟩ := drawUp_go hp m 0 B σ ch oFuel o H (by omega) (by rw [oFuel_eq]; omega)
  rw [Nat.zero_add, Nat.zero_add] at a1
  subst a5
  exact ⟨τ, a1, a2, a4⟩
/-- a deal -/
def p0B (hh jk k : Nat) : Nat := if k < 52 then (if hh ≤ k % 13 then 0 else 2) else if k = 52 then jk else 0
def b0B (hh jk seed : Nat) : Bd := (p0B hh jk, fun _ => 0, fun _ => 0, fun _ => 0, [], 0, seed)
def deB (each : Nat) : Nat → Bd → Bd
  | 0, B => B
  | n + 1, B => (drUp n each (deB each n B)).2
theorem p0B_sum {hh jk : Nat} (h : hh ≤ 13) : natSum (p0B hh jk) 53 = 8 * hh + jk := by
  have e : natSum (p0B hh jk) 53 = natSum (p0B hh jk) 52 + p0B hh jk 52 := rfl
  have e2 : p0B hh jk 52 = jk := rfl
  have e3 : natSum (p0B hh jk) 52 = natSum (fun k => if hh ≤ k % 13 then 0 else 2) 52 := natSum_congr fun k hk => by unfold p0B; rw [if_pos hk]
  have e4 : ∀ hh : Fin 14, natSum (fun k => if hh.val ≤ k % 13 then 0 else 2) 52 = 8 * hh.val := by decide
  have := e4 ⟨hh, by omega⟩
  rw [e, e2, e3]
  exact congrArg (· + jk) this
theorem deB_ok {each : Nat} : ∀ (n : Nat) (B : Bd), n ≤ 4 → OkB B → OkB (deB each n B)
  | 0, _, _, o => o
  | n + 1, B, h, o => (drUp_ok (by omega) each _ (deB_ok n B (by omega) o)).1
theorem isKind_k {σ : rS} {hh k : Nat} (h : rI σ 4 0 = nI hh) (h13 : hh ≤ 13) (hk : k < 52) : v_X5_isKind σ (nI k) = if hh ≤ k % 13 then 0 else 1 := by
  unfold v_X5_isKind
  rw [h, if_neg (show ¬ nI k < 0 from fun z => by have := (nI_lt' (b := 0) (by omega) (by omega)).mp z; omega), if_neg (show ¬ (52 : Int32) ≤ nI k from fun z => by have := (nI_leI (a := 52) (by omega) (by omega)).mp z; omega), show (13 : Int32) = nI 13 from rfl, nI_rem (by omega) (by omega)]
  have c : (nI hh ≤ nI (k % 13)) = (hh ≤ k % 13) := propext (nI_leI (by omega) (by omega))
  simp only [c]
theorem fill_eq {σ0 : rS} {b hh jk : Nat} (h4 : rI σ0 4 0 = nI hh) (h42 : rI σ0 4 2 = nI jk) (h13 : hh ≤ 13) (hj : jk ≤ 3) (hb : 5 ≤ b) {ch : Nat} {Q : Nat} (H : BQ σ0 b (fun _ => 0) (fun _ => 0) (fun _ => 0) (fun _ => 0) (fun _ => 0) [] 0 0 0 0 Q ch) : ∃ τ, oLoop (b_X1_dealOut_7 b) oFuel (0, σ0) = some (.inr τ) ∧ BQ τ b (fun k => if k < 52 then p0B hh jk k else 0) (fun _ => 0) (fun _ => 0) (fun _ => 0) (fun _ => 0) [] 0 0 0 0 Q ch ∧ FrB2 b σ0 τ := by
  obtain ⟨r, h1, h2⟩ := oL_ix (body := b_X1_dealOut_7 b) (fun k s => s.1 = nI k ∧ BQ s.2 b (fun j => if j < k then p0B hh jk j else 0) (fun _ => 0) (fun _ => 0) (fun _ => 0) (fun _ => 0) [] 0 0 0 0 Q ch ∧ FrB2 b σ0 s.2) (N := 52) (fun r => ∃ τ, r = .inr τ ∧ BQ τ b (fun k => if k < 52 then p0B hh jk k else 0) (fun _ => 0) (fun _ => 0) (fun _ => 0) (fun _ => 0) [] 0 0 0 0 Q ch ∧ FrB2 b σ0 τ) (by
      intro k s hk ⟨e, A, Fr⟩
      obtain ⟨s1, σ⟩ := s
      dsimp only at e A Fr
      subst e
      have n52 : ¬ (52 : Int32) ≤ nI k := fun z => by have := (nI_leI (a := 52) (by omega) (by omega)).mp z; omega
      have g4 : rI σ 4 0 = nI hh := by
        rw [Fr.2.2.2.2 4 0 (by omega), h4]
      refine ⟨(nI (k + 1), wI σ (b + 1) k (nI (p0B hh jk k))), ?_, rfl, ?_, Fr.tr ⟨rfl, rfl, rfl, rfl, fun x j q => by rw [fld_eq, if_neg (by omega)]⟩⟩
      · unfold b_X1_dealOut_7
        dsimp only
        rw [if_neg n52, if_pos (inB_nI (by decide) (by omega)), nI_clamp (by omega), isKind_k g4 h13 hk, oLet_eq, nI_1]
        have : (if (if hh ≤ k % 13 then (0 : Int32) else 1) = 0 then (0 : Int32) else 2) = nI (p0B hh jk k) := by
          unfold p0B
          rw [if_pos hk]
          by_cases c : hh ≤ k % 13
          · rw [if_pos c, if_pos c, if_pos rfl]; rfl
          · rw [if_neg c, if_neg c, if_neg (by decide)]; rfl
        rw [this]
      · obtain ⟨h1, h2, h3, h4, h5, ⟨h6, h6'⟩, h7, h8, h9, h10, h11, h12⟩ := A
        have q : ∀ x j, x ≠ b + 1 → rI (wI σ (b + 1) k (nI (p0B hh jk k))) x j = rI σ x j := fun x j a => by rw [fld_eq, if_neg (by omega)]
        refine ⟨fun j hj => ?_, fun k hk => (q _ _ (by omega)).trans (h2 k hk), fun k hk => (q _ _ (by omega)).trans (h3 k hk), fun k hk => (q _ _ (by omega)).trans (h4 k hk), fun k hk => (q _ _ (by omega)).trans (h5 k hk), ⟨(q _ _ (by omega)).trans h6, fun i d hi => (q _ _ (by omega)).trans (h6' i d hi)⟩, (q _ _ (by omega)).trans h7, (q _ _ (by omega)).trans h8, (q _ _ (by omega)).trans h9, (q _ _ (by omega)).trans h10, (q _ _ (by omega)).trans h11, (q _ _ (by omega)).trans h12⟩
        show _ = nI (if j < k + 1 then p0B hh jk j else 0)
        rw [fld_eq]
        by_cases e : j = k
        · rw [if_pos ⟨rfl, e⟩, if_pos (by omega), e]
        · rw [if_neg (fun z => e z.2), h1 j hj]
          show nI (if j < k then p0B hh jk j else 0) = _
          by_cases c : j < k
          · rw [if_pos c, if_pos (by omega)]
          · rw [if_neg c, if_neg (by omega)])
    (by
      intro s ⟨e, A, Fr⟩
      obtain ⟨s1, σ⟩ := s
      dsimp only at e A Fr
      subst e
      exact ⟨_, by unfold b_X1_dealOut_7; rw [if_pos (show (52 : Int32) ≤ nI 52 by decide)], σ, rfl, A, Fr⟩)
    (n := oFuel) (by rw [oFuel_eq]; decide) (s := (0, σ0)) ⟨rfl, by
      refine BQ_cg H (fun k _ => by rw [if_neg (by omega)]) (fun _ _ => rfl) (fun _ _ => rfl) (fun _ _ => rfl) (fun _ _ => rfl) rfl rfl rfl rfl rfl rfl rfl, FrB2.rf b σ0⟩
  obtain ⟨τ, rfl, A, Fr⟩ := h2
  exact ⟨τ, h1, A, Fr⟩
