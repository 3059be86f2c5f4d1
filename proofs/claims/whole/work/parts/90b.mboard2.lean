/-! the reference: drawing, and what a turn does -/
theorem inPool_eq {σ : rS} {P R T J : Nat → Nat} {D : List (Nat × Nat)} {F X : Nat} (H : MbQ σ P R T J D F X) : f_X11_inPool σ = some (nI (natSum P 53)) := by
  obtain ⟨r, a1, a2⟩ := oL_ix (body := b_X11_inPool_4 σ) (fun i s => s = (nI (natSum P i), nI i)) (N := 53) (fun r => r = nI (natSum P 53)) (by
      intro i s hi e
      subst e
      refine ⟨_, ?_, rfl⟩
      unfold b_X11_inPool_4
      dsimp only
      rw [if_neg (show ¬ (53 : Int32) ≤ nI i from fun z => by have := (nI_leI (a := 53) (by omega) (by omega)).mp z; omega), if_pos (inB_nI (by decide) hi), nI_clamp (by omega), H.1 i hi, oLet_eq, nI_add, nI_1]
      rfl)
    (by
      intro s e
      subst e
      exact ⟨nI (natSum P 53), by unfold b_X11_inPool_4; rw [if_pos (show (53 : Int32) ≤ nI 53 by decide)], rfl⟩)
    (n := oFuel) (by rw [oFuel_eq]; decide) (s := (0, 0)) rfl
  subst a2
  exact a1
theorem inRack_eq {σ : rS} {P R T J : Nat → Nat} {D : List (Nat × Nat)} {F X p : Nat} (H : MbQ σ P R T J D F X) (hp : p < 4) : f_X11_inRack σ (nI p) = some (nI (rsz R p)) := by
  obtain ⟨r, a1, a2⟩ := oL_ix (body := b_X11_inRack_4 σ (nI p)) (fun i s => s = (nI (natSum (fun k => R (53 * p + k)) i), nI i)) (N := 53) (fun r => r = nI (rsz R p)) (by
      intro i s hi e
      subst e
      refine ⟨_, ?_, rfl⟩
      unfold b_X11_inRack_4
      dsimp only
      rw [if_neg (show ¬ (53 : Int32) ≤ nI i from fun z => by have := (nI_leI (a := 53) (by omega) (by omega)).mp z; omega), show (53 : Int32) = nI 53 from rfl, nI_mul, nI_add, if_pos (inB_nI (by decide) (by omega)), nI_clamp (by omega), H.2.1 _ (by omega), oLet_eq, nI_add, nI_1]
      rfl)
    (by
      intro s e
      subst e
      exact ⟨nI (rsz R p), by unfold b_X11_inRack_4; rw [if_pos (show (53 : Int32) ≤ nI 53 by decide)]; rfl, rfl⟩)
    (n := oFuel) (by rw [oFuel_eq]; decide) (s := (0, 0)) rfl
  subst a2
  exact a1
theorem mdraw_loop {σ : rS} {P R T J : Nat → Nat} {D : List (Nat × Nat)} {F X : Nat} (H : MbQ σ P R T J D F X) (hPs : ∀ k, k < 53 → P k < 2 ^ 31) : ∀ d k x n, k + d = 53 → x < natSum (fun i => P (k + i)) d → x < 2 ^ 31 → d < n → oLoop (b_X11_draws_50 σ) n (nI x, nI k) = some (.inr (nI (locP P d k x))) := by
  intro d
  induction d with
  | zero => intro k x n hk hx; exact absurd hx (Nat.not_lt_zero _)
  | succ d ih =>
    intro k x n hk hx hx2 hn
    obtain ⟨n, rfl⟩ : ∃ m, n = m + 1 := ⟨n - 1, by omega⟩
    have hk53 : k < 53 := by omega
    have h' := natSum_k P d k
    have cP : (nI x < nI (P k)) = (x < P k) := propext (nI_lt' hx2 (hPs k hk53))
    have pre : b_X11_draws_50 σ (nI x, nI k) = if x < P k then (some (.inl (.inr (nI k)))) else (some (.inr (nI (x - P k), nI (k + 1)))) := by
      unfold b_X11_draws_50
      dsimp only
      rw [if_pos (inB_nI (by decide) hk53), nI_clamp (by omega), H.1 k hk53]
      simp only [cP]
      by_cases c : x < P k
      · rw [if_pos c, if_pos c]
      · rw [if_neg c, if_neg c, nI_sub (by omega), oLet_eq, nI_1]
    unfold locP
    by_cases c : x < P k
    · rw [if_pos c] at pre
      rw [if_neg (by omega)]
      exact oLoop_l pre
    · rw [if_neg c] at pre
      rw [if_pos (by omega), oLoop_r pre]
      exact ih (k + 1) (x - P k) n (by omega) (by omega) (by omega) (by omega)
theorem mnx_eq {X : Nat} (h : X < 65536) : iRem ((25173 * nI X) + 13849) 65536 = nI (nxX X) := by
  rw [show (25173 : Int32) = nI 25173 from rfl, show (13849 : Int32) = nI 13849 from rfl, nI_mul, nI_add, show (65536 : Int32) = nI 65536 from rfl, nI_rem (by omega) (by omega)]
  rfl
theorem mdraws_eq {σ : rS} {p : Nat} {B : Bd} (H : MbR σ B) (hp : p < 4) (o : OkB B) : ∃ τ, f_X11_draws σ (nI p) = some (if (drB p B).isNone then 0 else 1, τ) ∧ MbR τ ((drB p B).getD B) ∧ FrX WB σ τ := by
  obtain ⟨hP, hR, hX⟩ := o
  have hR := hR p hp
  have h23 := H.2.2.2.2.2.2
  have c1 : (nI (natSum (bP B) 53) = 0) = (natSum (bP B) 53 = 0) := propext (nI_eq (b := 0) (by omega) (by omega))
  have c2 : (nI (rsz (bR B) p) = 24) = (rsz (bR B) p = 24) := propext (nI_eq (b := 24) (by omega) (by omega))
  unfold f_X11_draws
  rw [inPool_eq H, inRack_eq H hp]
  simp only [Option.bind_some, c1, c2]
  by_cases g1 : natSum (bP B) 53 = 0
  · have e : drB p B = none := by unfold drB; rw [if_pos (Or.inl g1)]
    rw [e, if_pos g1]
    exact ⟨σ, rfl, H, FrX.rf _ σ⟩
  · by_cases g2 : rsz (bR B) p = 24
    · have e : drB p B = none := by unfold drB; rw [if_pos (Or.inr (by omega))]
      rw [e, if_neg g1, if_pos g2]
      exact ⟨σ, rfl, H, FrX.rf _ σ⟩
    · have hlt : nxX (bX B) % natSum (bP B) 53 < natSum (bP B) 53 := Nat.mod_lt _ (by omega)
      obtain ⟨k, hk⟩ : ∃ k, k = locP (bP B) 53 0 (nxX (bX B) % natSum (bP B) 53) := ⟨_, rfl⟩
      have e : drB p B = some (up1 (bP B) k (bP B k - 1), up1 (bR B) (53 * p + k) (bR B (53 * p + k) + 1), bT B, bJ B, bD B, bF B, nxX (bX B)) := by unfold drB; rw [if_neg (by omega), hk]
      have hs : nxX (bX B) % natSum (bP B) 53 < natSum (fun i => bP B (0 + i)) 53 := by
        rw [show (fun i => bP B (0 + i)) = bP B from funext fun i => by rw [Nat.zero_add]]
        exact hlt
      have lo := locP_ok (bP B) 53 0 _ hs
      rw [← hk] at lo
      have hxx := nx_lt (bX B)
      have H1 := MbQ_X H (nxX (bX B))
      have lp := mdraw_loop H1 (fun j hj => by have := natSum_ge (f := bP B) hj; omega) 53 0 (nxX (bX B) % natSum (bP B) 53) oFuel rfl hs (by omega) (by rw [oFuel_eq]; decide)
      rw [← hk] at lp
      obtain ⟨σ1, d1⟩ : ∃ z, z = wI σ 67 23 (nI (nxX (bX B))) := ⟨_, rfl⟩
      rw [← d1] at H1 lp
      have H2 := MbQ_P H1 k (bP B k - 1)
      obtain ⟨σ2, d2⟩ : ∃ z, z = wI σ1 82 k (nI (bP B k - 1)) := ⟨_, rfl⟩
      rw [← d2] at H2
      have H3 := MbQ_R H2 (53 * p + k) (bR B (53 * p + k) + 1)
      obtain ⟨B', hB⟩ : ∃ B' : Bd, B' = (up1 (bP B) k (bP B k - 1), up1 (bR B) (53 * p + k) (bR B (53 * p + k) + 1), bT B, bJ B, bD B, bF B, nxX (bX B)) := ⟨_, rfl⟩
      rw [← hB] at e
      obtain ⟨σ3, d3⟩ : ∃ z, z = wI σ2 79 (53 * p + k) (nI (bR B (53 * p + k) + 1)) := ⟨_, rfl⟩
      rw [← d3] at H3
      have H4 : MbR σ3 B' := by rw [hB]; exact H3
      rw [e, if_neg g1, if_neg g2]
      refine ⟨σ3, ?_, H4, ?_⟩
      · have nz : ¬ nI (natSum (bP B) 53) = 0 := fun z => g1 ((nI_eq (b := 0) (by omega) (by omega)).mp z)
        have ei : 53 * nI p + nI k = nI (53 * p + k) := by rw [show (53 : Int32) = nI 53 from rfl, nI_mul, nI_add]
        rw [h23, mnx_eq hX, oLet_eq, ← d1, if_pos g1, H1.2.2.2.2.2.2, nI_rem (by omega) (by omega)]
        have lp : oLoop (b_X11_draws_50 σ1) oFuel (nI (nxX (bX B) % natSum (bP B) 53), 0) = some (.inr (nI k)) := lp
        rw [lp, oJ_inr, if_pos (inB_nI (by decide) (by omega)), nI_clamp (by omega), H1.1 k (by omega), nI_s1 (by omega), oLet_eq, ← d2, ei, if_pos (inB_nI (by decide) (by omega)), nI_clamp (by omega), H2.2.1 _ (by omega), nI_1, oLet_eq, ← d3]
        rfl
      · rw [d3, d2, d1]
        exact ((FrX.w σ _ (by omega)).tr (FrX.w _ _ (by omega))).tr (FrX.w _ _ (by omega))
/-- what a board keeps within a turn -/
def OkT (B : Bd) : Prop := OkB B ∧ (∀ k, k < 52 → bT B k + bJ B k ≤ 2) ∧ bF B ≤ 64
theorem isFull_eq {σ : rS} {B : Bd} (H : MbR σ B) (o : OkT B) {k : Nat} (hk : k < 52) : f_X11_isFull σ (nI k) = some (if bT B k + bJ B k < 2 then 0 else 1) := by
  unfold f_X11_isFull
  have := o.2.1 k hk
  have c : (nI (bT B k + bJ B k) < 2) = (bT B k + bJ B k < 2) := propext (nI_lt' (b := 2) (by omega) (by omega))
  rw [if_pos (inB_nI (by decide) hk), nI_clamp (by omega), H.2.2.1 k hk, H.2.2.2.1 k hk, nI_add]
  simp only [c]
theorem thing_eq {σ : rS} {P R T J : Nat → Nat} {D : List (Nat × Nat)} {F X h k p : Nat} {E : List Ent} (H : MbQ σ P R T J D F X) (G : MeR σ E) (hp : rI σ 67 24 = nI p) (hh : h ≤ 3) (hD : D.length < 64) (hE : E.length ≤ 20000) : ∃ τ, f_X11_thing σ (nI (thS h)) (nI k) = some ((), τ) ∧ MbQ τ P R T J (D ++ [(h, k)]) F X ∧ MeR τ (E ++ [(if thS h = 4 then 2 else thS h, p, k + 1, 0)]) ∧ FrX WBE σ τ := by
  have H1 := MbQ_push H h k
  obtain ⟨σ1, d1⟩ : ∃ z, z = wI σ 83 D.length (nI (thS h)) := ⟨_, rfl⟩
  obtain ⟨σ2, d2⟩ : ∃ z, z = wI σ1 84 D.length (nI k) := ⟨_, rfl⟩
  obtain ⟨σ3, d3⟩ : ∃ z, z = wI σ2 67 30 (nI (D.length + 1)) := ⟨_, rfl⟩
  rw [← d1, ← d2, ← d3] at H1
  have F3 : FrX WB σ σ3 := by
    rw [d3, d2, d1]
    exact ((FrX.w σ _ (by omega)).tr (FrX.w _ _ (by omega))).tr (FrX.w _ _ (by omega))
  have G3 := MeR_fr G F3 (fun x j a b => by omega)
  have q1 : rI σ1 67 30 = nI D.length := by rw [d1, fld_eq, if_neg (by omega), H.2.2.2.2.1.1]
  have q2 : rI σ2 67 30 = nI D.length := by rw [d2, fld_eq, if_neg (by omega), q1]
  have q3 : rI σ3 67 24 = nI p := by rw [F3.2.2.2.2 67 24 (by omega), hp]
  obtain ⟨τ, a1, a2, a3⟩ := enter_eq (k := k + 1) (s := if thS h = 4 then 2 else thS h) (w := p) (dr := 0) G3 hE
  refine ⟨τ, ?_, MbQ_fr H1 a3 (fun x j a b => by omega), a2, (F3.mono (fun x j w => by omega)).tr (a3.mono (fun x j w => by omega))⟩
  have e4 : (if nI (thS h) = 4 then (2 : Int32) else nI (thS h)) = nI (if thS h = 4 then 2 else thS h) := by
    match h, hh with
    | 0, _ => decide
    | 1, _ => decide
    | 2, _ => decide
    | 3, _ => decide
  have ek : nI k = nI (k + 1) - 1 := by rw [nI_s1 (by omega)]; rfl
  have a1 : f_X11_enter σ3 (nI (if thS h = 4 then 2 else thS h)) (nI p) (nI k) 0 = some ((), τ) := by rw [ek]; exact a1
  unfold f_X11_thing
  rw [H.2.2.2.2.1.1, if_pos (inB_nI (by decide) (by omega)), nI_clamp (by omega), oLet_eq, ← d1, q1, if_pos (inB_nI (by decide) (by omega)), nI_clamp (by omega), oLet_eq, ← d2, q2, nI_1, oLet_eq, ← d3, q3, e4, a1, oB_some]
