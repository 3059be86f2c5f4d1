/-! go, as lists -/
/-- the states behind so many numbers -/
def itL (L hh md : Nat) (bw : Bool) (lo hi : Nat → Nat) (tb : Nat → Int32) (v0 : Int64) (m : Nat) : List (Nat × Int64 × Int64) := (List.range m).foldl (fun lh k => stepL L hh md bw lo hi tb (k + 1) lh) [(0, v0, 0)]
theorem itL_s (L hh md : Nat) (bw : Bool) (lo hi : Nat → Nat) (tb : Nat → Int32) (v0 : Int64) (m : Nat) : itL L hh md bw lo hi tb v0 (m + 1) = stepL L hh md bw lo hi tb (m + 1) (itL L hh md bw lo hi tb v0 m) := by
  unfold itL
  rw [List.range_succ, List.foldl_append, List.foldl_cons, List.foldl_nil]
theorem itL_nil {L hh md : Nat} {bw : Bool} {lo hi : Nat → Nat} {tb : Nat → Int32} {v0 : Int64} {m : Nat} (h : itL L hh md bw lo hi tb v0 m = []) (d : Nat) : itL L hh md bw lo hi tb v0 (m + d) = [] := by
  induction d with
  | zero => exact h
  | succ d ih =>
    rw [show m + (d + 1) = m + d + 1 by omega, itL_s, ih]
    rfl
theorem go_exit {σ : rS} {L hh md : Nat} {bw : Bool} {lo hi : Nat → Nat} {tb : Nat → Int32} {lh : List (Nat × Int64 × Int64)} (G : GoI σ L hh md bw lo hi tb lh) {num last : Nat} (h2 : last ≤ 30) (h4 : num ≤ 31) (h3 : last < num ∨ lh = []) : b_X9_go_149 (nI last) (nI num, σ) = some (.inl (nI lh.length, σ)) := by
  obtain ⟨⟨t, a, b, c, n, h, a', b', c', n', F, H1, R⟩, -⟩ := G
  have f2 := F.1.2.1
  have g1 := H1.1
  clear F R H1
  unfold b_X9_go_149
  dsimp only
  rw [f2, g1]
  have c : (if nI last < nI num then true else if nI lh.length ≤ 0 then true else false) = true := by
    rcases h3 with q | q
    · rw [if_pos ((nI_lt' (by omega) (by omega)).mpr q)]
    · have e : nI lh.length ≤ 0 := by rw [q]; decide
      rw [if_pos e]
      split <;> rfl
  rw [if_pos c]
theorem go_loop {σ : rS} {L hh md : Nat} {bw : Bool} {lo hi : Nat → Nat} {tb : Nat → Int32} {v0 : Int64} {last : Nat} (h2 : last ≤ 30) (hb : ∀ m, m ≤ last → (itL L hh md bw lo hi tb v0 m).length ≤ 65455) (G : GoI σ L hh md bw lo hi tb [(0, v0, 0)]) : ∃ τ, oLoop (b_X9_go_149 (nI last)) oFuel (1, σ) = some (nI (itL L hh md bw lo hi tb v0 last).length, τ) ∧ GoI τ L hh md bw lo hi tb (itL L hh md bw lo hi tb v0 last) ∧ FrG σ τ := by
  have key : ∀ d m n τ, m + d = last → d < n → GoI τ L hh md bw lo hi tb (itL L hh md bw lo hi tb v0 m) → FrG σ τ → ∃ υ, oLoop (b_X9_go_149 (nI last)) n (nI (m + 1), τ) = some (nI (itL L hh md bw lo hi tb v0 last).length, υ) ∧ GoI υ L hh md bw lo hi tb (itL L hh md bw lo hi tb v0 last) ∧ FrG σ υ := by
    intro d
    induction d with
    | zero =>
      intro m n τ hm hn hG hF
      obtain ⟨n, rfl⟩ : ∃ k, n = k + 1 := ⟨n - 1, by omega⟩
      have e : m = last := by omega
      subst e
      exact ⟨τ, oLoop_l (go_exit hG h2 (by omega) (Or.inl (by omega))), hG, hF⟩
    | succ d ih =>
      intro m n τ hm hn hG hF
      obtain ⟨n, rfl⟩ : ∃ k, n = k + 1 := ⟨n - 1, by omega⟩
      by_cases hz : itL L hh md bw lo hi tb v0 m = []
      · have hl : itL L hh md bw lo hi tb v0 last = [] := by
          rw [← hm]; exact itL_nil hz _
        have he := go_exit hG h2 (num := m + 1) (by omega) (Or.inr hz)
        rw [hz] at he hG
        rw [hl]
        exact ⟨τ, oLoop_l he, hG, hF⟩
      · obtain ⟨υ, g1, g2, g3⟩ := step_eq hG (num := m + 1) (last := last) (by omega) h2 hz (by rw [← itL_s]; exact hb (m + 1) (by omega))
        rw [oLoop_r g1]
        rw [← itL_s] at g2
        exact ih (m + 1) n υ (by omega) (by omega) g2 (hF.tr g3)
  exact key last 0 oFuel σ (by omega) (by have : oFuel = 100000 := rfl; omega) G (FrG.rf σ)
/-- the tables of both kinds of steps -/
def TabS (σ : rS) : Prop := ∀ L, L = 3 ∨ L = 4 → (∀ x, x < 256 → rI σ ((if L = 4 then 43 else 38) + 1) x = (tbAp L).getD x 0) ∧ (∀ x, x < 256 → rI σ ((if L = 4 then 43 else 38) + 2) x = (tbAl L).getD x 0) ∧ (∀ x, x < 256 → rI σ ((if L = 4 then 43 else 38) + 3) x = (tbJo L).getD x 0) ∧ ∀ x, x < 27 → rI σ ((if L = 4 then 43 else 38) + 4) x = (tbHo L).getD x 0
def tbM (L md x : Nat) : Int32 := (if md = 2 then tbAp L else if md = 0 then tbAl L else tbJo L).getD x 0
/-- what is so of a sweep between two calls -/
def SwI (σ : rS) : Prop := (∃ t a b c n h a' b' c' n', LyF σ t a b c n h a' b' c' n' ∧ RmS σ n n') ∧ (∀ x, x ≤ 65535 → rI σ 50 x = 0) ∧ ∃ W, WaR σ W ∧ KeyW W
theorem GoI.swI {σ : rS} {L hh md : Nat} {bw : Bool} {lo hi : Nat → Nat} {tb : Nat → Int32} {lh : List (Nat × Int64 × Int64)} (G : GoI σ L hh md bw lo hi tb lh) : SwI σ := by
  obtain ⟨⟨t, a, b, c, n, h, a', b', c', n', F, H1, R⟩, hz, hw, -⟩ := G
  exact ⟨⟨t, a, b, c, n, h, a', b', c', n', F, R⟩, hz, hw⟩
/-- what go leaves alone -/
def FrO (σ τ : rS) : Prop := rN σ ≤ rN τ ∧ (∀ x, x < rN σ → rK τ x = rK σ x) ∧ (∀ x j, x < 67 → (x < 50 ∨ 64 < x) → (x = 37 → j ≠ 11 ∧ j ≠ 16 ∧ j ≠ 17) → rI τ x j = rI σ x j) ∧ (∀ x j, x < 67 → (x < 50 ∨ 64 < x) → rL τ x j = rL σ x j) ∧ ∀ x j, x < 67 → (x < 50 ∨ 64 < x) → (x = 37 → j ≠ 5 ∧ j ≠ 6 ∧ j ≠ 14 ∧ j ≠ 15) → rR τ x j = rR σ x j
def v0W (md : Nat) : Int64 := if md = 3 then 4503599627370496 else if md = 2 then 1 else 0
set_option maxHeartbeats 2000000 in
theorem go_eq {σ : rS} {L hh md : Nat} {bw : Bool} {lo hi : Nat → Nat} (I : SwI σ) (T : TabS σ) (hL : L = 3 ∨ L = 4) (hl : rI σ 4 1 = nI L) (hh1 : rI σ 4 0 = nI hh) (hh2 : hh ≤ 13) (hm : md ≤ 4) (hw : rI σ 37 18 = (if bw then 1 else 0)) (hlo : ∀ k, k < 52 → rI σ 48 k = nI (lo k)) (hhi : ∀ k, k < 52 → rI σ 49 k = nI (hi k)) (hlh : ∀ k, lo k ≤ 2 ∧ hi k ≤ 2 ∧ lo k ≤ hi k) (hgr : ∀ g, g < 21 → rI σ 1 g = gr g) {last : Nat} (h2 : last ≤ 30) (hb : ∀ m, m ≤ last → (itL L hh md bw lo hi (tbM L md) (v0W md) m).length ≤ 65455) : ∃ τ, f_X9_go σ (nI md) (nI last) = some (nI (itL L hh md bw lo hi (tbM L md) (v0W md) last).length, τ) ∧ GoI τ L hh md bw lo hi (tbM L md) (itL L hh md bw lo hi (tbM L md) (v0W md) last) ∧ FrO σ τ := by
  obtain ⟨⟨t, a, b, c, n, h, a', b', c', n', F, R⟩, hz, ⟨W, hW, hK⟩⟩ := I
  have hs : (if rI σ 4 1 = 4 then 43 else 38 : Nat) = (if L = 4 then 43 else 38) := by
    rw [hl]
    rcases hL with e | e <;> subst e <;> rfl
  obtain ⟨s, es⟩ : ∃ s, s = (if L = 4 then 43 else 38 : Nat) := ⟨_, rfl⟩
  have hsv : s = 43 ∨ s = 38 := by rw [es]; split <;> simp
  have e2 : (nI md = 2) = (md = 2) := propext (nI_eq (b := 2) (by omega) (by omega))
  have e0 : (nI md = 0) = (md = 0) := propext (nI_eq (b := 0) (by omega) (by omega))
  have e3 : (nI md = 3) = (md = 3) := propext (nI_eq (b := 3) (by omega) (by omega))
  obtain ⟨tc, etc⟩ : ∃ tc, tc = (if md = 2 then s + 1 else if md = 0 then s + 2 else s + 3) := ⟨_, rfl⟩
  have htc : tc < 50 ∧ 1 < tc ∧ tc ≠ 37 := by
    rw [etc]
    by_cases q2 : md = 2
    · rw [if_pos q2]; omega
    · rw [if_neg q2]
      by_cases q0 : md = 0
      · rw [if_pos q0]; omega
      · rw [if_neg q0]; omega
  have cl : (h = 51 ∨ h = 55) ∧ (a' = h + 1 ∨ 67 ≤ a') ∧ (b' = h + 2 ∨ 67 ≤ b') ∧ (c' = h + 3 ∨ 67 ≤ c') ∧ b' ≠ c' := by
    have f3 := F.1.2.2
    obtain ⟨-, -, -, d4, d5, d6⟩ := F.2.2.2.2.2.2.1
    have x2 := F.2.2.2.2.2.2.2.1.2.1
    exact ⟨by rcases f3 with q | q <;> omega, d4, d5, d6, x2⟩
  have hn' : 1024 ≤ n' ∧ n' ≤ 65536 := F.2.2.2.2.2.1.2.2
  have ib : inB 0 n' := inB_nI (k := 0) (by omega) (by omega)
  obtain ⟨σ1, d1⟩ : ∃ z, z = wI (wR (wI (wR σ 37 14 s) 37 17 (nI md)) 37 15 tc) 37 16 (nI hh) := ⟨_, rfl⟩
  have r1 : ∀ x j, (x = 37 → j ≠ 14 ∧ j ≠ 15) → rR σ1 x j = rR σ x j := fun x j hx => by
    rw [d1, q_RI, q_RR, if_neg (fun q => (hx q.1).2 q.2), q_RI, q_RR, if_neg (fun q => (hx q.1).1 q.2)]
  have i1 : ∀ x j, (x = 37 → j ≠ 16 ∧ j ≠ 17) → rI σ1 x j = rI σ x j := fun x j hx => by
    rw [d1, q_II, if_neg (fun q => (hx q.1).1 q.2), q_IR, q_II, if_neg (fun q => (hx q.1).2 q.2), q_IR]
  have F1 : LyF σ1 t a b c n h a' b' c' n' := by
    have ht37 : t ≠ 37 := fun e => (LyF_nt F (x := 37) (by decide)) e.symm
    have hh37 : h ≠ 37 := by omega
    obtain ⟨⟨f1, f2, f3⟩, ⟨f4, f5, f6⟩, ⟨f7, f8, f9⟩, rest⟩ := F
    refine ⟨⟨by rw [r1 37 6 (fun _ => by decide)]; exact f1, by rw [r1 37 5 (fun _ => by decide)]; exact f2, f3⟩, ⟨by rw [r1 t 0 (fun e => absurd e ht37)]; exact f4, by rw [r1 t 1 (fun e => absurd e ht37)]; exact f5, by rw [r1 t 2 (fun e => absurd e ht37)]; exact f6⟩, ⟨by rw [r1 h 0 (fun e => absurd e hh37)]; exact f7, by rw [r1 h 1 (fun e => absurd e hh37)]; exact f8, by rw [r1 h 2 (fun e => absurd e hh37)]; exact f9⟩, ?_⟩
    rw [d1]
    exact rest
  obtain ⟨σ2, d2⟩ : ∃ z, z = wL (wL (wI (wI σ1 h 3 1) a' 0 0) b' 0 (v0W md)) c' 0 0 := ⟨_, rfl⟩
  have F2 : LyF σ2 t a b c n h a' b' c' n' := by rw [d2]; exact F1
  have i2 : ∀ x j, x < 67 → (x < 50 ∨ 58 < x) → rI σ2 x j = rI σ1 x j := fun x j hx hx2 => by
    rw [d2, q_IL, q_IL, q_II, if_neg (by omega), q_II, if_neg (by omega)]
  have l2 : ∀ x j, x < 67 → (x < 50 ∨ 58 < x) → rL σ2 x j = rL σ x j := fun x j hx hx2 => by
    rw [d2, q_LL, if_neg (by omega), q_LL, if_neg (by omega), d1]
    rfl
  have g2 : FrO σ σ2 := by
    refine ⟨by rw [d2, d1]; exact Nat.le_refl _, fun x _ => by rw [d2, d1]; rfl, fun x j hx h1 h2 => ?_, fun x j hx h1 => l2 x j hx (by omega), fun x j hx h1 h2 => ?_⟩
    · rw [i2 x j hx (by omega), i1 x j (fun e => ⟨(h2 e).2.1, (h2 e).2.2⟩)]
    · have e : rR σ2 = rR σ1 := by rw [d2]; rfl
      rw [e, r1 x j (fun e => ⟨(h2 e).2.2.1, (h2 e).2.2.2⟩)]
  have r14 : rR σ2 37 14 = s := by
    have e : rR σ2 = rR σ1 := by rw [d2]; rfl
    rw [e, d1, q_RI, q_RR, if_neg (by decide), q_RI, q_RR, if_pos ⟨rfl, rfl⟩]
  have r15 : rR σ2 37 15 = tc := by
    have e : rR σ2 = rR σ1 := by rw [d2]; rfl
    rw [e, d1, q_RI, q_RR, if_pos ⟨rfl, rfl⟩]
  have m17 : rI σ2 37 17 = nI md := by
    rw [i2 37 17 (by decide) (by decide), d1, q_II, if_neg (by decide), q_IR, q_II, if_pos ⟨rfl, rfl⟩]
  have m16 : rI σ2 37 16 = nI hh := by
    rw [i2 37 16 (by decide) (by decide), d1, q_II, if_pos ⟨rfl, rfl⟩]
  have old : ∀ x j, x < 67 → (x < 50 ∨ 58 < x) → x ≠ 37 → rI σ2 x j = rI σ x j := fun x j h1 h2 h3 => by
    rw [i2 x j h1 h2, i1 x j (fun e => absurd e h3)]
  have TT := T L hL
  rw [← es] at TT
  have S2 : SwC σ2 L hh md bw lo hi := by
    refine ⟨⟨m16, hh2⟩, ⟨m17, hm⟩, ?_, fun k hk => (old 48 k (by decide) (by decide) (by decide)).trans (hlo k hk), fun k hk => (old 49 k (by decide) (by decide) (by decide)).trans (hhi k hk), hlh, fun g hg => (old 1 g (by decide) (by decide) (by decide)).trans (hgr g hg), hL, by rw [r14]; exact es, fun i hi => ?_⟩
    · rw [i2 37 18 (by decide) (by decide), i1 37 18 (fun _ => by decide)]; exact hw
    · rw [r14, old _ i (by omega) (by omega) (by omega)]; exact TT.2.2.2 i hi
  have T2 : TbW σ2 (tbM L md) := by
    unfold TbW
    rw [r15]
    refine ⟨htc, fun x hx => ?_⟩
    rw [old tc x (by omega) (by omega) htc.2.2, etc]
    unfold tbM
    by_cases q2 : md = 2
    · rw [if_pos q2, if_pos q2]; exact TT.1 x hx
    · rw [if_neg q2, if_neg q2]
      by_cases q0 : md = 0
      · rw [if_pos q0, if_pos q0]; exact TT.2.1 x hx
      · rw [if_neg q0, if_neg q0]; exact TT.2.2.1 x hx
  have W2 : WaR σ2 W := by
    obtain ⟨w1, w2, w3, w4, w5⟩ := hW
    refine ⟨?_, w2, w3, fun i p hi => ⟨(old 59 i (by decide) (by decide) (by decide)).trans (w4 i p hi).1, (l2 60 i (by decide) (by decide)).trans (w4 i p hi).2.1, (l2 61 i (by decide) (by decide)).trans (w4 i p hi).2.2.1, (old 62 _ (by decide) (by decide) (by decide)).trans (w4 i p hi).2.2.2⟩, fun x hx hn => (old 62 x (by decide) (by decide) (by decide)).trans (w5 x hx hn)⟩
    rw [i2 37 11 (by decide) (by decide), i1 37 11 (fun _ => by decide)]; exact w1
  have z2 : ∀ x, x ≤ 65535 → rI σ2 50 x = 0 := fun x hx => by
    rw [d2, q_IL, q_IL, q_II, if_neg (by omega), q_II, if_neg (by omega), i1 50 x (fun e => absurd e (by decide))]
    exact hz x hx
  have H2 : HeR σ2 h a' b' c' n' [(0, v0W md, 0)] := by
    refine ⟨?_, by show 1 ≤ n'; omega, fun i p hi => ?_⟩
    · rw [d2, q_IL, q_IL, q_II, if_neg (by omega), q_II, if_pos ⟨rfl, rfl⟩]; rfl
    · have hi0 : i = 0 := by
        have := (List.getElem?_eq_some_iff.mp hi).1
        simp at this; omega
      subst hi0
      simp only [List.getElem?_cons_zero, Option.some.injEq] at hi
      subst hi
      refine ⟨?_, ?_, ?_⟩
      · rw [d2, q_IL, q_IL, q_II, if_pos ⟨rfl, rfl⟩]; rfl
      · rw [d2, q_LL, if_neg (fun q => cl.2.2.2.2 q.1), q_LL, if_pos ⟨rfl, rfl⟩]
      · rw [d2, q_LL, if_pos ⟨rfl, rfl⟩]
  have R2 : RmS σ2 n n' := RmS_P (by rw [d2, d1]; rfl) (by rw [d2, d1]; rfl) R
  have G2 : GoI σ2 L hh md bw lo hi (tbM L md) [(0, v0W md, 0)] := ⟨⟨t, a, b, c, n, h, a', b', c', n', F2, H2, R2⟩, z2, ⟨W, W2, hK⟩, S2, T2, fun p hp => by rw [List.mem_singleton.mp hp]; exact (by decide : (0 : Nat) < 65536)⟩
  obtain ⟨τ, k1, k2, k3⟩ := go_loop h2 hb G2
  refine ⟨τ, ?_, k2, ?_⟩
  · rw [← k1]
    have v17 : rI (wI (wR σ 37 14 s) 37 17 (nI md)) 37 17 = nI md := by rw [q_II, if_pos ⟨rfl, rfl⟩]
    have v14 : rR (wI (wR σ 37 14 s) 37 17 (nI md)) 37 14 = s := by rw [q_RI, q_RR, if_pos ⟨rfl, rfl⟩]
    have v40 : rI (wR (wI (wR σ 37 14 s) 37 17 (nI md)) 37 15 tc) 4 0 = nI hh := by rw [q_IR, q_II, if_neg (by decide), q_IR]; exact hh1
    have p17 : rI (wI (wI σ1 h 3 1) a' 0 0) 37 17 = nI md := by
      rw [q_II, if_neg (by omega), q_II, if_neg (by omega), d1, q_II, if_neg (by decide), q_IR, q_II, if_pos ⟨rfl, rfl⟩]
    have f2 : rR σ1 37 5 = h := F1.1.2.1
    obtain ⟨f4', f5', f6'⟩ := F1.2.2.1
    obtain ⟨f7', f8', f9'⟩ := F1.2.2.2.2.1
    unfold f_X9_go
    rw [oLet_eq, hs, ← es, oLet_eq, oLet_eq, v17, v14]
    simp only [e2, e0]
    rw [← etc, oLet_eq, v40, ← d1, oLet_eq, f2]
    simp only [oLet_eq, q_RI, q_RL, q_KI, q_KL, f2, f4', f5', f6', f7', f8', f9']
    rw [if_pos ib, if_pos ib, if_pos ib, show ((0 : Int32).toNatClampNeg) = 0 from rfl, p17]
    simp only [e2, e3]
    rw [show (if md = 3 then (4503599627370496 : Int64) else if md = 2 then 1 else 0) = v0W md from rfl, ← d2]
  · obtain ⟨a1, a2, a3, a4, a5⟩ := g2
    obtain ⟨b1, b2, b3, b4, b5⟩ := k3
    exact ⟨by omega, fun x hx => (b2 x (by omega)).trans (a2 x hx), fun x j hx h1 h2 => (b3 x j hx h1 (fun e => (h2 e).1)).trans (a3 x j hx h1 h2), fun x j hx h1 => (b4 x j hx h1).trans (a4 x j hx h1), fun x j hx h1 h2 => (b5 x j hx h1 (fun e => ⟨(h2 e).1, (h2 e).2.1⟩)).trans (a5 x j hx h1 h2)⟩
