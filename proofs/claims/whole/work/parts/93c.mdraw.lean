/-! a turn ended by drawing: the reference -/
def mTail (σ : rS) (x1 p1 : Int32) (j4 : rS) : Option (Int32 × rS) := oJoin (oLoop (b_X11_endsByDrawing_57 σ x1) oFuel (0, 0, j4)) fun j9 => if inB (rI σ 67 24) 4 then (oLet (wI j9.2 77 (rI σ 67 24 : Int32).toNatClampNeg ((rI j9.2 77 (rI σ 67 24 : Int32).toNatClampNeg) + ((if (rI j9.2 76 (rI σ 67 24 : Int32).toNatClampNeg) = 0 then 0 else j9.1 : Int32)))) fun σ14 => oB (f_X11_enter σ14 p1 (rI σ 67 24) ((-1)) j9.1) fun _ σ16 => oLet (wI σ16 67 25 ((if j9.1 = 0 then ((rI σ16 67 25) + 1) else 0 : Int32))) fun σ17 => if (rI σ17 67 25) = (rI σ17 67 6) then (oLoop (b_X11_endsByDrawing_159 j9 σ17) oFuel ((0, 1))) else (if ¬ (rI σ17 67 6) = 0 then (oLet (wI σ17 67 24 (iRem ((rI σ 67 24) + 1) (rI σ17 67 6))) fun σ25 => some ((j9.1, σ25))) else none)) else none
theorem mDraw_def (σ : rS) (p1 : Int32) : f_X11_endsByDrawing σ p1 = (oLet ((if (rI σ 67 30) ≤ 0 then 0 else 1 : Int32) : Int32) fun x1 => if x1 = 0 then (if inB (rI σ 67 24) 4 then (if (rI σ 72 (rI σ 67 24 : Int32).toNatClampNeg) = 0 then (oJoin (oLoop (b_X11_endsByDrawing_36) oFuel σ) fun j4 => mTail σ x1 p1 j4) else (oB (f_X11_passesAll σ (rI σ 67 24)) fun _ σ27 => oJoin (oLoop (b_X11_endsByDrawing_36) oFuel σ27) fun j29 => mTail σ x1 p1 j29)) else none) else (oJoin (oLoop (b_X11_endsByDrawing_36) oFuel σ) fun j52 => mTail σ x1 p1 j52)) := rfl
theorem drUp_s (p : Nat) : ∀ (m : Nat) (B : Bd), drUp p (m + 1) B = ((drUp p m B).1 + (if (drB p (drUp p m B).2).isNone then 0 else 1), (drB p (drUp p m B).2).getD (drUp p m B).2) := by
  intro m
  induction m with
  | zero =>
    intro B
    show (match drB p B with | none => (0, B) | some B' => ((drUp p 0 B').1 + 1, (drUp p 0 B').2)) = (0 + (if (drB p B).isNone then 0 else 1), (drB p B).getD B)
    cases drB p B <;> rfl
  | succ m ih =>
    intro B
    have e1 : drUp p (m + 1 + 1) B = match drB p B with | none => (0, B) | some B' => ((drUp p (m + 1) B').1 + 1, (drUp p (m + 1) B').2) := rfl
    have e2 : drUp p (m + 1) B = match drB p B with | none => (0, B) | some B' => ((drUp p m B').1 + 1, (drUp p m B').2) := rfl
    rw [e1, e2]
    cases h : drB p B with
    | none =>
      dsimp only
      rw [h]
      rfl
    | some B' =>
      dsimp only
      rw [ih B']
      refine Prod.ext ?_ rfl
      dsimp only
      omega
theorem mUndo_eq {σ : rS} {B0 : Bd} {E : List Ent} {m : Mem} {l : Nat → Int64} {p : Nat} {D : List (Nat × Nat)} (o : OkT B0) (h0 : bD B0 = []) (hF : bF B0 = 0) (ok : okB p B0 D) (M : MI σ (runB p B0 D) E m l) (tp : m 67 24 = nI p) : ∃ τ, oLoop b_X11_endsByDrawing_36 oFuel σ = some (.inr τ) ∧ MI τ B0 E m l ∧ FrX WB σ τ := by
  obtain ⟨-, hl⟩ := OkT_run o h0 hF D.length D rfl ok
  obtain ⟨x, b1, b2⟩ := oL_ix (body := b_X11_endsByDrawing_36) (fun i s => ∃ l2 : List (Nat × Nat), l2.length + i = D.length ∧ okB p B0 l2 ∧ MI s (runB p B0 l2) E m l ∧ FrX WB σ s) (N := D.length) (fun x => ∃ τ, x = .inr τ ∧ MI τ B0 E m l ∧ FrX WB σ τ) (by
      intro i s hi ⟨l2, hl2, ok2, A, Fr⟩
      have hne : l2 ≠ [] := fun e => by rw [e, List.length_nil] at hl2; omega
      obtain ⟨l', d, rfl⟩ : ∃ l' d, l2 = l' ++ [d] := ⟨l2.dropLast, l2.getLast hne, (List.dropLast_concat_getLast hne).symm⟩
      rw [List.length_append, List.length_singleton] at hl2
      have o1 := (OkT_run o h0 hF l'.length l' rfl (okB_sn.mp ok2).1).1
      rw [runB_sn] at A
      obtain ⟨τ, c1, c2, c3⟩ := undoes_eq (okB_sn.mp ok2).2 o1 A.1 ((A.2.2.1 67 24 (by omega)).trans tp)
      have A2 := MI_BE A c2 (MeR_fr A.2.1 c3 fun x j w => by omega) (c3.mono fun x j w => by omega)
      refine ⟨τ, ?_, l', by omega, (okB_sn.mp ok2).1, A2, Fr.tr c3⟩
      have q30 : rI s 67 30 = nI (l'.length + 1) := by
        have e := A.1.2.2.2.2.1.1
        rw [← runB_sn, runB_D, h0, List.nil_append, List.length_append, List.length_singleton] at e
        exact e
      unfold b_X11_endsByDrawing_36
      rw [q30, if_neg (show ¬ nI (l'.length + 1) ≤ 0 from fun z => by have := (nI_leI (b := 0) (by omega) (by omega)).mp z; omega), c1, oB_some])
    (by
      intro s ⟨l2, hl2, ok2, A, Fr⟩
      have e0 : l2 = [] := List.length_eq_zero_iff.mp (by omega)
      subst e0
      have A : MI s B0 E m l := A
      have q30 : rI s 67 30 = 0 := by
        have e := A.1.2.2.2.2.1.1
        rw [h0] at e
        exact e
      exact ⟨_, by unfold b_X11_endsByDrawing_36; rw [q30, if_pos (by decide)], s, rfl, A, Fr⟩)
    (n := oFuel) (by rw [oFuel_eq]; omega) (s := σ) ⟨D, by omega, ok, M, FrX.rf _ σ⟩
  obtain ⟨τ, rfl, A⟩ := b2
  exact ⟨τ, b1, A⟩
theorem mDraws_loop {σ σ0 : rS} {B : Bd} {E : List Ent} {m : Mem} {l : Nat → Int64} {p pn cnt : Nat} {x1 : Int32} (M : MI σ B E m l) (o : OkB B) (hp : p < 4) (t0 : rI σ0 67 24 = nI p) (hpn : m 67 5 = nI pn) (hx : (if x1 = 0 then (1 : Int32) else nI pn) = nI cnt) (hc : cnt ≤ 200) : ∃ τ, oLoop (b_X11_endsByDrawing_57 σ0 x1) oFuel (0, 0, σ) = some (.inr (nI (drUp p cnt B).1, τ)) ∧ MI τ (drUp p cnt B).2 E m l ∧ FrX WB σ τ := by
  obtain ⟨x, b1, b2⟩ := oL_ix (body := b_X11_endsByDrawing_57 σ0 x1) (fun i s => s.1 = nI (drUp p i B).1 ∧ s.2.1 = nI i ∧ MI s.2.2 (drUp p i B).2 E m l ∧ FrX WB σ s.2.2) (N := cnt) (fun x => ∃ τ, x = .inr (nI (drUp p cnt B).1, τ) ∧ MI τ (drUp p cnt B).2 E m l ∧ FrX WB σ τ) (by
      intro i s hi ⟨e0, e, A, Fr⟩
      obtain ⟨s0, s1, σ'⟩ := s
      dsimp only at e0 e A Fr
      subst e0 e
      obtain ⟨o2, -⟩ := drUp_ok (p := p) hp i B o
      obtain ⟨τ, c1, c2, c3⟩ := mdraws_eq A.1 hp o2
      have A2 := MI_BE A c2 (MeR_fr A.2.1 c3 fun x j w => by omega) (c3.mono fun x j w => by omega)
      have es : nI (drUp p i B).1 + (if (drB p (drUp p i B).2).isNone = true then (0 : Int32) else 1) = nI ((drUp p i B).1 + (if (drB p (drUp p i B).2).isNone = true then 0 else 1)) := by
        by_cases z : (drB p (drUp p i B).2).isNone = true
        · rw [if_pos z, if_pos z]; exact ad0 _
        · rw [if_neg z, if_neg z, nI_1]
      rw [drUp_s]
      refine ⟨(nI ((drUp p i B).1 + (if (drB p (drUp p i B).2).isNone then 0 else 1)), nI (i + 1), τ), ?_, rfl, rfl, A2, Fr.tr c3⟩
      have q5 : rI σ' 67 5 = nI pn := (A.2.2.1 67 5 (by omega)).trans hpn
      unfold b_X11_endsByDrawing_57
      dsimp only
      rw [q5, hx, if_neg (show ¬ nI cnt ≤ nI i from fun z => by have := (nI_leI (by omega) (by omega)).mp z; omega), t0, c1, oB_some, nI_1]
      rw [es])
    (by
      intro s ⟨e0, e, A, Fr⟩
      obtain ⟨s0, s1, σ'⟩ := s
      dsimp only at e0 e A Fr
      subst e0 e
      have q5 : rI σ' 67 5 = nI pn := (A.2.2.1 67 5 (by omega)).trans hpn
      exact ⟨_, by unfold b_X11_endsByDrawing_57; dsimp only; rw [q5, hx, if_pos (show nI cnt ≤ nI cnt from (nI_leI (by omega) (by omega)).mpr (Nat.le_refl _))], σ', rfl, A, Fr⟩)
    (n := oFuel) (by rw [oFuel_eq]; omega) (s := (0, 0, σ)) ⟨rfl, rfl, M, FrX.rf _ σ⟩
  obtain ⟨τ, rfl, A⟩ := b2
  exact ⟨τ, b1, A⟩
theorem mLight_loop {σ : rS} {B : Bd} {E : List Ent} {m : Mem} {l : Nat → Int64} {n : Nat} {j9 : Int32 × rS} (M : MI σ B E m l) (o : OkB B) (hn : m 67 6 = nI n) (h1 : 1 ≤ n) (hn4 : n ≤ 4) {τ : rS} (h : f_X11_roundEnds σ (nI (liB (bR B) n)) = some ((), τ)) : oLoop (b_X11_endsByDrawing_159 j9 σ) oFuel (0, 1) = some (j9.1, τ) := by
  obtain ⟨x, b1, b2⟩ := oL_ix (body := b_X11_endsByDrawing_159 j9 σ) (fun i s => s = (nI (liB (bR B) (i + 1)), nI (i + 1))) (N := n - 1) (fun x => x = (j9.1, τ)) (by
      intro i s hi e
      subst e
      have q6 : rI σ 67 6 = nI n := (M.2.2.1 67 6 (by omega)).trans hn
      have hlt := liB_lt (bR B) (i + 1) (by omega)
      refine ⟨_, ?_, rfl⟩
      unfold b_X11_endsByDrawing_159
      dsimp only
      rw [q6, if_neg (show ¬ nI n ≤ nI (i + 1) from fun z => by have := (nI_leI (by omega) (by omega)).mp z; omega), mworthOf_eq M.1 (by omega), Option.bind_some, mworthOf_eq M.1 (by omega), Option.bind_some]
      have w1 := woB_le (bR B) (liB (bR B) (i + 1))
      have w2 := woB_le (bR B) (i + 1)
      have w3 := o.2.1 (liB (bR B) (i + 1)) (by omega)
      have w4 := o.2.1 (i + 1) (by omega)
      have c : (nI (woB (bR B) (liB (bR B) (i + 1))) ≤ nI (woB (bR B) (i + 1))) = (woB (bR B) (liB (bR B) (i + 1)) ≤ woB (bR B) (i + 1)) := propext (nI_leI (by omega) (by omega))
      simp only [c]
      have e : liB (bR B) (i + 1 + 1) = if woB (bR B) (liB (bR B) (i + 1)) ≤ woB (bR B) (i + 1) then liB (bR B) (i + 1) else i + 1 := if_neg (show ¬ i + 1 = 0 by omega)
      rw [e, nI_1, oLet_eq]
      split <;> rfl)
    (by
      intro s e
      subst e
      have q6 : rI σ 67 6 = nI n := (M.2.2.1 67 6 (by omega)).trans hn
      rw [show n - 1 + 1 = n by omega]
      exact ⟨_, by unfold b_X11_endsByDrawing_159; dsimp only; rw [q6, if_pos (show nI n ≤ nI n from (nI_leI (by omega) (by omega)).mpr (Nat.le_refl _)), h, oB_some], rfl⟩)
    (n := oFuel) (by rw [oFuel_eq]; omega) (s := (0, 1)) rfl
  subst b2
  exact b1
