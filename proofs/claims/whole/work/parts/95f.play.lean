/-! a notation played -/
theorem psT_len {m : Mem} {wr hh : Nat} : ∀ d i l, i ≤ wr → psT m wr hh d i = some l → i + l.length ≤ wr := by
  intro d
  induction d with
  | zero => intro i l hi h; cases h; exact hi
  | succ d ih =>
    intro i l hi h
    unfold psT at h
    by_cases c : wr ≤ i
    · rw [if_pos c] at h; cases h; exact hi
    · rw [if_neg c] at h
      cases hp : psS m wr hh i with
      | none => rw [hp] at h; cases h
      | some p =>
        obtain ⟨c', k, i'⟩ := p
        rw [hp] at h
        obtain ⟨l2, e1, rfl⟩ := Option.map_eq_some_iff.mp h
        have h1 := ih i' l2 (psS_le (by omega) hp) e1
        have h2 := psS_gt hp
        rw [List.length_cons]
        omega
theorem psT_ok {m : Mem} {wr hh : Nat} (h13 : hh ≤ 13) : ∀ d i l, psT m wr hh d i = some l → ∀ x ∈ l, 1 ≤ x.1 ∧ x.1 ≤ 6 ∧ x.2 < 52 ∧ (x.1 ≤ 3 → x.2 % 13 < hh) := by
  intro d
  induction d with
  | zero => intro i l h; cases h; exact fun x hx => absurd hx List.not_mem_nil
  | succ d ih =>
    intro i l h
    unfold psT at h
    by_cases c : wr ≤ i
    · rw [if_pos c] at h; cases h; exact fun x hx => absurd hx List.not_mem_nil
    · rw [if_neg c] at h
      cases hp : psS m wr hh i with
      | none => rw [hp] at h; cases h
      | some p =>
        obtain ⟨c', k, i'⟩ := p
        rw [hp] at h
        obtain ⟨l2, e1, rfl⟩ := Option.map_eq_some_iff.mp h
        intro x hx
        rcases List.mem_cons.mp hx with rfl | hx
        · exact psS_ok h13 hp
        · exact ih i' l2 e1 x hx
/-- the moves that both have read -/
def PyF (m : Mem) (ms : List (Nat × Nat)) : Prop := (m 67 200 = nI ms.length ∧ ∀ i d, ms[i]? = some d → m 133 i = nI d.1 ∧ (d.1 ≤ 3 → m 134 i = nI d.2)) ∧ m 67 37 = nI ms.length ∧ ∀ i d, ms[i]? = some d → m 87 i = leS d.1 ∧ (d.1 ≤ 3 → m 88 i = nI d.2)
theorem PyF_cg {m m' : Mem} {ms : List (Nat × Nat)} (H : PyF m ms) (h : ∀ x k, (x = 86 ∨ x = 87 ∨ x = 88 ∨ x = 133 ∨ x = 134 ∨ (x = 67 ∧ (k = 37 ∨ k = 200))) → m' x k = m x k) : PyF m' ms := by
  obtain ⟨⟨a1, a2⟩, b1, b2⟩ := H
  refine ⟨⟨by rw [h _ _ (by omega)]; exact a1, fun i d hi => ?_⟩, by rw [h _ _ (by omega)]; exact b1, fun i d hi => ?_⟩
  · rw [h _ _ (by omega), h _ _ (by omega)]; exact a2 i d hi
  · rw [h _ _ (by omega), h _ _ (by omega)]; exact b2 i d hi
/-- what a play leaves, on the class's side and on the reference's -/
def PyC (i d : Nat) (j : Nat) (B : Bd) (E : List Ent) (dl : Option (Nat × Nat × Nat)) (m : Mem) (l : Nat → Int64) (B' : Bd) (E' : List Ent) (m' : Mem) (l' : Nat → Int64) (hh L : Nat) : Prop := ∀ σ ch N, CI σ B E dl m l ch → KcI σ B m hh L ch → ch + 300 * (d + 1) < 2000000000 → d < N → ∃ τ c2, oLoop b_X10_play_28 N (nI i, σ) = some (.inl (nI j), τ) ∧ CI τ B' E' dl m' l' c2 ∧ FrCl σ τ ∧ ch ≤ c2 ∧ c2 ≤ ch + 300 * d ∧ KcI τ B' m' hh L c2
def PyM (i d : Nat) (j : Nat) (B : Bd) (E : List Ent) (m : Mem) (l : Nat → Int64) (B' : Bd) (E' : List Ent) (m' : Mem) (l' : Nat → Int64) : Prop := ∀ σ N, MI σ B E m l → d < N → ∃ τ, oLoop b_X11_play_35 N (nI i, σ) = some (nI j, τ) ∧ MI τ B' E' m' l' ∧ FrRf σ τ ∧ rI τ 67 0 = rI σ 67 0
theorem py0 (ch d : Nat) : ch + 300 * (d + 1) = ch + 300 + 300 * d := by rw [Nat.mul_succ, Nat.add_comm (300 * d) 300, ← Nat.add_assoc]
theorem py1 {ch c2 d : Nat} (h : c2 ≤ ch + 300) : c2 ≤ ch + 300 * (d + 1) := by
  rw [py0]
  exact Nat.le_trans h (Nat.le_add_right _ _)
theorem py2 {ch c2 d : Nat} (h : c2 ≤ ch + 300) (g : ch + 300 * (d + 1 + 1) < 2000000000) : c2 + 300 * (d + 1) < 2000000000 := by
  rw [py0] at g
  exact Nat.lt_of_le_of_lt (Nat.add_le_add_right h _) g
theorem py3 {ch d : Nat} (g : ch + 300 * (d + 1 + 1) < 2000000000) : ch + 300 < 2 ^ 31 := by
  rw [py0] at g
  exact Nat.lt_of_le_of_lt (Nat.le_add_right _ _) (Nat.lt_trans g (by decide))
theorem py4 {ch c2 c3 d : Nat} (h : c2 ≤ ch + 300) (g : c3 ≤ c2 + 300 * d) : c3 ≤ ch + 300 * (d + 1) := by
  rw [py0]
  exact Nat.le_trans g (Nat.add_le_add_right h _)
theorem play_go {dl : Option (Nat × Nat × Nat)} {hh L jk ml pn n wr t0 : Nat} {ms : List (Nat × Nat)} (hms : ∀ x ∈ ms, 1 ≤ x.1 ∧ x.1 ≤ 6 ∧ x.2 < 52 ∧ (x.1 ≤ 3 → x.2 % 13 < hh)) (hlen : ms.length ≤ wr) (h40 : wr ≤ 40) (ht0 : t0 ≤ 600) : ∀ d i t (B : Bd) (E : List Ent) (m : Mem) (l : Nat → Int64) (B0 : Bd) (D : List (Nat × Nat)), i + d = ms.length → t ≤ t0 + i → GmS t B E dl m B0 D hh L jk ml pn n wr → PyF m ms → ∃ j B' E' m' l' B0' D', GmS (t0 + 1) B' E' dl m' B0' D' hh L jk ml pn n 0 ∧ PyC i d j B E dl m l B' E' m' l' hh L ∧ PyM i d j B E m l B' E' m' l' := by
  -- the end of a play
  have fin : ∀ i t (B : Bd) (E : List Ent) (m : Mem) (B0 : Bd) (D : List (Nat × Nat)), i ≤ ms.length → t ≤ t0 + i → GmS t B E dl m B0 D hh L jk ml pn n wr → GmS (t0 + 1) B E dl (up2 m 67 34 0) B0 D hh L jk ml pn n 0 := fun i t B E m B0 D hi ht S => Gm_m (wr' := 0) S (fun x k h => by rw [up2_at, if_neg (by omega)]) (by rw [up2_at, if_pos ⟨rfl, rfl⟩]; rfl) (by omega) (t0 + 1) (by have := S.2.2.2.1.2.2.1; omega)
  intro d
  induction d with
  | zero =>
    intro i t B E m l B0 D hi ht S P
    refine ⟨i, B, E, up2 m 67 34 0, l, B0, D, fin i t B E m B0 D (by omega) ht S, fun σ ch N C K hch hN => ?_, fun σ N M hN => ?_⟩
    · obtain ⟨N, rfl⟩ : ∃ k, N = k + 1 := ⟨N - 1, by omega⟩
      have q4 : rI σ 31 4 = nI ms.length := (CI_4 C (x := 31) (j := 4) (by omega)).trans P.1.1
      refine ⟨wI σ 31 1 0, ch, oLoop_l ?_, CI_w C (a := 31) (k := 1) (by omega) 0, FrCl_w (by omega) _, Nat.le_refl _, by omega, KcI_fr (KcI_m K fun q _ => by rw [up2_at, if_neg (by omega)]) (FrK_w (by omega) _)⟩
      unfold b_X10_play_28
      dsimp only
      rw [q4, if_pos ((nI_leI (by omega) (by omega)).mpr (by omega)), oLet_eq]
    · obtain ⟨N, rfl⟩ : ∃ k, N = k + 1 := ⟨N - 1, by omega⟩
      have q37 : rI σ 67 37 = nI ms.length := (M.2.2.1 67 37 (by omega)).trans P.2.1
      refine ⟨wI σ 67 34 0, oLoop_l ?_, MI_w M (a := 67) (k := 34) (by omega) 0, FrRf_w (by omega) _, by rw [fld_eq, if_neg (by omega)]⟩
      unfold b_X11_play_35
      dsimp only
      rw [q37, if_pos ((nI_leI (by omega) (by omega)).mpr (by omega)), oLet_eq]
  | succ d ih =>
    intro i t B E m l B0 D hi ht S P
    obtain ⟨x, hx⟩ : ∃ x, ms[i]? = some x := ⟨ms[i]'(by omega), List.getElem?_eq_getElem _⟩
    obtain ⟨c, k⟩ := x
    have hck := hms (c, k) (List.mem_of_getElem? hx)
    have pc := P.1.2 i (c, k) hx
    have pm := P.2.2 i (c, k) hx
    dsimp only at hck pc pm
    -- what stands in the rows
    have rc : ∀ σ ch, CI σ B E dl m l ch → rI σ 31 4 = nI ms.length ∧ vAt (rI σ 33) 40 (nI i) = nI c ∧ (c ≤ 3 → vAt (rI σ 34) 40 (nI i) = nI k) := fun σ ch C => by
      refine ⟨(CI_4 C (x := 31) (j := 4) (by omega)).trans P.1.1, ?_, fun h => ?_⟩
      · rw [vAt_nI (by decide) (by omega), CI_4 C (x := 33) (j := i) (by omega)]
        exact pc.1
      · rw [vAt_nI (by decide) (by omega), CI_4 C (x := 34) (j := i) (by omega)]
        exact pc.2 h
    have rm : ∀ σ, MI σ B E m l → rI σ 67 37 = nI ms.length ∧ rI σ 87 i = leS c ∧ (c ≤ 3 → rI σ 88 i = nI k) := fun σ M => ⟨(M.2.2.1 67 37 (by omega)).trans P.2.1, (M.2.2.1 87 i (by omega)).trans pm.1, fun h => (M.2.2.1 88 i (by omega)).trans (pm.2 h)⟩
    have ni : ¬ nI ms.length ≤ nI i := fun z => by have := (nI_leI (by omega) (by omega)).mp z; omega
    rcases mv_one (c := c) (k := k) l S (by omega) hck with ⟨mc, mm⟩ | ⟨B1, E1, m1, l1, B01, D1, S1, fr, mc, mm⟩
    · -- refused
      refine ⟨i, B, E, up2 m 67 34 0, l, B0, D, fin i t B E m B0 D (by omega) ht S, fun σ ch N C K hch hN => ?_, fun σ N M hN => ?_⟩
      · obtain ⟨N, rfl⟩ : ∃ k, N = k + 1 := ⟨N - 1, by omega⟩
        obtain ⟨q1, q2, q3⟩ := rc σ ch C
        have hd1 : ch + 300 * (d + 1 + 1) < 2000000000 := hch
        have hd2 : ch + 300 < 2 ^ 31 := py3 hd1
        obtain ⟨τ, c2, a1, a2, a3, a4, a5, a6⟩ := mc σ ch _ C K hd2 q3
        refine ⟨wI τ 31 1 0, c2, oLoop_l ?_, CI_w a2 (a := 31) (k := 1) (by decide) 0, a3.tr (FrCl_w (by decide) _), a4, py1 a5, KcI_fr (KcI_m a6 fun q _ => by rw [up2_at, if_neg (fun z => absurd z.1 (by decide))]) (FrK_w (by decide) _)⟩
        unfold b_X10_play_28
        dsimp only
        rw [q1, if_neg ni, q2, a1, oB_some, if_pos (show b2i false = 0 from rfl), oLet_eq]
      · obtain ⟨N, rfl⟩ : ∃ k, N = k + 1 := ⟨N - 1, by omega⟩
        obtain ⟨q1, q2, q3⟩ := rm σ M
        obtain ⟨τ, a1, a2, a3, a4⟩ := mm σ _ M q3
        refine ⟨wI τ 67 34 0, oLoop_l ?_, MI_w a2 (a := 67) (k := 34) (by omega) 0, a3.tr (FrRf_w (by omega) _), by rw [fld_eq, if_neg (by omega), a4]⟩
        unfold b_X11_play_35
        dsimp only
        rw [q1, if_neg ni, if_pos (inB_nI (by decide) (by omega)), nI_clamp (by omega), q2, a1, oB_some, if_pos (show b2i false = 0 from rfl), oLet_eq]
    · -- done
      obtain ⟨j, B', E', m', l', B0', D', G', pc', pm'⟩ := ih (i + 1) (t + 1) B1 E1 m1 l1 B01 D1 (by omega) (by omega) S1 (PyF_cg P fr)
      refine ⟨j, B', E', m', l', B0', D', G', fun σ ch N C K hch hN => ?_, fun σ N M hN => ?_⟩
      · obtain ⟨N, rfl⟩ : ∃ k, N = k + 1 := ⟨N - 1, by omega⟩
        obtain ⟨q1, q2, q3⟩ := rc σ ch C
        have hd1 : ch + 300 * (d + 1 + 1) < 2000000000 := hch
        have hd2 : ch + 300 < 2 ^ 31 := py3 hd1
        obtain ⟨τ, c2, a1, a2, a3, a4, a5, a6⟩ := mc σ ch _ C K hd2 q3
        obtain ⟨υ, c3, b1, b2, b3, b4, b5, b6⟩ := pc' τ c2 N a2 a6 (py2 a5 hd1) (Nat.lt_of_succ_lt_succ hN)
        refine ⟨υ, c3, ?_, b2, a3.tr b3, Nat.le_trans a4 b4, py4 a5 b5, b6⟩
        rw [oLoop_r (s' := (nI (i + 1), τ))]
        · exact b1
        · unfold b_X10_play_28
          dsimp only
          rw [q1, if_neg ni, q2, a1, oB_some, if_neg (show ¬ b2i true = 0 by decide), nI_1]
      · obtain ⟨N, rfl⟩ : ∃ k, N = k + 1 := ⟨N - 1, by omega⟩
        obtain ⟨q1, q2, q3⟩ := rm σ M
        obtain ⟨τ, a1, a2, a3, a4⟩ := mm σ _ M q3
        obtain ⟨υ, b1, b2, b3, b4⟩ := pm' τ N a2 (by omega)
        refine ⟨υ, ?_, b2, a3.tr b3, b4.trans a4⟩
        rw [oLoop_r (s' := (nI (i + 1), τ))]
        · exact b1
        · unfold b_X11_play_35
          dsimp only
          rw [q1, if_neg ni, if_pos (inB_nI (by decide) (by omega)), nI_clamp (by omega), q2, a1, oB_some, if_neg (show ¬ b2i true = 0 by decide), nI_1]
