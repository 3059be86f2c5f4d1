/-! the game: what holds between calls -/
def RsB (B : Bd) : Prop := OkT B ∧ bD B = [] ∧ bF B = 0
def BoI (B : Bd) (hh L jk n : Nat) : Prop := RsB B ∧ Bo2 B hh jk n ∧ accB L hh (tN (tjB B) xZ) = true
def OnI (B B0 : Bd) (D : List (Nat × Nat)) (m : Mem) (p hh n : Nat) : Prop := p < n ∧ m 67 24 = nI p ∧ okB p B0 D ∧ B = runB p B0 D ∧ (∀ d ∈ D, d.2 % 13 < hh) ∧ (m 72 p = 0 → ∀ d ∈ D, d.1 ≤ 1) ∧ ∃ c, c < n ∧ m 67 25 = nI c
def TrI (B B0 : Bd) (D : List (Nat × Nat)) (m : Mem) (hh L jk n : Nat) : Prop := BoI B0 hh L jk n ∧ ((m 67 24 = -1 ∧ D = [] ∧ B = B0) ∨ ∃ p, OnI B B0 D m p hh n)
def SeI (m : Mem) (n : Nat) : Prop := LaI m n ∧ (∀ p, p < 4 → m 72 p = 0 ∨ m 72 p = 1) ∧ (∀ p, p < 4 → m 76 p = 0 ∨ m 76 p = 1) ∧ ∀ p, p < 4 → ∃ t, t ≤ 9999 ∧ m 71 p = nI t
def CnI (t : Nat) (E : List Ent) (B0 : Bd) (m : Mem) (wr : Nat) : Prop := m 67 34 = nI wr ∧ wr ≤ 40 ∧ (wr ≤ t ∧ E.length + wr ≤ t + tot (tjB B0)) ∧ OkE E
/-- one entry of the record played again: the turn's start and what was done in the turn -/
def stP (pn : Nat) (e : Ent) (s s' : Bd × List (Nat × Nat)) : Prop := e.2.1 < 4 ∧ RsB s.1 ∧ okB e.2.1 s.1 s.2 ∧ (
  (e.1 = 1 ∧ ∃ k, e.2.2.1 = k + 1 ∧ vaB e.2.1 (runB e.2.1 s.1 s.2) (0, k) ∧ s' = (s.1, s.2 ++ [(0, k)])) ∨
  (e.1 = 2 ∧ ∃ k, e.2.2.1 = k + 1 ∧ vaB e.2.1 (runB e.2.1 s.1 s.2) (if bF (runB e.2.1 s.1 s.2) = 0 then 1 else 2, k) ∧ s' = (s.1, s.2 ++ [(if bF (runB e.2.1 s.1 s.2) = 0 then 1 else 2, k)])) ∨
  (e.1 = 3 ∧ ∃ k, e.2.2.1 = k + 1 ∧ vaB e.2.1 (runB e.2.1 s.1 s.2) (3, k) ∧ s' = (s.1, s.2 ++ [(3, k)])) ∨
  (e.1 = 4 ∧ ∃ D d, s.2 = D ++ [d] ∧ s' = (s.1, D)) ∨
  (e.1 = 5 ∧ s' = (stB (runB e.2.1 s.1 s.2), [])) ∨
  ((e.1 = 6 ∨ e.1 = 7) ∧ s' = ((drUp e.2.1 (if s.2.isEmpty then 1 else pn) s.1).2, [])))
def RpI (pn hh jk : Nat) (m : Mem) (dl : Option (Nat × Nat × Nat)) (E : List Ent) (B0 : Bd) (D : List (Nat × Nat)) : Prop := match dl with
  | none => m 67 24 = -1 ∧ E = [] ∧ D = [] ∧ ∃ X, B0 = zB X
  | some (sd, each, n0) => sd < 65536 ∧ each ≤ 14 ∧ n0 ≤ 4 ∧ ∃ (st : Nat → Bd × List (Nat × Nat)) (w : Nat → Nat), st 0 = (deB each n0 (b0B hh jk sd), []) ∧ (∀ i e, E[i]? = some e → stP pn e (st i) (st (i + 1)) ∧ ((st i).2 = [] ∨ e.2.1 = w i) ∧ w (i + 1) = e.2.1) ∧ st E.length = (B0, D) ∧ (D = [] ∨ (w E.length < 4 ∧ m 67 24 = nI (w E.length)))
theorem RpI_m {pn hh jk : Nat} {m m' : Mem} {dl : Option (Nat × Nat × Nat)} {E : List Ent} {B0 : Bd} {D : List (Nat × Nat)} (R : RpI pn hh jk m dl E B0 D) (h : m' 67 24 = m 67 24) : RpI pn hh jk m' dl E B0 D := by
  unfold RpI at *
  cases dl with
  | none => exact ⟨by rw [h]; exact R.1, R.2⟩
  | some d =>
    obtain ⟨r1, r2, r3, st, w, s0, s1, s2, s3⟩ := R
    exact ⟨r1, r2, r3, st, w, s0, s1, s2, by rw [h]; exact s3⟩
def GmS (t : Nat) (B : Bd) (E : List Ent) (dl : Option (Nat × Nat × Nat)) (m : Mem) (B0 : Bd) (D : List (Nat × Nat)) (hh L jk ml pn n wr : Nat) : Prop := RuM m hh L jk ml pn n ∧ TrI B B0 D m hh L jk n ∧ SeI m n ∧ CnI t E B0 m wr ∧ RpI pn hh jk m dl E B0 D
theorem GmS_s {t : Nat} {B : Bd} {E : List Ent} {dl : Option (Nat × Nat × Nat)} {m : Mem} {B0 : Bd} {D : List (Nat × Nat)} {hh L jk ml pn n wr : Nat} (G : GmS t B E dl m B0 D hh L jk ml pn n wr) : GmS (t + 1) B E dl m B0 D hh L jk ml pn n wr := ⟨G.1, G.2.1, G.2.2.1, ⟨G.2.2.2.1.1, G.2.2.2.1.2.1, by have := G.2.2.2.1.2.2.1; omega, G.2.2.2.1.2.2.2⟩, G.2.2.2.2⟩
theorem okB_mm {p : Nat} : ∀ {B : Bd} {l : List (Nat × Nat)}, okB p B l → ∀ d ∈ l, d.1 ≤ 3 ∧ d.2 < 52 := by
  intro B l
  induction l generalizing B with
  | nil => exact fun _ d hd => absurd hd List.not_mem_nil
  | cons e l ih =>
    intro ok d hd
    rcases List.mem_cons.mp hd with rfl | h
    · obtain ⟨v1, -, -, v3⟩ := ok.1
      refine ⟨?_, v1⟩
      rcases v3 with ⟨e, -⟩ | ⟨e, -⟩ | ⟨e, -⟩ | ⟨e, -⟩ <;> omega
    · exact ih ok.2 d h
theorem lcB_ge {k : Nat} (hk : 52 ≤ k) : ∀ {l : List (Nat × Nat)}, (∀ d ∈ l, d.2 < 52) → lcB l k = 0 := by
  intro l
  induction l with
  | nil => exact fun _ => rfl
  | cons e l ih =>
    intro h
    have h1 := h e List.mem_cons_self
    have h2 := ih fun d hd => h d (List.mem_cons_of_mem _ hd)
    unfold lcB
    rw [h2, if_neg (by omega)]
/-- what follows of a turn -/
theorem On_facts {B B0 : Bd} {D : List (Nat × Nat)} {m : Mem} {p hh L jk n : Nat} (hn4 : n ≤ 4) (b : BoI B0 hh L jk n) (H : OnI B B0 D m p hh n) : OkT B ∧ bD B = D ∧ D.length ≤ 48 ∧ Bo2 B hh jk n ∧ (∀ d ∈ D, d.1 ≤ 3 ∧ d.2 < 52) ∧ (m 72 p = 0 → ∀ k, lcB D k ≤ 2) ∧ (m 72 p = 0 → ∀ k, bT B k + bJ B k = bT B0 k + bJ B0 k + lcB D k) := by
  obtain ⟨⟨o, h0, hF⟩, b2, -⟩ := b
  obtain ⟨h1, h2, ok, hB, hd, hm, -⟩ := H
  have r1 := OkT_run o h0 hF D.length D rfl ok
  have hD : bD B = D := by rw [hB, runB_D, h0]; rfl
  have phi := runB_phi D B0 ok
  have oB : OkT B := by rw [hB]; exact r1.1
  have hall := okB_mm ok
  have hr := o.1.2.1 p (by omega)
  have hTJ : m 72 p = 0 → ∀ k, bT B k + bJ B k = bT B0 k + bJ B0 k + lcB D k := fun e k => by
    rw [hB]
    exact runB_TJ D ok (fun d hd2 => by have := hm e d hd2; omega) k
  refine ⟨oB, hD, by omega, ?_, hall, fun e k => ?_, hTJ⟩
  · rw [hB]
    exact Bo2_run h1 D B0 b2 ok hd
  · by_cases hk : k < 52
    · have := hTJ e k
      have := oB.2.1 k hk
      omega
    · rw [lcB_ge (by omega) fun d hd2 => (hall d hd2).2]
      omega
theorem G_facts {t : Nat} {B : Bd} {E : List Ent} {dl : Option (Nat × Nat × Nat)} {m : Mem} {B0 : Bd} {D : List (Nat × Nat)} {hh L jk ml pn n wr : Nat} (G : GmS t B E dl m B0 D hh L jk ml pn n wr) (ht : t ≤ 800) : OkT B ∧ (m 67 24 = -1 ∨ ∃ p, p < n ∧ m 67 24 = nI p) ∧ E.length + wr ≤ 910 ∧ bD B = D ∧ D.length ≤ 48 ∧ Bo2 B hh jk n ∧ (∀ d ∈ bD B, d.1 ≤ 3 ∧ d.2 < 52) ∧ TuI B m n ∧ tot (tjB B0) ≤ 104 := by
  obtain ⟨r, ⟨⟨b0, b2⟩, tr⟩, se, ⟨-, -, hc, -⟩, -⟩ := G
  have hn4 := r.2.2.2.2.2.2.2.2
  have ht0 : tot (tjB B0) ≤ 104 := by
    rw [tot_tjB]
    exact tjB_t2 b0.1
  rcases tr with ⟨tp, hD, hB⟩ | ⟨p, on⟩
  · subst hB hD
    exact ⟨b0.1, Or.inl tp, by omega, b0.2.1, by decide, b2.1, fun d hd => by rw [b0.2.1] at hd; exact absurd hd List.not_mem_nil, Or.inl ⟨tp, b0.2.1, b0.2.2⟩, ht0⟩
  · obtain ⟨f1, f2, f3, f4, f5, -, -⟩ := On_facts hn4 ⟨b0, b2⟩ on
    obtain ⟨h1, h2, ok, hB, -⟩ := on
    exact ⟨f1, Or.inr ⟨p, h1, h2⟩, by omega, f2, f3, f4, by rw [f2]; exact f5, Or.inr ⟨p, B0, h1, h2, b0.1, b0.2.1, b0.2.2, by rw [f2]; exact ok, by rw [f2]; exact hB⟩, ht0⟩
/-! calls that change nothing -/
