/-! how a turn goes on -/
theorem RpI_add {pn hh jk p : Nat} {m m' : Mem} {dl : Option (Nat × Nat × Nat)} {E : List Ent} {B0 B1 : Bd} {D D1 : List (Nat × Nat)} {e : Ent} (R : RpI pn hh jk m dl E B0 D) (hp : p < 4) (tp : m 67 24 = nI p) (he : e.2.1 = p) (hm : D1 = [] ∨ m' 67 24 = nI p) (h : stP pn e (B0, D) (B1, D1)) : RpI pn hh jk m' dl (E ++ [e]) B1 D1 := by
  cases dl with
  | none => exact absurd (tp.symm.trans R.1) (n_m1 hp)
  | some d =>
    obtain ⟨sd, each, n0⟩ := d
    obtain ⟨r1, r2, r3, st, w, s0, s1, s2, s3⟩ := R
    refine ⟨r1, r2, r3, fun i => if i ≤ E.length then st i else (B1, D1), fun i => if i ≤ E.length then w i else p, ?_, fun i x hx => ?_, ?_, ?_⟩
    · dsimp only
      rw [if_pos (Nat.zero_le _)]
      exact s0
    · dsimp only
      by_cases c : i < E.length
      · rw [List.getElem?_append_left c] at hx
        rw [if_pos (show i ≤ E.length by omega), if_pos (show i + 1 ≤ E.length by omega), if_pos (show i ≤ E.length by omega), if_pos (show i + 1 ≤ E.length by omega)]
        exact s1 i x hx
      · have hi : i = E.length := by
          have := (List.getElem?_eq_some_iff.mp hx).1
          rw [List.length_append, List.length_singleton] at this
          omega
        subst hi
        rw [List.getElem?_append_right (Nat.le_refl _), Nat.sub_self] at hx
        cases hx
        rw [if_pos (Nat.le_refl _), if_neg (show ¬ E.length + 1 ≤ E.length by omega), if_pos (Nat.le_refl _), if_neg (show ¬ E.length + 1 ≤ E.length by omega), s2]
        refine ⟨h, ?_, he.symm⟩
        rcases s3 with s3 | ⟨s3, s4⟩
        · exact Or.inl s3
        · exact Or.inr (he.trans ((nI_eq (by omega) (by omega)).mp (tp.symm.trans s4)))
    · dsimp only
      rw [List.length_append, List.length_singleton, if_neg (by omega)]
    · dsimp only
      rw [List.length_append, List.length_singleton, if_neg (by omega)]
      rcases hm with hm | hm
      · exact Or.inl hm
      · exact Or.inr ⟨hp, hm⟩
theorem OkE_add {E : List Ent} {e : Ent} (h : OkE E) (g : e.1 < 8 ∧ e.2.1 < 4 ∧ e.2.2.1 < 64 ∧ e.2.2.2 < 2 ^ 16) : OkE (E ++ [e]) := fun x hx => by
  rcases List.mem_append.mp hx with h1 | h1
  · exact h x h1
  · rw [List.mem_singleton.mp h1]; exact g
/-- whose turn it is, told twice -/
theorem On_same {B B0 : Bd} {D : List (Nat × Nat)} {m : Mem} {p hh L jk n : Nat} (hn4 : n ≤ 4) (T : TrI B B0 D m hh L jk n) (hp : p < n) (tp : m 67 24 = nI p) : OnI B B0 D m p hh n := by
  rcases T.2 with ⟨h, -, -⟩ | ⟨q, on⟩
  · exact absurd (tp.symm.trans h) (n_m1 (by omega))
  · have e := (nI_eq (by have := on.1; omega) (by omega)).mp (on.2.1.symm.trans tp)
    subst e
    exact on
/-- a thing more is done in a turn -/
theorem Gm_add {t : Nat} {B : Bd} {E : List Ent} {dl : Option (Nat × Nat × Nat)} {m : Mem} {B0 : Bd} {D : List (Nat × Nat)} {hh L jk ml pn n wr p s : Nat} {d : Nat × Nat} (S : GmS t B E dl m B0 D hh L jk ml pn n wr) (hp : p < n) (tp : m 67 24 = nI p) (v : vaB p B d) (hd : d.2 % 13 < hh) (hm : m 72 p = 0 → d.1 ≤ 1) (hs : (s = 1 ∧ d.1 = 0) ∨ (s = 2 ∧ d.1 = if bF B = 0 then 1 else 2) ∨ (s = 3 ∧ d.1 = 3)) : GmS (t + 1) (apB p B d) (E ++ [(s, p, d.2 + 1, 0)]) dl m B0 (D ++ [d]) hh L jk ml pn n wr := by
  obtain ⟨r, T, se, ⟨c1, c2, c3, c4⟩, rp⟩ := S
  have hn4 := r.2.2.2.2.2.2.2.2
  have on := On_same hn4 T hp tp
  obtain ⟨o1, o2, ok, hB, h1, h2, h3⟩ := on
  have ok2 : okB p B0 (D ++ [d]) := okB_sn.mpr ⟨ok, by rw [← hB]; exact v⟩
  have v1 := v.1
  refine ⟨r, ⟨T.1, Or.inr ⟨p, hp, tp, ok2, by rw [runB_sn, ← hB], fun x hx => ?_, fun e x hx => ?_, h3⟩⟩, se, ⟨c1, c2, by rw [List.length_append, List.length_singleton]; omega, OkE_add c4 ⟨by dsimp only; omega, by dsimp only; omega, by dsimp only; omega, by dsimp only; omega⟩⟩, ?_⟩
  · rcases List.mem_append.mp hx with g | g
    · exact h1 x g
    · rw [List.mem_singleton.mp g]; exact hd
  · rcases List.mem_append.mp hx with g | g
    · exact h2 e x g
    · rw [List.mem_singleton.mp g]; exact hm e
  · refine RpI_add rp (by omega) tp rfl (Or.inr tp) ⟨by dsimp only; omega, T.1.1, ok, ?_⟩
    dsimp only
    rw [← hB]
    obtain ⟨d1, k⟩ := d
    dsimp only at hs
    rcases hs with ⟨rfl, rfl⟩ | ⟨rfl, rfl⟩ | ⟨rfl, rfl⟩
    · exact Or.inl ⟨rfl, k, rfl, v, rfl⟩
    · exact Or.inr (Or.inl ⟨rfl, k, rfl, v, rfl⟩)
    · exact Or.inr (Or.inr (Or.inl ⟨rfl, k, rfl, v, rfl⟩))
theorem up1_i1 {f g : Nat → Nat} {i : Nat} (h : up1 f i (f i + 1) = up1 g i (g i + 1)) : f = g := by
  funext j
  have := congrFun h j
  rw [up1_at, up1_at] at this
  by_cases c : j = i
  · rw [if_pos c, if_pos c] at this; rw [c]; omega
  · rw [if_neg c, if_neg c] at this; exact this
theorem up1_i2 {f g : Nat → Nat} {i : Nat} (hf : 1 ≤ f i) (hg : 1 ≤ g i) (h : up1 f i (f i - 1) = up1 g i (g i - 1)) : f = g := by
  funext j
  have := congrFun h j
  rw [up1_at, up1_at] at this
  by_cases c : j = i
  · rw [if_pos c, if_pos c] at this; rw [c]; omega
  · rw [if_neg c, if_neg c] at this; exact this
theorem Bd_ext {X Y : Bd} (h1 : bP X = bP Y) (h2 : bR X = bR Y) (h3 : bT X = bT Y) (h4 : bJ X = bJ Y) (h5 : bD X = bD Y) (h6 : bF X = bF Y) (h7 : bX X = bX Y) : X = Y := by
  obtain ⟨a1, a2, a3, a4, a5, a6, a7⟩ := X
  obtain ⟨b1, b2, b3, b4, b5, b6, b7⟩ := Y
  cases h1; cases h2; cases h3; cases h4; cases h5; cases h6; cases h7
  rfl
theorem apB_inj {p : Nat} {X Y : Bd} {d : Nat × Nat} (v : vaB p X d) (w : vaB p Y d) (h : apB p X d = apB p Y d) : X = Y := by
  obtain ⟨t, k⟩ := d
  obtain ⟨-, -, -, v3⟩ := v
  obtain ⟨-, -, -, w3⟩ := w
  dsimp only at v3 w3
  have hD : bD X = bD Y := by
    have := congrArg bD h
    rw [apB_D, apB_D] at this
    exact List.append_cancel_right this
  rcases v3 with ⟨rfl, a1, a2⟩ | ⟨rfl, a1, a2, a3⟩ | ⟨rfl, a1, a2⟩ | ⟨rfl, a1, a2⟩
  · rcases w3 with ⟨-, b1, b2⟩ | ⟨e, -⟩ | ⟨e, -⟩ | ⟨e, -⟩
    · rw [apB_0, apB_0] at h
      simp only [Prod.mk.injEq] at h
      obtain ⟨e1, e2, e3, e4, -, e6, e7⟩ := h
      exact Bd_ext e1 (up1_i2 a1 b1 e2) (up1_i1 e3) e4 hD e6 e7
    all_goals exact absurd e (by decide)
  · rcases w3 with ⟨e, -⟩ | ⟨-, b1, b2, b3⟩ | ⟨e, -⟩ | ⟨e, -⟩
    · exact absurd e (by decide)
    · rw [apB_1, apB_1] at h
      simp only [Prod.mk.injEq] at h
      obtain ⟨e1, e2, e3, e4, -, e6, e7⟩ := h
      exact Bd_ext e1 (up1_i2 a2 b2 e2) e3 (up1_i1 e4) hD e6 e7
    all_goals exact absurd e (by decide)
  · rcases w3 with ⟨e, -⟩ | ⟨e, -⟩ | ⟨-, b1, b2⟩ | ⟨e, -⟩
    · exact absurd e (by decide)
    · exact absurd e (by decide)
    · rw [apB_2, apB_2] at h
      simp only [Prod.mk.injEq] at h
      obtain ⟨e1, e2, e3, e4, -, e6, e7⟩ := h
      exact Bd_ext e1 e2 e3 (up1_i1 e4) hD (by omega) e7
    · exact absurd e (by decide)
  · rcases w3 with ⟨e, -⟩ | ⟨e, -⟩ | ⟨e, -⟩ | ⟨-, b1, b2⟩
    · exact absurd e (by decide)
    · exact absurd e (by decide)
    · exact absurd e (by decide)
    · rw [apB_3, apB_3] at h
      simp only [Prod.mk.injEq] at h
      obtain ⟨e1, e2, e3, e4, -, e6, e7⟩ := h
      exact Bd_ext e1 (up1_i2 a1 b1 e2) (up1_i1 e3) (up1_i2 a2 b2 e4) hD (by omega) e7
/-- the last thing is taken back -/
theorem Gm_back {t : Nat} {B B1 : Bd} {E : List Ent} {dl : Option (Nat × Nat × Nat)} {m : Mem} {B0 : Bd} {D : List (Nat × Nat)} {hh L jk ml pn n wr p : Nat} {d : Nat × Nat} (S : GmS t B E dl m B0 D hh L jk ml pn n wr) (hp : p < n) (tp : m 67 24 = nI p) (v : vaB p B1 d) (hB1 : B = apB p B1 d) : ∃ D1, GmS (t + 1) B1 (E ++ [(4, p, d.2 + 1, 0)]) dl m B0 D1 hh L jk ml pn n wr := by
  obtain ⟨r, T, se, ⟨c1, c2, c3, c4⟩, rp⟩ := S
  have hn4 := r.2.2.2.2.2.2.2.2
  have on := On_same hn4 T hp tp
  have fc := On_facts hn4 T.1 on
  obtain ⟨o1, o2, ok, hB, h1, h2, h3⟩ := on
  have hD : D = bD B1 ++ [d] := by rw [← fc.2.1, hB1, apB_D]
  have ok' := ok
  rw [hD] at ok'
  obtain ⟨ok1, v2⟩ := okB_sn.mp ok'
  have eB : B1 = runB p B0 (bD B1) := by
    refine apB_inj v v2 ?_
    rw [← runB_sn, ← hD, ← hB, hB1]
  have v1 := v.1
  refine ⟨bD B1, r, ⟨T.1, Or.inr ⟨p, hp, tp, ok1, eB, fun x hx => h1 x (by rw [hD]; exact List.mem_append_left _ hx), fun e x hx => h2 e x (by rw [hD]; exact List.mem_append_left _ hx), h3⟩⟩, se, ⟨c1, c2, by rw [List.length_append, List.length_singleton]; omega, OkE_add c4 ⟨by dsimp only; omega, by dsimp only; omega, by dsimp only; omega, by dsimp only; omega⟩⟩, ?_⟩
  exact RpI_add rp (by omega) tp rfl (Or.inr tp) ⟨by dsimp only; omega, T.1.1, ok, Or.inr (Or.inr (Or.inr (Or.inl ⟨rfl, bD B1, d, hD, rfl⟩)))⟩
theorem runB_nF {p : Nat} : ∀ {B : Bd} (l : List (Nat × Nat)), okB p B l → (∀ d ∈ l, d.1 ≠ 3) → bF (runB p B l) ≤ bF B := by
  intro B l
  induction l generalizing B with
  | nil => exact fun _ _ => Nat.le_refl _
  | cons d l ih =>
    intro ok h
    have h1 := ih ok.2 fun x hx => h x (List.mem_cons_of_mem _ hx)
    have h2 : bF (apB p B d) ≤ bF B := by
      have h3 := h d List.mem_cons_self
      obtain ⟨t, k⟩ := d
      obtain ⟨-, -, -, v3⟩ := ok.1
      dsimp only at v3 h3
      rcases v3 with ⟨rfl, -⟩ | ⟨rfl, -⟩ | ⟨rfl, -⟩ | ⟨rfl, -⟩
      · exact Nat.le_refl _
      · exact Nat.le_refl _
      · exact Nat.sub_le _ _
      · exact absurd rfl h3
    exact Nat.le_trans h1 h2
