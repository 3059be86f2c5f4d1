/-! the law as a program; the start -/
def f_law (σ0 : rS) : Option (Int32 × rS) :=
  (f_X10_init (wN σ0 (12, 0))).bind fun r1 => if rN r1.2 = 67 ∧ uS r1.2 + 100 ≤ bS then (f_X11_init (wN r1.2 (13, 0))).bind fun r2 => if rN r2.2 = 114 ∧ uS r2.2 + 1 ≤ bS then oLoop b_L_law 513 (0, wN r2.2 (1, 1)) else none else none
theorem law_walk {σ0 τ : rS} {v : Int32} (h0 : PSy σ0) (hN : rN σ0 = 3) (hu : uS σ0 = 0) (h : f_law σ0 = some (v, τ))
    (hSy : ∀ τ1 τ2, f_X10_init (wN σ0 (12, 0)) = some ((), τ1) → f_X11_init (wN τ1 (13, 0)) = some ((), τ2) → Sy (wN τ2 (1, 1))) : uC τ ≤ bC ∧ uS τ ≤ bS ∧ rE mL_law 26 0 [some (.ref 2), none, none, none, none, none, none] [] σ0 (bC + 4 * 513) (bS + 24 * 513) (.inl (some (.int v))) τ := by
  unfold f_law at h
  obtain ⟨⟨⟨⟩, τ1⟩, hf1, h⟩ := Option.bind_eq_some_iff.mp h
  split at h
  case isFalse => cases h
  rename_i hg1
  dsimp only at hg1 hf1 h
  obtain ⟨⟨⟨⟩, τ2⟩, hf2, h⟩ := Option.bind_eq_some_iff.mp h
  split at h
  case isFalse => cases h
  rename_i hg2
  dsimp only at hg2 hf2 h
  have e1 : rN (wN σ0 (12, 0)) = 4 := by show rN σ0 + 1 = 4; omega
  have u1 : uS (wN σ0 (12, 0)) = uS σ0 + 18 := by rw [uS_wN _ _ (by omega)]; rfl
  have J1 : J PSy (wN σ0 (12, 0)) := ⟨PSy_wN h0 hN (by decide), by show rN (wN σ0 (12, 0)) ≤ 1000; omega, by show uS (wN σ0 (12, 0)) ≤ 3000000; omega⟩
  obtain ⟨⟨J2, c2, s2⟩, m2⟩ := ok_X10_init (σ := wN σ0 (12, 0)) e1 J1 () τ1 hf1
  have n2 : rN τ1 = 67 := hg1.1
  have u3 : uS (wN τ1 (13, 0)) = uS τ1 + 70 := by rw [uS_wN _ _ (by omega)]; rfl
  have e3 : rN (wN τ1 (13, 0)) = 68 := by show rN τ1 + 1 = 68; omega
  have J3 : J PSy (wN τ1 (13, 0)) := ⟨PSy_wN J2.1 n2 (by decide), by show rN (wN τ1 (13, 0)) ≤ 1000; omega, by show uS (wN τ1 (13, 0)) ≤ 3000000; have h9 : uS τ1 + 100 ≤ 3000000 := hg1.2; omega⟩
  obtain ⟨⟨J4, c4, s4⟩, m4⟩ := ok_X11_init (σ := wN τ1 (13, 0)) e3 J3 () τ2 hf2
  have n4 : rN τ2 = 114 := hg2.1
  have u5 : uS (wN τ2 (1, 1)) = uS τ2 + 1 := by rw [uS_wN _ _ (by omega)]; rfl
  have e5 : rN (wN τ2 (1, 1)) = 115 := by show rN τ2 + 1 = 115; omega
  have J5 : J Sy (wN τ2 (1, 1)) := ⟨hSy τ1 τ2 hf1 hf2, by show rN (wN τ2 (1, 1)) ≤ 1000; omega, by rw [u5]; exact hg2.2⟩
  obtain ⟨⟨J6, c6, s6⟩, m6⟩ := ok_loop (o := .inl (some (.int v))) (τ := τ) 513 0 0 (0, wN τ2 (1, 1)) J5 (v, τ) h
  have m6 := m6 (Nat.le_refl _) (Nat.le_refl _) ⟨rfl, rfl⟩
  dsimp only at c6 s6 m6 J6
  refine ⟨J6.2.1, J6.2.2, ?_⟩
  have b1 : uC τ ≤ 1000 := J6.2.1
  have b2 : uS τ ≤ 3000000 := J6.2.2
  have m2 : rMet _ _ _ _ _ _ _ none τ1 := m2
  have m4 : rMet _ _ _ _ _ _ _ none τ2 := m4
  have E23 := E_deep (k2 := 26) m6 (by decide)
  -- from 23 backwards
  have E19 : rE mL_law 26 19 [some (.ref 2), some (.ref 3), some (.ref 67), none, none, none, none] [.ref 114] (wN τ2 (1, 1)) (0 + 4 * 513 + (uC τ - uC (wN τ2 (1, 1)))) (0 + 24 * 513 + (uS τ - uS (wN τ2 (1, 1)))) (.inl (some (.int v))) τ := by
    refine E_astore_n (ls2 := [some (.ref 2), some (.ref 3), some (.ref 67), some (.ref 114), none, none, none]) dL_law_19 (by decide) rfl ?_
    refine E_iconst (v := 0) dL_law_20 (by decide) ?_
    refine E_istore (ls2 := [some (.ref 2), some (.ref 3), some (.ref 67), some (.ref 114), some (.int 0), none, none]) dL_law_21 (by decide) rfl ?_
    exact E23
  have E15 : rE mL_law 26 15 [some (.ref 2), some (.ref 3), none, none, none, none, none] [.ref 67] τ2 (0 + 4 * 513 + (uC τ - uC (wN τ2 (1, 1))) + 1) (0 + 24 * 513 + (uS τ - uS (wN τ2 (1, 1))) + 1) (.inl (some (.int v))) τ := by
    refine E_astore_n (ls2 := [some (.ref 2), some (.ref 3), some (.ref 67), none, none, none, none]) dL_law_15 (by decide) rfl ?_
    refine E_iconst (v := 1) dL_law_16 (by decide) ?_
    refine E_newaJ (n := 1) ac_long dL_law_17 rfl (by decide) ?_
    rw [n4]
    exact E19
  have E8 : rE mL_law 26 8 [some (.ref 2), some (.ref 3), none, none, none, none, none] [] τ1 (0 + 4 * 513 + (uC τ - uC (wN τ2 (1, 1))) + 1 + (0 + (uC τ2 - uC (wN τ1 (13, 0)))) + 1) (0 + 24 * 513 + (uS τ - uS (wN τ2 (1, 1))) + 1 + (0 + (uS τ2 - uS (wN τ1 (13, 0)))) + 70) (.inl (some (.int v))) τ := by
    refine E_new clX11 ckL_112 insX11 iniX11 okX11 dL_law_8 ?_
    rw [n2]
    refine E_dup dL_law_11 rfl ?_
    exact E_callI (as := []) (b := 67) (st := [.ref 67]) m4 (by decide) yfX11_init mlL_114 imX11_init rfl rfl rfl (Nat.le_of_ble_eq_true rfl) rfl dL_law_12 E15
  have E0 : rE mL_law 26 0 [some (.ref 2), none, none, none, none, none, none] [] σ0 (0 + 4 * 513 + (uC τ - uC (wN τ2 (1, 1))) + 1 + (0 + (uC τ2 - uC (wN τ1 (13, 0)))) + 1 + (0 + (uC τ1 - uC (wN σ0 (12, 0)))) + 1) (0 + 24 * 513 + (uS τ - uS (wN τ2 (1, 1))) + 1 + (0 + (uS τ2 - uS (wN τ1 (13, 0)))) + 70 + (0 + (uS τ1 - uS (wN σ0 (12, 0)))) + 18) (.inl (some (.int v))) τ := by
    refine E_new clX10 ckL_8 insX10 iniX10 okX10 dL_law_0 ?_
    rw [hN]
    refine E_dup dL_law_3 rfl ?_
    refine E_callI (as := []) (b := 3) (st := [.ref 3]) m2 (by decide) yfX10_init mlL_111 imX10_init rfl rfl rfl (Nat.le_of_ble_eq_true rfl) rfl dL_law_4 ?_
    refine E_astore_n (ls2 := [some (.ref 2), some (.ref 3), none, none, none, none, none]) dL_law_7 (by decide) rfl ?_
    exact E8
  refine E_room E0 ?_ ?_
  · show _ ≤ 1000 + 4 * 513
    have h1 : uC (wN τ2 (1, 1)) = uC τ2 + 1 := rfl
    have h2 : uC (wN τ1 (13, 0)) = uC τ1 + 1 := rfl
    have h3 : uC (wN σ0 (12, 0)) = uC σ0 + 1 := rfl
    omega
  · show _ ≤ 3000000 + 24 * 513
    omega
