/-! the law as a program; the start -/
def f_law (σ0 : rS) : Option (Int32 × rS) := (f_X10_init (wN σ0 (12, 0))).bind fun r1 => if rN r1.2 = 67 then f_L_run r1.2 else none
theorem law_walk {σ0 τ : rS} {v : Int32} (h0 : PSy σ0) (hN : rN σ0 = 3) (hu : uS σ0 = 0) (h : f_law σ0 = some (v, τ))
    (hSy : ∀ τ1, f_X10_init (wN σ0 (12, 0)) = some ((), τ1) → Sy τ1) : uC τ ≤ bC ∧ uS τ ≤ bS ∧ rE mL_law 28 0 [some (.ref 2), none, none, none, none, none, none, none, none, none, none] [] σ0 (bC + 45474) (bS + 275644) (.inl (some (.int v))) τ := by
  unfold f_law at h
  obtain ⟨⟨⟨⟩, τ1⟩, hf1, h⟩ := Option.bind_eq_some_iff.mp h
  split at h
  case isFalse => cases h
  rename_i hg1
  dsimp only at hg1 hf1 h
  have e1 : rN (wN σ0 (12, 0)) = 4 := by show rN σ0 + 1 = 4; omega
  have u1 : uS (wN σ0 (12, 0)) = uS σ0 + 18 := by rw [uS_wN _ _ (by omega)]; rfl
  have J1 : J PSy (wN σ0 (12, 0)) := ⟨PSy_wN h0 hN (by decide), by show rN (wN σ0 (12, 0)) ≤ 1000; omega, by show uS (wN σ0 (12, 0)) ≤ 3000000; omega⟩
  obtain ⟨⟨J2, c2, s2⟩, m2⟩ := ok_X10_init (σ := wN σ0 (12, 0)) e1 J1 () τ1 hf1
  have J5 : J Sy τ1 := ⟨hSy τ1 hf1, J2.2⟩
  obtain ⟨⟨J6, c6, s6⟩, m6⟩ := ok_run (o := .inl (some (.int v))) (τ := τ) J5 (v, τ) h
  have m6 := m6 (Nat.le_refl _) (Nat.le_refl _) ⟨rfl, rfl⟩
  dsimp only at c6 s6 m6 J6
  refine ⟨J6.2.1, J6.2.2, ?_⟩
  have b1 : uC τ ≤ 1000 := J6.2.1
  have b2 : uS τ ≤ 3000000 := J6.2.2
  have m2 : rMet _ _ _ _ _ _ _ none τ1 := m2
  refine E_room (kc := 45474 + (uC τ - uC τ1) + (0 + (uC τ1 - uC (wN σ0 (12, 0)))) + 1) (ks := 275644 + (uS τ - uS τ1) + (0 + (uS τ1 - uS (wN σ0 (12, 0)))) + 18) ?_ ?_ ?_
  · refine E_new clX10 ckL_10 insX10 iniX10 okX10 dL_law_0 ?_
    rw [hN]
    refine E_dup dL_law_3 rfl ?_
    refine E_callI (as := []) (b := 3) (st := [.ref 3]) m2 (by decide) yfX10_init mlL_161 imX10_init rfl rfl rfl (Nat.le_of_ble_eq_true rfl) rfl dL_law_4 ?_
    refine E_astore_n (ls2 := [some (.ref 2), some (.ref 3), none, none, none, none, none, none, none, none, none]) dL_law_7 (by decide) rfl ?_
    exact m6
  · have h3 : uC (wN σ0 (12, 0)) = uC σ0 + 1 := rfl
    show _ ≤ 1000 + 45474
    omega
  · show _ ≤ 3000000 + 275644
    omega
