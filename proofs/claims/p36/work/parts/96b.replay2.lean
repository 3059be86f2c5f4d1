/-! isReplayed as a call -/
theorem BR_zB {σ : rS} {b X c : Nat} (H : BQ σ b (fun _ => 0) (fun _ => 0) (fun _ => 0) (fun _ => 0) (fun _ => 0) [] 0 0 0 0 X c) : BR σ b (zB X) c := BQ_cg H (fun _ _ => rfl) (fun _ _ => rfl) (fun _ _ => by show 0 = natSum (fun _ => 0) 53; decide) (fun _ _ => rfl) (fun _ _ => rfl) rfl (by show 0 = natSum (fun _ => 0) 53; decide) (by show 0 = natSum (fun _ => 0) 52 + natSum (fun _ => 0) 52; decide) (by show 0 = natSum (fun _ => 0) 52; decide) rfl rfl rfl
theorem dec_e {σ : rS} {E : List Ent} {i : Nat} {e : Ent} (h : CeR σ E) (hi : i < 1024) (he : E[i]? = some e) (hb : e.1 < 8 ∧ e.2.1 < 4 ∧ e.2.2.1 < 64 ∧ e.2.2.2 < 2 ^ 16) : v_X2_sort σ (nI i) = nI e.1 ∧ v_X2_who σ (nI i) = nI e.2.1 ∧ v_X2_kind σ (nI i) = nI e.2.2.1 - 1 := by
  have ce := h.2 i e he
  rw [enE_eq hb] at ce
  have cv : vAt (rI σ 36) 1024 (nI i) = nI (2 ^ 11 * e.2.2.2 + (2 ^ 5 * e.2.2.1 + (2 ^ 3 * e.2.1 + e.1))) := by rw [vAt_nI (by decide) hi, ce]
  refine ⟨?_, ?_, ?_⟩
  · unfold v_X2_sort
    rw [cv, show (7 : Int32) = nI (2 ^ 3 - 1) from rfl, nI_mod, show (2 ^ 11 * e.2.2.2 + (2 ^ 5 * e.2.2.1 + (2 ^ 3 * e.2.1 + e.1))) % 2 ^ 3 = e.1 by omega]
  · unfold v_X2_who
    rw [cv, nI_shrG (by omega) _ 3 (by decide) (by decide), show (3 : Int32) = nI (2 ^ 2 - 1) from rfl, nI_mod, show (2 ^ 11 * e.2.2.2 + (2 ^ 5 * e.2.2.1 + (2 ^ 3 * e.2.1 + e.1))) / 2 ^ 3 % 2 ^ 2 = e.2.1 by omega]
  · unfold v_X2_kind
    rw [cv, nI_shrG (by omega) _ 5 (by decide) (by decide), show (63 : Int32) = nI (2 ^ 6 - 1) from rfl, nI_mod, show (2 ^ 11 * e.2.2.2 + (2 ^ 5 * e.2.2.1 + (2 ^ 3 * e.2.1 + e.1))) / 2 ^ 5 % 2 ^ 6 = e.2.2.1 by omega]
theorem cRep_eq {t : Nat} {σ : rS} {B : Bd} {E : List Ent} {dl : Option (Nat × Nat × Nat)} {m : Mem} {l : Nat → Int64} {ch : Nat} {B0 : Bd} {D : List (Nat × Nat)} {hh L jk ml pn n wr : Nat} (C : CI σ B E dl m l ch) (S : GmS t B E dl m B0 D hh L jk ml pn n wr) (ht : t ≤ 800) : ∃ τ, f_X10_isReplayed σ = some (1, τ) ∧ CI τ B E dl m l ch ∧ FrB2 12 σ τ := by
  have F := G_facts S ht
  obtain ⟨r, ⟨-, tr⟩, -, ⟨-, -, -, oE⟩, rp⟩ := S
  have hn4 := r.2.2.2.2.2.2.2.2
  obtain ⟨P2, c2, h7⟩ := C.2.2.2.2.2.2
  obtain ⟨σ1, a1, a2, a3⟩ := clear_eq h7
  have C1 := CI_12 C (BR_zB a2) a3
  cases dl with
  | none =>
    obtain ⟨r1, r2, r3, X, r4⟩ := rp
    have hB : B = zB X := by
      rcases tr with ⟨-, -, e⟩ | ⟨p, h1, h2, -⟩
      · rw [e, r4]
      · rw [r1] at h2; exact absurd h2.symm (n_m1 (by omega))
    refine ⟨σ1, ?_, C1, a3⟩
    have e2 : rI σ1 35 2 = 0 := C1.2.2.1
    subst hB
    unfold f_X10_isReplayed
    rw [a1, oB_some, if_pos e2, isLike_eq C1.1 (BR_zB a2) (fun _ _ => rfl) (fun _ _ => rfl) (fun _ _ => rfl) (fun _ _ => rfl)]
    rfl
  | some d =>
    obtain ⟨sd, each, n0⟩ := d
    obtain ⟨r1, r2, r3, st, w, s0, s1, s2, s3⟩ := rp
    obtain ⟨d1, d2, d3, d4⟩ := C1.2.2.1
    obtain ⟨σ2, cc, b1, b2, -, -, b3⟩ := dealOut_eq (seed := sd) (each := each) (n := n0) a2 (CI_h C1 r) ((CI_4 C1 (x := 4) (j := 2) (by omega)).trans r.1.2.2.1) r.2.2.1 r.2.2.2.2.1 (by omega) r3 (by omega) r1
    have C2 := CI_12 C1 b2 b3
    have hE : E.length ≤ 910 := by have := F.2.2.1; omega
    have eB : B = runB (w E.length) B0 D := by
      rcases s3 with e | ⟨w4, e⟩
      · rcases tr with ⟨-, -, q⟩ | ⟨p, -, -, -, q, -⟩
        · rw [e, q]; rfl
        · rw [q, e]; rfl
      · rcases tr with ⟨q, -⟩ | ⟨p, h1, h2, -, q, -⟩
        · rw [q] at e; exact absurd e.symm (n_m1 (by omega))
        · have : p = w E.length := (nI_eq (by omega) (by omega)).mp (h2.symm.trans e)
          rw [q, this]
    obtain ⟨x, f1, f2⟩ := oL_run2 (body := b_X10_isReplayed_51) (fun i τ => (∃ c, BR τ 12 (runB (w i) (st i).1 (st i).2) c) ∧ FrB2 12 σ τ) (N := E.length) (fun x => ∃ τ, x = (1, τ) ∧ CI τ B E (some (sd, each, n0)) m l ch ∧ FrB2 12 σ τ) (by
        intro i τ hi ⟨⟨c, H⟩, Fr⟩
        have Ct := CI_12 C H Fr
        obtain ⟨e, he⟩ : ∃ e, E[i]? = some e := ⟨_, List.getElem?_eq_getElem hi⟩
        obtain ⟨g1, g2, g3⟩ := s1 i e he
        have H2 : BR τ 12 (runB e.2.1 (st i).1 (st i).2) c := by
          rcases g2 with g | g
          · rw [g] at H ⊢; exact H
          · rw [g]; exact H
        obtain ⟨k1, k2, k3⟩ := dec_e Ct.2.1 (by omega) he (oE e (List.mem_of_getElem? he))
        obtain ⟨υ, c', y1, y2, y3⟩ := replay_eq H2 ((CI_4 Ct (x := 4) (j := 4) (by omega)).trans r.1.2.2.2.2.1) r.2.2.2.2.2.2.2.1 g1
        refine ⟨υ, ?_, ⟨c', by rw [g3]; exact y2⟩, Fr.tr y3⟩
        unfold b_X10_isReplayed_51
        dsimp only
        rw [show rI τ 35 1 = nI E.length from Ct.2.1.1, if_neg (show ¬ nI E.length ≤ nI i from fun z => by have := (nI_leI (by omega) (by omega)).mp z; omega), k1, k2, k3, y1, oB_some, nI_1])
      (by
        intro τ ⟨⟨c, H⟩, Fr⟩
        have Ct := CI_12 C H Fr
        rw [s2] at H
        refine ⟨_, ?_, τ, rfl, Ct, Fr⟩
        unfold b_X10_isReplayed_51
        dsimp only
        rw [show rI τ 35 1 = nI E.length from Ct.2.1.1, if_pos (show nI E.length ≤ nI E.length from (nI_leI (by omega) (by omega)).mpr (Nat.le_refl _)), isLike_eq Ct.1 (show BR τ 12 B c by rw [eB]; exact H) (fun _ _ => rfl) (fun _ _ => rfl) (fun _ _ => rfl) (fun _ _ => rfl)]
        rfl)
      (n := oFuel) (by rw [oFuel_eq]; omega) (σ := σ2) ⟨⟨_, by rw [s0]; exact b2⟩, a3.tr b3⟩
    obtain ⟨τ, rfl, f3, f4⟩ := f2
    refine ⟨τ, ?_, f3, f4⟩
    unfold f_X10_isReplayed
    rw [a1, oB_some, if_neg (show ¬ rI σ1 35 2 = 0 by rw [d1]; decide), d2, d3, d4, b1, oB_some]
    exact f1
