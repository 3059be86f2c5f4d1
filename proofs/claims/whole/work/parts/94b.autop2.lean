/-! a plan laid and the turn ended; one tile alone laid and the turn ended -/
theorem end_mv {t : Nat} {B : Bd} {E : List Ent} {dl : Option (Nat × Nat × Nat)} {m : Mem} {B0 : Bd} {D : List (Nat × Nat)} {hh L jk ml pn n wr p : Nat} {mel : Bool} (l : Nat → Int64) (S : GmS t B E dl m B0 D hh L jk ml pn n wr) (ht : t ≤ 800) (hp : p < n) (tp : m 67 24 = nI p) (hm : m 72 p = if mel then 1 else 0) (me : meB B mel ml L hh = true) : ∃ B' E' m', GmS (t + 1) B' E' dl m' B' [] hh L jk ml pn n wr ∧ (E'.length = E.length + 1 ∧ tjB B' = tjB B) ∧ (∀ x k, x ≠ 70 ∧ x ≠ 73 ∧ x ≠ 74 ∧ ¬ (x = 67 ∧ (k = 24 ∨ k = 25 ∨ k = 26 ∨ k = 27)) ∧ x ≠ 72 → m' x k = m x k) ∧ (∀ σ ch, CI σ B E dl m l ch → ∃ τ, f_X10_endByLaying σ = some ((), τ) ∧ CI τ B' E' dl m' l (ch + 1) ∧ FrCl σ τ ∧ FrK σ τ) ∧ ∀ σ, MI σ B E m l → ∃ τ, f_X11_endsByLaying σ = some (1, τ) ∧ MI τ B' E' m' l ∧ FrRf σ τ ∧ rI τ 67 0 = rI σ 67 0 := by
  have F := G_facts S ht
  have hn4 := S.1.2.2.2.2.2.2.2.2
  obtain ⟨j, hj, h1, h2⟩ := S.2.2.1.1 p hp
  have on := On_same hn4 S.2.1 hp tp
  have fc := On_facts hn4 S.2.1.1 on
  refine ⟨stB B, E ++ [(5, p, 0, 0)], elM m (bR B) p n j, Gm_end S hp tp hj h1 h2 me, ⟨by rw [List.length_append]; rfl, rfl⟩, fun x k hx => elM_at _ _ _ _ _ hx, fun σ ch C => cEndL_eq C S.1.1.2.2.2.2.2 hn4 hp tp (by have := F.2.2.1; omega) hj h1 h2, fun σ M => ?_⟩
  obtain ⟨τ, a1, a2, a3, a4⟩ := mEndsL_eq M F.1 S.1 hp tp hm (by rw [F.2.2.2.1]; have := F.2.2.2.2.1; omega) F.2.2.2.2.2.2.1 (fun e => by
    rw [F.2.2.2.1]
    exact fc.2.2.2.2.2.1 (by rw [hm, e]; rfl)) (by have := F.2.2.1; omega) hj h1 h2
  rw [me, if_pos rfl] at a4
  rw [me] at a1
  exact ⟨τ, a1, a4, a2, a3⟩
theorem Gm_t {t t2 : Nat} {B : Bd} {E : List Ent} {dl : Option (Nat × Nat × Nat)} {m : Mem} {B0 : Bd} {D : List (Nat × Nat)} {hh L jk ml pn n wr : Nat} (S : GmS t B E dl m B0 D hh L jk ml pn n wr) (h : wr ≤ t2 ∧ E.length + wr ≤ t2 + tot (tjB B0)) : GmS t2 B E dl m B0 D hh L jk ml pn n wr := ⟨S.1, S.2.1, S.2.2.1, ⟨S.2.2.2.1.1, S.2.2.2.1.2.1, h, S.2.2.2.1.2.2.2⟩, S.2.2.2.2⟩
theorem tot_lay {p : Nat} {B0 : Bd} (l : List Nat) : okB p B0 (mpL l) → tot (tjB (runB p B0 (mpL l))) = tot (tjB B0) + l.length := by
  refine snoc_ind (P := fun l => okB p B0 (mpL l) → tot (tjB (runB p B0 (mpL l))) = tot (tjB B0) + l.length) (fun _ => rfl) (fun l k ih ok => ?_) l
  rw [mpL_sn] at ok ⊢
  obtain ⟨ok1, v⟩ := okB_sn.mp ok
  have h := ih ok1
  rw [runB_sn, apB_0, List.length_append, List.length_singleton]
  rw [tot_tjB] at h ⊢
  have s := natSum_up (f := bT (runB p B0 (mpL l))) (x := bT (runB p B0 (mpL l)) k + 1) v.1
  show natSum (up1 (bT (runB p B0 (mpL l))) k (bT (runB p B0 (mpL l)) k + 1)) 52 + natSum (bJ (runB p B0 (mpL l))) 52 = _
  dsimp only at s
  omega
theorem laW_rep (l : List Nat) (k c : Nat) : laW (mpL (l ++ List.replicate c k)) = laW (mpL l) + c * (k % 13 + 1) := by
  induction c with
  | zero => rw [List.replicate_zero, List.append_nil, Nat.zero_mul]; rfl
  | succ c ih =>
    rw [List.replicate_succ', ← List.append_assoc, mpL_sn, laW_app, ih, Nat.succ_mul, Nat.add_assoc]
    rfl
theorem laW_plK (g : Nat → Nat) : ∀ n, laW (mpL (plK g n)) = natSum (fun k => g k * (k % 13 + 1)) n := by
  intro n
  induction n with
  | zero => rfl
  | succ n ih => rw [plK_s, laW_rep, ih]; rfl
theorem plF_acc {B : Bd} {m : Mem} {hh L p : Nat} (hL : L = 3 ∨ L = 4) (h13 : hh ≤ 13) {g : Nat → Nat} (h : plF B m hh L p = some g) : AccR L (tN (plLo B m p) (fun a c => g (13 * c + a))) hh := by
  cases hr : rsM true (plW m p) L hh (plLo B m p) (plEx B p) with
  | none => rw [plF_none hr] at h; cases h
  | some v =>
    obtain ⟨x, e1, e2, e3, e4⟩ := plF_some hL h13 hr
    rw [e1] at h
    cases h
    refine AccR_congr (fun a ha c _ => ?_) e3
    unfold tN
    show _ = plLo B m p (13 * c + a) + kv (cutX hh x) (13 * c + a)
    rw [kv_at (m := a) (cutX hh x) (by omega) c, cutX_lt ha]
theorem tjB_lay {B0 : Bd} {p : Nat} {l : List Nat} (ok : okB p B0 (mpL l)) {k : Nat} (hk : k < 52) : tjB (runB p B0 (mpL l)) k = tjB B0 k + lcB (mpL l) k := by
  unfold tjB
  rw [if_pos hk, if_pos hk]
  exact runB_TJ (mpL l) ok (fun d hd => by
    obtain ⟨j, -, rfl⟩ := List.mem_map.mp hd
    exact (show (0 : Nat) ≠ 3 by decide)) k
theorem meB_mk {B : Bd} {mel : Bool} {ml L hh : Nat} (h1 : bD B ≠ []) (h2 : bF B = 0) (h3 : mel = false → ml ≤ laW (bD B) ∧ accB L hh (tN (lcB (bD B)) xZ) = true) (h4 : accB L hh (tN (tjB B) xZ) = true) : meB B mel ml L hh = true := by
  unfold meB
  have e1 : (bD B).isEmpty = false := by
    cases h : bD B with
    | nil => exact absurd h h1
    | cons d D => rfl
  rw [e1, h2, h4]
  cases mel with
  | true => rfl
  | false =>
    obtain ⟨a, b⟩ := h3 rfl
    rw [b, decide_eq_true a]
    rfl
theorem meB_plan {B0 : Bd} {m : Mem} {hh L jk ml p n : Nat} {g : Nat → Nat} {mel : Bool} (H : PlP B0 hh p n g) (b : BoI B0 hh L jk n) (hL : L = 3 ∨ L = 4) (h13 : hh ≤ 13) (hf : plF B0 m hh L p = some g) (hm : m 72 p = if mel then 1 else 0) (h1 : 1 ≤ ctK g) (hw : mel = false → ml ≤ wtK g) : meB (runB p B0 (mpL (plL g))) mel ml L hh = true := by
  have ok := pre_ok H (plL g) [] (List.append_nil _).symm
  have hD : bD (runB p B0 (mpL (plL g))) = mpL (plL g) := by rw [runB_D, H.1.2.1]; rfl
  have hcn : ∀ k, k < 52 → lcB (mpL (plL g)) k = g k := fun k hk => by
    have e := lcB_plK g k 52
    rw [if_pos hk] at e
    exact e
  have acc := plF_acc hL h13 hf
  refine meB_mk ?_ ?_ (fun e => ?_) (accB_iff.mpr ?_)
  · rw [hD]
    intro e
    have := congrArg List.length e
    unfold mpL at this
    rw [List.length_map, plL_len] at this
    simp at this
    omega
  · have := runB_nF (mpL (plL g)) ok (fun d hd => by
      obtain ⟨j, -, rfl⟩ := List.mem_map.mp hd
      exact (show (0 : Nat) ≠ 3 by decide))
    rw [H.1.2.2] at this
    omega
  · rw [hD]
    refine ⟨?_, accB_iff.mpr (AccR_congr (fun a ha c hc => ?_) acc)⟩
    · have := laW_plK g 52
      rw [show laW (mpL (plL g)) = wtK g from this]
      exact hw e
    · have e0 : m 72 p = 0 := by rw [hm, e]; rfl
      unfold tN plLo xZ
      rw [if_pos e0, hcn _ (by omega), Nat.zero_add, Nat.add_zero]
  · cases mel with
    | true =>
      have e1 : ¬ m 72 p = 0 := by rw [hm]; decide
      refine AccR_congr (fun a ha c hc => ?_) acc
      unfold tN plLo xZ
      rw [if_neg e1, tjB_lay ok (by omega), hcn _ (by omega), Nat.add_zero]
    | false =>
      have e0 : m 72 p = 0 := hm
      refine AccR_congr (fun a ha c hc => ?_) (AccR_add hL (fun a ha c hc => ?_) (accB_iff.mp b.2.2) acc)
      · unfold tN plLo xZ
        dsimp only
        rw [if_pos e0, tjB_lay ok (by omega), hcn _ (by omega)]
        omega
      · unfold tN plLo xZ
        rw [if_pos e0]
        show tjB B0 (13 * c + a) + 0 + (0 + g (13 * c + a)) ≤ 2
        have h2 := (H.2.2.2.1 (13 * c + a) (by omega)).1
        have h3 := plS_le H.1.1 m p (13 * c + a)
        unfold plEx at h2
        rw [if_pos (by omega)] at h2
        have h4 := tjB_le H.1.1 (13 * c + a)
        omega
theorem mLaysAll_eq {σ : rS} {E : List Ent} {m : Mem} {l : Nat → Int64} {hh p n : Nat} {B0 : Bd} {g : Nat → Nat} (H : PlP B0 hh p n g) (M : MI σ B0 E m l) (h109 : ∀ k, k < 52 → rI σ 109 k = nI (g k)) (tp : m 67 24 = nI p) (hE : E.length + 24 ≤ 20000) {B' : Bd} {E' : List Ent} {m' : Mem} (hend : ∀ τ, MI τ (runB p B0 (mpL (plL g))) (E ++ meL p (plL g)) m l → ∃ υ, f_X11_endsByLaying τ = some (1, υ) ∧ MI υ B' E' m' l ∧ FrRf τ υ ∧ rI υ 67 0 = rI τ 67 0) : ∃ υ, f_X11_laysAll σ = some (nI (ctK g), υ) ∧ MI υ B' E' m' l ∧ FrRf σ υ ∧ rI υ 67 0 = rI σ 67 0 := by
  obtain ⟨x, b1, b2⟩ := oL_ix (body := b_X11_laysAll_4) (fun k s => s.1 = nI (natSum g k) ∧ s.2.1 = nI k ∧ MI s.2.2 (runB p B0 (mpL (plK g k))) (E ++ meL p (plK g k)) m l ∧ FrX WBE σ s.2.2) (N := 52) (fun x => ∃ υ, x = (nI (ctK g), υ) ∧ MI υ B' E' m' l ∧ FrRf σ υ ∧ rI υ 67 0 = rI σ 67 0) (by
      intro k s hk ⟨e0, e, A, Fr⟩
      obtain ⟨s0, s1, σ'⟩ := s
      dsimp only at e0 e A Fr
      subst e0 e
      obtain ⟨τ, c1, c2, c3⟩ := mLays_in (σ0 := σ') (q := natSum g k) H hk A (fun j hj => (Fr.2.2.2.2 109 j (by omega)).trans (h109 j hj)) tp hE
      refine ⟨(nI (natSum g (k + 1)), nI (k + 1), τ), ?_, rfl, rfl, c2, Fr.tr c3⟩
      unfold b_X11_laysAll_4
      dsimp only
      rw [if_neg (show ¬ (52 : Int32) ≤ nI k from fun z => by have := (nI_leI (a := 52) (by omega) (by omega)).mp z; omega), c1])
    (by
      intro s ⟨e0, e, A, Fr⟩
      obtain ⟨s0, s1, σ'⟩ := s
      dsimp only at e0 e A Fr
      subst e0 e
      obtain ⟨υ, d1, d2, d3, d4⟩ := hend σ' A
      exact ⟨_, by unfold b_X11_laysAll_4; dsimp only; rw [if_pos (show (52 : Int32) ≤ nI 52 by decide), d1, oB_some]; rfl, υ, rfl, d2, (FrRf_X Fr fun x j w => by omega).tr d3, d4.trans (Fr.2.2.2.2 67 0 (by omega))⟩)
    (n := oFuel) (by rw [oFuel_eq]; decide) (s := (0, 0, σ)) ⟨rfl, rfl, by
      show MI σ B0 (E ++ []) m l
      rw [List.append_nil]
      exact M, FrX.rf _ σ⟩
  obtain ⟨υ, rfl, A⟩ := b2
  exact ⟨υ, b1, A⟩
