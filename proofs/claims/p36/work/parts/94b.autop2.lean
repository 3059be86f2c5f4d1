/-! a plan laid and the turn ended; one tile alone laid and the turn ended -/
theorem Gm_t {t t2 : Nat} {B : Bd} {E : List Ent} {dl : Option (Nat × Nat × Nat)} {m : Mem} {B0 : Bd} {D : List (Nat × Nat)} {hh L jk ml pn n wr : Nat} (S : GmS t B E dl m B0 D hh L jk ml pn n wr) (h : wr ≤ t2 ∧ E.length + wr ≤ t2 + tot (tjB B0)) : GmS t2 B E dl m B0 D hh L jk ml pn n wr := ⟨S.1, S.2.1, S.2.2.1, ⟨S.2.2.2.1.1, S.2.2.2.1.2.1, h, S.2.2.2.1.2.2.2⟩, S.2.2.2.2⟩
theorem tot_lay {p : Nat} {B0 : Bd} (l : List Nat) : okB p B0 (mpL l) → tot (tjB (runB p B0 (mpL l))) = tot (tjB B0) + l.length := by
  refine snoc_ind (P := fun l => okB p B0 (mpL l) → tot (tjB (runB p B0 (mpL l))) = tot (tjB B0) + l.length) (fun _ => rfl) (fun l k ih ok => ?_) l
  rw [mpL_sn] at ok ⊢
  obtain ⟨ok1, v⟩ := okB_sn.mp ok
  have h := ih ok1
  rw [runB_sn, apB_0, List.length_append, List.length_singleton]
  rw [tot_tjB] at h ⊢
  have s := natSum_up (f := bT (runB p B0 (mpL l))) (x := bT (runB p B0 (mpL l)) k + 1) v.1
  show natSum (up1 (bT (runB p B0 (mpL l))) k (bT (runB p B0 (mpL l)) k + 1)) 52 + natSum (bJ (runB p B0 (mpL l))) 52 = _
  dsimp only at s
  omega
theorem laW_rep (l : List Nat) (k c : Nat) : laW (mpL (l ++ List.replicate c k)) = laW (mpL l) + c * (k % 13 + 1) := by
  induction c with
  | zero => rw [List.replicate_zero, List.append_nil, Nat.zero_mul]; rfl
  | succ c ih =>
    rw [List.replicate_succ', ← List.append_assoc, mpL_sn, laW_app, ih, Nat.succ_mul, Nat.add_assoc]
    rfl
theorem laW_plK (g : Nat → Nat) : ∀ n, laW (mpL (plK g n)) = natSum (fun k => g k * (k % 13 + 1)) n := by
  intro n
  induction n with
  | zero => rfl
  | succ n ih => rw [plK_s, laW_rep, ih]; rfl
theorem plF_acc {B : Bd} {m : Mem} {hh L p : Nat} (hL : L = 3 ∨ L = 4) (h13 : hh ≤ 13) {g : Nat → Nat} (h : plF B m hh L p = some g) : AccR L (tN (plLo B m p) (fun a c => g (13 * c + a))) hh := by
  cases hr : rsM true (plW m p) L hh (plLo B m p) (plEx B p) with
  | none => rw [plF_none hr] at h; cases h
  | some v =>
    obtain ⟨x, e1, e2, e3, e4⟩ := plF_some hL h13 hr
    rw [e1] at h
    cases h
    refine AccR_congr (fun a ha c _ => ?_) e3
    unfold tN
    show _ = plLo B m p (13 * c + a) + kv (cutX hh x) (13 * c + a)
    rw [kv_at (m := a) (cutX hh x) (by omega) c, cutX_lt ha]
theorem tjB_lay {B0 : Bd} {p : Nat} {l : List Nat} (ok : okB p B0 (mpL l)) {k : Nat} (hk : k < 52) : tjB (runB p B0 (mpL l)) k = tjB B0 k + lcB (mpL l) k := by
  unfold tjB
  rw [if_pos hk, if_pos hk]
  exact runB_TJ (mpL l) ok (fun d hd => by
    obtain ⟨j, -, rfl⟩ := List.mem_map.mp hd
    exact (show (0 : Nat) ≠ 3 by decide)) k
theorem meB_mk {B : Bd} {mel : Bool} {ml L hh : Nat} (h1 : bD B ≠ []) (h2 : bF B = 0) (h3 : mel = false → ml ≤ laW (bD B) ∧ accB L hh (tN (lcB (bD B)) xZ) = true) (h4 : accB L hh (tN (tjB B) xZ) = true) : meB B mel ml L hh = true := by
  unfold meB
  have e1 : (bD B).isEmpty = false := by
    cases h : bD B with
    | nil => exact absurd h h1
    | cons d D => rfl
  rw [e1, h2, h4]
  cases mel with
  | true => rfl
  | false =>
    obtain ⟨a, b⟩ := h3 rfl
    rw [b, decide_eq_true a]
    rfl
theorem meB_plan {B0 : Bd} {m : Mem} {hh L jk ml p n : Nat} {g : Nat → Nat} {mel : Bool} (H : PlP B0 hh p n g) (b : BoI B0 hh L jk n) (hL : L = 3 ∨ L = 4) (h13 : hh ≤ 13) (hf : plF B0 m hh L p = some g) (hm : m 72 p = if mel then 1 else 0) (h1 : 1 ≤ ctK g) (hw : mel = false → ml ≤ wtK g) : meB (runB p B0 (mpL (plL g))) mel ml L hh = true := by
  have ok := pre_ok H (plL g) [] (List.append_nil _).symm
  have hD : bD (runB p B0 (mpL (plL g))) = mpL (plL g) := by rw [runB_D, H.1.2.1]; rfl
  have hcn : ∀ k, k < 52 → lcB (mpL (plL g)) k = g k := fun k hk => by
    have e := lcB_plK g k 52
    rw [if_pos hk] at e
    exact e
  have acc := plF_acc hL h13 hf
  refine meB_mk ?_ ?_ (fun e => ?_) (accB_iff.mpr ?_)
  · rw [hD]
    intro e
    have := congrArg List.length e
    unfold mpL at this
    rw [List.length_map, plL_len] at this
    simp at this
    omega
  · have := runB_nF (mpL (plL g)) ok (fun d hd => by
      obtain ⟨j, -, rfl⟩ := List.mem_map.mp hd
      exact (show (0 : Nat) ≠ 3 by decide))
    rw [H.1.2.2] at this
    omega
  · rw [hD]
    refine ⟨?_, accB_iff.mpr (AccR_congr (fun a ha c hc => ?_) acc)⟩
    · have := laW_plK g 52
      rw [show laW (mpL (plL g)) = wtK g from this]
      exact hw e
    · have e0 : m 72 p = 0 := by rw [hm, e]; rfl
      unfold tN plLo xZ
      rw [if_pos e0, hcn _ (by omega), Nat.zero_add, Nat.add_zero]
  · cases mel with
    | true =>
      have e1 : ¬ m 72 p = 0 := by rw [hm]; decide
      refine AccR_congr (fun a ha c hc => ?_) acc
      unfold tN plLo xZ
      rw [if_neg e1, tjB_lay ok (by omega), hcn _ (by omega), Nat.add_zero]
    | false =>
      have e0 : m 72 p = 0 := hm
      refine AccR_congr (fun a ha c hc => ?_) (AccR_add hL (fun a ha c hc => ?_) (accB_iff.mp b.2.2) acc)
      · unfold tN plLo xZ
        dsimp only
        rw [if_pos e0, tjB_lay ok (by omega), hcn _ (by omega)]
        omega
      · unfold tN plLo xZ
        rw [if_pos e0]
        show tjB B0 (13 * c + a) + 0 + (0 + g (13 * c + a)) ≤ 2
        have h2 := (H.2.2.2.1 (13 * c + a) (by omega)).1
        have h3 := plS_le H.1.1 m p (13 * c + a)
        unfold plEx at h2
        rw [if_pos (by omega)] at h2
        have h4 := tjB_le H.1.1 (13 * c + a)
        omega
