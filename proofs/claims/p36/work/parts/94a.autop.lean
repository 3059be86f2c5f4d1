/-! a plan laid: what is laid, tile by tile -/
def mpL (l : List Nat) : List (Nat × Nat) := l.map fun k => (0, k)
def meL (p : Nat) (l : List Nat) : List Ent := l.map fun k => (1, p, k + 1, 0)
theorem mpL_sn (l : List Nat) (k : Nat) : mpL (l ++ [k]) = mpL l ++ [(0, k)] := by
  unfold mpL
  rw [List.map_append]
  rfl
theorem meL_sn (p : Nat) (l : List Nat) (k : Nat) : meL p (l ++ [k]) = meL p l ++ [(1, p, k + 1, 0)] := by
  unfold meL
  rw [List.map_append]
  rfl
theorem lcB_sn (l : List (Nat × Nat)) (d : Nat × Nat) (j : Nat) : lcB (l ++ [d]) j = lcB l j + if d.2 = j then 1 else 0 := by
  rw [lcB_app]
  rfl
theorem lcB_rep (k c j : Nat) : lcB (mpL (List.replicate c k)) j = if k = j then c else 0 := by
  induction c with
  | zero => by_cases h : k = j <;> simp [mpL, lcB]
  | succ c ih =>
    rw [List.replicate_succ', mpL_sn, lcB_sn, ih]
    by_cases h : k = j
    · rw [if_pos h, if_pos h, if_pos h]
    · rw [if_neg h, if_neg h, if_neg h]
theorem mpL_app (l r : List Nat) : mpL (l ++ r) = mpL l ++ mpL r := by
  unfold mpL
  rw [List.map_append]
theorem lcB_plK (g : Nat → Nat) (j : Nat) : ∀ n, lcB (mpL (plK g n)) j = if j < n then g j else 0 := by
  intro n
  induction n with
  | zero => rfl
  | succ n ih =>
    rw [plK_s, mpL_app, lcB_app, ih, lcB_rep]
    by_cases h : n = j
    · subst h
      rw [if_neg (Nat.lt_irrefl n), if_pos rfl, if_pos (Nat.lt_succ_self n), Nat.zero_add]
    · rw [if_neg h, Nat.add_zero]
      by_cases h2 : j < n
      · rw [if_pos h2, if_pos (by omega)]
      · rw [if_neg h2, if_neg (by omega)]
theorem runB_R0 {p : Nat} (hp : p < 4) : ∀ (l : List (Nat × Nat)) (B : Bd), okB p B l → (∀ d ∈ l, d.1 = 0) → ∀ k, k < 53 → bR (runB p B l) (53 * p + k) + lcB l k = bR B (53 * p + k) := by
  intro l
  induction l with
  | nil => exact fun B _ _ k _ => rfl
  | cons d l ih =>
    intro B ok h k hk
    have h1 := ih (apB p B d) ok.2 (fun x hx => h x (List.mem_cons_of_mem _ hx)) k hk
    have h0 := h d List.mem_cons_self
    obtain ⟨t, j⟩ := d
    dsimp only at h0
    subst h0
    have v := ok.1
    obtain ⟨v1, -, -, v3⟩ := v
    dsimp only at v1 v3
    rw [apB_0] at h1
    have e : bR ((bP B, up1 (bR B) (53 * p + j) (bR B (53 * p + j) - 1), up1 (bT B) j (bT B j + 1), bJ B, bD B ++ [(0, j)], bF B, bX B) : Bd) (53 * p + k) = up1 (bR B) (53 * p + j) (bR B (53 * p + j) - 1) (53 * p + k) := rfl
    rw [e, up1_at] at h1
    show bR (runB p (apB p B (0, j)) l) (53 * p + k) + ((if j = k then 1 else 0) + lcB l k) = _
    rw [apB_0]
    by_cases c : j = k
    · subst c
      rw [if_pos rfl] at h1
      rw [if_pos rfl]
      have hge : 1 ≤ bR B (53 * p + j) := by
        rcases v3 with ⟨-, a, -⟩ | ⟨e, -⟩ | ⟨e, -⟩ | ⟨e, -⟩
        · exact a
        all_goals exact absurd e (by decide)
      omega
    · rw [if_neg (by omega)] at h1
      rw [if_neg c]
      omega
/-- a plan that may be laid -/
def PlP (B0 : Bd) (hh p n : Nat) (g : Nat → Nat) : Prop := RsB B0 ∧ p < n ∧ n ≤ 4 ∧ PlK B0 hh p g
theorem pl_mem {g : Nat → Nat} {k : Nat} (h : k ∈ plL g) : k < 52 ∧ 1 ≤ g k := by
  unfold plL at h
  obtain ⟨j, h1, h2⟩ := List.mem_flatMap.mp h
  obtain ⟨h3, rfl⟩ := List.mem_replicate.mp h2
  exact ⟨List.mem_range.mp h1, by omega⟩
theorem pre_va {B0 : Bd} {hh p n : Nat} {g : Nat → Nat} (H : PlP B0 hh p n g) {l r : List Nat} {k : Nat} (he : plL g = l ++ k :: r) (ok : okB p B0 (mpL l)) : vaB p (runB p B0 (mpL l)) (0, k) ∧ k % 13 < hh := by
  obtain ⟨⟨o, h0, hF⟩, hp, hn4, hg, hc⟩ := H
  have hk := pl_mem (g := g) (k := k) (by rw [he]; exact List.mem_append_right _ List.mem_cons_self)
  obtain ⟨g1, g2⟩ := hg k hk.1
  have hcnt : lcB (mpL l) k + 1 ≤ g k := by
    have e := lcB_plK g k 52
    rw [if_pos hk.1] at e
    have e2 : lcB (mpL (plL g)) k = g k := e
    rw [he, mpL_app, lcB_app] at e2
    have e3 : lcB (mpL (k :: r)) k = 1 + lcB (mpL r) k := by
      show (if k = k then 1 else 0) + lcB (mpL r) k = _
      rw [if_pos rfl]
    omega
  have hl : l.length < 24 := by
    have := plL_len g
    rw [he, List.length_append, List.length_cons] at this
    omega
  have hx : g k ≤ min (2 - tjB B0 k) (bR B0 (53 * p + k)) := by
    have := g1
    unfold plEx at this
    rw [if_pos hk.1] at this
    exact this
  have hT := runB_TJ (mpL l) ok (fun d hd => by
    obtain ⟨j, -, rfl⟩ := List.mem_map.mp hd
    exact (show (0 : Nat) ≠ 3 by decide)) k
  have hR := runB_R0 (by omega) (mpL l) B0 ok (fun d hd => by
    obtain ⟨j, -, rfl⟩ := List.mem_map.mp hd
    rfl) k (by omega)
  have etj : tjB B0 k = bT B0 k + bJ B0 k := if_pos hk.1
  refine ⟨⟨hk.1, by omega, ?_, Or.inl ⟨rfl, ?_, ?_⟩⟩, ?_⟩
  · rw [runB_D, h0, List.nil_append]
    unfold mpL
    rw [List.length_map]
    omega
  · dsimp only
    omega
  · dsimp only
    omega
  · exact Classical.byContradiction fun z => by
      have := g2 (by omega)
      omega
theorem pre_ok {B0 : Bd} {hh p n : Nat} {g : Nat → Nat} (H : PlP B0 hh p n g) (l : List Nat) : ∀ r, plL g = l ++ r → okB p B0 (mpL l) := by
  refine snoc_ind (P := fun l => ∀ r, plL g = l ++ r → okB p B0 (mpL l)) (fun _ _ => trivial) (fun l k ih r he => ?_) l
  have he' : plL g = l ++ k :: r := by rw [he, List.append_assoc]; rfl
  have ok := ih _ he'
  rw [mpL_sn, okB_sn]
  exact ⟨ok, (pre_va H he' ok).1⟩
theorem Gm_lays {t : Nat} {E : List Ent} {dl : Option (Nat × Nat × Nat)} {m : Mem} {B0 : Bd} {hh L jk ml pn n wr p : Nat} {g : Nat → Nat} (H : PlP B0 hh p n g) (S : GmS t B0 E dl m B0 [] hh L jk ml pn n wr) (tp : m 67 24 = nI p) (l : List Nat) : ∀ r, plL g = l ++ r → GmS (t + l.length) (runB p B0 (mpL l)) (E ++ meL p l) dl m B0 (mpL l) hh L jk ml pn n wr := by
  refine snoc_ind (P := fun l => ∀ r, plL g = l ++ r → GmS (t + l.length) (runB p B0 (mpL l)) (E ++ meL p l) dl m B0 (mpL l) hh L jk ml pn n wr) (fun r _ => ?_) (fun l k ih r he => ?_) l
  · show GmS t B0 (E ++ []) dl m B0 [] hh L jk ml pn n wr
    rw [List.append_nil]
    exact S
  · have he' : plL g = l ++ k :: r := by rw [he, List.append_assoc]; rfl
    obtain ⟨v, hk⟩ := pre_va H he' (pre_ok H l _ he')
    have S1 := Gm_add (s := 1) (ih _ he') H.2.1 tp v hk (fun _ => by dsimp only; omega) (Or.inl ⟨rfl, rfl⟩)
    rw [mpL_sn, runB_sn, meL_sn, ← List.append_assoc, List.length_append, List.length_singleton, ← Nat.add_assoc]
    exact S1
/-- the class lays a plan -/
theorem cLays_eq {σ : rS} {E : List Ent} {dl : Option (Nat × Nat × Nat)} {m : Mem} {l : Nat → Int64} {ch hh p n : Nat} {B0 : Bd} {g : Nat → Nat} (H : PlP B0 hh p n g) (C : CI σ B0 E dl m l ch) (G : PlG σ (some g)) (tp : m 67 24 = nI p) (hE : E.length + 24 < 1024) : ∃ τ c2, oLoop b_X10_autoByPlan_27 oFuel (0, σ) = some (.inr τ) ∧ CI τ (runB p B0 (mpL (plL g))) (E ++ meL p (plL g)) dl m l c2 ∧ ch ≤ c2 ∧ c2 ≤ ch + 72 ∧ FrX WL σ τ := by
  have hlen := plL_len g
  have hc := H.2.2.2.2
  obtain ⟨x, b1, b2⟩ := oL_ix (body := b_X10_autoByPlan_27) (fun i s => ∃ c, s.1 = nI i ∧ CI s.2 (runB p B0 (mpL ((plL g).take i))) (E ++ meL p ((plL g).take i)) dl m l c ∧ ch ≤ c ∧ c ≤ ch + 3 * i ∧ FrX WL σ s.2) (N := ctK g) (fun x => ∃ τ c2, x = .inr τ ∧ CI τ (runB p B0 (mpL (plL g))) (E ++ meL p (plL g)) dl m l c2 ∧ ch ≤ c2 ∧ c2 ≤ ch + 72 ∧ FrX WL σ τ) (by
      intro i s hi ⟨c, e, A, l1, l2, Fr⟩
      obtain ⟨s1, σ'⟩ := s
      dsimp only at e A Fr
      subst e
      have G' := PlG_fr G (fun j => Fr.2.2.2.2 65 j (by omega)) fun j => Fr.2.2.2.2 66 j (by omega)
      obtain ⟨k, hk⟩ : ∃ k, (plL g)[i]? = some k := ⟨(plL g)[i]'(by omega), List.getElem?_eq_getElem _⟩
      have he : plL g = (plL g).take i ++ k :: (plL g).drop (i + 1) := by
        have h1 := (List.take_append_drop i (plL g)).symm
        rw [List.drop_eq_getElem_cons (by omega)] at h1
        have h2 : (plL g)[i]'(by omega) = k := by
          rw [List.getElem?_eq_getElem (by omega)] at hk
          exact Option.some.inj hk
        rw [h2] at h1
        exact h1
      obtain ⟨v, -⟩ := pre_va H he (pre_ok H _ _ he)
      have lt : ((plL g).take i).length = i := by rw [List.length_take]; omega
      obtain ⟨τ, c', d1, d2, d3, d4, d5⟩ := cLayT_eq A tp v (by unfold meL; rw [List.length_append, List.length_map, lt]; omega)
      have ek : v_X4_kindAt σ' (nI i) = nI k := by
        rw [kindAt_eq G' (fun g' h => by cases h; exact hc) (by omega)]
        unfold plO plV
        dsimp only
        rw [hk]
      have et : (plL g).take (i + 1) = (plL g).take i ++ [k] := take_snoc hk
      refine ⟨(nI (i + 1), τ), ?_, c + c', rfl, ?_, by omega, by omega, Fr.tr d5⟩
      · unfold b_X10_autoByPlan_27
        dsimp only
        rw [G'.2.1, if_neg (show ¬ nI (ctK g) ≤ nI i from fun z => by have := (nI_leI (by omega) (by omega)).mp z; omega), ek, d1, oB_some, nI_1]
      · rw [et, mpL_sn, runB_sn, meL_sn, ← List.append_assoc]
        exact d2)
    (by
      intro s ⟨c, e, A, l1, l2, Fr⟩
      obtain ⟨s1, σ'⟩ := s
      dsimp only at e A Fr
      subst e
      have G' := PlG_fr G (fun j => Fr.2.2.2.2 65 j (by omega)) fun j => Fr.2.2.2.2 66 j (by omega)
      rw [← hlen, List.take_length] at A
      exact ⟨_, by unfold b_X10_autoByPlan_27; dsimp only; rw [G'.2.1, if_pos (show nI (ctK g) ≤ nI (ctK g) from (nI_leI (by omega) (by omega)).mpr (Nat.le_refl _))], σ', c, rfl, A, l1, by omega, Fr⟩)
    (n := oFuel) (by rw [oFuel_eq]; omega) (s := (0, σ)) ⟨ch, rfl, by
      show CI σ (runB p B0 (mpL [])) (E ++ meL p []) dl m l ch
      show CI σ B0 (E ++ []) dl m l ch
      rw [List.append_nil]
      exact C, by omega, by omega, FrX.rf _ σ⟩
  obtain ⟨τ, c2, rfl, A⟩ := b2
  exact ⟨τ, c2, b1, A⟩
theorem plK_pre (g : Nat → Nat) (n : Nat) (h : n ≤ 52) : ∃ d, plL g = plK g n ++ d := by
  have key : ∀ e, ∃ d, plK g (n + e) = plK g n ++ d := by
    intro e
    induction e with
    | zero => exact ⟨[], (List.append_nil _).symm⟩
    | succ e ih =>
      obtain ⟨d, hd⟩ := ih
      exact ⟨d ++ List.replicate (g (n + e)) (n + e), by rw [← Nat.add_assoc, plK_s, hd, List.append_assoc]⟩
  obtain ⟨d, hd⟩ := key (52 - n)
  rw [show n + (52 - n) = 52 by omega] at hd
  exact ⟨d, hd⟩
