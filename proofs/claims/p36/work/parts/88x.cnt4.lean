/-! counting: class and reference count alike -/
theorem sm_some {α : Type} {f : α → Option N3} {l : List α} (h : sm m2 f l ≠ none) : ∃ a ∈ l, f a ≠ none := by
  apply Classical.byContradiction
  intro q
  exact h (sm_allnone fun a ha => Classical.byContradiction fun z => q ⟨a, ha, z⟩)
theorem colP_congr {st : Nat → Nat → List Nat} {r q : Nat → Nat} {m d s e : Nat} (h : ∀ j, m ≤ j → j < m + d → r j = q j) (g : colP st r m d s e) : colP st q m d s e := by
  induction d generalizing m s with
  | zero => exact g
  | succ d ih =>
    obtain ⟨s', g1, g2⟩ := g
    refine ⟨s', ?_, ih (fun j a b => h j (by omega) (by omega)) g2⟩
    rw [← h m (Nat.le_refl _) (by omega)]
    exact g1
theorem FR_way {L : Nat} (hL : L = 3 ∨ L = 4) {bs : Nat → Nat} {d n : Nat} {p : Nat × N3} (h : FR L bs d n p ≠ none) : ∃ r : Nat → Nat → Nat, (∀ c m, c < 4 → n ≤ m → m < n + d → r c m ≤ bs (13 * c + m)) ∧ ∀ c, c < 4 → ∃ s, colP (rfT L) (r c) n d (nib p.1 c) s ∧ dnM L s = true := by
  induction d generalizing n p with
  | zero =>
    simp only [FR] at h
    split at h
    · rename_i hd
      exact ⟨fun _ _ => 0, fun c m _ _ hm => by omega, fun c hc => ⟨nib p.1 c, rfl, doneM_iff.mp hd c hc⟩⟩
    · exact absurd rfl h
  | succ d ih =>
    obtain ⟨q, hq, hne⟩ := sm_some h
    obtain ⟨g, hg, hq⟩ := List.mem_flatMap.mp hq
    unfold rgC at hq
    split at hq
    · rename_i hf
      obtain ⟨o, ho, rfl⟩ := List.mem_map.mp hq
      obtain ⟨o0, h0, o1, h1, o2, h2, o3, h3, rfl⟩ := emM_mem.mp ho
      obtain ⟨r, r1, r2⟩ := ih hne
      dsimp only at r2
      rw [fiM_iff] at hf
      refine ⟨fun c => upx (r c) n (ruM (fun c => bs (13 * c + n)) (fun _ => 0) (usG g) c), fun c m hc hm1 hm2 => ?_, ?_⟩
      · by_cases e : m = n
        · subst e
          dsimp only
          rw [upx_s]
          unfold ruM
          dsimp only
          omega
        · dsimp only
          unfold upx
          rw [if_neg e]
          exact r1 c m hc (by omega) (by omega)
      · have stp : ∀ c, c < 4 → ∀ t, t ∈ rfT L (nib p.1 c) (ruM (fun c => bs (13 * c + n)) (fun _ => 0) (usG g) c) → (∃ s, colP (rfT L) (r c) (n + 1) d t s ∧ dnM L s = true) → ∃ s, colP (rfT L) (upx (r c) n (ruM (fun c => bs (13 * c + n)) (fun _ => 0) (usG g) c)) n (d + 1) (nib p.1 c) s ∧ dnM L s = true := fun c _ t ht ⟨s, a, b⟩ => ⟨s, ⟨t, by rw [upx_s]; exact ht, colP_congr (fun j hj _ => by unfold upx; rw [if_neg (by omega)]) a⟩, b⟩
        obtain ⟨k1, k2, k3, k4, k5⟩ := nib_pk (optsM_lt hL o0 h0) (optsM_lt hL o1 h1) (optsM_lt hL o2 h2) (optsM_lt hL o3 h3)
        refine c4 ?_ ?_ ?_ ?_
        · exact stp 0 (by decide) o0.1 (List.mem_map_of_mem h0) (by have := r2 0 (by decide); rw [k2] at this; exact this)
        · exact stp 1 (by decide) o1.1 (List.mem_map_of_mem h1) (by have := r2 1 (by decide); rw [k3] at this; exact this)
        · exact stp 2 (by decide) o2.1 (List.mem_map_of_mem h2) (by have := r2 2 (by decide); rw [k4] at this; exact this)
        · exact stp 3 (by decide) o3.1 (List.mem_map_of_mem h3) (by have := r2 3 (by decide); rw [k5] at this; exact this)
    · exact absurd hq (by simp)
theorem ap_of {L q r s : Nat} (hL : L = 3 ∨ L = 4) (hq : q < 16) (hv : valC L q = true) (hr : r ≤ 2) (h : s ∈ rfT L (kap q) r) : ∃ t ∈ clT L 2 q r, kap t = s ∧ valC L t = true := by
  obtain ⟨o, ho, rfl⟩ := List.mem_map.mp h
  obtain ⟨f1, f2⟩ := fzv L (in01 hL) q (in16 hq) hv r (in3 hr)
  rw [f2] at ho
  obtain ⟨z, hz, ho⟩ := List.mem_flatMap.mp ho
  have := (List.mem_replicate.mp ho).2
  exact ⟨nb z, List.mem_map_of_mem hz, by rw [this], f1 z hz⟩
theorem ap_way {L : Nat} (hL : L = 3 ∨ L = 4) {r : Nat → Nat} {m d q s : Nat} (hr : ∀ j, m ≤ j → j < m + d → r j ≤ 2) (hq : q < 16) (hv : valC L q = true) (h : colP (rfT L) r m d (kap q) s) : ∃ t, colP (clT L 2) r m d q t ∧ kap t = s ∧ valC L t = true ∧ t < 16 := by
  induction d generalizing m q with
  | zero => exact ⟨q, rfl, (show s = kap q from h).symm, hv, hq⟩
  | succ d ih =>
    obtain ⟨s', h1, h2⟩ := h
    obtain ⟨t, t1, t2, t3⟩ := ap_of hL hq hv (hr m (Nat.le_refl _) (by omega)) h1
    rw [← t2] at h2
    obtain ⟨e, e1, e2⟩ := ih (fun j a b => hr j (by omega) (by omega)) (clT_lt t1) t3 h2
    exact ⟨e, ⟨t, t1, e1⟩, e2⟩
theorem fdn : ∀ L ∈ [3, 4], ∀ d ∈ r16, valC L d = true → dnM L (kap d) = true → 0 ∈ clT L 2 d 0 := by decide +kernel
theorem fcs0 : ∀ L ∈ [3, 4], ∀ d ∈ r16, valC L d = true → csW (tbM L 2) d 0 = if dnM L (kap d) then [16777216] else [] := by decide +kernel
theorem colP_app {st : Nat → Nat → List Nat} {r : Nat → Nat} {m a b s e f : Nat} (h : colP st r m a s e) (g : colP st r (m + a) b e f) : colP st r m (a + b) s f := by
  induction a generalizing m s with
  | zero =>
    have h : e = s := h
    subst h
    rw [Nat.zero_add]
    exact g
  | succ a ih =>
    obtain ⟨s', h1, h2⟩ := h
    rw [show a + 1 + b = (a + b) + 1 by omega]
    exact ⟨s', h1, ih h2 (by rw [show m + 1 + a = m + (a + 1) by omega]; exact g)⟩
theorem colP_take {st : Nat → Nat → List Nat} {r : Nat → Nat} {m a b s f : Nat} (h : colP st r m (a + b) s f) : ∃ e, colP st r m a s e := by
  induction b generalizing f with
  | zero => exact ⟨f, h⟩
  | succ b ih =>
    obtain ⟨e, he⟩ := colP_cut (d := a + b) h
    exact ih he
/-- what is not hopeful is worth nothing -/
theorem FR_dead {L hh d n : Nat} {lo : Nat → Nat} (hL : L = 3 ∨ L = 4) (h2 : ∀ k, lo k ≤ 2) (hnd : n + d = hh) {k : Nat} (hv : ∀ c, c < 4 → valC L (nib k c) = true) {w : N3} (h : FR L lo d n (kap4 k, w) ≠ none) : ∀ c, c < 4 → hoB (sHo L (loC lo hh n c) (loC lo hh (n + 1) c) (loC lo hh (n + 2) c)) (nib k c) = true := by
  obtain ⟨r, r1, r2⟩ := FR_way hL h
  intro c hc
  obtain ⟨s, s1, s2⟩ := r2 c hc
  dsimp only at s1
  rw [(nib_kap4 k).2 c hc] at s1
  obtain ⟨q, hq⟩ : ∃ q : Nat → Nat, q = fun j => if j < hh then r c j else 0 := ⟨_, rfl⟩
  have s3 : colP (rfT L) q n d (kap (nib k c)) s := colP_congr (fun j a b => by rw [hq]; dsimp only; rw [if_pos (by omega)]) s1
  have qle : ∀ j, n ≤ j → q j ≤ loC lo hh j c := fun j hj => by
    rw [hq]
    dsimp only
    by_cases e : j < hh
    · rw [if_pos e, loC_lt e]; exact r1 c j hc hj (by omega)
    · rw [if_neg e]; exact Nat.zero_le _
  have l2 : ∀ j, loC lo hh j c ≤ 2 := fun j => by
    have := lm_le (md := 1) (lo := lo) (hi := lo) (fun k => ⟨h2 k, h2 k, Nat.le_refl _⟩) hh j c
    omega
  obtain ⟨t, t1, t2, t3, t4⟩ := ap_way hL (fun j a _ => Nat.le_trans (qle j a) (l2 j)) (nib_lt k c) (hv c hc) s3
  have q0 : ∀ j, hh ≤ j → q j = 0 := fun j hj => by rw [hq]; dsimp only; rw [if_neg (by omega)]
  have e1 : 0 ∈ clT L 2 t (q (n + d)) := by rw [q0 _ (by omega)]; exact fdn L (in01 hL) t (in16 t4) t3 (by rw [t2]; exact s2)
  have z := f00 L (in01 hL) 2 (by simp)
  have e2 : colP (clT L 2) q (n + d) 3 t 0 := ⟨0, e1, 0, by rw [q0 _ (by omega)]; exact z, 0, by rw [q0 _ (by omega)]; exact z, rfl⟩
  have e3 := colP_app t1 e2
  rw [Nat.add_comm] at e3
  obtain ⟨e, he⟩ := colP_take e3
  exact hope_of (md := 2) hL (Or.inr rfl) (nib_lt k c) he (qle n (Nat.le_refl _)) (qle (n + 1) (by omega)) (qle (n + 2) (by omega)) (l2 _) (l2 _) (l2 _)
theorem sGL : ((List.range 21).map fun g => (gd g, setsG g)).Perm ((List.range 21).map fun g => (usG g, usN g)) := by decide +kernel
theorem moC2 (lo : Nat → Nat) (hh m c : Nat) : moC 2 lo lo hh m c = loC lo hh m c := by
  by_cases h : m < hh
  · rw [moC_lt h, loC_lt h, if_neg (by decide)]
  · rw [moC_ge (by omega), loC_ge (by omega)]
theorem ho0 : ∀ L ∈ [3, 4], hoB (sHo L 0 0 0) 0 = true := by decide +kernel
theorem fit0 : ∀ g, g < 21 → (fit4 (0, 0, 0, 0) (gd g) = true ↔ g = 0) := by decide +kernel
theorem FC_end {L hh : Nat} {lo : Nat → Nat} (hL : L = 3 ∨ L = 4) {k : Nat} (hv : ∀ c, c < 4 → valC L (nib k c) = true) {v : N3} (hv1 : v.1 < 1000000007) : FC L hh lo 1 hh (k, v) = FR L lo 0 hh (kap4 k, v) := by
  have h0 : loV lo hh hh = (0, 0, 0, 0) := v4_ext fun c hc => by
    unfold loV
    rw [at_lo4 lo hh hh c hc, at40 c hc, loC_ge (Nat.le_refl _)]
  have hop : ∀ c, opW 2 L lo lo hh (hh + 1) c = sHo L 0 0 0 := fun c => by
    unfold opW
    rw [if_neg (by decide)]
    have e : ∀ j, hh ≤ j → sMo 2 lo lo hh c (j + 1) = 0 := fun j hj => moC_ge (md := 2) hj
    rw [e (hh + 1) (by omega), e (hh + 2) (by omega), e (hh + 3) (by omega)]
  have hdn : ∀ c, c < 4 → ((csW (tbM L 2) (nib k c) 0).filter (opB (opW 2 L lo lo hh (hh + 1) c))) = if dnM L (kap (nib k c)) then [16777216] else [] := fun c hc => by
    rw [fcs0 L (in01 hL) _ (in16 (nib_lt k c)) (hv c hc), hop]
    split
    · have : opB (sHo L 0 0 0) 16777216 = true := by
        rw [opB_ho]
        exact ho0 L (in01 hL)
      rw [List.filter_cons, if_pos this]
      rfl
    · rfl
  show sm m2 (FC L hh lo 0 (hh + 1)) (clC L hh hh lo (k, v)) = _
  have e1 : clC L hh hh lo (k, v) = (emW (tbM L 2) (opW 2 L lo lo hh (hh + 1)) k (cd4 (0, 0, 0, 0))).map (fun e => (e.1, acN e.2 0 v)) := by
    unfold clC
    rw [show List.range 21 = 0 :: (List.range 20).map (· + 1) from rfl, List.flatMap_cons]
    have e2 : ((List.range 20).map (· + 1)).flatMap (fun g => cgC L hh hh lo (k, v) (gd g) (setsG g)) = [] := by
      rw [flatMap_map']
      refine (flatMap_congr' (g := fun _ => []) fun g hg => ?_).trans ?_
      · unfold cgC
        rw [h0, if_neg (fun q => by have := (fit0 (g + 1) (by have := List.mem_range.mp hg; omega)).mp q; omega)]
      · exact fm_nil (fun _ => rfl) _
    rw [e2, List.append_nil]
    unfold cgC
    rw [h0, if_pos ((fit0 0 (by decide)).mpr rfl)]
    rfl
  rw [e1, sm_emW _ (r := (0, 0, 0, 0)) ⟨Nat.zero_le _, Nat.zero_le _, Nat.zero_le _, Nat.zero_le _⟩]
  rw [show at4 (0, 0, 0, 0) 0 = 0 from rfl, show at4 (0, 0, 0, 0) 1 = 0 from rfl, show at4 (0, 0, 0, 0) 2 = 0 from rfl, show at4 (0, 0, 0, 0) 3 = 0 from rfl]
  rw [hdn 0 (by decide), hdn 1 (by decide), hdn 2 (by decide), hdn 3 (by decide)]
  have hac : acN ((16777216 : Int32) + 16777216 + 16777216 + 16777216) 0 v = v := by
    unfold acN
    have t1 : tw1 ((16777216 : Int32) + 16777216 + 16777216 + 16777216) = 0 := by decide
    have t2 : bg1 ((16777216 : Int32) + 16777216 + 16777216 + 16777216) = 0 := by decide
    rw [t1, t2, Nat.pow_zero, Nat.mul_one, Nat.mod_eq_of_lt hv1]
    rfl
  show _ = if doneM L (kap4 k) 4 then some v else none
  have hd : doneM L (kap4 k) 4 = (dnM L (kap (nib k 0)) && dnM L (kap (nib k 1)) && dnM L (kap (nib k 2)) && dnM L (kap (nib k 3))) := by
    rw [Bool.eq_iff_iff, doneM_iff]
    simp only [Bool.and_eq_true]
    have nk := (nib_kap4 k).2
    constructor
    · intro q
      have q0 := q 0 (by decide)
      have q1 := q 1 (by decide)
      have q2 := q 2 (by decide)
      have q3 := q 3 (by decide)
      rw [nk 0 (by decide)] at q0
      rw [nk 1 (by decide)] at q1
      rw [nk 2 (by decide)] at q2
      rw [nk 3 (by decide)] at q3
      exact ⟨⟨⟨q0, q1⟩, q2⟩, q3⟩
    · rintro ⟨⟨⟨q0, q1⟩, q2⟩, q3⟩
      exact c4 (by rw [nk 0 (by decide)]; exact q0) (by rw [nk 1 (by decide)]; exact q1) (by rw [nk 2 (by decide)]; exact q2) (by rw [nk 3 (by decide)]; exact q3)
  rw [hd]
  have one : ∀ (f : Int32 → Option N3) (b : Bool), sm m2 f (if b = true then [16777216] else []) = if b = true then f 16777216 else none := fun f b => by
    cases b
    · rfl
    · show opO m2 (f 16777216) none = _
      rw [opO_none]; rfl
  rw [one]
  cases dnM L (kap (nib k 0))
  · rfl
  rw [if_pos rfl, one]
  cases dnM L (kap (nib k 1))
  · rfl
  rw [if_pos rfl, one]
  cases dnM L (kap (nib k 2))
  · rfl
  rw [if_pos rfl, one]
  cases dnM L (kap (nib k 3))
  · rfl
  rw [if_pos rfl]
  show some (acN ((16777216 : Int32) + 16777216 + 16777216 + 16777216) 0 v) = some v
  rw [hac]
