/-! the reference: whole, and plans -/
theorem boM_snoc (pl : Bool) (L : Nat) (lh : List (Nat × V3)) (p : Nat × V3) : boM pl L (lh ++ [p]) = boS pl L (boM pl L lh) p := by
  unfold boM
  rw [List.foldl_append, List.foldl_cons, List.foldl_nil]
theorem snoc_ind {α : Type} {P : List α → Prop} (h0 : P []) (hs : ∀ l a, P l → P (l ++ [a])) (l : List α) : P l := by
  have key : ∀ n (l : List α), l.length = n → P l := by
    intro n
    induction n with
    | zero => intro l hl; rw [List.length_eq_zero_iff.mp hl]; exact h0
    | succ n ih =>
      intro l hl
      have hne : l ≠ [] := fun e => by rw [e] at hl; simp at hl
      rw [← List.dropLast_concat_getLast hne]
      exact hs _ _ (ih _ (by rw [List.length_dropLast, hl]; rfl))
  exact key _ l rfl
theorem boM_in (pl : Bool) (L : Nat) (lh : List (Nat × V3)) : ∀ v, boM pl L lh = some v → ∃ p ∈ lh, doneM L p.1 4 = true ∧ (pl = true → p.2 = v) := by
  refine snoc_ind (P := fun lh => ∀ v, boM pl L lh = some v → ∃ p ∈ lh, doneM L p.1 4 = true ∧ (pl = true → p.2 = v)) ?_ ?_ lh
  · intro v h
    exact absurd h (by simp [boM])
  · intro l a ih v h
    rw [boM_snoc] at h
    unfold boS at h
    split at h
    · rename_i hd
      simp only [Option.some.injEq] at h
      cases hb : boM pl L l with
      | none =>
        rw [hb] at h
        exact ⟨a, by simp, hd, fun _ => h⟩
      | some x =>
        rw [hb] at h
        dsimp only at h
        by_cases hp : pl = true
        · rw [hp] at h
          rcases (mgM_le x a.2).2.2 with e | e
          · rw [e] at h
            subst h
            obtain ⟨p, h1, h2, h3⟩ := ih x hb
            exact ⟨p, List.mem_append_left _ h1, h2, h3⟩
          · rw [e] at h
            exact ⟨a, by simp, hd, fun _ => h⟩
        · exact ⟨a, by simp, hd, fun q => absurd q hp⟩
    · obtain ⟨p, h1, h2, h3⟩ := ih v h
      exact ⟨p, List.mem_append_left _ h1, h2, h3⟩
theorem boM_ge (pl : Bool) (L : Nat) (lh : List (Nat × V3)) : ∀ p ∈ lh, doneM L p.1 4 = true → ∃ v, boM pl L lh = some v ∧ (pl = true → leL p.2 v) := by
  refine snoc_ind (P := fun lh => ∀ p ∈ lh, doneM L p.1 4 = true → ∃ v, boM pl L lh = some v ∧ (pl = true → leL p.2 v)) ?_ ?_ lh
  · intro p hp
    exact absurd hp (by simp)
  · intro l a ih p hp hd
    rw [boM_snoc]
    unfold boS
    rcases List.mem_append.mp hp with h | h
    · obtain ⟨v, h1, h2⟩ := ih p h hd
      rw [h1]
      split
      · refine ⟨_, rfl, fun hpl => ?_⟩
        dsimp only
        rw [hpl]
        exact leL_tr (h2 hpl) (mgM_le v a.2).1
      · exact ⟨v, rfl, h2⟩
    · have e : p = a := List.mem_singleton.mp h
      subst e
      rw [if_pos hd]
      refine ⟨_, rfl, fun hpl => ?_⟩
      cases boM pl L l with
      | none => exact leL_rf _
      | some x =>
        dsimp only
        rw [hpl]
        exact (mgM_le x p.2).2.1
theorem doneM_iff {L k : Nat} : doneM L k 4 = true ↔ ∀ c, c < 4 → dnM L (nib k c) = true := ⟨fun h c hc => List.all_eq_true.mp h c (List.mem_range.mpr hc), fun h => List.all_eq_true.mpr fun c hc => h c (List.mem_range.mp hc)⟩
theorem acc_of {L N : Nat} {t : Nat → Nat → Nat} {pt : Nat → V4} {k : Nat} (h : Pth (rfT L) t pt N k) (hd : doneM L k 4 = true) : AccR L t N := ⟨pt, h.1, fun c hc => ⟨nib k c, h.2.2 c hc, doneM_iff.mp hd c hc⟩⟩
theorem of_acc {L N : Nat} {t : Nat → Nat → Nat} (hL : L = 3 ∨ L = 4) (h : AccR L t N) : ∃ pt k, Pth (rfT L) t pt N k ∧ doneM L k 4 = true := by
  obtain ⟨pt, h1, h2⟩ := h
  obtain ⟨s0, a0, b0⟩ := h2 0 (by decide)
  obtain ⟨s1, a1, b1⟩ := h2 1 (by decide)
  obtain ⟨s2, a2, b2⟩ := h2 2 (by decide)
  obtain ⟨s3, a3, b3⟩ := h2 3 (by decide)
  have hlt : ∀ {r : Nat → Nat} {s : Nat}, colR (rfT L) r N s → s < 16 := fun h => colR_lt (fun s r q hq => rfT_lt hL hq) h
  obtain ⟨k1, k2, k3, k4, k5⟩ := nib_pk (hlt a0) (hlt a1) (hlt a2) (hlt a3)
  exact ⟨pt, pk4 s0 s1 s2 s3, ⟨h1, k1, c4 (by rw [k2]; exact a0) (by rw [k3]; exact a1) (by rw [k4]; exact a2) (by rw [k5]; exact a3)⟩, doneM_iff.mpr (c4 (by rw [k2]; exact b0) (by rw [k3]; exact b1) (by rw [k4]; exact b2) (by rw [k5]; exact b3))⟩
/-- no tiles besides -/
def xZ : Nat → Nat → Nat := fun _ _ => 0
theorem rs_whole {bw : Bool} {L N : Nat} {bs ex : Nat → Nat} (hL : L = 3 ∨ L = 4) (hx2 : ∀ k, ex k ≤ 2) (hN : N ≤ 13) : (rsM false bw L N bs ex).isSome = true ↔ AccR L (tN bs xZ) N := by
  constructor
  · intro h
    obtain ⟨v, hv⟩ := Option.isSome_iff_exists.mp h
    obtain ⟨p, h1, h2, -⟩ := boM_in false L _ v hv
    obtain ⟨pt, x, -, g2, g3, -⟩ := reL_sound hL N p h1
    have e : x = xZ := by funext m c; exact g2 rfl m c
    rw [e] at g3
    exact acc_of g3 h2
  · intro h
    obtain ⟨pt, k, h1, h2⟩ := of_acc hL h
    obtain ⟨v, g1, -⟩ := reL_compl (pl := false) (bw := bw) (ex := ex) hL hx2 hN (fun m _ c _ => Nat.zero_le _) (fun _ m _ c _ => rfl) h1
    obtain ⟨w, k1, -⟩ := boM_ge false L _ _ g1 h2
    unfold rsM
    rw [k1]
    rfl
theorem rs_plan_in {bw : Bool} {L N : Nat} {bs ex : Nat → Nat} (hL : L = 3 ∨ L = 4) {v : V3} (h : rsM true bw L N bs ex = some v) : ∃ x : Nat → Nat → Nat, (∀ m, m < N → ∀ c, c < 4 → x m c ≤ ex (13 * c + m)) ∧ AccR L (tN bs x) N ∧ v = enR bw x N := by
  obtain ⟨p, h1, h2, h3⟩ := boM_in true L _ v h
  obtain ⟨pt, x, g1, -, g3, g4⟩ := reL_sound hL N p h1
  exact ⟨x, g1, acc_of g3 h2, by rw [← h3 rfl, g4 rfl]⟩
theorem rs_plan_ge {bw : Bool} {L N : Nat} {bs ex : Nat → Nat} (hL : L = 3 ∨ L = 4) (hx2 : ∀ k, ex k ≤ 2) (hN : N ≤ 13) {x : Nat → Nat → Nat} (hx : ∀ m, m < N → ∀ c, c < 4 → x m c ≤ ex (13 * c + m)) (h : AccR L (tN bs x) N) : ∃ v, rsM true bw L N bs ex = some v ∧ leL (enR bw x N) v := by
  obtain ⟨pt, k, h1, h2⟩ := of_acc hL h
  obtain ⟨v, g1, g2⟩ := reL_compl (pl := true) (bw := bw) (ex := ex) hL hx2 hN hx (fun q => absurd q (by decide)) h1
  obtain ⟨w, k1, k2⟩ := boM_ge true L _ _ g1 h2
  exact ⟨w, k1, leL_tr (g2 rfl) (k2 rfl)⟩
/-- what can be cut together -/
theorem AccR_add {L N : Nat} {t u : Nat → Nat → Nat} (hL : L = 3 ∨ L = 4) (h2 : ∀ m, m < N → ∀ c, c < 4 → t m c + u m c ≤ 2) (h : AccR L t N) (g : AccR L u N) : AccR L (fun m c => t m c + u m c) N := by
  obtain ⟨pt, f1, f2⟩ := h
  obtain ⟨qt, g1, g2⟩ := g
  have hadd : ∀ (a b : V4) (c : Nat), c < 4 → at4 (add4 a b) c = at4 a c + at4 b c := fun a b => c4 rfl rfl rfl rfl
  have hp : ∀ m, m < N → pat4 (add4 (pt m) (qt m)) := fun m hm => by
    obtain ⟨⟨p, hp, ep⟩, a⟩ := f1 m hm
    obtain ⟨⟨q, hq, eq⟩, b⟩ := g1 m hm
    rw [ep, eq]
    obtain ⟨w, hw, e⟩ := fgu hp hq (fun c hc => by
      have a1 := a c hc
      have b1 := b c hc
      have := h2 m hm c hc
      rw [ep] at a1
      rw [eq] at b1
      omega)
    exact ⟨w, hw, e⟩
  refine ⟨fun m => add4 (pt m) (qt m), fun m hm => ⟨hp m hm, fun c hc => ?_⟩, fun c hc => ?_⟩
  · dsimp only
    rw [hadd _ _ c hc]
    have := (f1 m hm).2 c hc
    have := (g1 m hm).2 c hc
    omega
  · have hr : ∀ m, m < N → lft t pt c m + lft u qt c m ≤ 2 := fun m hm => by
      unfold lft
      have := h2 m hm c hc
      omega
    obtain ⟨s, k1, k2⟩ := rf_uni hL hr (f2 c hc) (g2 c hc)
    refine ⟨s, (colR_congr fun m hm => ?_).mp k1, k2⟩
    unfold lft
    dsimp only
    rw [hadd _ _ c hc]
    have := (f1 m hm).2 c hc
    have := (g1 m hm).2 c hc
    omega
