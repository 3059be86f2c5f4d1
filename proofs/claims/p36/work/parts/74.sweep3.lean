/-! groups taken away; all ways of a number -/
abbrev V4 : Type := Nat × Nat × Nat × Nat
def gdL : List V4 := [(0, 0, 0, 0), (1, 1, 1, 0), (1, 1, 0, 1), (1, 0, 1, 1), (0, 1, 1, 1), (1, 1, 1, 1), (2, 2, 2, 0), (2, 2, 1, 1), (2, 1, 2, 1), (1, 2, 2, 1), (2, 2, 2, 1), (2, 2, 0, 2), (2, 1, 1, 2), (1, 2, 1, 2), (2, 2, 1, 2), (2, 0, 2, 2), (1, 1, 2, 2), (2, 1, 2, 2), (0, 2, 2, 2), (1, 2, 2, 2), (2, 2, 2, 2)]
def gd (g : Nat) : V4 := gdL.getD g (0, 0, 0, 0)
def cd4 (v : V4) : Nat := v.1 + 16 * v.2.1 + 256 * v.2.2.1 + 4096 * v.2.2.2
def fit4 (t g : V4) : Bool := g.1 ≤ t.1 && g.2.1 ≤ t.2.1 && g.2.2.1 ≤ t.2.2.1 && g.2.2.2 ≤ t.2.2.2
def sub4 (t g : V4) : V4 := (t.1 - g.1, t.2.1 - g.2.1, t.2.2.1 - g.2.2.1, t.2.2.2 - g.2.2.2)
def add4 (t g : V4) : V4 := (t.1 + g.1, t.2.1 + g.2.1, t.2.2.1 + g.2.2.1, t.2.2.2 + g.2.2.2)
def le4 (t : V4) : Prop := t.1 ≤ 2 ∧ t.2.1 ≤ 2 ∧ t.2.2.1 ≤ 2 ∧ t.2.2.2 ≤ 2
def at4 (v : V4) (c : Nat) : Nat := match c with
  | 0 => v.1
  | 1 => v.2.1
  | 2 => v.2.2.1
  | _ => v.2.2.2
def setsG (g : Nat) : Nat := if g = 0 then 0 else if g < 6 then 1 else 2
/-- all rows of up to two tiles of each colour -/
def all4 : List V4 := (List.range 3).flatMap fun a => (List.range 3).flatMap fun b => (List.range 3).flatMap fun c => (List.range 3).map fun d => (a, b, c, d)
theorem all4_in {t : V4} (h : le4 t) : t ∈ all4 := by
  obtain ⟨a, b, c, d⟩ := t
  obtain ⟨h1, h2, h3, h4⟩ := h
  dsimp only at h1 h2 h3 h4
  unfold all4
  simp only [List.mem_flatMap, List.mem_map, List.mem_range]
  exact ⟨a, by omega, b, by omega, c, by omega, d, by omega, rfl⟩
theorem all4_P {P : V4 → Prop} (h : ∀ t ∈ all4, P t) {t : V4} (ht : le4 t) : P t := h t (all4_in ht)
theorem ga_fit {t : V4} (ht : le4 t) {g : Nat} (hg : g < 21) : ((((nI (cd4 t) ||| 34952) - gr g) &&& 34952) = 34952 ↔ fit4 t (gd g) = true) ∧ (fit4 t (gd g) = true → (((nI (cd4 t) ||| 34952) - gr g) &&& 13107) = nI (cd4 (sub4 t (gd g)))) := by
  have h : ∀ t ∈ all4, ∀ g ∈ List.range 21, ((((nI (cd4 t) ||| 34952) - gr g) &&& 34952) = 34952 ↔ fit4 t (gd g) = true) ∧ (fit4 t (gd g) = true → (((nI (cd4 t) ||| 34952) - gr g) &&& 13107) = nI (cd4 (sub4 t (gd g)))) := by decide +kernel
  exact h t (all4_in ht) g (List.mem_range.mpr hg)
theorem more_at {t : V4} (ht : le4 t) {c : Nat} (hc : c < 4) : ((nI (cd4 t) >>> ((4 * nI c) &&& 31)) &&& 3) = nI (at4 t c) := by
  have h : ∀ t ∈ all4, ∀ c ∈ List.range 4, ((nI (cd4 t) >>> ((4 * nI c) &&& 31)) &&& 3) = nI (at4 t c) := by decide +kernel
  exact h t (all4_in ht) c (List.mem_range.mpr hc)
theorem sh_at {a c : Nat} (ha : a < 16) (hc : c < 4) : nI a <<< ((4 * nI c) &&& 31) = nI (a * 16 ^ c) := by
  have h : ∀ a ∈ List.range 16, ∀ c ∈ List.range 4, nI a <<< ((4 * nI c) &&& 31) = nI (a * 16 ^ c) := by decide +kernel
  exact h a (List.mem_range.mpr ha) c (List.mem_range.mpr hc)
theorem cd4_le {t : V4} (ht : le4 t) : cd4 t ≤ 8738 := by
  obtain ⟨h1, h2, h3, h4⟩ := ht
  unfold cd4; omega
theorem cd4_inj {t u : V4} (ht : le4 t) (hu : le4 u) (h : cd4 t = cd4 u) : t = u := by
  obtain ⟨a, b, c, d⟩ := t
  obtain ⟨a', b', c', d'⟩ := u
  obtain ⟨h1, h2, h3, h4⟩ := ht
  obtain ⟨g1, g2, g3, g4⟩ := hu
  unfold cd4 at h
  dsimp only at *
  simp only [Prod.mk.injEq]
  omega
theorem sub4_le {t g : V4} (ht : le4 t) : le4 (sub4 t g) := by
  obtain ⟨h1, h2, h3, h4⟩ := ht
  unfold le4 sub4; dsimp only; omega
/-- a list without repeats is no longer than one that holds it -/
theorem nodup_len {α : Type} {l m : List α} (h : l.Nodup) (hs : ∀ a ∈ l, a ∈ m) : l.length ≤ m.length := by
  induction l generalizing m with
  | nil => exact Nat.zero_le _
  | cons a l ih =>
    obtain ⟨m1, m2, rfl⟩ := List.append_of_mem (hs a List.mem_cons_self)
    have h2 := List.nodup_cons.mp h
    have := ih (m := m1 ++ m2) h2.2 (fun b hb => by
      have hb2 := hs b (List.mem_cons_of_mem _ hb)
      have hne : b ≠ a := fun e => h2.1 (e ▸ hb)
      simp only [List.mem_append, List.mem_cons] at hb2 ⊢
      rcases hb2 with q | q | q
      · exact Or.inl q
      · exact absurd q hne
      · exact Or.inr q)
    simp only [List.length_append, List.length_cons] at this ⊢
    omega
/-- the keys are codes of rows -/
def KeyW {V : Type} (l : List (Nat × V)) : Prop := ∀ p ∈ l, ∃ t, le4 t ∧ p.1 = cd4 t
theorem KeyW.len {V : Type} {l : List (Nat × V)} (h : KeyW l) (hn : nd l) : l.length ≤ 81 := by
  have := nodup_len (m := all4.map cd4) hn (fun a ha => by
    obtain ⟨p, hp, rfl⟩ := List.mem_map.mp ha
    obtain ⟨t, ht, e⟩ := h p hp
    exact List.mem_map.mpr ⟨t, all4_in ht, e.symm⟩)
  rw [List.length_map, List.length_map] at this
  exact this
theorem KeyW.lt {V : Type} {l : List (Nat × V)} (h : KeyW l) (hn : nd l) {t : V4} (ht : le4 t) (hk : cd4 t ∉ l.map (·.1)) : l.length < 81 := by
  have := nodup_len (l := (cd4 t :: l.map (fun p => p.1) : List Nat)) (m := all4.map cd4) (List.nodup_cons.mpr ⟨hk, (show (l.map (fun p => p.1)).Nodup from hn)⟩) (fun a ha => by
    rcases List.mem_cons.mp ha with rfl | q
    · exact List.mem_map.mpr ⟨t, all4_in ht, rfl⟩
    · obtain ⟨p, hp, rfl⟩ := List.mem_map.mp q
      obtain ⟨u, hu, e⟩ := h p hp
      exact List.mem_map.mpr ⟨u, all4_in hu, e.symm⟩)
  rw [List.length_cons, List.length_map, List.length_map] at this
  exact this
theorem KeyW_ins {V : Type} {m : V → V → V} {l : List (Nat × V)} (h : KeyW l) {t : V4} (ht : le4 t) (v : V) : KeyW (ins m l (cd4 t) v) := by
  intro p hp
  have : p.1 ∈ (ins m l (cd4 t) v).map (·.1) := List.mem_map_of_mem hp
  rw [ins_keys] at this
  split at this
  · obtain ⟨q, hq, e⟩ := List.mem_map.mp this
    obtain ⟨u, hu, e2⟩ := h q hq
    exact ⟨u, hu, e ▸ e2⟩
  · rcases List.mem_append.mp this with q | q
    · obtain ⟨q, hq, e⟩ := List.mem_map.mp q
      obtain ⟨u, hu, e2⟩ := h q hq
      exact ⟨u, hu, e ▸ e2⟩
    · exact ⟨t, ht, List.mem_singleton.mp q⟩
/-- the ways that come of one row of tiles -/
def gaS (md : Nat) (t : V4) (f s : Int64) (l : List (Nat × Int64 × Int64)) (g : Nat) : List (Nat × Int64 × Int64) := if fit4 t (gd g) then ins (mgW md) l (cd4 (sub4 t (gd g))) (if md = 2 then (nI (setsG g)).toInt64 else f, s) else l
def gaL (md : Nat) (t : V4) (f s : Int64) (l : List (Nat × Int64 × Int64)) : List (Nat × Int64 × Int64) := (List.range 21).foldl (gaS md t f s) l
theorem oLoop_l {S R : Type} {b : S → Option (R ⊕ S)} {n : Nat} {s : S} {r : R} (h : b s = some (.inl r)) : oLoop b (n + 1) s = some r := by
  simp only [oLoop]
  rw [h]
theorem oLoop_r {S R : Type} {b : S → Option (R ⊕ S)} {n : Nat} {s s' : S} (h : b s = some (.inr s')) : oLoop b (n + 1) s = oLoop b n s' := by
  simp only [oLoop]
  rw [h]
theorem range_foldl {β : Type} (f : β → Nat → β) (b : β) (n : Nat) : (List.range (n + 1)).foldl f b = f ((List.range n).foldl f b) n := by
  rw [List.range_succ, List.foldl_append]
  rfl
theorem ga_loop {σ : rS} {md : Nat} {t : V4} {f s : Int64} {l : List (Nat × Int64 × Int64)} (hmd : rI σ 37 17 = nI md) (h4 : md ≤ 4) (hg : ∀ g, g < 21 → rI σ 1 g = gr g) (ht : le4 t) (H : WaR σ l) (HK : KeyW l) : ∃ τ, oLoop (b_X9_groupAway_140 (nI (cd4 t), f, s)) oFuel (0, σ) = some ((), τ) ∧ WaR τ (gaL md t f s l) ∧ KeyW (gaL md t f s l) ∧ FrW σ τ := by
  have key : ∀ k, k ≤ 21 → ∃ τ, WaR τ ((List.range k).foldl (gaS md t f s) l) ∧ KeyW ((List.range k).foldl (gaS md t f s) l) ∧ FrW σ τ ∧ ∀ (n : Nat) r, oLoop (b_X9_groupAway_140 (nI (cd4 t), f, s)) n (nI k, τ) = some r → oLoop (b_X9_groupAway_140 (nI (cd4 t), f, s)) (n + k) (0, σ) = some r := by
    intro k
    induction k with
    | zero => exact fun _ => ⟨σ, H, HK, FrW.rf σ, fun n r h => h⟩
    | succ k ih =>
      intro hk
      obtain ⟨τ, k1, k2, k3, k4⟩ := ih (by omega)
      have hm : rI τ 37 17 = nI md := by rw [k3.2.2.2.1 37 17 (by decide) (by decide) (by decide)]; exact hmd
      have hgk : rI τ 1 k = gr k := by rw [k3.2.2.2.1 1 k (by decide) (by decide) (fun q => absurd q (by decide))]; exact hg k (by omega)
      have e1 : ¬ (21 : Int32) ≤ nI k := fun q => by have := (nI_leI (a := 21) (by omega) (by omega)).mp q; omega
      have hb : b_X9_groupAway_140 (nI (cd4 t), f, s) (nI k, τ) = if (((nI (cd4 t) ||| 34952) - gr k) &&& 34952) = 34952 then oB (f_X9_addWay τ (((nI (cd4 t) ||| 34952) - gr k) &&& 13107) (if md = 2 then (nI (setsG k)).toInt64 else f) s) (fun _ z => some (.inr (nI k + 1, z))) else some (.inr (nI k + 1, τ)) := by
        unfold b_X9_groupAway_140
        dsimp only
        rw [if_neg e1, if_pos (inB_nI (by decide) (by omega)), nI_clamp (by omega), hgk]
        simp only [oLet_eq]
        split
        · congr 2
          rw [hm]
          have e2 : (nI md = 2) = (md = 2) := propext ⟨fun q => nI_inj (b := 2) (by omega) (by omega) q, fun q => by rw [q]; rfl⟩
          rw [show (if nI md = 2 then ((if nI k = 0 then (0 : Int32) else if 6 ≤ nI k then 2 else 1)).toInt64 else f) = if md = 2 then ((if nI k = 0 then (0 : Int32) else if 6 ≤ nI k then 2 else 1)).toInt64 else f by simp only [e2]]
          congr 2
          unfold setsG
          by_cases c1 : k = 0
          · have c0 : nI k = 0 := by rw [c1]; rfl
            rw [if_pos c0, if_pos c1]; rfl
          · have c0 : ¬ nI k = 0 := fun q => c1 (nI_inj (b := 0) (by omega) (by omega) q)
            rw [if_neg c0, if_neg c1]
            by_cases c2 : k < 6
            · have c3 : ¬ (6 : Int32) ≤ nI k := fun q => by have := (nI_leI (a := 6) (by omega) (by omega)).mp q; omega
              rw [if_neg c3, if_pos c2]; rfl
            · have c3 : (6 : Int32) ≤ nI k := (nI_leI (a := 6) (by omega) (by omega)).mpr (by omega)
              rw [if_pos c3, if_neg c2]; rfl
        · rfl
      have hfit := ga_fit ht (g := k) (by omega)
      rw [range_foldl]
      by_cases hf : fit4 t (gd k) = true
      · have hle := sub4_le (g := gd k) ht
        obtain ⟨υ, g1, g2, g3⟩ := addWay_eq (σ := τ) (l := (List.range k).foldl (gaS md t f s) l) (md := md) (f := if md = 2 then (nI (setsG k)).toInt64 else f) (s := s) hm h4 (cd4_le hle) (fun q => k2.lt k1.2.1 hle q) (k2.len k1.2.1) k1
        rw [hfit.2 hf, if_pos (hfit.1.mpr hf), g1] at hb
        refine ⟨υ, ?_, ?_, k3.tr g3, fun n r h => ?_⟩
        · unfold gaS; rw [if_pos hf]; exact g2
        · unfold gaS; rw [if_pos hf]; exact KeyW_ins k2 hle _
        · have := k4 (n + 1) r (by
            simp only [oLoop]
            rw [hb]
            show oLoop _ n (nI k + 1, υ) = some r
            rw [nI_1]; exact h)
          rw [show n + (k + 1) = n + 1 + k by omega]; exact this
      · rw [if_neg (fun q => hf (hfit.1.mp q))] at hb
        refine ⟨τ, ?_, ?_, k3, fun n r h => ?_⟩
        · unfold gaS; rw [if_neg hf]; exact k1
        · unfold gaS; rw [if_neg hf]; exact k2
        · have := k4 (n + 1) r (by
            simp only [oLoop]
            rw [hb]
            show oLoop _ n (nI k + 1, τ) = some r
            rw [nI_1]; exact h)
          rw [show n + (k + 1) = n + 1 + k by omega]; exact this
  obtain ⟨τ, k1, k2, k3, k4⟩ := key 21 (Nat.le_refl _)
  refine ⟨τ, ?_, k1, k2, k3⟩
  rw [show oFuel = 99978 + 1 + 21 from rfl]
  refine k4 (99978 + 1) _ ?_
  have e0 : b_X9_groupAway_140 (nI (cd4 t), f, s) (nI 21, τ) = some (.inl ((), τ)) := by
    unfold b_X9_groupAway_140
    have e1 : (21 : Int32) ≤ nI 21 := (nI_leI (a := 21) (by omega) (by omega)).mpr (Nat.le_refl _)
    dsimp only
    rw [if_pos e1]
  exact oLoop_l e0
