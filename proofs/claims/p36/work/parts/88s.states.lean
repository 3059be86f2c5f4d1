/-! states: as many in the class as in the reference -/
def prj (L s : Nat) : Nat := if s = 15 then codeM L L L false else s
def imgM (L k : Nat) : Nat := pk4 (prj L (nib k 0)) (prj L (nib k 1)) (prj L (nib k 2)) (prj L (nib k 3))
def kap4 (k : Nat) : Nat := pk4 (kap (nib k 0)) (kap (nib k 1)) (kap (nib k 2)) (kap (nib k 3))
theorem kap_inj0 : ∀ a ∈ r16, ∀ b ∈ r16, kap a = kap b → a = b := by decide +kernel
theorem kap_lt0 : ∀ a ∈ r16, kap a < 16 := by decide +kernel
theorem kap_inj {a b : Nat} (ha : a < 16) (hb : b < 16) (h : kap a = kap b) : a = b := kap_inj0 a (in16 ha) b (in16 hb) h
theorem kap_lt {a : Nat} (ha : a < 16) : kap a < 16 := kap_lt0 a (in16 ha)
theorem nib_kap4 (k : Nat) : kap4 k < 65536 ∧ ∀ c, c < 4 → nib (kap4 k) c = kap (nib k c) := by
  obtain ⟨h0, h1, h2, h3, h4⟩ := nib_pk (kap_lt (nib_lt k 0)) (kap_lt (nib_lt k 1)) (kap_lt (nib_lt k 2)) (kap_lt (nib_lt k 3))
  exact ⟨h0, c4 h1 h2 h3 h4⟩
theorem kap4_inj {a b : Nat} (ha : a < 65536) (hb : b < 65536) (h : kap4 a = kap4 b) : a = b := by
  have e : ∀ c, c < 4 → nib a c = nib b c := fun c hc => by
    have h1 := (nib_kap4 a).2 c hc
    have h2 := (nib_kap4 b).2 c hc
    rw [h] at h1
    exact kap_inj (nib_lt a c) (nib_lt b c) (h1.symm.trans h2)
  rw [← pk_nib ha, ← pk_nib hb, e 0 (by decide), e 1 (by decide), e 2 (by decide), e 3 (by decide)]
theorem prj_lt {L s : Nat} (hL : L = 3 ∨ L = 4) (hs : s < 16) : prj L s < 16 := by
  unfold prj
  split
  · exact codeM_lt (by omega) (by omega) _
  · exact hs
theorem nib_imgM {L : Nat} (hL : L = 3 ∨ L = 4) (k : Nat) : imgM L k < 65536 ∧ ∀ c, c < 4 → nib (imgM L k) c = prj L (nib k c) := by
  obtain ⟨h0, h1, h2, h3, h4⟩ := nib_pk (prj_lt hL (nib_lt k 0)) (prj_lt hL (nib_lt k 1)) (prj_lt hL (nib_lt k 2)) (prj_lt hL (nib_lt k 3))
  exact ⟨h0, c4 h1 h2 h3 h4⟩
def dmx (L : Nat) : Nat := if L = 4 then 15 else 10
theorem dmx_le (L : Nat) : dmx L ≤ 15 := by unfold dmx; split <;> omega
theorem fs1 : ∀ L ∈ [3, 4], ∀ d ∈ r16, ∀ s ∈ r16, d < dmx L → kap d = prj L s → ∀ r ∈ [0, 1, 2], ∀ e ∈ clT L 0 d r, e < dmx L ∧ ∃ t ∈ rfT L s r, kap e = prj L t := by decide +kernel
theorem fs2 : ∀ L ∈ [3, 4], ∀ d ∈ r16, ∀ s ∈ r16, d < dmx L → kap d = prj L s → ∀ r ∈ [0, 1, 2], ∀ t ∈ rfT L s r, ∃ e ∈ clT L 0 d r, e < dmx L ∧ kap e = prj L t := by decide +kernel
theorem st_cr {L : Nat} (hL : L = 3 ∨ L = 4) {r : Nat → Nat} {n d : Nat} (hr : ∀ m, m < n → r m ≤ 2) (h : colR (clT L 0) r n d) : ∃ s, colR (rfT L) r n s ∧ kap d = prj L s := by
  obtain ⟨s, h1, h2⟩ := colR_sim (st2 := rfT L) (fun d s => d < dmx L ∧ s < 16 ∧ kap d = prj L s) (by rcases hL with rfl | rfl <;> decide) (fun a b r a' hr hab ha => by
    obtain ⟨q1, t, q2, q3⟩ := fs1 L (in01 hL) a (in16 (by have h1 := hab.1; have h2 := dmx_le L; omega)) b (in16 hab.2.1) hab.1 hab.2.2 r (in3 hr) a' ha
    exact ⟨t, q2, q1, rfT_lt hL q2, q3⟩) hr h
  exact ⟨s, h1, h2.2.2⟩
theorem st_rc {L : Nat} (hL : L = 3 ∨ L = 4) {r : Nat → Nat} {n s : Nat} (hr : ∀ m, m < n → r m ≤ 2) (h : colR (rfT L) r n s) : ∃ d, colR (clT L 0) r n d ∧ kap d = prj L s := by
  obtain ⟨d, h1, h2⟩ := colR_sim (st2 := clT L 0) (fun s d => d < dmx L ∧ s < 16 ∧ kap d = prj L s) (by rcases hL with rfl | rfl <;> decide) (fun a b r a' hr hab ha => by
    obtain ⟨e, q2, q1, q3⟩ := fs2 L (in01 hL) b (in16 (by have h1 := hab.1; have h2 := dmx_le L; omega)) a (in16 hab.2.1) hab.1 hab.2.2 r (in3 hr) a' ha
    exact ⟨e, q2, q1, rfT_lt hL ha, q3⟩) hr h
  exact ⟨d, h1, h2.2.2⟩
/-- the unlike ones of a list -/
def ddL (l : List Nat) : List Nat := l.foldl (fun D x => if x ∈ D then D else D ++ [x]) []
theorem ddL_snoc (l : List Nat) (x : Nat) : ddL (l ++ [x]) = if x ∈ ddL l then ddL l else ddL l ++ [x] := by
  unfold ddL
  rw [List.foldl_append, List.foldl_cons, List.foldl_nil]
theorem ddL_spec (l : List Nat) : (ddL l).Nodup ∧ ∀ x, x ∈ ddL l ↔ x ∈ l := by
  refine snoc_ind (P := fun l => (ddL l).Nodup ∧ ∀ x, x ∈ ddL l ↔ x ∈ l) ⟨List.nodup_nil, fun x => Iff.rfl⟩ ?_ l
  intro l a ⟨h1, h2⟩
  rw [ddL_snoc]
  split
  · rename_i h
    refine ⟨h1, fun x => ?_⟩
    rw [h2, List.mem_append, List.mem_singleton]
    exact ⟨Or.inl, fun q => q.elim id (fun e => e ▸ (h2 a).mp h)⟩
  · rename_i h
    refine ⟨List.nodup_append.mpr ⟨h1, by simp, fun x hx y hy e => ?_⟩, fun x => ?_⟩
    · rw [List.mem_singleton] at hy
      subst hy
      exact h (e ▸ hx)
    · rw [List.mem_append, List.mem_append, h2]
theorem nodup_eq {α : Type} {l m : List α} (h1 : l.Nodup) (h2 : m.Nodup) (h : ∀ a, a ∈ l ↔ a ∈ m) : l.length = m.length := Nat.le_antisymm (nodup_len h1 fun a ha => (h a).mp ha) (nodup_len h2 fun a ha => (h a).mpr ha)
theorem map_nodup {α β : Type} {f : α → β} {l : List α} (h : l.Nodup) (hf : ∀ a ∈ l, ∀ b ∈ l, f a = f b → a = b) : (l.map f).Nodup := by
  induction l with
  | nil => exact List.nodup_nil
  | cons x l ih =>
    obtain ⟨h1, h2⟩ := List.nodup_cons.mp h
    refine List.nodup_cons.mpr ⟨fun q => ?_, ih h2 fun a ha b hb => hf a (List.mem_cons_of_mem _ ha) b (List.mem_cons_of_mem _ hb)⟩
    obtain ⟨y, hy, e⟩ := List.mem_map.mp q
    exact h1 ((hf y (List.mem_cons_of_mem _ hy) x List.mem_cons_self e) ▸ hy)
theorem states_count {L hh n : Nat} {bw bw2 : Bool} {lo ex : Nat → Nat} (hL : L = 3 ∨ L = 4) (h2 : ∀ k, lo k ≤ 2) (hx2 : ∀ k, ex k ≤ 2) (h13 : hh ≤ 13) (hn : n ≤ hh) : (itL L hh 0 bw lo lo (tbM L 0) (v0W 0) n).length = (ddL ((reL false bw2 L lo ex n).map fun p => imgM L p.1)).length := by
  have H : LhC lo lo := fun k => ⟨h2 k, h2 k, Nat.le_refl _⟩
  have agr : ∀ m, m < n → ∀ c, c < 4 → tC lo hh xZ m c = tN lo xZ m c := fun m hm c _ => by unfold tC tN; rw [loC_lt (by omega)]
  have hl2 : ∀ pt : Nat → V4, ∀ c, c < 4 → ∀ m, m < n → lft (tN lo xZ) pt c m ≤ 2 := fun pt c _ m _ => by
    unfold lft tN xZ
    have := h2 (13 * c + m)
    omega
  have hb0 : ∀ N, bdC 0 lo lo hh xZ N := fun N m _ c _ => Nat.zero_le _
  have ck : ∀ k, k ∈ (itL L hh 0 bw lo lo (tbM L 0) (v0W 0) n).map (fun p => p.1) ↔ ∃ pt, Pth (clT L 0) (tN lo xZ) pt n k := fun k => by
    constructor
    · intro h
      obtain ⟨p, hp, rfl⟩ := List.mem_map.mp h
      obtain ⟨pt, x, a, b, -⟩ := itL_sound (bw := bw) (v0 := v0W 0) H (Or.inl rfl) (fun q => absurd q (by decide)) (show n ≤ hh + 1 by omega) h13 p hp
      refine ⟨pt, Pth_congr (fun m hm => ⟨rfl, fun c hc => ?_⟩) b⟩
      have := a m hm c hc
      rw [moC_lt (by omega), loC_lt (by omega), if_neg (by decide)] at this
      unfold tC tN xZ
      rw [loC_lt (by omega)]
      omega
    · rintro ⟨pt, h⟩
      obtain ⟨v, hv, -⟩ := itL_compl (bw := bw) (v0 := v0W 0) (N := n) (x := xZ) H hL (Or.inl rfl) (fun q => absurd q (by decide)) (hb0 _) (fun q => absurd q (by decide)) h13 (Nat.le_refl n) (by omega) (Pth_congr (fun m hm => ⟨rfl, fun c hc => (agr m hm c hc).symm⟩) h) (fun q => absurd rfl q)
      exact List.mem_map_of_mem (f := fun p => p.1) hv
  have rk : ∀ k, k ∈ (reL false bw2 L lo ex n).map (fun p => p.1) ↔ ∃ pt, Pth (rfT L) (tN lo xZ) pt n k := fun k => by
    constructor
    · intro h
      obtain ⟨p, hp, rfl⟩ := List.mem_map.mp h
      obtain ⟨pt, x, -, g2, g3, -⟩ := reL_sound hL n p hp
      have e : x = xZ := by funext m c; exact g2 rfl m c
      rw [e] at g3
      exact ⟨pt, g3⟩
    · rintro ⟨pt, h⟩
      obtain ⟨v, hv, -⟩ := reL_compl (pl := false) (bw := bw2) (ex := ex) hL hx2 (show n ≤ 13 by omega) (fun m _ c _ => Nat.zero_le _) (fun _ m _ c _ => rfl) h
      exact List.mem_map_of_mem (f := fun p => p.1) hv
  obtain ⟨d1, d2⟩ := ddL_spec ((reL false bw2 L lo ex n).map fun p => imgM L p.1)
  have hnd := itL_nd L hh 0 bw lo lo (tbM L 0) (v0W 0) n
  rw [← List.length_map (fun p => p.1), ← List.length_map kap4]
  refine nodup_eq (map_nodup hnd fun a ha b hb e => ?_) d1 fun a => ?_
  · obtain ⟨pa, qa⟩ := (ck a).mp ha
    obtain ⟨pb, qb⟩ := (ck b).mp hb
    exact kap4_inj qa.2.1 qb.2.1 e
  · rw [d2]
    constructor
    · intro h
      obtain ⟨k, hk, rfl⟩ := List.mem_map.mp h
      obtain ⟨pt, hP⟩ := (ck k).mp hk
      have hs := fun c hc => st_cr hL (hl2 pt c hc) (hP.2.2 c hc)
      obtain ⟨s0, a0, b0⟩ := hs 0 (by decide)
      obtain ⟨s1, a1, b1⟩ := hs 1 (by decide)
      obtain ⟨s2, a2, b2⟩ := hs 2 (by decide)
      obtain ⟨s3, a3, b3⟩ := hs 3 (by decide)
      have hlt : ∀ {r : Nat → Nat} {s : Nat}, colR (rfT L) r n s → s < 16 := fun h => colR_lt (fun s r q hq => rfT_lt hL hq) h
      obtain ⟨k1, k2, k3, k4, k5⟩ := nib_pk (hlt a0) (hlt a1) (hlt a2) (hlt a3)
      have hm := (rk (pk4 s0 s1 s2 s3)).mpr ⟨pt, hP.1, k1, c4 (by rw [k2]; exact a0) (by rw [k3]; exact a1) (by rw [k4]; exact a2) (by rw [k5]; exact a3)⟩
      obtain ⟨p, hp, e⟩ := List.mem_map.mp hm
      refine List.mem_map.mpr ⟨p, hp, ?_⟩
      rw [e]
      unfold imgM kap4
      rw [k2, k3, k4, k5, b0, b1, b2, b3]
    · intro h
      obtain ⟨p, hp, rfl⟩ := List.mem_map.mp h
      obtain ⟨pt, hP⟩ := (rk p.1).mp (List.mem_map_of_mem (f := fun p => p.1) hp)
      have hs := fun c hc => st_rc hL (hl2 pt c hc) (hP.2.2 c hc)
      obtain ⟨s0, a0, b0⟩ := hs 0 (by decide)
      obtain ⟨s1, a1, b1⟩ := hs 1 (by decide)
      obtain ⟨s2, a2, b2⟩ := hs 2 (by decide)
      obtain ⟨s3, a3, b3⟩ := hs 3 (by decide)
      have hlt : ∀ {r : Nat → Nat} {s : Nat}, colR (clT L 0) r n s → s < 16 := fun h => colR_lt clT_lt' h
      obtain ⟨k1, k2, k3, k4, k5⟩ := nib_pk (hlt a0) (hlt a1) (hlt a2) (hlt a3)
      refine List.mem_map.mpr ⟨pk4 s0 s1 s2 s3, (ck _).mpr ⟨pt, hP.1, k1, c4 (by rw [k2]; exact a0) (by rw [k3]; exact a1) (by rw [k4]; exact a2) (by rw [k5]; exact a3)⟩, ?_⟩
      unfold imgM kap4
      rw [k2, k3, k4, k5, b0, b1, b2, b3]
