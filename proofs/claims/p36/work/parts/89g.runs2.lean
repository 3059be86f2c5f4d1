/-! the runs among the pieces, colour by colour -/
def colL (c a n : Nat) (t : Nat → Nat) : List Nat := (List.range' a n).map fun m => t (13 * c + m)
theorem colL_s (c a n : Nat) (t : Nat → Nat) : colL c a (n + 1) t = t (13 * c + a) :: colL c (a + 1) n t := by
  unfold colL
  rw [List.range'_succ]
  rfl
theorem colL_len (c a n : Nat) (t : Nat → Nat) : (colL c a n t).length = n := by
  unfold colL
  rw [List.length_map, List.length_range']
theorem colL_congr {c a n : Nat} {t u : Nat → Nat} (h : ∀ m, a ≤ m → m < a + n → t (13 * c + m) = u (13 * c + m)) : colL c a n t = colL c a n u := by
  unfold colL
  refine List.map_congr_left fun m hm => ?_
  rw [List.mem_range'_1] at hm
  exact h m hm.1 hm.2
theorem dec_yes {f : Nat → Nat} (e : Nat) : ∀ (a n : Nat), e ≤ n → (∀ i, a ≤ i → i < a + e → 1 ≤ f i) → dec e ((List.range' a n).map f) = some ((List.range' a n).map fun i => if i < a + e then f i - 1 else f i) := by
  induction e with
  | zero =>
    intro a n _ _
    simp only [dec]
    refine congrArg some (List.map_congr_left fun i hi => ?_)
    rw [List.mem_range'_1] at hi
    rw [if_neg (by omega)]
  | succ e ih =>
    intro a n hn h
    obtain ⟨n, rfl⟩ : ∃ m, n = m + 1 := ⟨n - 1, by omega⟩
    rw [List.range'_succ, List.map_cons, List.map_cons]
    simp only [dec]
    rw [if_pos (h a (Nat.le_refl _) (by omega)), ih (a + 1) n (by omega) (fun i h1 h2 => h i (by omega) (by omega)), Option.map_some, if_pos (by omega)]
    refine congrArg some (congrArg _ (List.map_congr_left fun i _ => ?_))
    rw [show a + 1 + e = a + (e + 1) by omega]
theorem dec_no {f : Nat → Nat} (e : Nat) : ∀ (a n : Nat), (n < e ∨ ∃ i, a ≤ i ∧ i < a + e ∧ f i = 0) → dec e ((List.range' a n).map f) = none := by
  induction e with
  | zero =>
    intro a n h
    rcases h with h | ⟨i, h1, h2, -⟩ <;> omega
  | succ e ih =>
    intro a n h
    cases n with
    | zero => rfl
    | succ n =>
      rw [List.range'_succ, List.map_cons]
      simp only [dec]
      split
      · rw [ih (a + 1) n (by
          rcases h with h | ⟨i, h1, h2, h3⟩
          · exact Or.inl (by omega)
          · refine Or.inr ⟨i, ?_, by omega, h3⟩
            apply Classical.byContradiction
            intro q
            have : i = a := by omega
            subst this
            omega)]
        rfl
      · rfl
/-- alike but for a colour's numbers from one on -/
def simC (c s : Nat) (t u : Nat → Nat) : Prop := (∀ k, k < 52 → ¬ (k / 13 = c ∧ s ≤ k % 13) → u k = t k) ∧ ∀ k, k < 52 → u k ≤ 2
/-- what is told by the tiles of a number, and the row of those behind it -/
def RepC (c s : Nat) (t : Nat → Nat) (h : (Nat → Nat) → Nat) (H : Nat → List Nat → Nat) : Prop := ∀ u, simC c s t u → h u = H (u (13 * c + s)) (colL c (s + 1) (12 - s) u)
def GG (l : Nat) (H : Nat → List Nat → Nat) (x : Nat) (r : List Nat) : Nat := if 1 ≤ x then oS (dec (l - 1) r) (H (x - 1)) else 0
theorem Rep_gV {c s l : Nat} {t : Nat → Nat} {h : (Nat → Nat) → Nat} {H : Nat → List Nat → Nat} (hc : c < 4) (hl1 : 1 ≤ l) (hl : s + l ≤ 13) (hl14 : l < 14) (R : RepC c s t h H) : RepC c s t (gV (svC (19 * (13 * c + s) + l)) h) (GG l H) := by
  intro u hu
  unfold gV GG
  have sv : ∀ j, svC (19 * (13 * c + s) + l) j = if 13 * c + s ≤ j ∧ j < 13 * c + s + l then 1 else 0 := fun j => svC_run hl14
  by_cases hle : leV (svC (19 * (13 * c + s) + l)) u = true
  · rw [if_pos hle]
    have hle' := leV_iff.mp hle
    have h1 : ∀ i, s ≤ i → i < s + l → 1 ≤ u (13 * c + i) := fun i a b => by
      have := hle' (13 * c + i) (by omega)
      rw [sv, if_pos (by omega)] at this
      exact this
    rw [if_pos (h1 s (Nat.le_refl _) (by omega))]
    have hd : dec (l - 1) (colL c (s + 1) (12 - s) u) = some ((List.range' (s + 1) (12 - s)).map fun i => if i < s + 1 + (l - 1) then u (13 * c + i) - 1 else u (13 * c + i)) := dec_yes (f := fun m => u (13 * c + m)) (l - 1) (s + 1) (12 - s) (by omega) (fun i a b => h1 i (by omega) (by omega))
    rw [hd]
    show h (sbV u (svC (19 * (13 * c + s) + l))) = H (u (13 * c + s) - 1) _
    rw [R (sbV u (svC (19 * (13 * c + s) + l))) ⟨fun k hk q => by
      unfold sbV
      rw [sv, if_neg (by
        intro z
        refine q ⟨by omega, by omega⟩), hu.1 k hk q, Nat.sub_zero], sbV_le hu.2⟩]
    congr 1
    · unfold sbV
      rw [sv, if_pos (by omega)]
    · unfold colL
      refine List.map_congr_left fun i hi => ?_
      rw [List.mem_range'_1] at hi
      unfold sbV
      rw [sv]
      by_cases e : i < s + 1 + (l - 1)
      · rw [if_pos e, if_pos (by omega)]
      · rw [if_neg e, if_neg (by omega), Nat.sub_zero]
  · rw [if_neg hle]
    by_cases hx : 1 ≤ u (13 * c + s)
    · rw [if_pos hx]
      have hd : dec (l - 1) (colL c (s + 1) (12 - s) u) = none := dec_no (f := fun m => u (13 * c + m)) (l - 1) (s + 1) (12 - s) (by
        apply Classical.byContradiction
        intro q
        refine hle (leV_iff.mpr fun j hj => ?_)
        rw [sv]
        split
        · rename_i e
          apply Classical.byContradiction
          intro z
          refine q (Or.inr ⟨j - 13 * c, ?_, by omega, ?_⟩)
          · apply Classical.byContradiction
            intro y
            have : j = 13 * c + s := by omega
            subst this
            omega
          · rw [show 13 * c + (j - 13 * c) = j by omega]
            omega
        · exact Nat.zero_le _)
      rw [hd]
      rfl
    · rw [if_neg hx]
theorem Rep_tV {c s l : Nat} {t : Nat → Nat} {h : (Nat → Nat) → Nat} {H : Nat → List Nat → Nat} (hc : c < 4) (hl1 : 1 ≤ l) (hl : s + l ≤ 13) (hl14 : l < 14) (R : RepC c s t h H) : RepC c s t (tV (svC (19 * (13 * c + s) + l)) h) (fun x r => H x r + GG l H x r + GG l (GG l H) x r) := by
  intro u hu
  unfold tV
  have a := Rep_gV hc hl1 hl hl14 R
  have b := Rep_gV hc hl1 hl hl14 a
  rw [R u hu, a u hu, ← gV_gV, b u hu]
/-- the pieces are taken one length behind the other -/
def HL (K : List Nat → Nat) : List Nat → Nat → List Nat → Nat
  | [] => fun x r => if x = 0 then K r else 0
  | l :: ls => fun x r => HL K ls x r + GG l (HL K ls) x r + GG l (GG l (HL K ls)) x r
theorem Rep_runs {c s : Nat} {t : Nat → Nat} {R : List Nat} {K : List Nat → Nat} (hc : c < 4) (hK : RepC c s t (CC svC R) (fun x r => if x = 0 then K r else 0)) (ls : List Nat) (hls : ∀ l ∈ ls, 1 ≤ l ∧ s + l ≤ 13) : RepC c s t (CC svC (ls.map (fun l => 19 * (13 * c + s) + l) ++ R)) (HL K ls) := by
  induction ls with
  | nil => exact hK
  | cons l ls ih =>
    obtain ⟨a, b⟩ := hls l List.mem_cons_self
    exact Rep_tV hc a b (by omega) (ih fun j hj => hls j (List.mem_cons_of_mem _ hj))
theorem HL_0 (K : List Nat → Nat) (ls : List Nat) (r : List Nat) : HL K ls 0 r = K r := by
  induction ls with
  | nil => rfl
  | cons l ls ih =>
    show HL K ls 0 r + GG l (HL K ls) 0 r + GG l (GG l (HL K ls)) 0 r = K r
    rw [ih]
    rfl
theorem HL_1 (K : List Nat → Nat) (ls : List Nat) (r : List Nat) : HL K ls 1 r = smn (fun l => oS (dec (l - 1) r) K) ls := by
  induction ls with
  | nil => rfl
  | cons l ls ih =>
    show HL K ls 1 r + GG l (HL K ls) 1 r + GG l (GG l (HL K ls)) 1 r = _
    have a : GG l (HL K ls) 1 r = oS (dec (l - 1) r) K := by
      show oS (dec (l - 1) r) (HL K ls 0) = _
      exact oS_congr fun q _ => HL_0 K ls q
    have b : GG l (GG l (HL K ls)) 1 r = 0 := by
      show oS (dec (l - 1) r) (GG l (HL K ls) 0) = 0
      cases dec (l - 1) r <;> rfl
    rw [ih, a, b]
    simp only [smn]
    omega
def T2L (K : List Nat → Nat) (r : List Nat) : List Nat → Nat
  | [] => 0
  | l :: ls => oS (dec (l - 1) r) (fun q => smn (fun l2 => oS (dec (l2 - 1) q) K) (l :: ls)) + T2L K r ls
theorem HL_2 (K : List Nat → Nat) (ls : List Nat) (r : List Nat) : HL K ls 2 r = T2L K r ls := by
  induction ls with
  | nil => rfl
  | cons l ls ih =>
    show HL K ls 2 r + GG l (HL K ls) 2 r + GG l (GG l (HL K ls)) 2 r = _
    have a : GG l (HL K ls) 2 r + GG l (GG l (HL K ls)) 2 r = oS (dec (l - 1) r) (fun q => smn (fun l2 => oS (dec (l2 - 1) q) K) (l :: ls)) := by
      show oS (dec (l - 1) r) (HL K ls 1) + oS (dec (l - 1) r) (GG l (HL K ls) 1) = _
      cases dec (l - 1) r with
      | none => rfl
      | some q =>
        show HL K ls 1 q + oS (dec (l - 1) q) (HL K ls 0) = smn (fun l2 => oS (dec (l2 - 1) q) K) (l :: ls)
        have : oS (dec (l - 1) q) (HL K ls 0) = oS (dec (l - 1) q) K := oS_congr fun p _ => HL_0 K ls p
        rw [this, HL_1]
        simp only [smn]
        omega
    simp only [T2L]
    rw [ih]
    omega
theorem T2L_M2 (K : List Nat → Nat) (r : List Nat) (n : Nat) : ∀ lo, lo + n = r.length + 1 → T2L K r (List.range' (lo + 1) n) = smn (fun e1 => oS (dec e1 r) (fun q => smn (fun e2 => oS (dec e2 q) K) (es e1 r.length))) (List.range' lo n) := by
  induction n with
  | zero => intro lo _; rfl
  | succ n ih =>
    intro lo hlo
    rw [List.range'_succ, List.range'_succ]
    simp only [T2L, smn]
    rw [ih (lo + 1) (by omega)]
    congr 1
    rw [Nat.add_sub_cancel]
    refine oS_congr fun q _ => ?_
    unfold es
    rw [show r.length + 1 - lo = n + 1 by omega, List.range'_succ]
    simp only [smn]
    congr 1
    have : List.range' (lo + 1 + 1) n = (List.range' (lo + 1) n).map (fun x => 1 + x) := by rw [List.map_add_range', Nat.add_comm 1 (lo + 1)]
    rw [this, smn_map]
    refine smn_congr fun a _ => ?_
    rw [Nat.add_sub_cancel_left]
theorem HL_M {K : List Nat → Nat} {L x : Nat} {r : List Nat} (hL : 1 ≤ L) (hlen : L ≤ r.length + 2) (hx : x ≤ 2) : HL K (List.range' L (r.length + 2 - L)) x r = if x = 0 then K r else if x = 1 then M1 (L - 1) r K else if x = 2 then M2 (L - 1) r K else 0 := by
  have hxc : x = 0 ∨ x = 1 ∨ x = 2 := by omega
  rcases hxc with rfl | rfl | rfl
  · rw [if_pos rfl]; exact HL_0 K _ r
  · rw [if_neg (by decide), if_pos rfl, HL_1]
    unfold M1 es
    have : List.range' L (r.length + 2 - L) = (List.range' (L - 1) (r.length + 1 - (L - 1))).map (fun x => 1 + x) := by rw [List.map_add_range', show 1 + (L - 1) = L by omega, show r.length + 1 - (L - 1) = r.length + 2 - L by omega]
    rw [this, smn_map]
    exact smn_congr fun a _ => by rw [Nat.add_sub_cancel_left]
  · rw [if_neg (by decide), if_neg (by decide), if_pos rfl, HL_2]
    have := T2L_M2 K r (r.length + 2 - L) (L - 1) (by omega)
    rw [show L - 1 + 1 = L by omega] at this
    rw [this]
    unfold M2 es
    rw [show r.length + 1 - (L - 1) = r.length + 2 - L by omega]
theorem oS_mul (o : Option (List Nat)) (k : List Nat → Nat) (c : Nat) : oS o (fun q => k q * c) = oS o k * c := by
  cases o with
  | none => exact (Nat.zero_mul c).symm
  | some q => rfl
theorem smn_mulr {α : Type} (f : α → Nat) (c : Nat) (l : List α) : smn (fun a => f a * c) l = smn f l * c := by
  induction l with
  | nil => exact (Nat.zero_mul c).symm
  | cons x l ih => simp only [smn, ih]; rw [Nat.add_mul]
theorem M1_mul (lo : Nat) (r : List Nat) (k : List Nat → Nat) (c : Nat) : M1 lo r (fun q => k q * c) = M1 lo r k * c := by
  unfold M1
  rw [← smn_mulr]
  exact smn_congr fun e _ => oS_mul _ _ _
theorem M2_mul (lo : Nat) (r : List Nat) (k : List Nat → Nat) (c : Nat) : M2 lo r (fun q => k q * c) = M2 lo r k * c := by
  unfold M2
  rw [← smn_mulr]
  refine smn_congr fun e _ => ?_
  rw [← oS_mul]
  refine oS_congr fun q _ => ?_
  rw [← smn_mulr]
  exact smn_congr fun e2 _ => oS_mul _ _ _
/-- the runs of a colour that begin at a number, and at it or behind it -/
def rnC (L c s : Nat) : List Nat := (List.range' L (14 - s - L)).map fun l => 19 * (13 * c + s) + l
def rnF (L c : Nat) : Nat → List Nat
  | 0 => []
  | d + 1 => rnC L c (12 - d) ++ rnF L c d
def zcV (t : Nat → Nat) (c k : Nat) : Nat := if k / 13 = c then 0 else t k
def offC (c : Nat) (rest : List Nat) : Prop := ∀ q ∈ rest, ∀ k, k < 52 → k / 13 = c → svC q k = 0
theorem rnF_off (L c d : Nat) (hd : d ≤ 13) : ∀ q ∈ rnF L c d, ∀ m, m + d < 13 → svC q (13 * c + m) = 0 := by
  induction d with
  | zero => intro q hq; exact absurd hq (by simp [rnF])
  | succ d ih =>
    intro q hq m hm
    rcases List.mem_append.mp hq with h | h
    · obtain ⟨l, hl, rfl⟩ := List.mem_map.mp h
      rw [List.mem_range'_1] at hl
      rw [svC_run (by omega), if_neg (by omega)]
    · exact ih (by omega) q h m (by omega)
theorem run_col {L c : Nat} {rest : List Nat} (hL : L = 3 ∨ L = 4) (hc : c < 4) (hoff : offC c rest) (d : Nat) (hd : d ≤ 13) : ∀ t : Nat → Nat, (∀ k, k < 52 → t k ≤ 2) → (∀ m, m + d < 13 → t (13 * c + m) = 0) → CC svC (rnF L c d ++ rest) t = WR L d (colL c (13 - d) d t) * CC svC rest (zcV t c) := by
  induction d with
  | zero =>
    intro t h2 h0
    rw [show colL c (13 - 0) 0 t = [] from rfl, WR_nil, Nat.one_mul]
    show CC svC rest t = _
    refine CC_congr (fun _ _ _ _ => rfl) fun k hk => ?_
    unfold zcV
    split
    · rename_i e
      have := h0 (k % 13) (by omega)
      rw [show 13 * c + k % 13 = k by omega] at this
      exact this
    · rfl
  | succ d ih =>
    intro t h2 h0
    obtain ⟨s, hs⟩ : ∃ s, s = 12 - d := ⟨_, rfl⟩
    have e1 : rnF L c (d + 1) ++ rest = rnC L c s ++ (rnF L c d ++ rest) := by
      rw [hs]
      show (rnC L c (12 - d) ++ rnF L c d) ++ rest = _
      rw [List.append_assoc]
    have e12 : 12 - s = d := by omega
    have hK : RepC c s t (CC svC (rnF L c d ++ rest)) (fun x r => if x = 0 then WR L d r * CC svC rest (zcV t c) else 0) := by
      intro u hu
      by_cases hx : u (13 * c + s) = 0
      · dsimp only
        rw [if_pos hx, ih (by omega) u hu.2 (fun m hm => by
            by_cases e : m = s
            · rw [e]; exact hx
            · rw [hu.1 _ (by omega) (by omega)]
              exact h0 m (by omega)), e12, show 13 - d = s + 1 by omega]
        congr 1
        refine CC_congr (fun _ _ _ _ => rfl) fun k hk => ?_
        unfold zcV
        split
        · rfl
        · rename_i e
          exact hu.1 k hk (fun q => e q.1)
      · dsimp only
        rw [if_neg hx]
        refine CC_no (k := 13 * c + s) (by omega) (fun q hq => ?_) hx
        rcases List.mem_append.mp hq with h | h
        · exact rnF_off L c d (by omega) q h s (by omega)
        · exact hoff q h _ (by omega) (by omega)
    have hR := Rep_runs hc hK (List.range' L (14 - s - L)) (fun l hl => by
      rw [List.mem_range'_1] at hl
      omega) t ⟨fun _ _ _ => rfl, h2⟩
    rw [e1]
    have e2 : rnC L c s = (List.range' L (14 - s - L)).map (fun l => 19 * (13 * c + s) + l) := rfl
    rw [e2, hR]
    have hlen : (colL c (s + 1) (12 - s) t).length = 12 - s := colL_len _ _ _ _
    have hx2 := h2 (13 * c + s) (by omega)
    rw [show 13 - (d + 1) = s by omega, colL_s, WR_s, show 12 - s = d by omega]
    rw [e12] at hlen
    by_cases hLs : L ≤ 14 - s
    · have hm := HL_M (K := fun r => WR L d r * CC svC rest (zcV t c)) (L := L) (x := t (13 * c + s)) (r := colL c (s + 1) d t) (by omega) (by omega) hx2
      rw [hlen, show d + 2 - L = 14 - s - L by omega] at hm
      rw [hm]
      split
      · rfl
      · split
        · exact M1_mul _ _ _ _
        · split
          · exact M2_mul _ _ _ _
          · exact (Nat.zero_mul _).symm
    · rw [show 14 - s - L = 0 by omega]
      show (if t (13 * c + s) = 0 then WR L d (colL c (s + 1) d t) * CC svC rest (zcV t c) else 0) = _
      split
      · rfl
      · have m1 : M1 (L - 1) (colL c (s + 1) d t) (WR L d) = 0 := by
          unfold M1 es
          rw [hlen, show d + 1 - (L - 1) = 0 by omega]
          rfl
        have m2 : M2 (L - 1) (colL c (s + 1) d t) (WR L d) = 0 := by
          unfold M2 es
          rw [hlen, show d + 1 - (L - 1) = 0 by omega]
          rfl
        rw [m1, m2]
        split
        · exact (Nat.zero_mul _).symm
        · split
          · exact (Nat.zero_mul _).symm
          · exact (Nat.zero_mul _).symm
theorem rnF_other {L c c' d : Nat} (hc : c < 4) (hd : d ≤ 13) (hne : c ≠ c') : offC c' (rnF L c d) := by
  induction d with
  | zero => intro q hq; exact absurd hq (by simp [rnF])
  | succ d ih =>
    intro q hq k hk hkc
    rcases List.mem_append.mp hq with h | h
    · obtain ⟨l, hl, rfl⟩ := List.mem_map.mp h
      rw [List.mem_range'_1] at hl
      rw [svC_run (by omega), if_neg (by omega)]
    · exact ih (by omega) q h k hk hkc
theorem offC_app {c : Nat} {a b : List Nat} (h : offC c a) (g : offC c b) : offC c (a ++ b) := fun q hq => by
  rcases List.mem_append.mp hq with z | z
  · exact h q z
  · exact g q z
/-- all runs -/
def rnA (L : Nat) : List Nat := rnF L 0 13 ++ (rnF L 1 13 ++ (rnF L 2 13 ++ (rnF L 3 13 ++ [])))
theorem zcV_le {t : Nat → Nat} {c : Nat} (h2 : ∀ k, k < 52 → t k ≤ 2) : ∀ k, k < 52 → zcV t c k ≤ 2 := fun k hk => by
  unfold zcV
  split
  · exact Nat.zero_le _
  · exact h2 k hk
theorem colL_zc {t : Nat → Nat} {c c' : Nat} (h : c ≠ c') : colL c' 0 13 (zcV t c) = colL c' 0 13 t := colL_congr fun m _ hm => by
  unfold zcV
  rw [if_neg (by omega)]
theorem run_all {L : Nat} (hL : L = 3 ∨ L = 4) {t : Nat → Nat} (h2 : ∀ k, k < 52 → t k ≤ 2) : CC svC (rnA L) t = WR L 13 (colL 0 0 13 t) * WR L 13 (colL 1 0 13 t) * WR L 13 (colL 2 0 13 t) * WR L 13 (colL 3 0 13 t) := by
  have o3 : ∀ c, offC c ([] : List Nat) := fun c q hq => absurd hq (by simp)
  have o2 : ∀ c, c ≠ 3 → offC c (rnF L 3 13 ++ []) := fun c h => offC_app (rnF_other (by decide) (by decide) (Ne.symm h)) (o3 c)
  have o1 : ∀ c, c ≠ 3 → c ≠ 2 → offC c (rnF L 2 13 ++ (rnF L 3 13 ++ [])) := fun c h g => offC_app (rnF_other (by decide) (by decide) (Ne.symm g)) (o2 c h)
  have o0 : offC 0 (rnF L 1 13 ++ (rnF L 2 13 ++ (rnF L 3 13 ++ []))) := offC_app (rnF_other (by decide) (by decide) (by decide)) (o1 0 (by decide) (by decide))
  unfold rnA
  rw [run_col hL (by decide) o0 13 (by decide) t h2 (fun m hm => by omega), run_col hL (by decide) (o1 1 (by decide) (by decide)) 13 (by decide) _ (zcV_le h2) (fun m hm => by omega), run_col hL (by decide) (o2 2 (by decide)) 13 (by decide) _ (zcV_le (zcV_le h2)) (fun m hm => by omega), run_col hL (by decide) (o3 3) 13 (by decide) _ (zcV_le (zcV_le (zcV_le h2))) (fun m hm => by omega)]
  have e4 : CC svC [] (zcV (zcV (zcV (zcV t 0) 1) 2) 3) = 1 := by
    simp only [CC]
    rw [if_pos (zeV_iff.mpr fun k hk => ?_)]
    unfold zcV
    by_cases a3 : k / 13 = 3
    · rw [if_pos a3]
    · rw [if_neg a3]
      by_cases a2 : k / 13 = 2
      · rw [if_pos a2]
      · rw [if_neg a2]
        by_cases a1 : k / 13 = 1
        · rw [if_pos a1]
        · rw [if_neg a1, if_pos (by omega)]
  rw [e4, Nat.mul_one]
  rw [show 13 - 13 = 0 from rfl, colL_zc (t := zcV (zcV t 0) 1) (c := 2) (c' := 3) (by decide), colL_zc (t := zcV t 0) (c := 1) (c' := 3) (by decide), colL_zc (t := t) (c := 0) (c' := 3) (by decide), colL_zc (t := zcV t 0) (c := 1) (c' := 2) (by decide), colL_zc (t := t) (c := 0) (c' := 2) (by decide), colL_zc (t := t) (c := 0) (c' := 1) (by decide), Nat.mul_assoc, Nat.mul_assoc]
