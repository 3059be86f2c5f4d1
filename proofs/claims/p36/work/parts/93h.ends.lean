/-! a turn ended, as a step of the game -/
theorem RuM_cg {m m' : Mem} {hh L jk ml pn n : Nat} (r : RuM m hh L jk ml pn n) (h : ∀ j, 1 ≤ j → j ≤ 6 → m' 67 j = m 67 j) : RuM m' hh L jk ml pn n := by
  unfold RuM at *
  rw [h 1 (by decide) (by decide), h 2 (by decide) (by decide), h 3 (by decide) (by decide), h 4 (by decide) (by decide), h 5 (by decide) (by decide), h 6 (by decide) (by decide)]
  exact r
theorem LaI_cg {m m' : Mem} {n : Nat} (la : LaI m n) (h : ∀ j, m' 74 j = m 74 j) : LaI m' n := fun q hq => by
  obtain ⟨j, h1, h2, h3⟩ := la q hq
  exact ⟨j, h1, by rw [h]; exact h2, fun i hi => by rw [h]; exact h3 i hi⟩
theorem erM_at (m : Mem) (R : Nat → Nat) (w n j : Nat) {x k : Nat} (h : x ≠ 70 ∧ x ≠ 73 ∧ x ≠ 74 ∧ ¬ (x = 67 ∧ (k = 24 ∨ k = 26 ∨ k = 27))) : erM m R w n j x k = m x k := by
  unfold erM
  rw [up2_at, if_neg (by omega), up2_at, if_neg (by omega), up2_at, if_neg (by omega), up2_at, if_neg (by omega), clM_74 _ _ _ (by omega), roM_at _ _ _ _ (by omega)]
theorem erM_24 (m : Mem) (R : Nat → Nat) (w n j : Nat) : erM m R w n j 67 24 = -1 := by
  unfold erM
  rw [up2_at, if_pos ⟨rfl, rfl⟩]
theorem erM_la {m : Mem} {R : Nat → Nat} {w n j : Nat} (la : LaI m n) (hn4 : n ≤ 4) (hw : w < n) (hj : j < n) (h1 : m 74 j = nI w) (h2 : ∀ i, i < j → ¬ m 74 i = nI w) : LaI (erM m R w n j) n := by
  have la2 : LaI (roM m R w n) n := LaI_cg la fun k => roM_at _ _ _ _ (by decide)
  refine LaI_cg (clM_la la2 hn4 hw hj (by rw [roM_at _ _ _ _ (by decide)]; exact h1) fun i hi => by rw [roM_at _ _ _ _ (by decide)]; exact h2 i hi) fun k => ?_
  unfold erM
  rw [up2_at, if_neg (by omega), up2_at, if_neg (by omega), up2_at, if_neg (by omega), up2_at, if_neg (by omega)]
theorem SeI_cg {m m' : Mem} {n : Nat} (s : SeI m n) (la : LaI m' n) (h : ∀ p, p < 4 → (m' 72 p = m 72 p ∨ m' 72 p = 1) ∧ (m' 76 p = m 76 p ∨ m' 76 p = 1) ∧ m' 71 p = m 71 p) : SeI m' n := by
  refine ⟨la, fun p hp => ?_, fun p hp => ?_, fun p hp => by rw [(h p hp).2.2]; exact s.2.2.2 p hp⟩
  · rcases (h p hp).1 with e | e
    · rw [e]; exact s.2.1 p hp
    · exact Or.inr e
  · rcases (h p hp).2.1 with e | e
    · rw [e]; exact s.2.2.1 p hp
    · exact Or.inr e
theorem meB_t {B : Bd} {mel : Bool} {ml L hh : Nat} (h : meB B mel ml L hh = true) : bD B ≠ [] ∧ bF B = 0 ∧ accB L hh (tN (tjB B) xZ) = true := by
  unfold meB at h
  simp only [Bool.and_eq_true, Bool.not_eq_true', decide_eq_true_eq] at h
  exact ⟨fun e => by rw [e] at h; exact absurd h.1.1.1 (by decide), h.1.1.2, h.2⟩
theorem tot_ap {p : Nat} {B : Bd} {d : Nat × Nat} (v : vaB p B d) : tot (tjB B) ≤ tot (tjB (apB p B d)) := by
  rw [tot_tjB, tot_tjB]
  obtain ⟨t, k⟩ := d
  obtain ⟨v1, -, -, v3⟩ := v
  dsimp only at v1 v3
  rcases v3 with ⟨rfl, -⟩ | ⟨rfl, -⟩ | ⟨rfl, -⟩ | ⟨rfl, a1, a2⟩
  · rw [apB_0]
    have s := natSum_up (f := bT B) (x := bT B k + 1) v1
    show _ ≤ natSum (up1 (bT B) k (bT B k + 1)) 52 + natSum (bJ B) 52
    omega
  · rw [apB_1]
    have s := natSum_up (f := bJ B) (x := bJ B k + 1) v1
    show _ ≤ natSum (bT B) 52 + natSum (up1 (bJ B) k (bJ B k + 1)) 52
    omega
  · rw [apB_2]
    have s := natSum_up (f := bJ B) (x := bJ B k + 1) v1
    show _ ≤ natSum (bT B) 52 + natSum (up1 (bJ B) k (bJ B k + 1)) 52
    omega
  · rw [apB_3]
    have s := natSum_up (f := bT B) (x := bT B k + 1) v1
    have s2 := natSum_up (f := bJ B) (x := bJ B k - 1) v1
    show _ ≤ natSum (up1 (bT B) k (bT B k + 1)) 52 + natSum (up1 (bJ B) k (bJ B k - 1)) 52
    omega
theorem tot_run {p : Nat} : ∀ (l : List (Nat × Nat)) (B : Bd), okB p B l → tot (tjB B) ≤ tot (tjB (runB p B l)) := by
  intro l
  induction l with
  | nil => exact fun B _ => Nat.le_refl _
  | cons d l ih => exact fun B ok => Nat.le_trans (tot_ap ok.1) (ih _ ok.2)
/-- a turn begins -/
theorem Tr_new {B : Bd} {m : Mem} {hh L jk n : Nat} (b : BoI B hh L jk n) (h : m 67 24 = -1 ∨ ∃ p c, p < n ∧ m 67 24 = nI p ∧ c < n ∧ m 67 25 = nI c) : TrI B B [] m hh L jk n := by
  refine ⟨b, ?_⟩
  rcases h with h | ⟨p, c, h1, h2, h3, h4⟩
  · exact Or.inl ⟨h, rfl, rfl⟩
  · exact Or.inr ⟨p, h1, h2, trivial, rfl, fun d hd => absurd hd List.not_mem_nil, fun _ d hd => absurd hd List.not_mem_nil, c, h3, h4⟩
theorem elM_at (m : Mem) (R : Nat → Nat) (p n j : Nat) {x k : Nat} (h : x ≠ 70 ∧ x ≠ 73 ∧ x ≠ 74 ∧ ¬ (x = 67 ∧ (k = 24 ∨ k = 25 ∨ k = 26 ∨ k = 27)) ∧ x ≠ 72) : elM m R p n j x k = m x k := by
  unfold elM
  split
  · rw [erM_at _ _ _ _ _ (by omega), up2_at, if_neg (by omega), up2_at, if_neg (by omega)]
  · rw [up2_at, if_neg (by omega), up2_at, if_neg (by omega), up2_at, if_neg (by omega)]
theorem Gm_end {t : Nat} {B : Bd} {E : List Ent} {dl : Option (Nat × Nat × Nat)} {m : Mem} {B0 : Bd} {D : List (Nat × Nat)} {hh L jk ml pn n wr p j : Nat} {mel : Bool} (S : GmS t B E dl m B0 D hh L jk ml pn n wr) (hp : p < n) (tp : m 67 24 = nI p) (hj : j < n) (h1 : m 74 j = nI p) (h2 : ∀ i, i < j → ¬ m 74 i = nI p) (me : meB B mel ml L hh = true) : GmS (t + 1) (stB B) (E ++ [(5, p, 0, 0)]) dl (elM m (bR B) p n j) (stB B) [] hh L jk ml pn n wr := by
  obtain ⟨r, T, se, ⟨c1, c2, c3, c4⟩, rp⟩ := S
  have hn4 := r.2.2.2.2.2.2.2.2
  have on := On_same hn4 T hp tp
  have fc := On_facts hn4 T.1 on
  obtain ⟨o1, o2, ok, hB, g1, g2, g3⟩ := on
  obtain ⟨e1, e2, e3⟩ := meB_t me
  have b : BoI (stB B) hh L jk n := ⟨⟨fc.1, rfl, e2⟩, fc.2.2.2.1, e3⟩
  have la1 : LaI (up2 (up2 m 72 p 1) 67 25 0) n := LaI_cg se.1 fun k => by rw [up2_at, if_neg (by omega), up2_at, if_neg (by omega)]
  have at74 : ∀ i, up2 (up2 m 72 p 1) 67 25 0 74 i = m 74 i := fun i => by rw [up2_at, if_neg (by omega), up2_at, if_neg (by omega)]
  have la : LaI (elM m (bR B) p n j) n := by
    unfold elM
    split
    · exact erM_la la1 hn4 hp hj (by rw [at74]; exact h1) fun i hi => by rw [at74]; exact h2 i hi
    · exact LaI_cg la1 fun k => by rw [up2_at, if_neg (by omega)]
  have e72 : ∀ q, q < 4 → elM m (bR B) p n j 72 q = m 72 q ∨ elM m (bR B) p n j 72 q = 1 := fun q _ => by
    have e : elM m (bR B) p n j 72 q = up2 (up2 m 72 p 1) 67 25 0 72 q := by
      unfold elM
      split
      · rw [erM_at _ _ _ _ _ (by omega)]
      · rw [up2_at, if_neg (by omega)]
    rw [e, up2_at, if_neg (by omega), up2_at]
    by_cases c : q = p
    · rw [if_pos ⟨rfl, c⟩]; exact Or.inr rfl
    · rw [if_neg (fun z => c z.2)]; exact Or.inl rfl
  have tr : elM m (bR B) p n j 67 24 = -1 ∨ ∃ p' c, p' < n ∧ elM m (bR B) p n j 67 24 = nI p' ∧ c < n ∧ elM m (bR B) p n j 67 25 = nI c := by
    unfold elM
    split
    · exact Or.inl (erM_24 _ _ _ _ _)
    · exact Or.inr ⟨(p + 1) % n, 0, Nat.mod_lt _ (by omega), by rw [up2_at, if_pos ⟨rfl, rfl⟩], by omega, by rw [up2_at, if_neg (by omega), up2_at, if_pos ⟨rfl, rfl⟩]; rfl⟩
  have ht : tot (tjB B0) ≤ tot (tjB (stB B)) := by
    have := tot_run D B0 ok
    rw [← hB] at this
    exact this
  refine ⟨RuM_cg r fun i _ _ => elM_at _ _ _ _ _ (by omega), Tr_new b tr, SeI_cg se la fun q hq => ⟨e72 q hq, Or.inl (elM_at _ _ _ _ _ (by omega)), elM_at _ _ _ _ _ (by omega)⟩, ⟨by rw [elM_at _ _ _ _ _ (by omega)]; exact c1, c2, by rw [List.length_append, List.length_singleton]; omega, OkE_add c4 ⟨by dsimp only; omega, by dsimp only; omega, by dsimp only; omega, by dsimp only; omega⟩⟩, ?_⟩
  refine RpI_add rp (by omega) tp rfl (Or.inl rfl) ⟨by dsimp only; omega, T.1.1, ok, Or.inr (Or.inr (Or.inr (Or.inr (Or.inl ⟨rfl, ?_⟩))))⟩
  dsimp only
  rw [← hB]
/-! a turn ended by drawing, as a step of the game -/
theorem drM_at (m : Mem) (R : Nat → Nat) (p n c dn j : Nat) {x k : Nat} (h : x ≠ 70 ∧ x ≠ 73 ∧ x ≠ 74 ∧ x ≠ 77 ∧ ¬ (x = 67 ∧ (k = 24 ∨ k = 25 ∨ k = 26 ∨ k = 27))) : drM m R p n c dn j x k = m x k := by
  unfold drM
  split
  · rw [up2_at, if_neg (by omega), up2_at, if_neg (by omega), frM_at _ _ _ (by omega)]
  · rw [erM_at _ _ _ _ _ (by omega), up2_at, if_neg (by omega), frM_at _ _ _ (by omega)]
theorem Gm_draw {t : Nat} {B : Bd} {E : List Ent} {dl : Option (Nat × Nat × Nat)} {m : Mem} {B0 : Bd} {D : List (Nat × Nat)} {hh L jk ml pn n wr p s c j : Nat} (S : GmS t B E dl m B0 D hh L jk ml pn n wr) (hp : p < n) (tp : m 67 24 = nI p) (hs : s = 6 ∨ s = 7) (hc : m 67 25 = nI c) (hj : j < n) (h1 : m 74 j = nI (liB (bR (dwB B B0 pn p)) n)) (h2 : ∀ i, i < j → ¬ m 74 i = nI (liB (bR (dwB B B0 pn p)) n)) : GmS (t + 1) (dwB B B0 pn p) (E ++ [(s, p, 0, dwN B B0 pn p)]) dl (dwM m B B0 pn p n c j) (dwB B B0 pn p) [] hh L jk ml pn n wr := by
  obtain ⟨r, T, se, ⟨c1, c2, c3, c4⟩, rp⟩ := S
  have hn4 := r.2.2.2.2.2.2.2.2
  have on := On_same hn4 T hp tp
  have fc := On_facts hn4 T.1 on
  obtain ⟨o1, o2, ok, hB, -⟩ := on
  have hpn := r.2.2.2.2.2.2
  have hcnt : dcN B pn ≤ 9 := by unfold dcN; split <;> omega
  obtain ⟨u1, u2, u3, u4⟩ := drUp_D (p := p) (dcN B pn) B0
  obtain ⟨v1, v2⟩ := drUp_ok (p := p) (by omega) (dcN B pn) B0 T.1.1.1.1
  have etj : tjB (dwB B B0 pn p) = tjB B0 := by
    unfold tjB dwB
    rw [u2, u3]
  have b : BoI (dwB B B0 pn p) hh L jk n := by
    refine ⟨⟨⟨v1, fun k hk => ?_, ?_⟩, u1.trans T.1.1.2.1, u4.trans T.1.1.2.2⟩, Bo2_drUp hp hn4 _ _ T.1.2.1, by rw [etj]; exact T.1.2.2⟩
    · show bT (drUp p (dcN B pn) B0).2 k + bJ (drUp p (dcN B pn) B0).2 k ≤ 2
      rw [u2, u3]; exact T.1.1.1.2.1 k hk
    · show bF (drUp p (dcN B pn) B0).2 ≤ 64
      rw [u4]; exact T.1.1.1.2.2
  have pa : ∀ x k, x ≠ 76 ∧ x ≠ 77 → paMb (pasB B m p) m p x k = m x k := fun x k h => paMb_at _ _ _ h
  have fr74 : ∀ i, up2 (frM (paMb (pasB B m p) m p) p (dwN B B0 pn p)) 67 25 (nI (pcN c (dwN B B0 pn p))) 74 i = m 74 i := fun i => by
    rw [up2_at, if_neg (by omega), frM_at _ _ _ (by decide), pa _ _ (by omega)]
  have hw := liB_lt (bR (dwB B B0 pn p)) n (by omega)
  have la : LaI (dwM m B B0 pn p n c j) n := by
    unfold dwM drM
    split
    · exact LaI_cg se.1 fun k => by rw [up2_at, if_neg (by omega)]; exact fr74 k
    · exact erM_la (LaI_cg se.1 fr74) hn4 hw hj (by rw [fr74]; exact h1) fun i hi => by rw [fr74]; exact h2 i hi
  have tr : dwM m B B0 pn p n c j 67 24 = -1 ∨ ∃ p' c', p' < n ∧ dwM m B B0 pn p n c j 67 24 = nI p' ∧ c' < n ∧ dwM m B B0 pn p n c j 67 25 = nI c' := by
    unfold dwM drM
    split
    · rename_i hlt
      exact Or.inr ⟨(p + 1) % n, _, Nat.mod_lt _ (by omega), by rw [up2_at, if_pos ⟨rfl, rfl⟩], hlt, by rw [up2_at, if_neg (by omega), up2_at, if_pos ⟨rfl, rfl⟩]⟩
    · exact Or.inl (erM_24 _ _ _ _ _)
  have e76 : ∀ q, q < 4 → dwM m B B0 pn p n c j 76 q = m 76 q ∨ dwM m B B0 pn p n c j 76 q = 1 := fun q _ => by
    unfold dwM
    rw [drM_at _ _ _ _ _ _ _ (by omega)]
    unfold paMb paM
    split
    · rw [up2_at]
      by_cases z : q = p
      · rw [if_pos ⟨rfl, z⟩]; exact Or.inr rfl
      · rw [if_neg (fun y => z y.2), up2_at, if_neg (by omega)]; exact Or.inl rfl
    · exact Or.inl rfl
  have at' : ∀ x k, x ≠ 70 ∧ x ≠ 73 ∧ x ≠ 74 ∧ x ≠ 77 ∧ x ≠ 76 ∧ ¬ (x = 67 ∧ (k = 24 ∨ k = 25 ∨ k = 26 ∨ k = 27)) → dwM m B B0 pn p n c j x k = m x k := fun x k h => by
    unfold dwM
    rw [drM_at _ _ _ _ _ _ _ (by omega), pa _ _ (by omega)]
  have dle : dwN B B0 pn p ≤ 9 := Nat.le_trans v2 hcnt
  refine ⟨RuM_cg r fun i _ _ => at' _ _ (by omega), Tr_new b tr, SeI_cg se la fun q hq => ⟨Or.inl (at' _ _ (by omega)), e76 q hq, at' _ _ (by omega)⟩, ⟨by rw [at' _ _ (by omega)]; exact c1, c2, by rw [List.length_append, List.length_singleton, etj]; omega, OkE_add c4 ⟨by dsimp only; omega, by dsimp only; omega, by dsimp only; omega, by dsimp only; omega⟩⟩, ?_⟩
  refine RpI_add rp (by omega) tp rfl (Or.inl rfl) ⟨by dsimp only; omega, T.1.1, ok, Or.inr (Or.inr (Or.inr (Or.inr (Or.inr ⟨hs, ?_⟩))))⟩
  dsimp only
  rw [← fc.2.1]
  rfl
