/-! what the class answers where it searches: each ask keeps the game -/
def AK (t : Nat) (σ : rS) (B : Bd) (E : List Ent) (dl : Option (Nat × Nat × Nat)) (m : Mem) (l : Nat → Int64) (ch : Nat) (B0 : Bd) (D : List (Nat × Nat)) (hh L jk ml pn wr : Nat) (f : rS → Option (Int64 × rS)) (v : Int64) : Prop := ∃ τ, f σ = some (v, τ) ∧ GAx t τ B E dl m l ch B0 D hh L jk ml pn wr
section
variable {t : Nat} {σ : rS} {B : Bd} {E : List Ent} {dl : Option (Nat × Nat × Nat)} {m : Mem} {l : Nat → Int64} {ch : Nat} {B0 : Bd} {D : List (Nat × Nat)} {hh L jk ml pn wr : Nat}
theorem ak_0 {f : rS → Option (Int64 × rS)} {v : Int64} (G : GAx t σ B E dl m l ch B0 D hh L jk ml pn wr) (h : f σ = some (v, σ)) : AK t σ B E dl m l ch B0 D hh L jk ml pn wr f v := ⟨σ, h, G⟩
theorem ak_w {f : rS → Option (Int64 × rS)} {v : Int64} {τ : rS} (G : GAx t σ B E dl m l ch B0 D hh L jk ml pn wr) (h : f σ = some (v, τ)) (C : CI τ B E dl m l ch) (K : KcI τ B m hh L ch) : AK t σ B E dl m l ch B0 D hh L jk ml pn wr f v := ⟨τ, h, C, K, G.2.2⟩
theorem k_sum (G : GAx t σ B E dl m l ch B0 D hh L jk ml pn wr) {q : Nat} (hq : q ≤ 11) (b : Int32) : AK t σ B E dl m l ch B0 D hh L jk ml pn wr (fun σ => f_L_ask σ 32 (nI q) b) (adS B E m q).toInt64 := ak_0 G (ask_sum G.1 hq b)
theorem k_player (G : GAx t σ B E dl m l ch B0 D hh L jk ml pn wr) {p q : Nat} (hp : p < 3) (hq : q ≤ 9) : AK t σ B E dl m l ch B0 D hh L jk ml pn wr (fun σ => f_L_ask σ 28 (nI p) (nI q)) (adP B m p q).toInt64 := ak_0 G (ask_player G.1 G.2.2.2.1.1 G.2.2.2.1.2.2.1.1 G.2.2.2.1.2.2.1.2.1 hp hq)
theorem k_rack (G : GAx t σ B E dl m l ch B0 D hh L jk ml pn wr) {p j : Nat} (hp : p < 3) (hj : j < 2 ^ 31) : AK t σ B E dl m l ch B0 D hh L jk ml pn wr (fun σ => f_L_ask σ 25 (nI p) (nI j)) (adR B hh p j) := ak_0 G (ask_rack G.1 G.2.2.2.1.1 hp hj)
theorem k_table (G : GAx t σ B E dl m l ch B0 D hh L jk ml pn wr) {j : Nat} (hj : j < 2 ^ 31) (b : Int32) : AK t σ B E dl m l ch B0 D hh L jk ml pn wr (fun σ => f_L_ask σ 26 (nI j) b) (adT B hh j b) := ak_0 G (ask_table G.1 G.2.2.2.1.1 hj b)
theorem k_pool (G : GAx t σ B E dl m l ch B0 D hh L jk ml pn wr) {j : Nat} (hj : j < 2 ^ 31) (b : Int32) : AK t σ B E dl m l ch B0 D hh L jk ml pn wr (fun σ => f_L_ask σ 27 (nI j) b) (adQ B hh j) := ak_0 G (ask_pool G.1 G.2.2.2.1.1 hj b)
def b2l (b : Bool) : Int64 := if b then 1 else 0
theorem k_whole (G : GAx t σ B E dl m l ch B0 D hh L jk ml pn wr) (ht : t ≤ 700) (a b : Int32) : AK t σ B E dl m l ch B0 D hh L jk ml pn wr (fun σ => f_L_ask σ 14 a b) (b2l (accB L hh (tN (tjB B) xZ))) := by
  have F := G_facts G.2.2.2.1 (by omega)
  obtain ⟨τ, a1, a2, -, a4⟩ := cWhole_eq G.1 F.1 G.2.2.2.1.1
  refine ak_w G ?_ a2 (KcI_fr G.2.1 a4)
  show f_L_ask σ 14 a b = _
  rw [ask_eq, does_14, a1]
  show some ((if b2i (accB L hh (tN (tjB B) xZ)) = 0 then 0 else 1 : Int32).toInt64, τ) = _
  cases accB L hh (tN (tjB B) xZ) <;> rfl
theorem k_cuts (G : GAx t σ B E dl m l ch B0 D hh L jk ml pn wr) (ht : t ≤ 700) {q : Nat} (hq : q ≤ 2) (b : Int32) : AK t σ B E dl m l ch B0 D hh L jk ml pn wr (fun σ => f_L_ask σ 15 (nI q) b) (cuS q (cuV (cntR L hh (tjB B)))).toInt64 := by
  have F := G_facts G.2.2.2.1 (by omega)
  have K := G.2.1
  obtain ⟨τ, a1, a2, a3, a4, a5, a6⟩ := cCuts_eq G.1 F.1 G.2.2.2.1.1 K.1
  refine ak_w G ?_ a2 ⟨a4, by
      have e := a6 3 16 (by omega)
      exact ⟨by rw [e.1]; exact K.2.1.1, by rw [e.1, e.2]; exact K.2.1.2⟩, KpI_fr K.2.2 (fun j => (a6 65 j (by omega)).1) fun j => (a6 66 j (by omega)).1⟩
  show f_L_ask σ 15 (nI q) b = _
  have c : ¬ vIn (nI q) 0 2 = 0 := by
    rw [show (0 : Int32) = nI 0 from rfl, show (2 : Int32) = nI 2 from rfl, vIn_in (by decide) (by omega) hq]
    decide
  have c0 : (nI q = 0) = (q = 0) := propext (nI_eq (b := 0) (by omega) (by omega))
  have c1 : (nI q = 1) = (q = 1) := propext (nI_eq (b := 1) (by omega) (by omega))
  rw [ask_eq, does_15]
  unfold f_L_cuts f_X10_cuts
  rw [if_neg c, a1, oB_some, oBc_l, a5.1, a5.2.1, a5.2.2]
  simp only [c0, c1]
  rfl
theorem k_anew (G : GAx t σ B E dl m l ch B0 D hh L jk ml pn wr) (ht : t ≤ 700) (a b : Int32) : AK t σ B E dl m l ch B0 D hh L jk ml pn wr (fun σ => f_L_ask σ 16 a b) (if natSum (bT B) 52 + natSum (bJ B) 52 ≤ 14 then (cuS 0 (cuV (cntR L hh (tjB B)))).toInt64 else -10004) := by
  have F := G_facts G.2.2.2.1 (by omega)
  have C := G.1
  have r := G.2.2.2.1.1
  have o := F.1
  have ab := Bo2_Ab F.2.2.2.2.2.1
  have h13 := r.2.2.1
  have h2 := tjB_t2 o
  have q8 : rI σ 5 8 = nI (natSum (bT B) 52 + natSum (bJ B) 52) := C.1.2.2.2.2.2.2.2.1
  have c0 : (nI (natSum (bT B) 52 + natSum (bJ B) 52) ≤ 14) = (natSum (bT B) 52 + natSum (bJ B) 52 ≤ 14) := propext (nI_leI (b := 14) (by omega) (by omega))
  by_cases c : natSum (bT B) 52 + natSum (bJ B) 52 ≤ 14
  · rw [if_pos c]
    obtain ⟨σ1, a1, a2, a3, a4⟩ := takeTable_eq C o
    obtain ⟨τ, b1, -, b3⟩ := count_eq r.2.2.2.1 20 σ1 (tjB B) 0 0 0 a2.2.2.2.2.2.1.2.2.1 a3.1 (fun k _ => tjB_le o k) (by omega) (by omega) (by rw [tot_tjB]; omega) (by omega) (by omega) (fun k hk => absurd hk (Nat.not_lt_zero k))
    obtain ⟨d1, d2⟩ := anew_cnt r.2.2.2.1 h13 (fun k => tjB_le o k) ab (by rw [tot_tjB]; exact c)
    have ev : nI (DD L (tjB B) 0) = cuS 0 (cuV (cntR L hh (tjB B))) := by
      rw [d2]
      cases cntR L hh (tjB B) <;> rfl
    have fk : FrX W48 σ1 τ := ⟨b3.1, b3.2.1, b3.2.2.1, b3.2.2.2.1, fun x j a => b3.2.2.2.2 x j (by omega)⟩
    refine ak_w G ?_ (CI_48 a2 fk) (KcI_fr G.2.1 ((FrK_48 a4).tr (FrK_48 fk)))
    show f_L_ask σ 16 a b = _
    rw [ask_eq, does_16]
    unfold f_L_cutsAnew f_X10_cutsAnew
    rw [q8]
    simp only [c0]
    have b1 : f_X0_count 20 σ1 0 0 (nI L) 0 = some (nI (DD L (tjB B) 0), τ) := b1
    rw [if_pos c, a1, oB_some, (CI_Ru a2 r).1, b1, oB_some, show (1000000007 : Int32) = nI 1000000007 from rfl, nI_rem (by omega) (by omega), Nat.mod_eq_of_lt d1, oBc_l, ev]
  · rw [if_neg c]
    refine ak_0 G ?_
    show f_L_ask σ 16 a b = _
    rw [ask_eq, does_16]
    unfold f_L_cutsAnew f_X10_cutsAnew
    rw [q8]
    simp only [c0]
    rw [if_neg c, oBc_r lkS]
theorem k_states (G : GAx t σ B E dl m l ch B0 D hh L jk ml pn wr) (ht : t ≤ 700) {q : Nat} (h1 : 1 ≤ q) (hq : q ≤ hh) (b : Int32) : AK t σ B E dl m l ch B0 D hh L jk ml pn wr (fun σ => f_L_ask σ 17 (nI q) b) (nI (ddL ((reL false false L (tjB B) (fun _ => 0) q).map fun q => imgM L q.1)).length).toInt64 := by
  have F := G_facts G.2.2.2.1 (by omega)
  have C := G.1
  have r := G.2.2.2.1.1
  have o := F.1
  have h13 := r.2.2.1
  have c : ¬ vIn (nI q) 1 (nI hh) = 0 := by
    rw [show (1 : Int32) = nI 1 from rfl, vIn_in (by omega) h1 hq]
    decide
  obtain ⟨σ1, a1, a2, a3, a4⟩ := takeTable_eq C o
  obtain ⟨τ, bw, b1, b2, b3⟩ := go_states a2.2.2.2.2.2.1 (CI_Ru a2 r) a3 hq
  have e := states_count (bw := bw) (bw2 := false) (ex := fun _ => 0) r.2.2.2.1 (fun k => tjB_le o k) (fun _ => by decide) h13 hq
  refine ak_w G ?_ (CI_O a2 b2 b3) (KcI_fr G.2.1 ((FrK_48 a4).tr (FrK_O b3)))
  show f_L_ask σ 17 (nI q) b = _
  rw [ask_eq, does_17]
  unfold f_L_states f_X10_states
  rw [CI_h C r, if_neg c, a1, oB_some, b1, oB_some, oBc_l, e]
theorem k_states_x (G : GAx t σ B E dl m l ch B0 D hh L jk ml pn wr) (b : Int32) : AK t σ B E dl m l ch B0 D hh L jk ml pn wr (fun σ => f_L_ask σ 17 (nI (hh + 1)) b) (-10003) := by
  have C := G.1
  have r := G.2.2.2.1.1
  have h13 := r.2.2.1
  have c : vIn (nI (hh + 1)) 1 (nI hh) = 0 := Classical.byContradiction fun z => by
    obtain ⟨q, -, hq, e⟩ := vIn_of (a := 1) (b := hh) (by omega) z (by omega)
    have := (nI_eq (by omega) (by omega)).mp e
    omega
  refine ak_0 G ?_
  show f_L_ask σ 17 (nI (hh + 1)) b = _
  rw [ask_eq, does_17]
  unfold f_L_states f_X10_states
  rw [CI_h C r, if_pos c, oBc_r lkA]
theorem vIn_3 {q : Nat} (hq : q < 3) {σ : rS} (hn : rI σ 19 0 = nI 3) : ¬ vIn (nI q) 0 ((rI σ 19 0) - 1) = 0 := by
  rw [hn, nI_s1 (by decide), show (0 : Int32) = nI 0 from rfl, vIn_in (by decide) (by omega) (by omega)]
  decide
theorem k_best (G : GAx t σ B E dl m l ch B0 D hh L jk ml pn wr) (ht : t ≤ 700) {p q : Nat} (hp : p < 3) (hq : q ≤ 1) : AK t σ B E dl m l ch B0 D hh L jk ml pn wr (fun σ => f_L_ask σ 18 (nI p) (nI q)) (besV (plF B m hh L p) q).toInt64 := by
  have F := G_facts G.2.2.2.1 (by omega)
  have C := G.1
  have r := G.2.2.2.1.1
  have c1 := vIn_3 hp (CI_n C r)
  have c2 : ¬ vIn (nI q) 0 1 = 0 := by
    rw [show (0 : Int32) = nI 0 from rfl, show (1 : Int32) = nI 1 from rfl, vIn_in (by decide) (by omega) hq]
    decide
  obtain ⟨τ, a1, a2, a3, a4, a5⟩ := cPlan_eq C F.1 r G.2.1 (p := p) (by omega) (G.2.2.2.1.2.2.1.2.1 p (by omega))
  have bv := bes_v a5 q
  refine ak_w G ?_ a2 a4
  show f_L_ask σ 18 (nI p) (nI q) = _
  rw [ask_eq, does_18, ← bv]
  unfold f_L_best f_X10_best f_X10_needPlayer
  rw [if_neg c1, oBx_l, if_neg c2, a1, oB_some]
  by_cases z : rI τ 65 3 = 0
  · rw [if_pos z, if_pos z, oBc_l]
  · rw [if_neg z, if_neg z, oBc_l]
theorem k_plan (G : GAx t σ B E dl m l ch B0 D hh L jk ml pn wr) (ht : t ≤ 700) {p j : Nat} (hp : p < 3) (hj : j < 2 ^ 31) : AK t σ B E dl m l ch B0 D hh L jk ml pn wr (fun σ => f_L_ask σ 19 (nI p) (nI j)) (plO (plF B m hh L p) j).toInt64 := by
  have F := G_facts G.2.2.2.1 (by omega)
  have C := G.1
  have r := G.2.2.2.1.1
  have c1 := vIn_3 hp (CI_n C r)
  have c2 : (0 : Int32) ≤ nI j := (nI_leI (a := 0) (by omega) hj).mpr (Nat.zero_le _)
  obtain ⟨τ, a1, a2, a3, a4, a5⟩ := cPlan_eq C F.1 r G.2.1 (p := p) (by omega) (G.2.2.2.1.2.2.1.2.1 p (by omega))
  have hct := plF_ct (m := m) (p := p) F.1.1 (by omega) r.2.2.2.1 r.2.2.1
  refine ak_w G ?_ a2 a4
  show f_L_ask σ 19 (nI p) (nI j) = _
  rw [ask_eq, does_19]
  unfold f_L_plan f_X10_plan f_X10_needPlayer
  rw [if_neg c1, oBx_l, if_pos c2, a1, oB_some, kindAt_eq a5 hct hj, oBc_l]
theorem k_alone (G : GAx t σ B E dl m l ch B0 D hh L jk ml pn wr) (ht : t ≤ 700) {kk : Nat} (hk : kk < 52) (hk13 : kk % 13 < hh) (b : Int32) : AK t σ B E dl m l ch B0 D hh L jk ml pn wr (fun σ => f_L_ask σ 20 (nI kk) b) (b2l (aloB B hh L kk)) := by
  have F := G_facts G.2.2.2.1 (by omega)
  have C := G.1
  have r := G.2.2.2.1.1
  have c : ¬ v_X5_isKind σ (nI kk) = 0 := by
    rw [isKind_k (CI_h C r) r.2.2.1 hk, if_neg (by omega)]
    decide
  obtain ⟨v, τ, a1, a2, a3, a4, a5⟩ := cAlone_eq C F.1 r G.2.1
  have ev : vBit v (nI kk) = b2i (aloB B hh L kk) := by
    obtain ⟨b1, b2⟩ := vBit_hb v hk
    cases y : aloB B hh L kk with
    | true => exact b1 ((a5 kk hk).mpr (aloB_iff.mp y))
    | false => exact b2 fun z => by rw [aloB_iff.mpr ((a5 kk hk).mp z)] at y; exact absurd y (by decide)
  refine ak_w G ?_ a2 a4
  show f_L_ask σ 20 (nI kk) b = _
  rw [ask_eq, does_20]
  unfold f_L_alone f_X10_alone f_X10_needKind
  rw [if_neg c, oBx_l, a1, oB_some, oBc_l, ev]
  cases aloB B hh L kk <;> rfl
theorem k_team (G : GAx t σ B E dl m l ch B0 D hh L jk ml pn wr) {q : Nat} (hq : q ≤ 1) (b : Int32) : AK t σ B E dl m l ch B0 D hh L jk ml pn wr (fun σ => f_L_ask σ 29 (nI q) b) (tmP m (nI q) 3).toInt64 := by
  have C := G.1
  have hn := CI_n C G.2.2.2.1.1
  have c1 : ¬ vIn (nI q) 0 1 = 0 := by
    rw [show (0 : Int32) = nI 0 from rfl, show (1 : Int32) = nI 1 from rfl, vIn_in (by decide) (by omega) hq]
    decide
  refine ak_0 G ?_
  show f_L_ask σ 29 (nI q) b = _
  obtain ⟨a, da⟩ : ∃ a, a = nI q := ⟨_, rfl⟩
  rw [← da] at c1 ⊢
  obtain ⟨x, a1, a2⟩ := oL_ix (body := b_X6_pointsOf_4 σ a) (fun i s => s = (tmP m a i, nI i)) (N := 3) (fun x => x = tmP m a 3) (by
      intro i s hi e
      subst e
      refine ⟨_, ?_, rfl⟩
      unfold b_X6_pointsOf_4
      dsimp only
      rw [hn, if_neg (show ¬ nI 3 ≤ nI i from fun z => by have := (nI_leI (by omega) (by omega)).mp z; omega), vAt_nI (by decide) (by omega), vAt_nI (by decide) (by omega), CI_4 C (x := 20) (j := i) (by omega), CI_4 C (x := 22) (j := i) (by omega), oLet_eq, nI_1]
      show some (Sum.inr ((if m 68 i = a then tmP m a i + m 70 i else tmP m a i), nI (i + 1))) = some (Sum.inr (tmP m a i + (if m 68 i = a then m 70 i else 0), nI (i + 1)))
      split
      · rfl
      · rw [ad0])
    (by
      intro s e
      subst e
      exact ⟨tmP m a 3, by unfold b_X6_pointsOf_4; rw [hn, if_pos (show nI 3 ≤ nI 3 from (nI_leI (by omega) (by omega)).mpr (Nat.le_refl _))], rfl⟩)
    (n := oFuel) (by rw [oFuel_eq]; omega) (s := (0, 0)) rfl
  subst a2
  rw [ask_eq, does_29]
  unfold f_L_team f_X10_team f_X6_pointsOf
  rw [if_neg c1, a1]
  rfl
theorem k_copies (G : GAx t σ B E dl m l ch B0 D hh L jk ml pn wr) (a b : Int32) : AK t σ B E dl m l ch B0 D hh L jk ml pn wr (fun σ => f_L_ask σ 24 a b) (coM m B 3 52) := by
  refine ak_0 G ?_
  show f_L_ask σ 24 a b = _
  rw [ask_eq, does_24, ccopies_eq G.1 (CI_n G.1 G.2.2.2.1.1) (by decide)]
  rfl
theorem k_rep (G : GAx t σ B E dl m l ch B0 D hh L jk ml pn wr) (ht : t ≤ 700) (a b : Int32) : AK t σ B E dl m l ch B0 D hh L jk ml pn wr (fun σ => f_L_ask σ 31 a b) 1 := by
  obtain ⟨τ, a1, a2, a3⟩ := cRep_eq G.1 G.2.2.2.1 (by omega)
  refine ak_w G ?_ a2 (KcI_fr G.2.1 (FrK_12 a3))
  show f_L_ask σ 31 a b = _
  rw [ask_eq, does_31, a1]
  rfl
noncomputable def adC (B : Bd) (m : Mem) (l : Nat → Int64) (p q j : Nat) : Int32 := ((1000 * (chA (ahB B p) (hiB B p j) - chB (nI (ahB B p) - chT B m l q j) (hiB B p j))) / chA (ahB B p) (hiB B p j)).toInt32
theorem k_chance (G : GAx t σ B E dl m l ch B0 D hh L jk ml pn wr) (ht : t ≤ 700) {p q j : Nat} (hp : p < 3) (hq : q < 3) (hpq : p ≠ q) (hj : j < 52) (hj13 : j % 13 < hh) : AK t σ B E dl m l ch B0 D hh L jk ml pn wr (fun σ => f_L_does σ 21 (nI p) (nI q) (nI j) 0 0) (adC B m l p q j).toInt64 := by
  have F := G_facts G.2.2.2.1 (by omega)
  have C := G.1
  have r := G.2.2.2.1.1
  have o := F.1.1
  have B2 := F.2.2.2.2.2.1
  have c1 := vIn_3 hp (CI_n C r)
  have c2 := vIn_3 hq (CI_n C r)
  have e12 : ¬ nI p = nI q := fun z => hpq ((nI_eq (by omega) (by omega)).mp z)
  have c3 : nI j = 52 ∨ ¬ v_X5_isKind σ (nI j) = 0 := Or.inr (by
    rw [isKind_k (CI_h C r) r.2.2.1 hj, if_neg (by omega)]
    decide)
  have hA := hi_ah B p (k := j) (by omega)
  have hA2 := ah_le o p
  have hH := Bo2_hi B2 r.2.2.2.2.1 p (k := j) (by omega)
  have vb : vBit (rL σ 29 q) (nI j) = vBit (l q) (nI j) := C.2.2.2.2.1 q (by omega) j (by omega)
  refine ak_0 G ?_
  show f_L_does σ 21 (nI p) (nI q) (nI j) 0 0 = _
  rw [does_21]
  unfold f_L_chance f_X10_chance f_X10_needPlayer
  rw [if_neg c1, oBx_l, if_neg c2, oBx_l, if_neg e12, needPiece_y c3, oBx_l]
  have e1 : f_X6_passedBy σ (nI q) = some (rL σ 29 q) := by
    unfold f_X6_passedBy
    rw [if_neg (show ¬ nI q < 0 from fun z => by have := (nI_lt' (b := 0) (by omega) (by omega)).mp z; omega), if_neg (show ¬ (4 : Int32) ≤ nI q from fun z => by have := (nI_leI (a := 4) (by omega) (by omega)).mp z; omega), if_neg (by decide), if_pos (inB_nI (by decide) (by omega)), nI_clamp (by omega)]
  rw [e1, Option.bind_some, vb, sizeOf_eq C.1 (by omega), vAt_nI (by decide) (by omega), CI_4 C (x := 25) (j := q) (by omega), show m (cx 25) (cj 25 q) = m 77 q from rfl, oLet_eq, allHidden_eq C.1 (by omega), Option.bind_some, hidden_eq C.1 (by omega) (by omega), Option.bind_some, thou_eq _ _ hH hA hA2, Option.bind_some, oBc_l]
  rfl
end
