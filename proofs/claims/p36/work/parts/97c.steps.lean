/-! the game of three players: what the law's balances ask, and how it stays -/
/-- points, wins and rounds, claims, teams -/
def Xo (t : Nat) (m : Mem) : Prop := (∃ z : Nat → Int, (∀ p, p < 3 → m 70 p = iI (z p) ∧ -(3000 * (t : Int)) ≤ z p ∧ z p ≤ 3000 * (t : Int)) ∧ z 0 + z 1 + z 2 = 0) ∧ (∃ (w : Nat → Nat) (r : Nat), (∀ p, p < 3 → m 73 p = nI (w p)) ∧ m 67 26 = nI r ∧ w 0 + w 1 + w 2 = r ∧ r ≤ t) ∧ (∀ i, i < 208 → ∃ a, a ≤ 2 ∧ m 78 i = nI a) ∧ ∀ p, p < 3 → m 68 p = 0 ∨ m 68 p = 1
theorem Xo_cg {t t' : Nat} {m m' : Mem} (X : Xo t m) (ht : t ≤ t') (h : ∀ x k, x = 70 ∨ x = 73 ∨ x = 68 ∨ (x = 67 ∧ k = 26) → m' x k = m x k) (h78 : ∀ i, i < 208 → m' 78 i = m 78 i ∨ ∃ a, a ≤ 2 ∧ m' 78 i = nI a) : Xo t' m' := by
  obtain ⟨⟨z, z1, z2⟩, ⟨w, r, w1, w2, w3, w4⟩, c, d⟩ := X
  refine ⟨⟨z, fun p hp => ?_, z2⟩, ⟨w, r, fun p hp => (h _ _ (by omega)).trans (w1 p hp), (h _ _ (by omega)).trans w2, w3, by omega⟩, fun i hi => ?_, fun p hp => by rw [h _ _ (by omega)]; exact d p hp⟩
  · obtain ⟨a1, a2, a3⟩ := z1 p hp
    exact ⟨(h _ _ (by omega)).trans a1, by omega, by omega⟩
  · rcases h78 i hi with e | e
    · rw [e]; exact c i hi
    · exact e
theorem Xo_s {t : Nat} {m : Mem} (X : Xo t m) : Xo (t + 1) m := Xo_cg X (Nat.le_succ _) (fun _ _ _ => rfl) (fun _ _ => Or.inl rfl)
theorem Xo_t {t t2 : Nat} {m : Mem} (X : Xo t m) (h : t ≤ t2) : Xo t2 m := Xo_cg X h (fun _ _ _ => rfl) (fun _ _ => Or.inl rfl)
theorem er_70 (m : Mem) (R : Nat → Nat) (w j p : Nat) (hp : p < 3) : erM m R w 3 j 70 p = if p = w then m 70 w + loS R w 3 else m 70 p - nI (woB R p) := by
  unfold erM
  rw [up2_at, if_neg (by omega), up2_at, if_neg (by omega), up2_at, if_neg (by omega), up2_at, if_neg (by omega), clM_74 _ _ _ (by omega)]
  unfold roM loM
  rw [up2_at]
  by_cases e : p = w
  · rw [if_pos ⟨rfl, e⟩, if_pos e]
  · rw [if_neg (fun z => e z.2), if_neg e, if_pos ⟨rfl, hp, e⟩]
theorem er_73 (m : Mem) (R : Nat → Nat) (w j p : Nat) : erM m R w 3 j 73 p = if p = w then m 73 w + 1 else m 73 p := by
  unfold erM
  rw [up2_at, if_neg (by omega), up2_at, if_neg (by omega), up2_at, if_neg (by omega), up2_at]
  by_cases e : p = w
  · rw [if_pos ⟨rfl, e⟩, if_pos e]
  · rw [if_neg (fun z => e z.2), if_neg e, clM_74 _ _ _ (by omega), roM_at _ _ _ _ (by omega)]
theorem er_26 (m : Mem) (R : Nat → Nat) (w j : Nat) : erM m R w 3 j 67 26 = m 67 26 + 1 := by
  unfold erM
  rw [up2_at, if_neg (by omega), up2_at, if_neg (by omega), up2_at, if_pos ⟨rfl, rfl⟩]
theorem loS_3 (R : Nat → Nat) (w : Nat) (hw : w < 3) : loS R w 3 = iI ((if w = 0 then 0 else (woB R 0 : Int)) + (if w = 1 then 0 else (woB R 1 : Int)) + (if w = 2 then 0 else (woB R 2 : Int))) := by
  have z : (0 : Int32) = iI 0 := rfl
  rcases (by omega : w = 0 ∨ w = 1 ∨ w = 2) with rfl | rfl | rfl
  · rw [loS, if_neg (by decide), loS, if_neg (by decide), loS, if_pos rfl, loS, z, ← iI_nat, ← iI_nat, iI_add, iI_add, if_pos rfl, if_neg (by decide), if_neg (by decide)]
  · rw [loS, if_neg (by decide), loS, if_pos rfl, loS, if_neg (by decide), loS, z, ← iI_nat, ← iI_nat, iI_add, iI_add, if_neg (by decide), if_pos rfl, if_neg (by decide)]
    congr 1
    omega
  · rw [loS, if_pos rfl, loS, if_neg (by decide), loS, if_neg (by decide), loS, z, ← iI_nat, ← iI_nat, iI_add, iI_add, if_neg (by decide), if_neg (by decide), if_pos rfl]
    congr 1
    omega
/-- a round's end -/
theorem Xo_er {t : Nat} {m : Mem} {R : Nat → Nat} {w j : Nat} (X : Xo t m) (hw : w < 3) (hR : ∀ p, p < 3 → woB R p ≤ 720) : Xo (t + 1) (erM m R w 3 j) := by
  obtain ⟨⟨z, z1, z2⟩, ⟨v, r, w1, w2, w3, w4⟩, c, d⟩ := X
  have h0 := hR 0 (by omega)
  have h1 := hR 1 (by omega)
  have h2 := hR 2 (by omega)
  refine ⟨⟨fun p => if p = w then z w + ((if w = 0 then 0 else (woB R 0 : Int)) + (if w = 1 then 0 else (woB R 1 : Int)) + (if w = 2 then 0 else (woB R 2 : Int))) else z p - (woB R p : Int), fun p hp => ?_, ?_⟩, ⟨fun p => if p = w then v w + 1 else v p, r + 1, fun p hp => ?_, ?_, ?_, by omega⟩, fun i hi => ?_, fun p hp => ?_⟩
  · rw [er_70 _ _ _ _ _ hp]
    have a := z1 w hw
    have b := z1 p hp
    have hp2 := hR p hp
    by_cases e : p = w
    · rw [if_pos e]
      dsimp only
      rw [if_pos e, loS_3 R w hw, a.1, iI_add]
      refine ⟨rfl, ?_, ?_⟩ <;> rcases (by omega : w = 0 ∨ w = 1 ∨ w = 2) with rfl | rfl | rfl <;> simp <;> omega
    · rw [if_neg e]
      dsimp only
      rw [if_neg e, b.1, ← iI_nat, iI_sub]
      exact ⟨rfl, by omega, by omega⟩
  · rcases (by omega : w = 0 ∨ w = 1 ∨ w = 2) with rfl | rfl | rfl <;> simp <;> omega
  · rw [er_73]
    by_cases e : p = w
    · rw [if_pos e]
      dsimp only
      rw [if_pos e, w1 w hw, nI_1]
    · rw [if_neg e]
      dsimp only
      rw [if_neg e]
      exact w1 p hp
  · rw [er_26, w2, nI_1]
  · rcases (by omega : w = 0 ∨ w = 1 ∨ w = 2) with rfl | rfl | rfl <;> simp <;> omega
  · rw [erM_at _ _ _ _ _ (by omega)]
    exact c i hi
  · rw [erM_at _ _ _ _ _ (by omega)]
    exact d p hp
theorem wo_720 {R : Nat → Nat} (h : ∀ q, q < 4 → rsz R q ≤ 24) : ∀ p, p < 3 → woB R p ≤ 720 := fun p hp => by
  have h1 := woB_le R p
  have h2 := h p (by omega)
  omega
theorem Xo_el {t : Nat} {m : Mem} {R : Nat → Nat} {p j : Nat} (X : Xo t m) (hp : p < 3) (hR : ∀ q, q < 4 → rsz R q ≤ 24) : Xo (t + 1) (elM m R p 3 j) := by
  unfold elM
  have X1 : Xo t (up2 (up2 m 72 p 1) 67 25 0) := Xo_cg X (Nat.le_refl _) (fun x k h => by rw [up2_at, if_neg (by omega), up2_at, if_neg (by omega)]) (fun i _ => Or.inl (by rw [up2_at, if_neg (by omega), up2_at, if_neg (by omega)]))
  split
  · exact Xo_er X1 hp (wo_720 hR)
  · exact Xo_cg X1 (Nat.le_succ _) (fun x k h => by rw [up2_at, if_neg (by omega)]) (fun i _ => Or.inl (by rw [up2_at, if_neg (by omega)]))
theorem Xo_dw {t : Nat} {m : Mem} {B B0 : Bd} {pn p c j : Nat} (X : Xo t m) (hR : ∀ q, q < 4 → rsz (bR (dwB B B0 pn p)) q ≤ 24) : Xo (t + 1) (dwM m B B0 pn p 3 c j) := by
  have X1 : Xo t (up2 (frM (paMb (pasB B m p) m p) p (dwN B B0 pn p)) 67 25 (nI (pcN c (dwN B B0 pn p)))) := Xo_cg X (Nat.le_refl _) (fun x k h => by rw [up2_at, if_neg (by omega), frM_at _ _ _ (by omega), paMb_at _ _ _ (by omega)]) (fun i _ => Or.inl (by rw [up2_at, if_neg (by omega), frM_at _ _ _ (by omega), paMb_at _ _ _ (by omega)]))
  unfold dwM drM
  split
  · exact Xo_cg X1 (Nat.le_succ _) (fun x k h => by rw [up2_at, if_neg (by omega)]) (fun i _ => Or.inl (by rw [up2_at, if_neg (by omega)]))
  · exact Xo_er X1 (liB_lt _ 3 (by omega)) (wo_720 hR)
/-- tiles drawn since a pass -/
def F7 (t : Nat) (m : Mem) : Prop := ∀ p, p < 4 → ∃ f, f ≤ 9 * t ∧ m 77 p = nI f
theorem F7_cg {t t' : Nat} {m m' : Mem} (H : F7 t m) (ht : t ≤ t') (h : ∀ k, m' 77 k = m 77 k) : F7 t' m' := fun p hp => by
  obtain ⟨f, h1, h2⟩ := H p hp
  exact ⟨f, by omega, (h p).trans h2⟩
theorem F7_pa {t : Nat} {m : Mem} {b : Bool} {p : Nat} (H : F7 t m) : F7 t (paMb b m p) := fun q hq => by
  unfold paMb
  split
  · unfold paM
    by_cases e : q = p
    · subst e
      first
        | exact ⟨0, Nat.zero_le _, by rw [up2_at, if_pos ⟨rfl, rfl⟩]; rfl⟩
        | exact ⟨0, Nat.zero_le _, by rw [up2_at, if_neg (by omega), up2_at, if_pos ⟨rfl, rfl⟩]; rfl⟩
    · obtain ⟨f, h1, h2⟩ := H q hq
      exact ⟨f, h1, by rw [up2_at, if_neg (by omega), up2_at, if_neg (by omega)]; exact h2⟩
  · exact H q hq
theorem F7_fr {t : Nat} {m : Mem} {p dn : Nat} (hd : dn ≤ 9) (H : F7 t m) : F7 (t + 1) (frM m p dn) := fun q hq => by
  obtain ⟨f, h1, h2⟩ := H q hq
  unfold frM
  split
  · by_cases e : q = p
    · subst e
      exact ⟨f + dn, by omega, by rw [up2_at, if_pos ⟨rfl, rfl⟩, h2, nI_add]⟩
    · exact ⟨f, by omega, by rw [up2_at, if_neg (by omega)]; exact h2⟩
  · exact ⟨f, by omega, h2⟩
theorem F7_er {t : Nat} {m : Mem} {R : Nat → Nat} {w j : Nat} (H : F7 t m) : F7 t (erM m R w 3 j) := F7_cg H (Nat.le_refl _) fun k => erM_at _ _ _ _ _ (by omega)
theorem F7_el {t : Nat} {m : Mem} {R : Nat → Nat} {p j : Nat} (H : F7 t m) : F7 (t + 1) (elM m R p 3 j) := F7_cg H (Nat.le_succ _) fun k => elM_at _ _ _ _ _ (by omega)
theorem F7_dw {t : Nat} {m : Mem} {B B0 : Bd} {pn p c j : Nat} (hd : dwN B B0 pn p ≤ 9) (H : F7 t m) : F7 (t + 1) (dwM m B B0 pn p 3 c j) := by
  have H1 : F7 (t + 1) (up2 (frM (paMb (pasB B m p) m p) p (dwN B B0 pn p)) 67 25 (nI (pcN c (dwN B B0 pn p)))) := F7_cg (F7_fr hd (F7_pa H)) (Nat.le_refl _) fun k => by rw [up2_at, if_neg (by omega)]
  unfold dwM drM
  split
  · exact F7_cg H1 (Nat.le_refl _) fun k => by rw [up2_at, if_neg (by omega)]
  · exact F7_er H1
def Xt (t : Nat) (m : Mem) : Prop := F7 t m ∧ Xo t m
theorem Xt_cg {t t' : Nat} {m m' : Mem} (X : Xt t m) (ht : t ≤ t') (h : ∀ x k, x = 70 ∨ x = 73 ∨ x = 68 ∨ x = 77 ∨ (x = 67 ∧ k = 26) → m' x k = m x k) (h78 : ∀ i, i < 208 → m' 78 i = m 78 i ∨ ∃ a, a ≤ 2 ∧ m' 78 i = nI a) : Xt t' m' := ⟨F7_cg X.1 ht fun k => h 77 k (by omega), Xo_cg X.2 ht (fun x k hx => h x k (by omega)) h78⟩
theorem Xt_s {t : Nat} {m : Mem} (X : Xt t m) : Xt (t + 1) m := Xt_cg X (Nat.le_succ _) (fun _ _ _ => rfl) (fun _ _ => Or.inl rfl)
theorem Xt_t {t t2 : Nat} {m : Mem} (X : Xt t m) (h : t ≤ t2) : Xt t2 m := Xt_cg X h (fun _ _ _ => rfl) (fun _ _ => Or.inl rfl)
theorem Xt_el {t : Nat} {m : Mem} {R : Nat → Nat} {p j : Nat} (X : Xt t m) (hp : p < 3) (hR : ∀ q, q < 4 → rsz R q ≤ 24) : Xt (t + 1) (elM m R p 3 j) := ⟨F7_el X.1, Xo_el X.2 hp hR⟩
theorem Xt_dw {t : Nat} {m : Mem} {B B0 : Bd} {pn p c j : Nat} (X : Xt t m) (hR : ∀ q, q < 4 → rsz (bR (dwB B B0 pn p)) q ≤ 24) (hd : dwN B B0 pn p ≤ 9) : Xt (t + 1) (dwM m B B0 pn p 3 c j) := ⟨F7_dw hd X.1, Xo_dw X.2 hR⟩
/-- the game -/
def GAx (t : Nat) (σ : rS) (B : Bd) (E : List Ent) (dl : Option (Nat × Nat × Nat)) (m : Mem) (l : Nat → Int64) (ch : Nat) (B0 : Bd) (D : List (Nat × Nat)) (hh L jk ml pn wr : Nat) : Prop := CI σ B E dl m l ch ∧ KcI σ B m hh L ch ∧ ch ≤ 20000 * (t + 1) ∧ GmS t B E dl m B0 D hh L jk ml pn 3 wr ∧ Xt (41 * t) m
def GA (t : Nat) (σ : rS) (hh jk : Nat) : Prop := ∃ B E dl m l ch B0 D L ml pn wr, GAx t σ B E dl m l ch B0 D hh L jk ml pn wr
/-- cells of the state that are told -/
def mEq (m m' : Mem) : Prop := ∀ x k, x ≤ 86 → ¬ (x = 67 ∧ (k = 37 ∨ k = 200)) → m' x k = m x k
theorem mEq.rf (m : Mem) : mEq m m := fun _ _ _ _ => rfl
/-- a call of the game: refused, and the state is the same; or done -/
def AR (t : Nat) (f : rS → Option (Int64 × rS)) (σ : rS) (B : Bd) (E : List Ent) (dl : Option (Nat × Nat × Nat)) (m : Mem) (l : Nat → Int64) (ch : Nat) (B0 : Bd) (D : List (Nat × Nat)) (hh L jk ml pn wr : Nat) : Prop := (∃ c σ1 m', c ≤ -10000 ∧ f σ = some (c, σ1) ∧ mEq m m' ∧ GAx t σ1 B E dl m' l ch B0 D hh L jk ml pn wr) ∨ ∃ v σ1, okV v ∧ f σ = some (v.toInt64, σ1) ∧ GA (t + 1) σ1 hh jk
section
variable {t : Nat} {σ : rS} {B : Bd} {E : List Ent} {dl : Option (Nat × Nat × Nat)} {m : Mem} {l : Nat → Int64} {ch : Nat} {B0 : Bd} {D : List (Nat × Nat)} {hh L jk ml pn wr : Nat}
theorem ar_x {f : rS → Option (Int64 × rS)} (G : GAx t σ B E dl m l ch B0 D hh L jk ml pn wr) (Q : XS f σ) : AR t f σ B E dl m l ch B0 D hh L jk ml pn wr := by
  obtain ⟨v, σ1, a1, a2, rfl⟩ := Q
  exact Or.inl ⟨v, σ1, m, a1, a2, mEq.rf m, G⟩
theorem ar_y {f : rS → Option (Int64 × rS)} {Kp : rS → Prop} {B' : Bd} {E' : List Ent} {dl' : Option (Nat × Nat × Nat)} {m' : Mem} {l' : Nat → Int64} {ch' : Nat} {B0' : Bd} {D' : List (Nat × Nat)} {L' ml' pn' wr' : Nat} (Q : YS Kp f σ B' E' dl' m' l' ch') (hK : ∀ τ, Kp τ → KcI τ B' m' hh L' ch') (hc : ch' ≤ 20000 * (t + 1 + 1)) (S : GmS (t + 1) B' E' dl' m' B0' D' hh L' jk ml' pn' 3 wr') {tx : Nat} (X : Xt tx m') (htx : tx ≤ 41 * t + 41 := by omega) : AR t f σ B E dl m l ch B0 D hh L jk ml pn wr := by
  obtain ⟨v, σ1, a1, a2, a3, a4⟩ := Q
  exact Or.inr ⟨v, σ1, a1, a2, B', E', dl', m', l', ch', B0', D', L', ml', pn', wr', a3, hK _ a4, hc, S, Xt_t X htx⟩
theorem ar_o {f : rS → Option (Int64 × rS)} {B' : Bd} {E' : List Ent} {dl' : Option (Nat × Nat × Nat)} {m' : Mem} {l' : Nat → Int64} {ch' : Nat} {B0' : Bd} {D' : List (Nat × Nat)} {L' ml' pn' wr' : Nat} {v : Int32} {σ1 : rS} (hv : okV v) (hL : f σ = some (v.toInt64, σ1)) (C : CI σ1 B' E' dl' m' l' ch') (K : KcI σ1 B' m' hh L' ch') (hc : ch' ≤ 20000 * (t + 1 + 1)) (S : GmS (t + 1) B' E' dl' m' B0' D' hh L' jk ml' pn' 3 wr') {tx : Nat} (X : Xt tx m') (htx : tx ≤ 41 * t + 41 := by omega) : AR t f σ B E dl m l ch B0 D hh L jk ml pn wr := Or.inr ⟨v, σ1, hv, hL, B', E', dl', m', l', ch', B0', D', L', ml', pn', wr', C, K, hc, S, Xt_t X htx⟩
theorem ar_s {f : rS → Option (Int64 × rS)} {c : Int64} {σ1 : rS} (G : GAx t σ B E dl m l ch B0 D hh L jk ml pn wr) (hc : c ≤ -10000) (hL : f σ = some (c, σ1)) (C : CI σ1 B E dl m l ch) (fk : FrK σ σ1) : AR t f σ B E dl m l ch B0 D hh L jk ml pn wr := Or.inl ⟨c, σ1, m, hc, hL, mEq.rf m, C, KcI_fr G.2.1 fk, G.2.2⟩
theorem a_lay (G : GAx t σ B E dl m l ch B0 D hh L jk ml pn wr) (ht : t ≤ 512) (k : Int32) : AR t (fun σ => f_L_lay σ k) σ B E dl m l ch B0 D hh L jk ml pn wr := by
  obtain ⟨C, K, hc, S, X⟩ := id G
  have F := G_facts S (by omega)
  rcases lay_s C (Kp := FrK σ) (fun _ f => f) S.1 F.1 F.2.1 (by have := F.2.2.1; omega) (by rw [F.2.2.2.1]; have := F.2.2.2.2.1; omega) k with Q | ⟨p, j, c, hp, tp, hj, v, g1, g2, Q⟩
  · exact ar_x G Q
  · exact ar_y Q (fun τ f => KcI_up (KcI_fr K f) (by omega) (by omega)) (by omega) (Gm_add S hp tp v hj (fun _ => by dsimp only; omega) (Or.inl ⟨rfl, rfl⟩)) (Xt_s X)
theorem a_joker (G : GAx t σ B E dl m l ch B0 D hh L jk ml pn wr) (ht : t ≤ 512) (k : Int32) : AR t (fun σ => f_L_joker σ k) σ B E dl m l ch B0 D hh L jk ml pn wr := by
  obtain ⟨C, K, hc, S, X⟩ := id G
  have F := G_facts S (by omega)
  rcases joker_s C (Kp := FrK σ) (fun _ f => f) S.1 F.1 F.2.1 (by have := F.2.2.1; omega) (by rw [F.2.2.2.1]; have := F.2.2.2.2.1; omega) k with Q | ⟨p, j, c, hp, tp, hj, v, g1, g2, Q⟩
  · exact ar_x G Q
  · refine ar_y Q (fun τ f => KcI_up (KcI_fr K f) (by omega) (by omega)) (by omega) (Gm_add S hp tp v hj (fun e => ?_) (Or.inr (Or.inl ⟨rfl, rfl⟩))) (Xt_s X)
    have on := On_same S.1.2.2.2.2.2.2.2.2 S.2.1 hp tp
    have hF : bF B = 0 := by
      have h1 := runB_nF (p := p) (B := B0) D on.2.2.1 (fun d hd => by have := on.2.2.2.2.2.1 e d hd; omega)
      rw [← on.2.2.2.1, S.2.1.1.1.2.2] at h1
      omega
    dsimp only
    rw [if_pos hF]
    exact Nat.le_refl _
theorem a_swap (G : GAx t σ B E dl m l ch B0 D hh L jk ml pn wr) (ht : t ≤ 512) (k : Int32) : AR t (fun σ => f_L_swap σ k) σ B E dl m l ch B0 D hh L jk ml pn wr := by
  obtain ⟨C, K, hc, S, X⟩ := id G
  have F := G_facts S (by omega)
  rcases swap_s C (Kp := FrK σ) (fun _ f => f) S.1 F.1 F.2.1 S.2.2.1.2.1 (by have := F.2.2.1; omega) (by rw [F.2.2.2.1]; have := F.2.2.2.2.1; omega) k with Q | ⟨p, j, c, hp, tp, hj, hm, v, g1, g2, Q⟩
  · exact ar_x G Q
  · exact ar_y Q (fun τ f => KcI_up (KcI_fr K f) (by omega) (by omega)) (by omega) (Gm_add S hp tp v hj (fun e => by rw [hm] at e; exact absurd e (by decide)) (Or.inr (Or.inr ⟨rfl, rfl⟩))) (Xt_s X)
theorem a_back (G : GAx t σ B E dl m l ch B0 D hh L jk ml pn wr) (ht : t ≤ 512) : AR t (fun σ => f_L_back σ) σ B E dl m l ch B0 D hh L jk ml pn wr := by
  obtain ⟨C, K, hc, S, X⟩ := id G
  have F := G_facts S (by omega)
  rcases back_s C (Kp := FrK σ) (fun _ f => f) S.1.2.2.2.2.2.2.2.2 F.2.2.2.2.2.2.2.1 (by have := F.2.2.1; omega) with Q | ⟨p, B1, d, c, hp, tp, v, hB, g1, g2, Q⟩
  · exact ar_x G Q
  · obtain ⟨D1, S1⟩ := Gm_back S hp tp v hB
    exact ar_y Q (fun τ f => KcI_up (KcI_fr K f) (by omega) (by omega)) (by omega) S1 (Xt_s X)
theorem a_claim (G : GAx t σ B E dl m l ch B0 D hh L jk ml pn wr) (p k c : Int32) : AR t (fun σ => f_L_claim σ p k c) σ B E dl m l ch B0 D hh L jk ml pn wr := by
  obtain ⟨C, K, hc, S, X⟩ := id G
  obtain ⟨-, -, -, ⟨w1, w2, w3, -⟩, -⟩ := id S
  rcases claim_s C (Kp := FrK σ) (fun _ f => f) S.1 (fun i hi => by
    obtain ⟨a, h1, h2⟩ := X.2.2.2.1 i hi
    rw [h2]
    exact okV_n (by omega)) p k c with Q | ⟨i, hi, hv, Q⟩
  · exact ar_x G Q
  · obtain ⟨a, -, h2, rfl⟩ := vIn_of (a := 0) (b := 2) (by decide) hv (by decide)
    refine ar_y Q (fun τ f => KcI_m (KcI_fr K f) fun q _ => by rw [up2_at, if_neg (by omega)]) (by omega) (Gm_m S (fun x k h => by rw [up2_at, if_neg (by omega)]) (by rw [up2_at, if_neg (by omega)]; exact w1) w2 (t + 1) (by omega)) (Xt_cg X (Nat.le_succ _) (fun x k h => by rw [up2_at, if_neg (by omega)]) (fun q _ => ?_))
    rw [up2_at]
    by_cases e : q = i
    · rw [if_pos ⟨rfl, e⟩]; exact Or.inr ⟨a, h2, rfl⟩
    · rw [if_neg (fun z => e z.2)]; exact Or.inl rfl
theorem a_type (G : GAx t σ B E dl m l ch B0 D hh L jk ml pn wr) (c : Int32) : AR t (fun σ => f_L_type σ c) σ B E dl m l ch B0 D hh L jk ml pn wr := by
  obtain ⟨C, K, hc, S, X⟩ := id G
  obtain ⟨-, -, -, ⟨w1, w2, w3, -⟩, -⟩ := id S
  rcases type_s C (Kp := FrK σ) (fun _ f => f) w1 w2 c with Q | ⟨h40, Q⟩
  · exact ar_x G Q
  · exact ar_y Q (fun τ f => KcI_m (KcI_fr K f) fun q _ => by rw [up2_at, if_neg (by omega), up2_at, if_neg (by omega)]) (by omega) (Gm_m (wr' := wr + 1) S (fun x k h => by rw [up2_at, if_neg (by omega), up2_at, if_neg (by omega)]) (by rw [up2_at, if_pos ⟨rfl, rfl⟩]) (by omega) (t + 1) (by omega)) (Xt_cg X (Nat.le_succ _) (fun x k h => by rw [up2_at, if_neg (by omega), up2_at, if_neg (by omega)]) (fun q _ => Or.inl (by rw [up2_at, if_neg (by omega), up2_at, if_neg (by omega)])))
theorem a_wipe (G : GAx t σ B E dl m l ch B0 D hh L jk ml pn wr) : AR t (fun σ => (f_X10_wipe σ).bind fun r => some (r.1.toInt64, r.2)) σ B E dl m l ch B0 D hh L jk ml pn wr := by
  obtain ⟨C, K, hc, S, X⟩ := id G
  obtain ⟨-, -, -, ⟨w1, w2, w3, -⟩, -⟩ := id S
  have C1 : CI (wI σ 31 1 0) B E dl (up2 m 67 34 0) l ch := CI_w C (a := 31) (k := 1) (by omega) 0
  refine ar_o (v := nI wr) (σ1 := wI σ 31 1 0) (m' := up2 m 67 34 0) (okV_n (by omega)) ?_ C1 (KcI_m (KcI_fr K (FrK_w (by omega) _)) fun q _ => by rw [up2_at, if_neg (by omega)]) (by omega) (Gm_m (wr' := 0) S (fun x k h => by rw [up2_at, if_neg (by omega)]) (by rw [up2_at, if_pos ⟨rfl, rfl⟩]; rfl) (by omega) (t + 1) (by omega)) (Xt_cg X (Nat.le_succ _) (fun x k h => by rw [up2_at, if_neg (by omega)]) (fun q _ => Or.inl (by rw [up2_at, if_neg (by omega)])))
  show some ((rI σ 31 1).toInt64, wI σ 31 1 0) = _
  rw [CI_4 C (x := 31) (j := 1) (by omega), show m (cx 31) (cj 31 1) = m 67 34 from rfl, w1]
end
