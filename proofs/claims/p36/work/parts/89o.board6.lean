/-! what a rack is worth; what is hidden; boards alike -/
def woB (R : Nat → Nat) (p : Nat) : Nat := 30 * R (53 * p + 52) + natSum (fun k => (k % 13 + 1) * R (53 * p + k)) 52
def liB (R : Nat → Nat) : Nat → Nat
  | 0 => 0
  | n + 1 => if n = 0 then 0 else if woB R (liB R n) ≤ woB R n then liB R n else n
def laW1 (d : Nat × Nat) : Nat := if d.1 = 0 then d.2 % 13 + 1 else 0
def laW (D : List (Nat × Nat)) : Nat := D.foldl (fun a d => a + laW1 d) 0
def hiB (B : Bd) (p k : Nat) : Nat := bP B k + natSum (fun i => if i = p then 0 else bR B (53 * i + k)) 4
def ahB (B : Bd) (p : Nat) : Nat := natSum (bP B) 53 + natSum (fun i => if i = p then 0 else rsz (bR B) i) 4
theorem nsum_le {f g : Nat → Nat} {n : Nat} (h : ∀ m, m < n → f m ≤ g m) : natSum f n ≤ natSum g n := by
  induction n with
  | zero => exact Nat.le_refl _
  | succ n ih =>
    simp only [natSum]
    have := ih fun m hm => h m (by omega)
    have := h n (by omega)
    omega
theorem nsum_mul {f : Nat → Nat} {c n : Nat} : natSum (fun k => c * f k) n = c * natSum f n := by
  induction n with
  | zero => rfl
  | succ n ih => simp only [natSum]; rw [ih, Nat.mul_add]
theorem woB_le (R : Nat → Nat) (p : Nat) : woB R p ≤ 30 * rsz R p := by
  have e : rsz R p = natSum (fun k => R (53 * p + k)) 52 + R (53 * p + 52) := rfl
  have h := nsum_le (f := fun k => (k % 13 + 1) * R (53 * p + k)) (g := fun k => 30 * R (53 * p + k)) (n := 52) fun m _ => Nat.mul_le_mul_right _ (by omega)
  rw [nsum_mul (f := fun k => R (53 * p + k))] at h
  unfold woB
  rw [e]
  omega
theorem rackOf_eq {σ : rS} {b p k : Nat} {B : Bd} {ch : Nat} (H : BR σ b B ch) (hp : p < 4) (hk : k < 53) : v_X1_rackOf σ b (nI p) (nI k) = nI (bR B (53 * p + k)) := by
  unfold v_X1_rackOf
  rw [show (53 : Int32) = nI 53 from rfl, nI_mul, nI_add, Nat.mul_comm, vAt_nI (by decide) (by omega), H.2.1 _ (by omega)]
theorem sizeOf_eq {σ : rS} {b p : Nat} {B : Bd} {ch : Nat} (H : BR σ b B ch) (hp : p < 4) : v_X1_sizeOf σ b (nI p) = nI (rsz (bR B) p) := by
  unfold v_X1_sizeOf; rw [vAt_nI (by decide) hp, H.2.2.1 p hp]
theorem lies_eq {σ : rS} {b k : Nat} {B : Bd} {ch : Nat} (H : BR σ b B ch) (hk : k < 52) : v_X1_lies σ b (nI k) = nI (bT B k + bJ B k) := by
  unfold v_X1_lies; rw [vAt_nI (by decide) hk, vAt_nI (by decide) hk, H.2.2.2.1 k hk, H.2.2.2.2.1 k hk, nI_add]
theorem worthOf_eq {σ : rS} {b p : Nat} {B : Bd} {ch : Nat} (H : BR σ b B ch) (hp : p < 4) : f_X1_worthOf σ b (nI p) = some (nI (woB (bR B) p)) := by
  obtain ⟨r, h1, h2⟩ := oL_ix (body := b_X1_worthOf_13 σ b (nI p)) (fun k s => s = (nI (30 * bR B (53 * p + 52) + natSum (fun k => (k % 13 + 1) * bR B (53 * p + k)) k), nI k)) (N := 52) (fun r => r = nI (woB (bR B) p)) (by
      intro k s hk e
      subst e
      refine ⟨_, ?_, rfl⟩
      unfold b_X1_worthOf_13
      dsimp only
      rw [if_neg (show ¬ (52 : Int32) ≤ nI k from fun z => by have := (nI_leI (a := 52) (by omega) (by omega)).mp z; omega), oLet_eq, rackOf_eq H hp (by omega), show (13 : Int32) = nI 13 from rfl, nI_rem (by omega) (by omega), nI_1, nI_mul, nI_add, nI_1]
      simp only [natSum]
      rw [Nat.add_assoc])
    (by
      intro s e
      subst e
      exact ⟨nI (woB (bR B) p), by unfold b_X1_worthOf_13; rw [if_pos (show (52 : Int32) ≤ nI 52 by decide)]; rfl, rfl⟩)
    (n := oFuel) (by rw [oFuel_eq]; decide) (s := (30 * (v_X1_rackOf σ b (nI p) 52), 0)) (by
      rw [show (52 : Int32) = nI 52 from rfl, rackOf_eq H hp (by omega), show (30 : Int32) = nI 30 from rfl, nI_mul]
      rfl)
  subst h2
  exact h1
theorem liB_lt (R : Nat → Nat) : ∀ n, 1 ≤ n → liB R n < n
  | 0, h => absurd h (by decide)
  | 1, _ => Nat.zero_lt_one
  | n + 2, _ => by
    have := liB_lt R (n + 1) (by omega)
    rw [liB, if_neg (by omega)]
    split
    · omega
    · omega
theorem lightest_eq {σ : rS} {b n : Nat} {B : Bd} {ch : Nat} (H : BR σ b B ch) (o : OkB B) (h1 : 1 ≤ n) (hn : n ≤ 4) : f_X1_lightest σ b (nI n) = some (nI (liB (bR B) n)) := by
  obtain ⟨r, a1, a2⟩ := oL_ix (body := b_X1_lightest_4 σ b (nI n)) (fun k s => s = (nI (liB (bR B) (k + 1)), nI (k + 1))) (N := n - 1) (fun r => r = nI (liB (bR B) n)) (by
      intro k s hk e
      subst e
      refine ⟨_, ?_, rfl⟩
      have lt := liB_lt (bR B) (k + 1) (by omega)
      unfold b_X1_lightest_4
      dsimp only
      have w1 := woB_le (bR B) (liB (bR B) (k + 1))
      have w2 := woB_le (bR B) (k + 1)
      have w3 := o.2.1 (liB (bR B) (k + 1)) (by omega)
      have w4 := o.2.1 (k + 1) (by omega)
      have c : (nI (woB (bR B) (liB (bR B) (k + 1))) ≤ nI (woB (bR B) (k + 1))) = (woB (bR B) (liB (bR B) (k + 1)) ≤ woB (bR B) (k + 1)) := propext (nI_leI (by omega) (by omega))
      rw [if_neg (show ¬ nI n ≤ nI (k + 1) from fun z => by have := (nI_leI (by omega) (by omega)).mp z; omega), worthOf_eq H (by omega), worthOf_eq H (by omega)]
      simp only [Option.bind_some, c, nI_1]
      have e : liB (bR B) (k + 1 + 1) = if woB (bR B) (liB (bR B) (k + 1)) ≤ woB (bR B) (k + 1) then liB (bR B) (k + 1) else k + 1 := if_neg (show ¬ k + 1 = 0 by omega)
      rw [e]
      split <;> rfl)
    (by
      intro s e
      subst e
      refine ⟨_, by unfold b_X1_lightest_4; rw [if_pos (show nI n ≤ nI (n - 1 + 1) by rw [show n - 1 + 1 = n by omega]; exact (nI_leI (by omega) (by omega)).mpr (Nat.le_refl _))], ?_⟩
      show nI (liB (bR B) (n - 1 + 1)) = _
      rw [show n - 1 + 1 = n by omega])
    (n := oFuel) (by rw [oFuel_eq]; omega) (s := (0, 1)) rfl
  subst a2
  exact a1
theorem take_sn {α : Type} {D : List α} {i : Nat} {d : α} (h : D[i]? = some d) : D.take (i + 1) = D.take i ++ [d] := by
  rw [List.take_add_one, h]
  rfl
theorem laidWorth_eq {σ : rS} {b : Nat} {B : Bd} {ch : Nat} (H : BR σ b B ch) (hl : (bD B).length ≤ 64) (hd : ∀ d ∈ bD B, d.1 ≤ 3 ∧ d.2 < 52) : f_X1_laidWorth σ b = some (nI (laW (bD B))) := by
  obtain ⟨r, a1, a2⟩ := oL_ix (body := b_X1_laidWorth_4 σ b) (fun k s => s = (nI (laW ((bD B).take k)), nI k)) (N := (bD B).length) (fun r => r = nI (laW (bD B))) (by
      intro k s hk e
      subst e
      refine ⟨_, ?_, rfl⟩
      obtain ⟨d, hkd⟩ : ∃ d, (bD B)[k]? = some d := ⟨_, List.getElem?_eq_getElem hk⟩
      have e6 := H.2.2.2.2.2.1.2 k d hkd
      have hm := hd d (List.mem_of_getElem? hkd)
      obtain ⟨k1, k2⟩ := dn_kind (h := d.1) (k := d.2) (by omega) hm.1
      unfold b_X1_laidWorth_4 v_X1_doneKind
      dsimp only
      rw [H.2.2.2.2.2.1.1, if_neg (show ¬ nI (bD B).length ≤ nI k from fun z => by have := (nI_leI (by omega) (by omega)).mp z; omega), vAt_nI (by decide) (by omega), e6, k1, k2, oLet_eq, nI_1, take_sn hkd]
      have c : (nI d.1 = 0) = (d.1 = 0) := propext (nI_eq (b := 0) (by omega) (by omega))
      have e : (if nI d.1 = 0 then iRem (nI d.2) 13 + 1 else (0 : Int32)) = nI (laW1 d) := by
        simp only [c]
        unfold laW1
        split
        · rw [show (13 : Int32) = nI 13 from rfl, nI_rem (by omega) (by omega), nI_1]
        · rfl
      rw [e, nI_add]
      unfold laW
      rw [List.foldl_append]
      rfl)
    (by
      intro s e
      subst e
      refine ⟨_, by unfold b_X1_laidWorth_4; rw [H.2.2.2.2.2.1.1, if_pos (show nI (bD B).length ≤ nI (bD B).length from (nI_leI (by omega) (by omega)).mpr (Nat.le_refl _))], ?_⟩
      dsimp only
      rw [List.take_of_length_le (Nat.le_refl _)])
    (n := oFuel) (by rw [oFuel_eq]; omega) (s := (0, 0)) rfl
  subst a2
  exact a1
theorem hidden_eq {σ : rS} {b p k : Nat} {B : Bd} {ch : Nat} (H : BR σ b B ch) (hp : p < 2 ^ 31) (hk : k < 53) : f_X1_hidden σ b (nI p) (nI k) = some (nI (hiB B p k)) := by
  obtain ⟨r, a1, a2⟩ := oL_ix (body := b_X1_hidden_12 σ b (nI p) (nI k)) (fun i s => s = (nI (bP B k + natSum (fun i => if i = p then 0 else bR B (53 * i + k)) i), nI i)) (N := 4) (fun r => r = nI (hiB B p k)) (by
      intro i s hi e
      subst e
      refine ⟨_, ?_, rfl⟩
      unfold b_X1_hidden_12
      dsimp only
      have c : (nI i = nI p) = (i = p) := propext (nI_eq (by omega) (by omega))
      have e : (if nI i = nI p then (0 : Int32) else v_X1_rackOf σ b (nI i) (nI k)) = nI (if i = p then 0 else bR B (53 * i + k)) := by
        simp only [c]
        split
        · rfl
        · exact rackOf_eq H hi hk
      rw [if_neg (show ¬ (4 : Int32) ≤ nI i from fun z => by have := (nI_leI (a := 4) (by omega) (by omega)).mp z; omega), e, oLet_eq, nI_add, nI_1]
      simp only [natSum]
      rw [Nat.add_assoc])
    (by
      intro s e
      subst e
      exact ⟨nI (hiB B p k), by unfold b_X1_hidden_12; rw [if_pos (show (4 : Int32) ≤ nI 4 by decide)]; rfl, rfl⟩)
    (n := oFuel) (by rw [oFuel_eq]; decide) (s := (vAt (rI σ (b + 1)) 53 (nI k), 0)) (by
      rw [vAt_nI (by decide) hk, H.1 k hk]
      rfl)
  subst a2
  exact a1
theorem allHidden_eq {σ : rS} {b p : Nat} {B : Bd} {ch : Nat} (H : BR σ b B ch) (hp : p < 2 ^ 31) : f_X1_allHidden σ b (nI p) = some (nI (ahB B p)) := by
  obtain ⟨r, a1, a2⟩ := oL_ix (body := b_X1_allHidden_7 σ b (nI p)) (fun i s => s = (nI (natSum (bP B) 53 + natSum (fun i => if i = p then 0 else rsz (bR B) i) i), nI i)) (N := 4) (fun r => r = nI (ahB B p)) (by
      intro i s hi e
      subst e
      refine ⟨_, ?_, rfl⟩
      unfold b_X1_allHidden_7
      dsimp only
      have c : (nI i = nI p) = (i = p) := propext (nI_eq (by omega) (by omega))
      have e : (if nI i = nI p then (0 : Int32) else v_X1_sizeOf σ b (nI i)) = nI (if i = p then 0 else rsz (bR B) i) := by
        simp only [c]
        split
        · rfl
        · exact sizeOf_eq H hi
      rw [if_neg (show ¬ (4 : Int32) ≤ nI i from fun z => by have := (nI_leI (a := 4) (by omega) (by omega)).mp z; omega), e, oLet_eq, nI_add, nI_1]
      simp only [natSum]
      rw [Nat.add_assoc])
    (by
      intro s e
      subst e
      exact ⟨nI (ahB B p), by unfold b_X1_allHidden_7; rw [if_pos (show (4 : Int32) ≤ nI 4 by decide)]; rfl, rfl⟩)
    (n := oFuel) (by rw [oFuel_eq]; decide) (s := (rI σ b 7, 0)) (by
      rw [H.2.2.2.2.2.2.1]
      rfl)
  subst a2
  exact a1
theorem isSame_eq {σ : rS} {r r2 n : Nat} (hn : n < 2 ^ 31) (hf : n < oFuel) (h : ∀ i, i < n → rI σ r i = rI σ r2 i) : f_X1_isSame σ r r2 n = some 1 := by
  obtain ⟨x, a1, a2⟩ := oL_ix (body := b_X1_isSame_2 σ r r2 n) (fun i s => s = nI i) (N := n) (fun x => x = 1) (by
      intro i s hi e
      subst e
      refine ⟨_, ?_, rfl⟩
      unfold b_X1_isSame_2
      rw [if_neg (show ¬ nI n ≤ nI i from fun z => by have := (nI_leI (by omega) (by omega)).mp z; omega), if_pos (inB_nI hn hi), nI_clamp (by omega), vAt_nI hn hi, if_pos (h i hi), nI_1])
    (by
      intro s e
      subst e
      exact ⟨_, by unfold b_X1_isSame_2; rw [if_pos (show nI n ≤ nI n from (nI_leI (by omega) (by omega)).mpr (Nat.le_refl _)), if_pos rfl], rfl⟩)
    (n := oFuel) hf (s := 0) rfl
  subst a2
  exact a1
theorem isLike_eq {σ : rS} {B B' : Bd} {ch ch' : Nat} (H : BR σ 5 B ch) (H' : BR σ 12 B' ch') (e1 : ∀ k, k < 53 → bP B k = bP B' k) (e2 : ∀ k, k < 212 → bR B k = bR B' k) (e3 : ∀ k, k < 52 → bT B k = bT B' k) (e4 : ∀ k, k < 52 → bJ B k = bJ B' k) : f_X1_isLike σ = some 1 := by
  unfold f_X1_isLike
  rw [isSame_eq (by decide) (by rw [oFuel_eq]; decide) (fun i hi => by rw [show rI σ 6 i = nI (bP B i) from H.1 i hi, show rI σ 13 i = nI (bP B' i) from H'.1 i hi, e1 i hi]),
    isSame_eq (by decide) (by rw [oFuel_eq]; decide) (fun i hi => by rw [show rI σ 7 i = nI (bR B i) from H.2.1 i hi, show rI σ 14 i = nI (bR B' i) from H'.2.1 i hi, e2 i hi]),
    isSame_eq (by decide) (by rw [oFuel_eq]; decide) (fun i hi => by rw [show rI σ 9 i = nI (bT B i) from H.2.2.2.1 i hi, show rI σ 16 i = nI (bT B' i) from H'.2.2.2.1 i hi, e3 i hi]),
    isSame_eq (by decide) (by rw [oFuel_eq]; decide) (fun i hi => by rw [show rI σ 10 i = nI (bJ B i) from H.2.2.2.2.1 i hi, show rI σ 17 i = nI (bJ B' i) from H'.2.2.2.2.1 i hi, e4 i hi])]
  rfl
