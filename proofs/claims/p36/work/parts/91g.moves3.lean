/-! joker, swap, back as calls -/
theorem mayJ_eq {σ : rS} {B : Bd} {E : List Ent} {dl : Option (Nat × Nat × Nat)} {m : Mem} {l : Nat → Int64} {ch p k : Nat} (C : CI σ B E dl m l ch) (o : OkT B) (hp : p < 4) (h : m 67 24 = nI p) (hk : k < 52) : v_X10_mayLayJoker σ (nI k) = if (bF B = 0 → 1 ≤ bR B (53 * p + 52)) ∧ bT B k + bJ B k < 2 then 1 else 0 := by
  have hz := rsz_ge (R := bR B) (p := p) (k := 52) (by omega)
  have hr := o.1.2.1 p hp
  have ht := o.2.1 k hk
  have hf := o.2.2
  unfold v_X10_mayLayJoker
  rw [isOn_yes C hp h, CI_p C h, show (52 : Int32) = nI 52 from rfl, rackOf_eq C.1 hp (by omega), lies_eq C.1 hk, if_neg (by decide), C.1.2.2.2.2.2.2.2.2.2.1]
  have e1 : (nI (bR B (53 * p + 52)) ≤ 0) = (bR B (53 * p + 52) = 0) := nI_le0 (by omega)
  have e2 : ((2 : Int32) ≤ nI (bT B k + bJ B k)) = (2 ≤ bT B k + bJ B k) := nI_2le (by omega)
  have e3 : ((0 : Int32) < nI (bF B)) = (0 < bF B) := propext (nI_lt' (a := 0) (by omega) (by omega))
  simp only [e1, e2, e3]
  by_cases c3 : 0 < bF B
  · rw [if_pos c3]
    by_cases c2 : 2 ≤ bT B k + bJ B k
    · rw [if_pos c2, if_neg (by omega)]
    · rw [if_neg c2, if_pos ⟨fun z => by omega, by omega⟩]
  · rw [if_neg c3]
    by_cases c1 : bR B (53 * p + 52) = 0
    · rw [if_pos c1, if_neg (fun z => by have := z.1 (by omega); omega)]
    · rw [if_neg c1]
      by_cases c2 : 2 ≤ bT B k + bJ B k
      · rw [if_pos c2, if_neg (by omega)]
      · rw [if_neg c2, if_pos ⟨fun _ => by omega, by omega⟩]
theorem hasM_eq {σ : rS} {B : Bd} {E : List Ent} {dl : Option (Nat × Nat × Nat)} {m : Mem} {l : Nat → Int64} {ch p : Nat} (C : CI σ B E dl m l ch) (hp : p < 4) : v_X10_hasMelded σ (nI p) = if m 72 p = 1 then 1 else 0 := by
  unfold v_X10_hasMelded
  rw [vAt_nI (by decide) hp, CI_4 C (x := 24) (j := p) (by omega)]
  rfl
theorem OkT_ap {p : Nat} {B : Bd} {d : Nat × Nat} (o : OkT B) (v : vaB p B d) (hF : bF (apB p B d) ≤ 64) : OkT (apB p B d) := by
  obtain ⟨⟨o1, o2, o3⟩, o4, o5⟩ := o
  obtain ⟨h, k⟩ := d
  obtain ⟨hk, hp, hl, v⟩ := v
  have hk : k < 52 := hk
  have rs : ∀ j, j < 53 → ∀ q, q < 4 → rsz (up1 (bR B) (53 * p + j) (bR B (53 * p + j) - 1)) q ≤ 24 := fun j hj q hq => by
    have h1 := o2 q hq
    by_cases e : q = p
    · subst e
      have := rsz_up (R := bR B) (p := q) (x := bR B (53 * q + j) - 1) hj
      omega
    · rw [rsz_other hj e]; exact h1
  rcases v with ⟨e, v1, v2⟩ | ⟨e, v0, v1, v2⟩ | ⟨e, v1, v2⟩ | ⟨e, v1, v2⟩
  · have e : h = 0 := e
    subst e
    have v2 : bT B k + bJ B k < 2 := v2
    rw [apB_0] at hF ⊢
    refine ⟨⟨o1, rs k (by omega), o3⟩, fun i hi => ?_, hF⟩
    show up1 (bT B) k (bT B k + 1) i + bJ B i ≤ 2
    have := o4 i hi
    rw [up1_at]; split
    · rename_i e; subst e; omega
    · exact this
  · have e : h = 1 := e
    subst e
    have v2 : bT B k + bJ B k < 2 := v2
    rw [apB_1] at hF ⊢
    refine ⟨⟨o1, rs 52 (by omega), o3⟩, fun i hi => ?_, hF⟩
    show bT B i + up1 (bJ B) k (bJ B k + 1) i ≤ 2
    have := o4 i hi
    rw [up1_at]; split
    · rename_i e; subst e; omega
    · exact this
  · have e : h = 2 := e
    subst e
    have v2 : bT B k + bJ B k < 2 := v2
    rw [apB_2] at hF ⊢
    refine ⟨⟨o1, o2, o3⟩, fun i hi => ?_, hF⟩
    show bT B i + up1 (bJ B) k (bJ B k + 1) i ≤ 2
    have := o4 i hi
    rw [up1_at]; split
    · rename_i e; subst e; omega
    · exact this
  · have e : h = 3 := e
    subst e
    have v2 : 1 ≤ bJ B k := v2
    rw [apB_3] at hF ⊢
    refine ⟨⟨o1, rs k (by omega), o3⟩, fun i hi => ?_, hF⟩
    show up1 (bT B) k (bT B k + 1) i + up1 (bJ B) k (bJ B k - 1) i ≤ 2
    have := o4 i hi
    rw [up1_at, up1_at]; split
    · rename_i e; subst e; omega
    · exact this
theorem OkT_run {p : Nat} {B0 : Bd} (o : OkT B0) (h0 : bD B0 = []) (hF : bF B0 = 0) : ∀ (k : Nat) (l : List (Nat × Nat)), l.length = k → okB p B0 l → OkT (runB p B0 l) ∧ l.length ≤ 64 := by
  intro k
  induction k with
  | zero =>
    intro l hl _
    have : l = [] := List.length_eq_zero_iff.mp hl
    subst this
    exact ⟨o, by decide⟩
  | succ k ih =>
    intro l hl ok
    have hne : l ≠ [] := fun e => by rw [e] at hl; exact absurd hl (by simp)
    obtain ⟨l', d, rfl⟩ : ∃ l' d, l = l' ++ [d] := ⟨l.dropLast, l.getLast hne, (List.dropLast_concat_getLast hne).symm⟩
    have hl' : l'.length = k := by rw [List.length_append] at hl; simp at hl; exact hl
    rw [okB_sn] at ok
    have i := ih l' hl' ok.1
    have hd := ok.2.2.2.1
    rw [runB_D, h0, List.nil_append] at hd
    have hf := runB_F (p := p) (B := B0) (l' ++ [d])
    rw [List.length_append, List.length_singleton] at hf ⊢
    rw [runB_sn] at hf ⊢
    exact ⟨OkT_ap i.1 ok.2 (by omega), by omega⟩
/-- whose turn it is, and what was done in it -/
def TuI (B : Bd) (m : Mem) (n : Nat) : Prop := (m 67 24 = -1 ∧ bD B = [] ∧ bF B = 0) ∨ ∃ p B0, p < n ∧ m 67 24 = nI p ∧ OkT B0 ∧ bD B0 = [] ∧ bF B0 = 0 ∧ okB p B0 (bD B) ∧ B = runB p B0 (bD B)
