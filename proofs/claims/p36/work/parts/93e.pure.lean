/-! what every board keeps: nothing is lost, nobody's racks are empty, no joker for a kind left out -/
def ToI (B : Bd) (hh jk : Nat) : Prop := ∃ z, z ≤ 1 ∧ (∀ k, k < 52 → bP B k + natSum (fun q => bR B (53 * q + k)) 4 + bT B k = if k % 13 < hh then 2 * z else 0) ∧ bP B 52 + natSum (fun q => bR B (53 * q + 52)) 4 + natSum (bJ B) 52 + bF B = jk * z
def JaI (B : Bd) (hh : Nat) : Prop := ∀ k, k < 52 → hh ≤ k % 13 → bJ B k = 0
def Bo2 (B : Bd) (hh jk n : Nat) : Prop := RkI B n ∧ ToI B hh jk ∧ JaI B hh
theorem rk_s {R : Nat → Nat} {p k x : Nat} (hp : p < 4) : natSum (fun q => up1 R (53 * p + k) x (53 * q + k)) 4 + R (53 * p + k) = natSum (fun q => R (53 * q + k)) 4 + x := by
  have e : (fun q => up1 R (53 * p + k) x (53 * q + k)) = up1 (fun q => R (53 * q + k)) p x := by
    funext q
    rw [up1_at, up1_at]
    by_cases c : q = p
    · rw [if_pos (by rw [c]), if_pos c]
    · rw [if_neg (by omega), if_neg c]
  rw [e]
  exact natSum_up (f := fun q => R (53 * q + k)) hp
theorem rk_o {R : Nat → Nat} {p k j x : Nat} (hk : k < 53) (hj : j < 53) (h : j ≠ k) : natSum (fun q => up1 R (53 * p + k) x (53 * q + j)) 4 = natSum (fun q => R (53 * q + j)) 4 := natSum_congr fun q _ => by
  rw [up1_at, if_neg (by omega)]
theorem Bo2_ap {p n hh jk : Nat} {B : Bd} {d : Nat × Nat} (H : Bo2 B hh jk n) (v : vaB p B d) (hp : p < n) (hd : d.2 % 13 < hh) : Bo2 (apB p B d) hh jk n := by
  obtain ⟨H1, ⟨z0, hz0, H2, H3⟩, H4⟩ := H
  obtain ⟨t, k⟩ := d
  obtain ⟨v1, v2, -, v3⟩ := v
  dsimp only at v1 v3 hd
  have rk : ∀ kk x, kk < 53 → ∀ i, i < 4 → n ≤ i → ∀ j, j < 53 → up1 (bR B) (53 * p + kk) x (53 * i + j) = 0 := fun kk x hkk i hi hn j hj => by
    rw [up1_at, if_neg (by omega)]
    exact H1 i hi hn j hj
  rcases v3 with ⟨rfl, a1, a2⟩ | ⟨rfl, a1, a2, a3⟩ | ⟨rfl, a1, a2⟩ | ⟨rfl, a1, a2⟩
  · rw [apB_0]
    refine ⟨rk k _ (by omega), ⟨z0, hz0, fun j hj => ?_, ?_⟩, H4⟩
    · show bP B j + natSum (fun q => up1 (bR B) (53 * p + k) (bR B (53 * p + k) - 1) (53 * q + j)) 4 + up1 (bT B) k (bT B k + 1) j = _
      have h := H2 j hj
      rw [up1_at]
      by_cases e : j = k
      · subst e
        have s := rk_s (R := bR B) (p := p) (k := j) (x := bR B (53 * p + j) - 1) v2
        rw [if_pos rfl]
        omega
      · rw [rk_o (by omega) (by omega) e, if_neg e]
        exact h
    · show bP B 52 + natSum (fun q => up1 (bR B) (53 * p + k) (bR B (53 * p + k) - 1) (53 * q + 52)) 4 + natSum (bJ B) 52 + bF B = jk * z0
      rw [rk_o (by omega) (by omega) (by omega)]
      exact H3
  · rw [apB_1]
    refine ⟨rk 52 _ (by omega), ⟨z0, hz0, fun j hj => ?_, ?_⟩, fun j hj hb => ?_⟩
    · show bP B j + natSum (fun q => up1 (bR B) (53 * p + 52) (bR B (53 * p + 52) - 1) (53 * q + j)) 4 + bT B j = _
      rw [rk_o (by omega) (by omega) (by omega)]
      exact H2 j hj
    · show bP B 52 + natSum (fun q => up1 (bR B) (53 * p + 52) (bR B (53 * p + 52) - 1) (53 * q + 52)) 4 + natSum (up1 (bJ B) k (bJ B k + 1)) 52 + bF B = jk * z0
      have s := rk_s (R := bR B) (p := p) (k := 52) (x := bR B (53 * p + 52) - 1) v2
      have s2 := natSum_up (f := bJ B) (x := bJ B k + 1) v1
      omega
    · show up1 (bJ B) k (bJ B k + 1) j = 0
      rw [up1_at, if_neg (fun e => by rw [e] at hb; omega)]
      exact H4 j hj hb
  · rw [apB_2]
    refine ⟨H1, ⟨z0, hz0, H2, ?_⟩, fun j hj hb => ?_⟩
    · show bP B 52 + natSum (fun q => bR B (53 * q + 52)) 4 + natSum (up1 (bJ B) k (bJ B k + 1)) 52 + (bF B - 1) = jk * z0
      have s2 := natSum_up (f := bJ B) (x := bJ B k + 1) v1
      omega
    · show up1 (bJ B) k (bJ B k + 1) j = 0
      rw [up1_at, if_neg (fun e => by rw [e] at hb; omega)]
      exact H4 j hj hb
  · rw [apB_3]
    refine ⟨rk k _ (by omega), ⟨z0, hz0, fun j hj => ?_, ?_⟩, fun j hj hb => ?_⟩
    · show bP B j + natSum (fun q => up1 (bR B) (53 * p + k) (bR B (53 * p + k) - 1) (53 * q + j)) 4 + up1 (bT B) k (bT B k + 1) j = _
      have h := H2 j hj
      rw [up1_at]
      by_cases e : j = k
      · subst e
        have s := rk_s (R := bR B) (p := p) (k := j) (x := bR B (53 * p + j) - 1) v2
        rw [if_pos rfl]
        omega
      · rw [rk_o (by omega) (by omega) e, if_neg e]
        exact h
    · show bP B 52 + natSum (fun q => up1 (bR B) (53 * p + k) (bR B (53 * p + k) - 1) (53 * q + 52)) 4 + natSum (up1 (bJ B) k (bJ B k - 1)) 52 + (bF B + 1) = jk * z0
      rw [rk_o (by omega) (by omega) (by omega)]
      have s2 := natSum_up (f := bJ B) (x := bJ B k - 1) v1
      omega
    · show up1 (bJ B) k (bJ B k - 1) j = 0
      rw [up1_at, if_neg (fun e => by rw [e] at hb; omega)]
      exact H4 j hj hb
theorem Bo2_run {p n hh jk : Nat} (hp : p < n) : ∀ (l : List (Nat × Nat)) (B : Bd), Bo2 B hh jk n → okB p B l → (∀ d ∈ l, d.2 % 13 < hh) → Bo2 (runB p B l) hh jk n := by
  intro l
  induction l with
  | nil => exact fun B H _ _ => H
  | cons d l ih => exact fun B H ok hd => ih _ (Bo2_ap H ok.1 hp (hd d List.mem_cons_self)) ok.2 fun e he => hd e (List.mem_cons_of_mem _ he)
theorem Bo2_dr {p n hh jk : Nat} {B B' : Bd} (H : Bo2 B hh jk n) (hp : p < n) (hn4 : n ≤ 4) (h : drB p B = some B') : Bo2 B' hh jk n := by
  obtain ⟨H1, ⟨z0, hz0, H2, H3⟩, H4⟩ := H
  unfold drB at h
  by_cases c : natSum (bP B) 53 = 0 ∨ 24 ≤ rsz (bR B) p
  · rw [if_pos c] at h; cases h
  · rw [if_neg c] at h
    have hs : nxX (bX B) % natSum (bP B) 53 < natSum (fun i => bP B (0 + i)) 53 := by
      rw [show (fun i => bP B (0 + i)) = bP B from funext fun i => by rw [Nat.zero_add]]
      exact Nat.mod_lt _ (by omega)
    have lo := locP_ok (bP B) 53 0 _ hs
    obtain ⟨k, hk⟩ : ∃ k, k = locP (bP B) 53 0 (nxX (bX B) % natSum (bP B) 53) := ⟨_, rfl⟩
    rw [← hk] at h lo
    cases h
    have s := rk_s (R := bR B) (p := p) (k := k) (x := bR B (53 * p + k) + 1) (by omega)
    refine ⟨fun i hi hn j hj => ?_, ⟨z0, hz0, fun j hj => ?_, ?_⟩, H4⟩
    · show up1 (bR B) (53 * p + k) (bR B (53 * p + k) + 1) (53 * i + j) = 0
      rw [up1_at, if_neg (by omega)]
      exact H1 i hi hn j hj
    · show up1 (bP B) k (bP B k - 1) j + natSum (fun q => up1 (bR B) (53 * p + k) (bR B (53 * p + k) + 1) (53 * q + j)) 4 + bT B j = _
      have h := H2 j hj
      rw [up1_at]
      by_cases e : j = k
      · subst e
        rw [if_pos rfl]
        omega
      · rw [rk_o (by omega) (by omega) e, if_neg e]
        exact h
    · show up1 (bP B) k (bP B k - 1) 52 + natSum (fun q => up1 (bR B) (53 * p + k) (bR B (53 * p + k) + 1) (53 * q + 52)) 4 + natSum (bJ B) 52 + bF B = jk * z0
      rw [up1_at]
      by_cases e : 52 = k
      · subst e
        rw [if_pos rfl]
        omega
      · rw [rk_o (by omega) (by omega) e, if_neg e]
        exact H3
theorem Bo2_drUp {p n hh jk : Nat} (hp : p < n) (hn4 : n ≤ 4) : ∀ (m : Nat) (B : Bd), Bo2 B hh jk n → Bo2 (drUp p m B).2 hh jk n := by
  intro m
  induction m with
  | zero => exact fun B H => H
  | succ m ih =>
    intro B H
    unfold drUp
    cases h : drB p B with
    | none => exact H
    | some B' => exact ih B' (Bo2_dr H hp hn4 h)
theorem Bo2_st {n hh jk : Nat} {B : Bd} (H : Bo2 B hh jk n) : Bo2 (stB B) hh jk n := H
theorem Bo2_Ab {n hh jk : Nat} {B : Bd} (H : Bo2 B hh jk n) : AbT B hh := fun k hk hb => by
  obtain ⟨z0, hz0, H2, -⟩ := H.2.1
  have h1 := H2 k hk
  have h2 := H.2.2 k hk hb
  rw [if_neg (by omega)] at h1
  unfold tjB
  rw [if_pos hk]
  omega
theorem Bo2_hi {n hh jk : Nat} {B : Bd} (H : Bo2 B hh jk n) (hj : jk ≤ 3) (p : Nat) {k : Nat} (hk : k < 53) : hiB B p k ≤ 3 := by
  have h0 : natSum (fun i => if i = p then 0 else bR B (53 * i + k)) 4 ≤ natSum (fun q => bR B (53 * q + k)) 4 := natSum_mono fun i _ => by
    split
    · exact Nat.zero_le _
    · exact Nat.le_refl _
  unfold hiB
  by_cases e : k = 52
  · subst e
    obtain ⟨z0, hz0, -, H3⟩ := H.2.1
    have hz1 := Nat.mul_le_mul_left jk hz0
    omega
  · obtain ⟨z0, hz0, H2, -⟩ := H.2.1
    have h1 := H2 k (by omega)
    have : (if k % 13 < hh then 2 * z0 else 0 : Nat) ≤ 2 := by split <;> omega
    omega
/-- things done are at most 48 -/
theorem runB_phi {p : Nat} : ∀ (l : List (Nat × Nat)) (B : Bd), okB p B l → l.length + (2 * rsz (bR (runB p B l)) p + bF (runB p B l)) ≤ 2 * rsz (bR B) p + bF B := by
  intro l
  induction l with
  | nil => exact fun B _ => by show 0 + _ ≤ _; rw [Nat.zero_add]; exact Nat.le_refl _
  | cons d l ih =>
    intro B ok
    have h := ih _ ok.2
    have step : 1 + (2 * rsz (bR (apB p B d)) p + bF (apB p B d)) ≤ 2 * rsz (bR B) p + bF B := by
      obtain ⟨t, k⟩ := d
      obtain ⟨v1, v2, -, v3⟩ := ok.1
      dsimp only at v1 v3
      rcases v3 with ⟨rfl, a1, a2⟩ | ⟨rfl, a1, a2, a3⟩ | ⟨rfl, a1, a2⟩ | ⟨rfl, a1, a2⟩
      · rw [apB_0]
        have s := rsz_up (R := bR B) (p := p) (k := k) (x := bR B (53 * p + k) - 1) (by omega)
        show 1 + (2 * rsz (up1 (bR B) (53 * p + k) (bR B (53 * p + k) - 1)) p + bF B) ≤ _
        omega
      · rw [apB_1]
        have s := rsz_up (R := bR B) (p := p) (k := 52) (x := bR B (53 * p + 52) - 1) (by omega)
        show 1 + (2 * rsz (up1 (bR B) (53 * p + 52) (bR B (53 * p + 52) - 1)) p + bF B) ≤ _
        omega
      · rw [apB_2]
        show 1 + (2 * rsz (bR B) p + (bF B - 1)) ≤ _
        omega
      · rw [apB_3]
        have s := rsz_up (R := bR B) (p := p) (k := k) (x := bR B (53 * p + k) - 1) (by omega)
        show 1 + (2 * rsz (up1 (bR B) (53 * p + k) (bR B (53 * p + k) - 1)) p + (bF B + 1)) ≤ _
        omega
    show (d :: l).length + (2 * rsz (bR (runB p (apB p B d) l)) p + bF (runB p (apB p B d) l)) ≤ _
    rw [List.length_cons]
    omega
