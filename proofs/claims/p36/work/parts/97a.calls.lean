/-! calls of the class as the law makes them -/
def f_L_rules (σ : rS) (a b c d e : Int32) : Option (Int64 × rS) := oBc (f_X10_rules σ a b c d e) hcs3 fun v σ1 => some (v.toInt64, σ1)
def f_L_player (σ : rS) (a b : Int32) : Option (Int64 × rS) := oBc (f_X10_player σ a b) hcs3 fun v σ1 => some (v.toInt64, σ1)
def f_L_deal (σ : rS) (a b c : Int32) : Option (Int64 × rS) := oBc (f_X10_deal σ a b c) hcs3 fun v σ1 => some (v.toInt64, σ1)
def f_L_lay (σ : rS) (a : Int32) : Option (Int64 × rS) := oBc (f_X10_lay σ a) hcs3 fun v σ1 => some (v.toInt64, σ1)
def f_L_joker (σ : rS) (a : Int32) : Option (Int64 × rS) := oBc (f_X10_joker σ a) hcs3 fun v σ1 => some (v.toInt64, σ1)
def f_L_swap (σ : rS) (a : Int32) : Option (Int64 × rS) := oBc (f_X10_swap σ a) hcs3 fun v σ1 => some (v.toInt64, σ1)
def f_L_back (σ : rS) : Option (Int64 × rS) := oBc (f_X10_back σ) hcs3 fun v σ1 => some (v.toInt64, σ1)
def f_L_end (σ : rS) : Option (Int64 × rS) := oBc (f_X10_end σ) hcs3 fun v σ1 => some (v.toInt64, σ1)
def f_L_draw (σ : rS) : Option (Int64 × rS) := oBc (f_X10_draw σ) hcs3 fun v σ1 => some (v.toInt64, σ1)
def f_L_tick (σ : rS) (a : Int32) : Option (Int64 × rS) := oBc (f_X10_tick σ a) hcs3 fun v σ1 => some (v.toInt64, σ1)
def f_L_auto (σ : rS) : Option (Int64 × rS) := oBc (f_X10_auto σ) hcs3 fun v σ1 => some (v.toInt64, σ1)
def f_L_type (σ : rS) (a : Int32) : Option (Int64 × rS) := oBc (f_X10_type σ a) hcs3 fun v σ1 => some (v.toInt64, σ1)
def f_L_play (σ : rS) : Option (Int64 × rS) := oBc (f_X10_play σ) hcs3 fun v σ1 => some (v.toInt64, σ1)
def f_L_cuts (σ : rS) (a : Int32) : Option (Int64 × rS) := oBc (f_X10_cuts σ a) hcs3 fun v σ1 => some (v.toInt64, σ1)
def f_L_cutsAnew (σ : rS) : Option (Int64 × rS) := oBc (f_X10_cutsAnew σ) hcs3 fun v σ1 => some (v.toInt64, σ1)
def f_L_states (σ : rS) (a : Int32) : Option (Int64 × rS) := oBc (f_X10_states σ a) hcs3 fun v σ1 => some (v.toInt64, σ1)
def f_L_best (σ : rS) (a b : Int32) : Option (Int64 × rS) := oBc (f_X10_best σ a b) hcs3 fun v σ1 => some (v.toInt64, σ1)
def f_L_plan (σ : rS) (a b : Int32) : Option (Int64 × rS) := oBc (f_X10_plan σ a b) hcs3 fun v σ1 => some (v.toInt64, σ1)
def f_L_alone (σ : rS) (a : Int32) : Option (Int64 × rS) := oBc (f_X10_alone σ a) hcs3 fun v σ1 => some ((if v = 0 then 0 else 1 : Int32).toInt64, σ1)
def f_L_chance (σ : rS) (a b c : Int32) : Option (Int64 × rS) := oBc (f_X10_chance σ a b c) hcs3 fun v σ1 => some (v.toInt64, σ1)
def f_L_claim (σ : rS) (a b c : Int32) : Option (Int64 × rS) := oBc (f_X10_claim σ a b c) hcs3 fun v σ1 => some (v.toInt64, σ1)
def f_L_rackIs (σ : rS) (a b : Int32) : Option (Int64 × rS) := oBc (f_X10_rackIs σ a b) hcs3 fun v σ1 => some (v.toInt64, σ1)
def f_L_tableIs (σ : rS) (a b : Int32) : Option (Int64 × rS) := oBc (f_X10_tableIs σ a (if b = 1 then 1 else 0)) hcs3 fun v σ1 => some (v.toInt64, σ1)
def f_L_poolIs (σ : rS) (a : Int32) : Option (Int64 × rS) := oBc (f_X10_poolIs σ a) hcs3 fun v σ1 => some (v.toInt64, σ1)
def f_L_playerIs (σ : rS) (a b : Int32) : Option (Int64 × rS) := oBc (f_X10_playerIs σ a b) hcs3 fun v σ1 => some (v.toInt64, σ1)
def f_L_team (σ : rS) (a : Int32) : Option (Int64 × rS) := oBc (f_X10_team σ a) hcs3 fun v σ1 => some (v.toInt64, σ1)
def f_L_sum (σ : rS) (a : Int32) : Option (Int64 × rS) := oBc (f_X10_sum σ a) hcs3 fun v σ1 => some (v.toInt64, σ1)
theorem ask_eq (σ : rS) (w a b : Int32) : f_L_ask σ w a b = f_L_does σ w a b 0 0 0 := by
  unfold f_L_ask oB
  cases f_L_does σ w a b 0 0 0 <;> rfl
theorem does_0 (σ : rS) (a b c d e : Int32) : f_L_does σ 0 a b c d e = f_L_rules σ a b c d e := rfl
theorem does_1 (σ : rS) (a b c d e : Int32) : f_L_does σ 1 a b c d e = f_L_player σ a b := rfl
theorem does_2 (σ : rS) (a b c d e : Int32) : f_L_does σ 2 a b c d e = f_L_deal σ a b c := rfl
theorem does_3 (σ : rS) (a b c d e : Int32) : f_L_does σ 3 a b c d e = f_L_lay σ a := rfl
theorem does_4 (σ : rS) (a b c d e : Int32) : f_L_does σ 4 a b c d e = f_L_joker σ a := rfl
theorem does_5 (σ : rS) (a b c d e : Int32) : f_L_does σ 5 a b c d e = f_L_swap σ a := rfl
theorem does_6 (σ : rS) (a b c d e : Int32) : f_L_does σ 6 a b c d e = f_L_back σ := rfl
theorem does_7 (σ : rS) (a b c d e : Int32) : f_L_does σ 7 a b c d e = f_L_end σ := rfl
theorem does_8 (σ : rS) (a b c d e : Int32) : f_L_does σ 8 a b c d e = f_L_draw σ := rfl
theorem does_9 (σ : rS) (a b c d e : Int32) : f_L_does σ 9 a b c d e = f_L_tick σ a := rfl
theorem does_10 (σ : rS) (a b c d e : Int32) : f_L_does σ 10 a b c d e = f_L_auto σ := rfl
theorem does_11 (σ : rS) (a b c d e : Int32) : f_L_does σ 11 a b c d e = f_L_type σ (a.toUInt32 % 65536).toInt32 := rfl
theorem does_12 (σ : rS) (a b c d e : Int32) : f_L_does σ 12 a b c d e = (f_X10_wipe σ).bind fun r => some (r.1.toInt64, r.2) := rfl
theorem does_13 (σ : rS) (a b c d e : Int32) : f_L_does σ 13 a b c d e = f_L_play σ := rfl
theorem does_14 (σ : rS) (a b c d e : Int32) : f_L_does σ 14 a b c d e = (f_X10_isWhole σ).bind fun r => some ((if r.1 = 0 then 0 else 1 : Int32).toInt64, r.2) := rfl
theorem does_15 (σ : rS) (a b c d e : Int32) : f_L_does σ 15 a b c d e = f_L_cuts σ a := rfl
theorem does_16 (σ : rS) (a b c d e : Int32) : f_L_does σ 16 a b c d e = f_L_cutsAnew σ := rfl
theorem does_17 (σ : rS) (a b c d e : Int32) : f_L_does σ 17 a b c d e = f_L_states σ a := rfl
theorem does_18 (σ : rS) (a b c d e : Int32) : f_L_does σ 18 a b c d e = f_L_best σ a b := rfl
theorem does_19 (σ : rS) (a b c d e : Int32) : f_L_does σ 19 a b c d e = f_L_plan σ a b := rfl
theorem does_20 (σ : rS) (a b c d e : Int32) : f_L_does σ 20 a b c d e = f_L_alone σ a := rfl
theorem does_21 (σ : rS) (a b c d e : Int32) : f_L_does σ 21 a b c d e = f_L_chance σ a b c := rfl
theorem does_23 (σ : rS) (a b c d e : Int32) : f_L_does σ 23 a b c d e = f_L_claim σ a b c := rfl
theorem does_24 (σ : rS) (a b c d e : Int32) : f_L_does σ 24 a b c d e = (f_X10_copies σ).bind fun v => some (v, σ) := rfl
theorem does_25 (σ : rS) (a b c d e : Int32) : f_L_does σ 25 a b c d e = f_L_rackIs σ a b := rfl
theorem does_26 (σ : rS) (a b c d e : Int32) : f_L_does σ 26 a b c d e = f_L_tableIs σ a b := rfl
theorem does_27 (σ : rS) (a b c d e : Int32) : f_L_does σ 27 a b c d e = f_L_poolIs σ a := rfl
theorem does_28 (σ : rS) (a b c d e : Int32) : f_L_does σ 28 a b c d e = f_L_playerIs σ a b := rfl
theorem does_29 (σ : rS) (a b c d e : Int32) : f_L_does σ 29 a b c d e = f_L_team σ a := rfl
theorem does_31 (σ : rS) (a b c d e : Int32) : f_L_does σ 31 a b c d e = (f_X10_isReplayed σ).bind fun r => some ((if r.1 = 0 then 0 else 1 : Int32).toInt64, r.2) := rfl
theorem does_32 (σ : rS) (a b c d e : Int32) : f_L_does σ 32 a b c d e = f_L_sum σ a := rfl
/-- a call is refused, and nothing is written -/
def XS (fL : rS → Option (Int64 × rS)) (σ : rS) : Prop := ∃ v σ1, v ≤ -10000 ∧ fL σ = some (v, σ1) ∧ σ1 = σ
/-- a call is done: its answer is no code of a throw -/
def okV (v : Int32) : Prop := -10000 < v.toInt64
def YS (Kp : rS → Prop) (fL : rS → Option (Int64 × rS)) (σ : rS) (B : Bd) (E : List Ent) (dl : Option (Nat × Nat × Nat)) (m : Mem) (l : Nat → Int64) (ch : Nat) : Prop := ∃ v σ1, okV v ∧ fL σ = some (v.toInt64, σ1) ∧ CI σ1 B E dl m l ch ∧ Kp σ1
theorem okV_n {n : Nat} (h : n < 2 ^ 31) : okV (nI n) := by
  unfold okV
  rw [nI_64 h, Int64.lt_iff_toInt_lt, lN_toInt' (by omega)]
  show (-10000 : Int) < _
  omega
theorem okV_m1 : okV (-1) := by unfold okV; decide
theorem x_ex {fL : rS → Option (Int64 × rS)} {σ : rS} (c : Int64) (hc : c ≤ -10000) (hL : fL σ = some (c, σ)) : XS fL σ := ⟨c, σ, hc, hL, rfl⟩
theorem y_ok {Kp : rS → Prop} {fL : rS → Option (Int64 × rS)} {σ σ1 : rS} {B : Bd} {E : List Ent} {dl : Option (Nat × Nat × Nat)} {m : Mem} {l : Nat → Int64} {ch : Nat} {v : Int32} (C : CI σ1 B E dl m l ch) (fk : FrK σ σ1) (hK : ∀ τ, FrK σ τ → Kp τ) (hv : okV v) (hL : fL σ = some (v.toInt64, σ1)) : YS Kp fL σ B E dl m l ch := ⟨v, σ1, hv, hL, C, hK _ fk⟩
theorem y_mv {Kp : rS → Prop} {fL : rS → Option (Int64 × rS)} {σ σ1 : rS} {B : Bd} {E : List Ent} {dl : Option (Nat × Nat × Nat)} {m : Mem} {l : Nat → Int64} {ch : Nat} {v : Int32} (C : CI σ1 B E dl m l ch) (f : FrX WL σ σ1) (hK : ∀ τ, FrK σ τ → Kp τ) (hv : okV v) (hL : fL σ = some (v.toInt64, σ1)) : YS Kp fL σ B E dl m l ch := y_ok C (FrK_X f fun x j w => by omega) hK hv hL
