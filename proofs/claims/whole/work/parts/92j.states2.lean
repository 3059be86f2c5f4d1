/-! states, as a call -/
theorem MI_98 {σ τ : rS} {B : Bd} {E : List Ent} {m : Mem} {l : Nat → Int64} (H : MI σ B E m l) (f : FrX (fun x _ => x = 98) σ τ) (z8 : ∀ k, k < 65536 → rI τ 98 k = 0) : MI τ B E m l := by
  obtain ⟨b, g, p, pl, ⟨u1, u2, u3⟩, s, z⟩ := H
  have q := f.2.2.2.2
  exact ⟨MbQ_fr b f (fun x j w => by omega), MeR_fr g f (fun x j w => by omega), fun x j a => (q x j (by omega)).trans (p x j a), fun j hj => by rw [f.2.2.2.1]; exact pl j hj, ⟨(q _ _ (by omega)).trans u1, fun p hp c hc => (q _ _ (by omega)).trans (u2 p hp c hc), fun p hp => (q _ _ (by omega)).trans (u3 p hp)⟩, fun i hi => ⟨(q _ _ (by omega)).trans (s i hi).1, (q _ _ (by omega)).trans (s i hi).2⟩, fun k hk => (q _ _ (by omega)).trans (z.1 k hk), z8⟩
theorem mStates_eq {σ : rS} {B : Bd} {E : List Ent} {m : Mem} {l : Nat → Int64} {hh L jk ml pn n p : Nat} (M : MI σ B E m l) (o : OkT B) (r : RuM m hh L jk ml pn n) (h1 : 1 ≤ p) (hp : p ≤ hh) : ∃ τ, f_X11_states σ (nI p) = some (nI (ddL ((reL false false L (tjB B) (fun _ => 0) p).map fun q => imgM L q.1)).length, τ) ∧ MI τ B E m l ∧ FrRf σ τ ∧ rI τ 67 0 = 0 := by
  have hN := r.2.2.1
  obtain ⟨τ1, a1, a2, a3, a4⟩ := laysTable_eq (MI_t M 0) o
  obtain ⟨τ2, b1, b2⟩ := zero108 (σ := τ1) (body := b_X11_states_33) (by unfold b_X11_states_33; rfl)
  have F1 := FrJ_H (FrH_8 (FrN8_D b2))
  have I1 := MI_Rf a2 r
  have I2 : RfI τ2 L := ⟨I1.1.frJ F1, I1.2.1.frJ F1, fun k hk => (b2.2.2.2.2 103 k (by decide)).trans (I1.2.2 k hk)⟩
  have M2 := MI_J a2 I2 F1
  obtain ⟨τ3, c1, c2, c3, c4⟩ := through_eq I2.1 I2.2.1 I2.2.2 (a3.fr8 (FrN8_D b2)) (show p ≤ 13 by omega) false false
  have F3 := FrJ_H c4
  have I3 : RfI τ3 L := ⟨I2.1.frJ F3, I2.2.1.frJ F3, c3⟩
  have M3 := MI_J M2 I3 F3
  obtain ⟨τ4, d1, d2⟩ := outer62 r.2.2.2.1 I3.2.1 c2 M3.2.2.2.2.2.2.2
  obtain ⟨τ5, e1, e2, e3⟩ := clear173 (nI (ddL ((reL false false L (tjB B) (fun _ => 0) p).map fun q => imgM L q.1)).length) τ4 τ4
  have F5 := d2.tr e3
  refine ⟨τ5, ?_, MI_98 M3 F5 e2, (FrRf_w (by omega) _).tr ((((FrRf_X a4 fun x j w => by omega).tr (FrRf_J F1)).tr (FrRf_J F3)).tr (FrRf_X F5 fun x j w => by omega)), ?_⟩
  · have c1 : f_X11_goesThrough τ2 (nI p) 0 0 = some ((), τ3) := c1
    unfold f_X11_states
    rw [in_eq, MI_h M r, show (1 : Int32) = nI 1 from rfl, vIn_in (by omega) h1 hp, if_neg (by decide), holds0, oB_some, if_pos rfl, a1, oB_some, b1, oJ_inr, c1, oB_some, d1, oJ_inr, e1]
  · rw [F5.2.2.2.2 67 0 (by omega), F3.2.2.2.1 67 0 (by omega) (by omega), F1.2.2.2.1 67 0 (by omega) (by omega), a4.2.2.2.2 67 0 (by omega), fld_eq, if_pos ⟨rfl, rfl⟩]
theorem states_s {σ : rS} {B : Bd} {E : List Ent} {dl : Option (Nat × Nat × Nat)} {m : Mem} {l : Nat → Int64} {ch hh L jk ml pn n : Nat} (C : CI σ B E dl m l ch) (M : MI σ B E m l) {Kp : rS → Prop} (hK : ∀ τ, FrK σ τ → Kp τ) (r : RuM m hh L jk ml pn n) (o : OkT B) (p : Int32) : QStep Kp (fun σ => f_L_states σ p) (fun σ => f_X11_states σ p) σ B E dl m l ch := by
  have h4 := CI_h C r
  have h13 := r.2.2.1
  by_cases c : vIn p 1 (nI hh) = 0
  · refine q_ex C M hK 1 (-1) (by decide) ?_ ?_
    · show f_L_states σ p = _
      unfold f_L_states f_X10_states
      rw [h4, if_pos c, oBc_r lk1]
    · show f_X11_states σ p = _
      unfold f_X11_states
      rw [in_eq, MI_h M r, if_pos c, holds1, oB_some, if_neg (by decide)]
  · obtain ⟨q, h1, hq, rfl⟩ := vIn_of (a := 1) (b := hh) (by omega) c (by omega)
    obtain ⟨σ1, a1, a2, a3, a4⟩ := takeTable_eq C o
    obtain ⟨τ, bw, b1, b2, b3⟩ := go_states a2.2.2.2.2.2.1 (CI_Ru a2 r) a3 hq
    have e := states_count (bw := bw) (bw2 := false) (ex := fun _ => 0) r.2.2.2.1 (fun k => tjB_le o k) (fun _ => by decide) h13 hq
    refine q_w2 (v := nI (ddL ((reL false false L (tjB B) (fun _ => 0) q).map fun q => imgM L q.1)).length) (CI_O a2 b2 b3) M ((FrCl_48 a4).tr (FrCl_O a2.2.2.2.2.2.1 b3)) ((FrK_48 a4).tr (FrK_O b3)) hK ?_ fun υ N => ?_
    · show f_L_states σ (nI q) = _
      unfold f_L_states f_X10_states
      rw [h4, if_neg c, a1, oB_some, b1, oB_some, oBc_l, e]
      rfl
    · obtain ⟨υ2, e1, e2, e3, e4⟩ := mStates_eq N o r h1 hq
      exact ⟨υ2, e1, e2, e4, e3⟩
