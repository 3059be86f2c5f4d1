/-! the acts, by their numbers -/
section
variable {t : Nat} {σ : rS} {B : Bd} {E : List Ent} {dl : Option (Nat × Nat × Nat)} {m : Mem} {l : Nat → Int64} {ch : Nat} {B0 : Bd} {D : List (Nat × Nat)} {hh L jk ml pn wr : Nat}
theorem acts_ar (G : GAx t σ B E dl m l ch B0 D hh L jk ml pn wr) (ht : t ≤ 512) (x y : Int32) {k : Nat} (hk : k ≤ 20) (on : k = 20 → ∃ p, p < 3 ∧ m 67 24 = nI p) : AR t (fun σ => f_L_acts σ x y (nI k) (nI hh)) σ B E dl m l ch B0 D hh L jk ml pn wr := by
  have r := G.2.2.2.1.1
  have h5 := r.2.1
  have h13 := r.2.2.1
  obtain ⟨v1, e1⟩ : ∃ v, f_L_low σ y 4 = some v := ⟨_, low_some _ _ (by decide)⟩
  obtain ⟨v2, e2⟩ : ∃ v, f_L_low σ (y >>> ((8 : Int32) &&& 31)) 40 = some v := ⟨_, low_some _ _ (by decide)⟩
  obtain ⟨v3, e3⟩ : ∃ v, f_L_low σ (y >>> ((3 : Int32) &&& 31)) (nI hh + (if v2 = 0 then 1 else 0 : Int32)) = some v := ⟨_, low_some _ _ (by
    split
    · exact fun z => by
        rw [show (1 : Int32) = nI 1 from rfl, nI_add] at z
        have := (nI_eq (b := 0) (by omega) (by omega)).mp z
        omega
    · exact fun z => by
        rw [show (0 : Int32) = nI 0 from rfl, nI_add] at z
        have := (nI_eq (b := 0) (by omega) (by omega)).mp z
        omega)⟩
  rcases (by omega : k = 0 ∨ k = 1 ∨ k = 2 ∨ k = 3 ∨ k = 4 ∨ k = 5 ∨ k = 6 ∨ k = 7 ∨ k = 8 ∨ k = 9 ∨ k = 10 ∨ k = 11 ∨ k = 12 ∨ k = 13 ∨ k = 14 ∨ k = 15 ∨ k = 16 ∨ k = 17 ∨ k = 18 ∨ k = 19 ∨ k = 20) with rfl | rfl | rfl | rfl | rfl | rfl | rfl | rfl | rfl | rfl | rfl | rfl | rfl | rfl | rfl | rfl | rfl | rfl | rfl | rfl | rfl
  · refine AR_cg ?_ (a_lay G ht (13 * v1 + v3))
    show f_L_acts σ x y (nI 0) (nI hh) = f_L_lay σ (13 * v1 + v3)
    unfold f_L_acts
    rw [e1, Option.bind_some, e2, Option.bind_some, e3, Option.bind_some, if_pos (by decide), oB_id, ask_eq, does_3]
  · refine AR_cg ?_ (a_lay G ht (13 * v1 + v3))
    show f_L_acts σ x y (nI 1) (nI hh) = f_L_lay σ (13 * v1 + v3)
    unfold f_L_acts
    rw [e1, Option.bind_some, e2, Option.bind_some, e3, Option.bind_some, if_neg (by decide), if_pos (by decide), oB_id, ask_eq, does_3]
  · refine AR_cg ?_ (a_lay G ht (13 * v1 + v3))
    show f_L_acts σ x y (nI 2) (nI hh) = f_L_lay σ (13 * v1 + v3)
    unfold f_L_acts
    rw [e1, Option.bind_some, e2, Option.bind_some, e3, Option.bind_some, if_neg (by decide), if_neg (by decide), if_pos (by decide), oB_id, ask_eq, does_3]
  · refine AR_cg ?_ (a_lay G ht (13 * v1 + v3))
    show f_L_acts σ x y (nI 3) (nI hh) = f_L_lay σ (13 * v1 + v3)
    unfold f_L_acts
    rw [e1, Option.bind_some, e2, Option.bind_some, e3, Option.bind_some, if_neg (by decide), if_neg (by decide), if_neg (by decide), if_pos (by decide), oB_id, ask_eq, does_3]
  · refine AR_cg ?_ (a_joker G ht (13 * v1 + v3))
    show f_L_acts σ x y (nI 4) (nI hh) = f_L_joker σ (13 * v1 + v3)
    unfold f_L_acts
    rw [e1, Option.bind_some, e2, Option.bind_some, e3, Option.bind_some, if_neg (by decide), if_neg (by decide), if_neg (by decide), if_neg (by decide), if_pos (by decide), oB_id, ask_eq, does_4]
  · refine AR_cg ?_ (a_swap G ht (13 * v1 + v3))
    show f_L_acts σ x y (nI 5) (nI hh) = f_L_swap σ (13 * v1 + v3)
    unfold f_L_acts
    rw [e1, Option.bind_some, e2, Option.bind_some, e3, Option.bind_some, if_neg (by decide), if_neg (by decide), if_neg (by decide), if_neg (by decide), if_neg (by decide), if_pos (by decide), oB_id, ask_eq, does_5]
  · refine AR_cg ?_ (a_back G ht)
    show f_L_acts σ x y (nI 6) (nI hh) = f_L_back σ
    unfold f_L_acts
    rw [e1, Option.bind_some, e2, Option.bind_some, e3, Option.bind_some, if_neg (by decide), if_neg (by decide), if_neg (by decide), if_neg (by decide), if_neg (by decide), if_neg (by decide), if_pos (by decide), oB_id, ask_eq, does_6]
  · refine AR_cg ?_ (a_end G ht)
    show f_L_acts σ x y (nI 7) (nI hh) = f_L_end σ
    unfold f_L_acts
    rw [e1, Option.bind_some, e2, Option.bind_some, e3, Option.bind_some, if_neg (by decide), if_neg (by decide), if_neg (by decide), if_neg (by decide), if_neg (by decide), if_neg (by decide), if_neg (by decide), if_pos (by decide), oB_id, ask_eq, does_7]
  · refine AR_cg ?_ (a_draw G ht)
    show f_L_acts σ x y (nI 8) (nI hh) = f_L_draw σ
    unfold f_L_acts
    rw [e1, Option.bind_some, e2, Option.bind_some, e3, Option.bind_some, if_neg (by decide), if_neg (by decide), if_neg (by decide), if_neg (by decide), if_neg (by decide), if_neg (by decide), if_neg (by decide), if_neg (by decide), if_pos (by decide), oB_id, ask_eq, does_8]
  · obtain ⟨w1, d1⟩ : ∃ v, f_L_low σ y 30 = some v := ⟨_, low_some _ _ (by decide)⟩
    obtain ⟨w2, d2⟩ : ∃ v, f_L_low σ y 20 = some v := ⟨_, low_some _ _ (by decide)⟩
    by_cases z : w1 = 0
    · refine AR_cg ?_ (a_tick G ht 0)
      show f_L_acts σ x y (nI 9) (nI hh) = f_L_tick σ 0
      unfold f_L_acts
      rw [e1, Option.bind_some, e2, Option.bind_some, e3, Option.bind_some, if_neg (by decide), if_neg (by decide), if_neg (by decide), if_neg (by decide), if_neg (by decide), if_neg (by decide), if_neg (by decide), if_neg (by decide), if_neg (by decide), if_pos (by decide), d1, Option.bind_some, if_pos z, oB_id, ask_eq, does_9]
    · refine AR_cg ?_ (a_tick G ht (1 + w2))
      show f_L_acts σ x y (nI 9) (nI hh) = f_L_tick σ (1 + w2)
      unfold f_L_acts
      rw [e1, Option.bind_some, e2, Option.bind_some, e3, Option.bind_some, if_neg (by decide), if_neg (by decide), if_neg (by decide), if_neg (by decide), if_neg (by decide), if_neg (by decide), if_neg (by decide), if_neg (by decide), if_neg (by decide), if_pos (by decide), d1, Option.bind_some, if_neg z, d2, Option.bind_some, oB_id, ask_eq, does_9]
  · refine AR_cg ?_ (a_auto G ht)
    show f_L_acts σ x y (nI 10) (nI hh) = f_L_auto σ
    unfold f_L_acts
    rw [e1, Option.bind_some, e2, Option.bind_some, e3, Option.bind_some, if_neg (by decide), if_neg (by decide), if_neg (by decide), if_neg (by decide), if_neg (by decide), if_neg (by decide), if_neg (by decide), if_neg (by decide), if_neg (by decide), if_neg (by decide), if_pos (by decide), oB_id, ask_eq, does_10]
  · refine AR_cg ?_ (a_auto G ht)
    show f_L_acts σ x y (nI 11) (nI hh) = f_L_auto σ
    unfold f_L_acts
    rw [e1, Option.bind_some, e2, Option.bind_some, e3, Option.bind_some, if_neg (by decide), if_neg (by decide), if_neg (by decide), if_neg (by decide), if_neg (by decide), if_neg (by decide), if_neg (by decide), if_neg (by decide), if_neg (by decide), if_neg (by decide), if_neg (by decide), if_pos (by decide), oB_id, ask_eq, does_10]
  · refine AR_cg ?_ (a_auto G ht)
    show f_L_acts σ x y (nI 12) (nI hh) = f_L_auto σ
    unfold f_L_acts
    rw [e1, Option.bind_some, e2, Option.bind_some, e3, Option.bind_some, if_neg (by decide), if_neg (by decide), if_neg (by decide), if_neg (by decide), if_neg (by decide), if_neg (by decide), if_neg (by decide), if_neg (by decide), if_neg (by decide), if_neg (by decide), if_neg (by decide), if_neg (by decide), if_pos (by decide), oB_id, ask_eq, does_10]
  · refine AR_cg ?_ (a_auto G ht)
    show f_L_acts σ x y (nI 13) (nI hh) = f_L_auto σ
    unfold f_L_acts
    rw [e1, Option.bind_some, e2, Option.bind_some, e3, Option.bind_some, if_neg (by decide), if_neg (by decide), if_neg (by decide), if_neg (by decide), if_neg (by decide), if_neg (by decide), if_neg (by decide), if_neg (by decide), if_neg (by decide), if_neg (by decide), if_neg (by decide), if_neg (by decide), if_neg (by decide), if_pos (by decide), oB_id, ask_eq, does_10]
  · refine AR_cg ?_ (a_auto G ht)
    show f_L_acts σ x y (nI 14) (nI hh) = f_L_auto σ
    unfold f_L_acts
    rw [e1, Option.bind_some, e2, Option.bind_some, e3, Option.bind_some, if_neg (by decide), if_neg (by decide), if_neg (by decide), if_neg (by decide), if_neg (by decide), if_neg (by decide), if_neg (by decide), if_neg (by decide), if_neg (by decide), if_neg (by decide), if_neg (by decide), if_neg (by decide), if_neg (by decide), if_neg (by decide), if_pos (by decide), oB_id, ask_eq, does_10]
  · obtain ⟨w1, d1⟩ : ∃ v, f_L_low σ y 3 = some v := ⟨_, low_some _ _ (by decide)⟩
    obtain ⟨w2, d2⟩ : ∃ v, f_L_low σ (y >>> ((2 : Int32) &&& 31)) 60 = some v := ⟨_, low_some _ _ (by decide)⟩
    by_cases z : w1 = 0
    · refine AR_cg ?_ (a_type G ((119 : Int32).toUInt32 % 65536).toInt32)
      show f_L_acts σ x y (nI 15) (nI hh) = f_L_type σ ((119 : Int32).toUInt32 % 65536).toInt32
      unfold f_L_acts
      rw [e1, Option.bind_some, e2, Option.bind_some, e3, Option.bind_some, if_neg (by decide), if_neg (by decide), if_neg (by decide), if_neg (by decide), if_neg (by decide), if_neg (by decide), if_neg (by decide), if_neg (by decide), if_neg (by decide), if_neg (by decide), if_neg (by decide), if_neg (by decide), if_neg (by decide), if_neg (by decide), if_neg (by decide), if_pos (by decide), d1, Option.bind_some, if_pos z, oB_id, ask_eq, does_11]
    · by_cases z2 : w1 = 1
      · refine AR_cg ?_ (a_type G ((108 : Int32).toUInt32 % 65536).toInt32)
        show f_L_acts σ x y (nI 15) (nI hh) = f_L_type σ ((108 : Int32).toUInt32 % 65536).toInt32
        unfold f_L_acts
        rw [e1, Option.bind_some, e2, Option.bind_some, e3, Option.bind_some, if_neg (by decide), if_neg (by decide), if_neg (by decide), if_neg (by decide), if_neg (by decide), if_neg (by decide), if_neg (by decide), if_neg (by decide), if_neg (by decide), if_neg (by decide), if_neg (by decide), if_neg (by decide), if_neg (by decide), if_neg (by decide), if_neg (by decide), if_pos (by decide), d1, Option.bind_some, if_neg z, Option.bind_some, if_pos z2, oB_id, ask_eq, does_11]
      · refine AR_cg ?_ (a_type G ((48 + w2).toUInt32 % 65536).toInt32)
        show f_L_acts σ x y (nI 15) (nI hh) = f_L_type σ ((48 + w2).toUInt32 % 65536).toInt32
        unfold f_L_acts
        rw [e1, Option.bind_some, e2, Option.bind_some, e3, Option.bind_some, if_neg (by decide), if_neg (by decide), if_neg (by decide), if_neg (by decide), if_neg (by decide), if_neg (by decide), if_neg (by decide), if_neg (by decide), if_neg (by decide), if_neg (by decide), if_neg (by decide), if_neg (by decide), if_neg (by decide), if_neg (by decide), if_neg (by decide), if_pos (by decide), d1, Option.bind_some, if_neg z, Option.bind_some, if_neg z2, d2, Option.bind_some, oB_id, ask_eq, does_11]
  · refine AR_cg ?_ (a_play G ht)
    show f_L_acts σ x y (nI 16) (nI hh) = f_L_play σ
    unfold f_L_acts
    rw [e1, Option.bind_some, e2, Option.bind_some, e3, Option.bind_some, if_neg (by decide), if_neg (by decide), if_neg (by decide), if_neg (by decide), if_neg (by decide), if_neg (by decide), if_neg (by decide), if_neg (by decide), if_neg (by decide), if_neg (by decide), if_neg (by decide), if_neg (by decide), if_neg (by decide), if_neg (by decide), if_neg (by decide), if_neg (by decide), if_pos (by decide), oB_id, ask_eq, does_13]
  · refine AR_cg ?_ (a_wipe G)
    show f_L_acts σ x y (nI 17) (nI hh) = (f_X10_wipe σ).bind fun r => some (r.1.toInt64, r.2)
    unfold f_L_acts
    rw [e1, Option.bind_some, e2, Option.bind_some, e3, Option.bind_some, if_neg (by decide), if_neg (by decide), if_neg (by decide), if_neg (by decide), if_neg (by decide), if_neg (by decide), if_neg (by decide), if_neg (by decide), if_neg (by decide), if_neg (by decide), if_neg (by decide), if_neg (by decide), if_neg (by decide), if_neg (by decide), if_neg (by decide), if_neg (by decide), if_neg (by decide), if_pos (by decide), oB_id, ask_eq, does_12]
  · obtain ⟨w1, d1⟩ : ∃ v, f_L_low σ x 4 = some v := ⟨_, low_some _ _ (by decide)⟩
    obtain ⟨w2, d2⟩ : ∃ v, f_L_low σ (y >>> ((5 : Int32) &&& 31)) 4 = some v := ⟨_, low_some _ _ (by decide)⟩
    refine AR_cg ?_ (a_claim G w1 (13 * v1 + v3) w2)
    show f_L_acts σ x y (nI 18) (nI hh) = f_L_claim σ w1 (13 * v1 + v3) w2
    unfold f_L_acts
    rw [e1, Option.bind_some, e2, Option.bind_some, e3, Option.bind_some, if_neg (by decide), if_neg (by decide), if_neg (by decide), if_neg (by decide), if_neg (by decide), if_neg (by decide), if_neg (by decide), if_neg (by decide), if_neg (by decide), if_neg (by decide), if_neg (by decide), if_neg (by decide), if_neg (by decide), if_neg (by decide), if_neg (by decide), if_neg (by decide), if_neg (by decide), if_neg (by decide), if_pos (by decide), d1, Option.bind_some, d2, Option.bind_some, oB_id, does_23]
  · obtain ⟨w1, d1⟩ : ∃ v, f_L_low σ y 65536 = some v := ⟨_, low_some _ _ (by decide)⟩
    obtain ⟨w2, d2⟩ : ∃ v, f_L_low σ (y >>> ((4 : Int32) &&& 31)) 15 = some v := ⟨_, low_some _ _ (by decide)⟩
    obtain ⟨w3, d3⟩ : ∃ v, f_L_low σ x 200 = some v := ⟨_, low_some _ _ (by decide)⟩
    refine AR_cg ?_ (a_deal G ht w1 (1 + w2) (1 + w3))
    show f_L_acts σ x y (nI 19) (nI hh) = f_L_deal σ w1 (1 + w2) (1 + w3)
    unfold f_L_acts
    rw [e1, Option.bind_some, e2, Option.bind_some, e3, Option.bind_some, if_neg (by decide), if_neg (by decide), if_neg (by decide), if_neg (by decide), if_neg (by decide), if_neg (by decide), if_neg (by decide), if_neg (by decide), if_neg (by decide), if_neg (by decide), if_neg (by decide), if_neg (by decide), if_neg (by decide), if_neg (by decide), if_neg (by decide), if_neg (by decide), if_neg (by decide), if_neg (by decide), if_neg (by decide), if_pos (by decide), d1, Option.bind_some, d2, Option.bind_some, d3, Option.bind_some, oB_id, does_2]
  · obtain ⟨w1, d1⟩ : ∃ v, f_L_low σ y 3 = some v := ⟨_, low_some _ _ (by decide)⟩
    obtain ⟨w2, d2⟩ : ∃ v, f_L_low σ (y >>> ((2 : Int32) &&& 31)) 5 = some v := ⟨_, low_some _ _ (by decide)⟩
    refine AR_cg ?_ (a_player G ht (on rfl) w1 w2)
    show f_L_acts σ x y (nI 20) (nI hh) = f_L_player σ w1 w2
    unfold f_L_acts
    rw [e1, Option.bind_some, e2, Option.bind_some, e3, Option.bind_some, if_neg (by decide), if_neg (by decide), if_neg (by decide), if_neg (by decide), if_neg (by decide), if_neg (by decide), if_neg (by decide), if_neg (by decide), if_neg (by decide), if_neg (by decide), if_neg (by decide), if_neg (by decide), if_neg (by decide), if_neg (by decide), if_neg (by decide), if_neg (by decide), if_neg (by decide), if_neg (by decide), if_neg (by decide), if_neg (by decide), d1, Option.bind_some, d2, Option.bind_some, oB_id, ask_eq, does_1]
theorem okV_lg {v : Int32} (h : okV v) : 0 < lg_cmp v.toInt64 (-10000) := (lg_pos _ _).1.mpr (Int64.lt_iff_toInt_lt.mp h)
theorem ref_lg {c : Int64} (h : c ≤ -10000) : ¬ 0 < lg_cmp c (-10000) := fun z => by
  have h1 := (lg_pos _ _).1.mp z
  have h2 := Int64.le_iff_toInt_le.mp h
  omega
/-- one act of the law, told before and after -/
theorem seg_ok (G : GAx t σ B E dl m l ch B0 D hh L jk ml pn wr) (ht : t ≤ 512) (x y : Int32) {k : Nat} (hk : k ≤ 20) : ∃ τ, f_seg σ x y (nI k) (nI hh) = some (1, τ) ∧ GA (t + 1) τ hh jk := by
  obtain ⟨g, σ1, a1, a2, G1⟩ := tell_ok G (by omega)
  have w0 : g 0 = (m 67 24).toInt64 := a2 0 (by omega)
  have key : ∀ f : rS → Option (Int64 × rS), f_act σ1 g x y (nI k) (nI hh) = f σ1 → AR t f σ1 B E dl m l ch B0 D hh L jk ml pn wr → ∃ τ, f_seg σ x y (nI k) (nI hh) = some (1, τ) ∧ GA (t + 1) τ hh jk := fun f hf A => by
    rcases A with ⟨c, σ2, m', hc, b1, b2, G2⟩ | ⟨v, σ2, hv, b1, b2⟩
    · obtain ⟨g2, σ3, d1, d2, G3⟩ := tell_ok G2 (by omega)
      refine ⟨σ3, ?_, _, _, _, _, _, _, _, _, _, _, _, _, GAx_s G3⟩
      unfold f_seg
      rw [a1, Option.bind_some, hf, b1, Option.bind_some, if_neg (ref_lg hc), d1, Option.bind_some, sG_1 62 0 rfl (fun j hj => by dsimp only; rw [a2 j hj, d2 j hj, tlV_m b2]), if_neg (by decide)]
    · refine ⟨σ2, ?_, b2⟩
      unfold f_seg
      rw [a1, Option.bind_some, hf, b1, Option.bind_some, if_pos (okV_lg hv)]
  have F := G_facts G.2.2.2.1 (by omega)
  have c19 : (nI k ≤ 19) = (k ≤ 19) := propext (nI_leI (b := 19) (by omega) (by omega))
  by_cases c : k ≤ 19
  · exact key (fun σ => f_L_acts σ (x >>> ((9 : Int32) &&& 31)) y (nI k) (nI hh)) (by unfold f_act; simp only [c19]; rw [if_pos c]) (acts_ar G1 ht _ y hk (fun e => absurd e (by omega)))
  · rcases F.2.1 with tp | ⟨p, hp, tp⟩
    · refine key (fun σ => some (-10004, σ)) ?_ (Or.inl ⟨-10004, σ1, m, by decide, rfl, mEq.rf m, G1⟩)
      unfold f_act
      simp only [c19]
      rw [if_neg c, w0, tp, if_neg (by decide)]
    · refine key (fun σ => f_L_acts σ (x >>> ((9 : Int32) &&& 31)) y (nI k) (nI hh)) ?_ (acts_ar G1 ht _ y hk (fun _ => ⟨p, hp, tp⟩))
      unfold f_act
      simp only [c19]
      rw [if_neg c, w0, tp, if_pos]
      rcases (by omega : p = 0 ∨ p = 1 ∨ p = 2) with rfl | rfl | rfl <;> decide
end
