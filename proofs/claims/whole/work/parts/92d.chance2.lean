/-! chance -/
theorem vBit_52 (x : Int64) : vBit x (nI 52) = 0 := by
  unfold vBit
  rw [if_neg (fun z => absurd z.2.1 (by decide))]
theorem piece_of {σ : rS} {hh : Nat} {k : Int32} (h4 : rI σ 4 0 = nI hh) (h13 : hh ≤ 13) (c : k = 52 ∨ ¬ v_X5_isKind σ k = 0) : ∃ j, j < 53 ∧ k = nI j := by
  rcases c with e | e
  · exact ⟨52, by decide, e⟩
  · obtain ⟨j, h1, -, h3⟩ := isKind_of h4 h13 e
    exact ⟨j, by omega, h3⟩
theorem needPiece_y {σ : rS} {k : Int32} (c : k = 52 ∨ ¬ v_X5_isKind σ k = 0) : f_X10_needPiece σ k = some (.inl (), σ) := by
  unfold f_X10_needPiece
  rw [if_pos]
  by_cases e : k = 52
  · rw [if_pos e]
  · rw [if_neg e]
    rcases c with f | f
    · exact absurd f e
    · rw [if_neg f]
theorem needPiece_n {σ : rS} {k : Int32} (c : ¬ (k = 52 ∨ ¬ v_X5_isKind σ k = 0)) : f_X10_needPiece σ k = some (.inr "java/lang/IllegalArgumentException", σ) := by
  have n1 : ¬ k = 52 := fun z => c (Or.inl z)
  have n2 : v_X5_isKind σ k = 0 := Classical.byContradiction fun z => c (Or.inr z)
  unfold f_X10_needPiece
  rw [if_neg n1, if_pos n2, if_neg (by decide)]
theorem koj_y {σ τ : rS} {hh : Nat} (h : rI σ 4 0 = nI hh) (g : rI τ 67 1 = nI hh) {k : Int32} (c : k = 52 ∨ ¬ v_X5_isKind σ k = 0) : v_X11_isKindOrJoker τ k = 1 := by
  unfold v_X11_isKindOrJoker
  rw [kind_same h g]
  by_cases e : k = 52
  · rw [if_pos e]
  · rw [if_neg e]
    rcases c with f | f
    · exact absurd f e
    · rw [if_neg f]
theorem koj_n {σ τ : rS} {hh : Nat} (h : rI σ 4 0 = nI hh) (g : rI τ 67 1 = nI hh) {k : Int32} (c : ¬ (k = 52 ∨ ¬ v_X5_isKind σ k = 0)) : v_X11_isKindOrJoker τ k = 0 := by
  have n1 : ¬ k = 52 := fun z => c (Or.inl z)
  have n2 : v_X5_isKind σ k = 0 := Classical.byContradiction fun z => c (Or.inr z)
  unfold v_X11_isKindOrJoker
  rw [kind_same h g, if_neg n1, if_pos n2]
def chT (B : Bd) (m : Mem) (l : Nat → Int64) (q j : Nat) : Int32 := if vBit (l q) (nI j) = 0 then nI (rsz (bR B) q) else (if m 77 q < nI (rsz (bR B) q) then m 77 q else nI (rsz (bR B) q))
theorem chance_s {σ : rS} {B : Bd} {E : List Ent} {dl : Option (Nat × Nat × Nat)} {m : Mem} {l : Nat → Int64} {ch hh L jk ml pn n : Nat} (C : CI σ B E dl m l ch) (M : MI σ B E m l) {Kp : rS → Prop} (hK : ∀ τ, FrK σ τ → Kp τ) (r : RuM m hh L jk ml pn n) (o : OkB B) (rk : RkI B n) (h3 : ∀ p k, p < 4 → k < 53 → hiB B p k ≤ 3) (p1 p2 k : Int32) : QStep Kp (fun σ => f_L_chance σ p1 p2 k) (fun σ => f_X11_chance σ p1 p2 k) σ B E dl m l ch := by
  have h4 := CI_h C r
  have hn := CI_n C r
  have h13 := r.2.2.1
  have hn4 := r.2.2.2.2.2.2.2.2
  have bad : ∀ c2 : vIn p1 0 ((rI σ 19 0) - 1) = 0 ∨ vIn p2 0 ((rI σ 19 0) - 1) = 0, QStep Kp (fun σ => f_L_chance σ p1 p2 k) (fun σ => f_X11_chance σ p1 p2 k) σ B E dl m l ch := fun c => by
    refine q_ex C M hK 1 (-1) (by decide) ?_ ?_
    · show f_L_chance σ p1 p2 k = _
      unfold f_L_chance f_X10_chance f_X10_needPlayer
      by_cases c1 : vIn p1 0 ((rI σ 19 0) - 1) = 0
      · rw [if_pos c1, oBx_r, oBc_r lk2]
      · rw [if_neg c1, oBx_l, if_pos (c.resolve_left c1), oBx_r, oBc_r lk2]
    · show f_X11_chance σ p1 p2 k = _
      unfold f_X11_chance
      rw [pl_same hn (MI_n M r), pl_same hn (MI_n M r)]
      by_cases c1 : vIn p1 0 ((rI σ 19 0) - 1) = 0
      · rw [if_pos c1, if_pos rfl, holds1, oB_some]
      · rw [if_neg c1, if_pos (c.resolve_left c1), if_pos rfl, holds1, oB_some]
  by_cases c1 : vIn p1 0 ((rI σ 19 0) - 1) = 0
  · exact bad (Or.inl c1)
  by_cases c2 : vIn p2 0 ((rI σ 19 0) - 1) = 0
  · exact bad (Or.inr c2)
  have pre : f_L_chance σ p1 p2 k = oBc (if p1 = p2 then (some ((.inr "java/lang/IllegalArgumentException", σ))) else (oBx (f_X10_needPiece σ k) fun _ σ6 => (f_X6_passedBy σ6 p2).bind fun v7 => oLet ((if (vBit v7 k) = 0 then (v_X1_sizeOf σ6 5 p2) else (if vAt (rI σ6 25) 4 p2 < v_X1_sizeOf σ6 5 p2 then vAt (rI σ6 25) 4 p2 else v_X1_sizeOf σ6 5 p2) : Int32) : Int32) fun x8 => (f_X1_allHidden σ6 5 p1).bind fun v9 => (f_X1_hidden σ6 5 p1 k).bind fun v10 => (f_X10_thousandths σ6 v9 v10 x8).bind fun v11 => some ((.inl v11, σ6)))) [("java/lang/IndexOutOfBoundsException", 1), ("java/lang/IllegalArgumentException", 2)] fun v1 σ1 => oLet (wL σ1 114 (0 : Int32).toNatClampNeg (((v1 : Int32)).toInt64)) fun σ6 => some ((0, σ6)) := by
    unfold f_L_chance f_X10_chance f_X10_needPlayer
    rw [if_neg c1, oBx_l, if_neg c2, oBx_l]
  have pls : ∀ τ, MI τ B E m l → (if (v_X11_isPlayer τ p1) = 0 then true else (if (v_X11_isPlayer τ p2) = 0 then true else false)) = false := fun τ N => by
    rw [pl_same hn (MI_n N r), pl_same hn (MI_n N r), if_neg c1, if_neg c2]
  by_cases e12 : p1 = p2
  · refine q_ex C M hK 2 (-1) (by decide) ?_ ?_
    · show f_L_chance σ p1 p2 k = _
      rw [pre, if_pos e12, oBc_r lk3]
    · show f_X11_chance σ p1 p2 k = _
      unfold f_X11_chance
      rw [pls σ M, if_neg (by decide), if_pos e12, holds2, oB_some, if_neg (by decide)]
  by_cases c3 : k = 52 ∨ ¬ v_X5_isKind σ k = 0
  · obtain ⟨j, hj, rfl⟩ := piece_of h4 h13 c3
    rw [hn] at c1 c2
    obtain ⟨q1, hq1, rfl⟩ := vIn_pl hn4 c1
    obtain ⟨q2, hq2, rfl⟩ := vIn_pl hn4 c2
    have hA := hi_ah B q1 hj
    have hA2 := ah_le o q1
    have hH := h3 q1 j (by omega) hj
    have vb : vBit (rL σ 29 q2) (nI j) = vBit (l q2) (nI j) := by
      by_cases z : j = 52
      · rw [z, vBit_52, vBit_52]
      · exact C.2.2.2.2.1 q2 (by omega) j (by omega)
    refine q_ok C M hK (((1000 * (chA (ahB B q1) (hiB B q1 j) - chB (nI (ahB B q1) - chT B m l q2 j) (hiB B q1 j))) / chA (ahB B q1) (hiB B q1 j)).toInt32) ?_ fun τ N => ?_
    · show f_L_chance σ (nI q1) (nI q2) (nI j) = _
      rw [pre, if_neg e12, needPiece_y c3, oBx_l]
      have e1 : f_X6_passedBy σ (nI q2) = some (rL σ 29 q2) := by
        unfold f_X6_passedBy
        rw [if_neg (show ¬ nI q2 < 0 from fun z => by have := (nI_lt' (b := 0) (by omega) (by omega)).mp z; omega), if_neg (show ¬ (4 : Int32) ≤ nI q2 from fun z => by have := (nI_leI (a := 4) (by omega) (by omega)).mp z; omega), if_neg (by decide), if_pos (inB_nI (by decide) (by omega)), nI_clamp (by omega)]
      rw [e1, Option.bind_some, vb, sizeOf_eq C.1 (by omega), vAt_nI (by decide) (by omega), CI_4 C (x := 25) (j := q2) (by omega), show m (cx 25) (cj 25 q2) = m 77 q2 from rfl, oLet_eq, allHidden_eq C.1 (by omega), Option.bind_some, hidden_eq C.1 (by omega) hj, Option.bind_some, thou_eq _ _ hH hA hA2, Option.bind_some, oBc_l]
      rfl
    · show f_X11_chance τ (nI q1) (nI q2) (nI j) = _
      have N1 := MI_t N 0
      have t52 : rI (wI τ 67 0 0) 82 j = nI (bP B j) := N1.1.1 j hj
      unfold f_X11_chance
      rw [pls τ N, if_neg (by decide), if_neg e12, koj_y h4 (MI_h N r) c3, if_neg (by decide), holds0, oB_some, if_pos rfl, inPool_eq N1.1, Option.bind_some, if_pos (inB_nI (by decide) hj), nI_clamp (by omega), t52, oLet_eq, mhid_eq N1 o r.1.2.2.2.2.2 hn4 rk (by omega) hj, oJ_inr]
      rw [inRack_eq N1.1 (by omega), Option.bind_some]
      have last : ∀ {v : Int32}, v = chT B m l q2 j → (oJoin (oLoop (b_X11_chance_204 (nI (ahB B q1), nI (hiB B q1 j)) v) oFuel (((1 : Int64), (1 : Int64), 0))) fun j21 => if ¬ j21.1 = 0 then (some ((((((1000 : Int64) * (j21.1 - j21.2)) / j21.1 : Int64)).toInt32, wI τ 67 0 0))) else none) = some ((((1000 * (chA (ahB B q1) (hiB B q1 j) - chB (nI (ahB B q1) - chT B m l q2 j) (hiB B q1 j))) / chA (ahB B q1) (hiB B q1 j)).toInt32), wI τ 67 0 0) := fun {v} hv => by
        subst hv
        obtain ⟨a, e, g1, g2⟩ := chA_pos hH hA hA2
        rw [mthou_eq _ hH hA hA2, oJ_inr]
        dsimp only
        rw [if_pos (by rw [e]; exact fun z => by have := lN_inj (b := 0) (by omega) (by omega) z; omega)]
      have c52 : ((52 : Int32) ≤ nI j) = (52 ≤ j) := propext (nI_leI (a := 52) (by omega) (by omega))
      simp only [c52]
      by_cases z : 52 ≤ j
      · rw [if_pos z, oJ_inr, if_pos rfl, oJ_inr]
        refine last ?_
        unfold chT
        rw [show j = 52 by omega, vBit_52, if_pos rfl]
      · rw [if_neg z, if_pos (inB_nI (by decide) (by omega)), nI_clamp (by omega), show rL (wI τ 67 0 0) 75 q2 = rL τ 75 q2 from rfl, N.2.2.2.1 q2 (by omega)]
        obtain ⟨b1, b2⟩ := vBit_hb (l q2) (show j < 52 by omega)
        by_cases h : hb (l q2) j
        · rw [if_pos ((lg_0 _ _).mpr ((bit_s _ (by omega)).mpr h)), oJ_inr, if_neg (by decide), if_pos (inB_nI (by decide) (by omega)), N1.2.2.1 77 q2 (by omega)]
          by_cases w : nI (rsz (bR B) q2) ≤ m 77 q2
          · rw [if_pos w, oJ_inr]
            refine last ?_
            unfold chT
            rw [b1 h, if_neg (by decide), if_neg (fun u => absurd w (Int32.not_le.mpr u))]
          · rw [if_neg w, oJ_inr]
            refine last ?_
            unfold chT
            rw [b1 h, if_neg (by decide), if_pos (Int32.not_le.mp w)]
        · rw [if_neg (fun z => h ((bit_s _ (by omega)).mp ((lg_0 _ _).mp z))), oJ_inr, if_pos rfl, oJ_inr]
          refine last ?_
          unfold chT
          rw [b2 h, if_pos rfl]
  · refine q_ex C M hK 2 (-1) (by decide) ?_ ?_
    · show f_L_chance σ p1 p2 k = _
      rw [pre, if_neg e12, needPiece_n c3, oBx_r, oBc_r lk3]
    · show f_X11_chance σ p1 p2 k = _
      unfold f_X11_chance
      rw [pls σ M, if_neg (by decide), if_neg e12, koj_n h4 (MI_h M r) c3, if_pos rfl, holds2, oB_some, if_neg (by decide)]
