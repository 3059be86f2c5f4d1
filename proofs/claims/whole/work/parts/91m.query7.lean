/-! playerIs, rules -/
theorem playerIs_s {σ : rS} {B : Bd} {E : List Ent} {dl : Option (Nat × Nat × Nat)} {m : Mem} {l : Nat → Int64} {ch hh L jk ml pn n : Nat} (C : CI σ B E dl m l ch) (M : MI σ B E m l) {Kp : rS → Prop} (hK : ∀ τ, FrK σ τ → Kp τ) (r : RuM m hh L jk ml pn n) (la : LaI m n) (hM : ∀ p, p < 4 → m 72 p = 0 ∨ m 72 p = 1) (a b : Int32) : QStep Kp (fun σ => f_L_playerIs σ a b) (fun σ => f_X11_playerIs σ a b) σ B E dl m l ch := by
  have hn := CI_n C r
  have hn4 := r.2.2.2.2.2.2.2.2
  by_cases c1 : vIn a 0 ((rI σ 19 0) - 1) = 0
  · refine q_ex C M hK 1 (-1) (by decide) ?_ ?_
    · show f_L_playerIs σ a b = _
      unfold f_L_playerIs f_X10_playerIs f_X10_needPlayer
      rw [if_pos c1, oBx_r, oBc_r lk2]
    · show f_X11_playerIs σ a b = _
      unfold f_X11_playerIs
      rw [pl_same hn (MI_n M r), if_pos c1, holds1, oB_some, if_neg (by decide)]
  · have c1' := c1
    rw [hn] at c1'
    obtain ⟨q, hq, rfl⟩ := vIn_pl hn4 c1'
    have q4 : q < 4 := by omega
    by_cases c2 : vIn b 0 9 = 0
    · have ne : ∀ t, t ≤ 9 → ¬ b = nI t := fun t ht e => by
        rw [e, show (0 : Int32) = nI 0 from rfl, show (9 : Int32) = nI 9 from rfl, vIn_in (by decide) (by omega) ht] at c2
        exact absurd c2 (by decide)
      refine q_ex C M hK 2 (-1) (by decide) ?_ ?_
      · show f_L_playerIs σ (nI q) b = _
        unfold f_L_playerIs f_X10_playerIs f_X10_needPlayer
        rw [if_neg c1, oBx_l, if_neg (show ¬ b = 0 from ne 0 (by decide)), if_neg (show ¬ b = 1 from ne 1 (by decide)), if_neg (show ¬ b = 2 from ne 2 (by decide)), if_neg (show ¬ b = 3 from ne 3 (by decide)), if_neg (show ¬ b = 4 from ne 4 (by decide)), if_neg (show ¬ b = 5 from ne 5 (by decide)), if_neg (show ¬ b = 6 from ne 6 (by decide)), if_neg (show ¬ b = 7 from ne 7 (by decide)), if_neg (show ¬ b = 8 from ne 8 (by decide)), if_neg (show ¬ b = 9 from ne 9 (by decide)), oBc_r lk3]
      · show f_X11_playerIs σ (nI q) b = _
        unfold f_X11_playerIs
        rw [pl_same hn (MI_n M r), if_neg c1, in_eq, if_pos c2, holds2, oB_some, if_neg (by decide)]
    · have key : ∀ v, f_X10_playerIs σ (nI q) b = some (.inl v, σ) → (∀ τ, MI τ B E m l → f_X11_playerIs τ (nI q) b = some (v, wI τ 67 0 0)) → QStep Kp (fun σ => f_L_playerIs σ (nI q) b) (fun σ => f_X11_playerIs σ (nI q) b) σ B E dl m l ch := fun v h1 h2 => q_ok C M hK v (by
        show f_L_playerIs σ (nI q) b = _
        unfold f_L_playerIs
        rw [h1, oBc_l]
        rfl) h2
      have c2' := c2
      obtain ⟨t, -, ht, rfl⟩ := vIn_of (a := 0) (b := 9) (by decide) c2' (by decide)
      have hS : ∀ τ, MI τ B E m l → MI (wI τ 67 0 0) B E m l := fun τ N => MI_t N 0
      have hd : ∀ τ : rS, MI τ B E m l → (if v_X11_isPlayer τ (nI q) = 0 then (1 : Int32) else (if v_X11_in τ (nI t) 0 9 = 0 then 2 else 0)) = 0 := fun τ N => by rw [pl_same hn (MI_n N r), if_neg c1, in_eq, if_neg c2]
      rcases (show t = 0 ∨ t = 1 ∨ t = 2 ∨ t = 3 ∨ t = 4 ∨ t = 5 ∨ t = 6 ∨ t = 7 ∨ t = 8 ∨ t = 9 by omega) with rfl | rfl | rfl | rfl | rfl | rfl | rfl | rfl | rfl | rfl
      · exact key (m 68 q) (by unfold f_X10_playerIs f_X10_needPlayer; rw [if_neg c1, oBx_l, if_pos (by decide), vAt_nI (by decide) q4, CI_4 C (x := 20) (j := q) (by omega)]; rfl) fun τ N => by unfold f_X11_playerIs; rw [hd τ N, holds0, oB_some, if_pos rfl, if_pos (by decide), if_pos (inB_nI (by decide) q4), nI_clamp (by omega), (hS τ N).2.2.1 68 q (by omega)]
      · exact key (m 69 q) (by unfold f_X10_playerIs f_X10_needPlayer; rw [if_neg c1, oBx_l, if_neg (by decide), if_pos (by decide), vAt_nI (by decide) q4, CI_4 C (x := 21) (j := q) (by omega)]; rfl) fun τ N => by unfold f_X11_playerIs; rw [hd τ N, holds0, oB_some, if_pos rfl, if_neg (by decide), if_pos (by decide), if_pos (inB_nI (by decide) q4), nI_clamp (by omega), (hS τ N).2.2.1 69 q (by omega)]
      · exact key (m 70 q) (by unfold f_X10_playerIs f_X10_needPlayer; rw [if_neg c1, oBx_l, if_neg (by decide), if_neg (by decide), if_pos (by decide), vAt_nI (by decide) q4, CI_4 C (x := 22) (j := q) (by omega)]; rfl) fun τ N => by unfold f_X11_playerIs; rw [hd τ N, holds0, oB_some, if_pos rfl, if_neg (by decide), if_neg (by decide), if_pos (by decide), if_pos (inB_nI (by decide) q4), nI_clamp (by omega), (hS τ N).2.2.1 70 q (by omega)]
      · exact key (m 71 q) (by unfold f_X10_playerIs f_X10_needPlayer; rw [if_neg c1, oBx_l, if_neg (by decide), if_neg (by decide), if_neg (by decide), if_pos (by decide), vAt_nI (by decide) q4, CI_4 C (x := 23) (j := q) (by omega)]; rfl) fun τ N => by unfold f_X11_playerIs; rw [hd τ N, holds0, oB_some, if_pos rfl, if_neg (by decide), if_neg (by decide), if_neg (by decide), if_pos (by decide), if_pos (inB_nI (by decide) q4), nI_clamp (by omega), (hS τ N).2.2.1 71 q (by omega)]
      · refine key (if m 72 q = 0 then 0 else 1) (by unfold f_X10_playerIs f_X10_needPlayer; rw [if_neg c1, oBx_l, if_neg (by decide), if_neg (by decide), if_neg (by decide), if_neg (by decide), if_pos (by decide), hasM_eq C q4]; rcases hM q q4 with e | e <;> rw [e] <;> rfl) fun τ N => by unfold f_X11_playerIs; rw [hd τ N, holds0, oB_some, if_pos rfl, if_neg (by decide), if_neg (by decide), if_neg (by decide), if_neg (by decide), if_pos (by decide), if_pos (inB_nI (by decide) q4), nI_clamp (by omega), (hS τ N).2.2.1 72 q (by omega)]
      · exact key (nI (rsz (bR B) q)) (by unfold f_X10_playerIs f_X10_needPlayer; rw [if_neg c1, oBx_l, if_neg (by decide), if_neg (by decide), if_neg (by decide), if_neg (by decide), if_neg (by decide), if_pos (by decide), sizeOf_eq C.1 q4]) fun τ N => by unfold f_X11_playerIs; rw [hd τ N, holds0, oB_some, if_pos rfl, if_neg (by decide), if_neg (by decide), if_neg (by decide), if_neg (by decide), if_neg (by decide), if_pos (by decide), inRack_eq (hS τ N).1 q4]; rfl
      · exact key (nI (woB (bR B) q)) (by unfold f_X10_playerIs f_X10_needPlayer; rw [if_neg c1, oBx_l, if_neg (by decide), if_neg (by decide), if_neg (by decide), if_neg (by decide), if_neg (by decide), if_neg (by decide), if_pos (by decide), worthOf_eq C.1 q4]; rfl) fun τ N => by unfold f_X11_playerIs; rw [hd τ N, holds0, oB_some, if_pos rfl, if_neg (by decide), if_neg (by decide), if_neg (by decide), if_neg (by decide), if_neg (by decide), if_neg (by decide), if_pos (by decide), mworthOf_eq (hS τ N).1 q4]; rfl
      · obtain ⟨j, hj, j1, j2⟩ := la q hq
        exact key (nI j) (by unfold f_X10_playerIs f_X10_needPlayer; rw [if_neg c1, oBx_l, if_neg (by decide), if_neg (by decide), if_neg (by decide), if_neg (by decide), if_neg (by decide), if_neg (by decide), if_neg (by decide), if_pos (by decide), cplace_eq C hn hn4 hj j1 j2]; rfl) fun τ N => by unfold f_X11_playerIs; rw [hd τ N, holds0, oB_some, if_pos rfl, if_neg (by decide), if_neg (by decide), if_neg (by decide), if_neg (by decide), if_neg (by decide), if_neg (by decide), if_neg (by decide), if_pos (by decide), mplace_eq (hS τ N) (by omega) j1 j2]; rfl
      · exact key (m 77 q) (by unfold f_X10_playerIs f_X10_needPlayer; rw [if_neg c1, oBx_l, if_neg (by decide), if_neg (by decide), if_neg (by decide), if_neg (by decide), if_neg (by decide), if_neg (by decide), if_neg (by decide), if_neg (by decide), if_pos (by decide), vAt_nI (by decide) q4, CI_4 C (x := 25) (j := q) (by omega)]; rfl) fun τ N => by unfold f_X11_playerIs; rw [hd τ N, holds0, oB_some, if_pos rfl, if_neg (by decide), if_neg (by decide), if_neg (by decide), if_neg (by decide), if_neg (by decide), if_neg (by decide), if_neg (by decide), if_neg (by decide), if_pos (by decide), if_pos (inB_nI (by decide) q4), nI_clamp (by omega), (hS τ N).2.2.1 77 q (by omega)]
      · exact key (m 73 q) (by unfold f_X10_playerIs f_X10_needPlayer; rw [if_neg c1, oBx_l, if_neg (by decide), if_neg (by decide), if_neg (by decide), if_neg (by decide), if_neg (by decide), if_neg (by decide), if_neg (by decide), if_neg (by decide), if_neg (by decide), if_pos (by decide), vAt_nI (by decide) q4, CI_4 C (x := 27) (j := q) (by omega)]; rfl) fun τ N => by unfold f_X11_playerIs; rw [hd τ N, holds0, oB_some, if_pos rfl, if_neg (by decide), if_neg (by decide), if_neg (by decide), if_neg (by decide), if_neg (by decide), if_neg (by decide), if_neg (by decide), if_neg (by decide), if_neg (by decide), if_pos (inB_nI (by decide) q4), nI_clamp (by omega), (hS τ N).2.2.1 73 q (by omega)]
