/-! the law's loop -/
theorem P_room {M : rM} {k kc ks kc2 ks2 : Nat} {o : Option Value ⊕ String} {τ : rS} {I : rS → Prop} {R : Type} {W : R → rS} {K : R → Prop} {pc : Nat} {ls : List (Option Value)} {st : List Value} {σ : rS} {p : Option R} (h1 : kc2 ≤ kc) (h2 : ks2 ≤ ks) (kk : rP I M k kc2 ks2 o τ W K pc ls st σ p) : rP I M k kc ks o τ W K pc ls st σ p := fun hJ r hr =>
  ⟨(kk hJ r hr).1, fun a b c => E_room ((kk hJ r hr).2 a b c) (by omega) (by omega)⟩
theorem P_vst {M : rM} {k kc ks : Nat} {o : Option Value ⊕ String} {τ : rS} {I : rS → Prop} {R : Type} {W : R → rS} {K : R → Prop} {α : Type} {pc : Nat} {σ : rS} {ls : List (Option Value)} (v : α) {f : α → Option R} (st : α → List Value) (kk : ∀ x, rP I M k kc ks o τ W K pc ls (st x) σ (f x)) : rP I M k kc ks o τ W K pc ls (st v) σ (oLet v f) := kk v
theorem P_loopF {M : rM} {k c d : Nat} {o : Option Value ⊕ String} {τ : rS} {I : rS → Prop} {R : Type} {W : R → rS} {K : R → Prop} {S : Type} {pc : Nat} {ls : S → List (Option Value)} {w : S → rS} {body : S → Option (R ⊕ S)} (hb : ∀ kN ksN s, rP I M k (kN + c) (ksN + d) o τ (W2 W w) (K2 K (QL M k kN ksN o τ pc ls (fun _ => []) w)) pc (ls s) [] (w s) (body s)) (n : Nat) (kN ksN : Nat) (s : S) : rP I M k (kN + c * n) (ksN + d * n) o τ W K pc (ls s) [] (w s) (oLoop body n s) := by
  induction n generalizing s with
  | zero => intro _ r hr; cases hr
  | succ n ih =>
    intro hJ r hr
    simp only [oLoop] at hr
    have hs := hb (kN + c * n) (ksN + d * n) s hJ
    have ec : kN + c * (n + 1) = kN + c * n + c := by rw [Nat.mul_succ]; omega
    have ed : ksN + d * (n + 1) = ksN + d * n + d := by rw [Nat.mul_succ]; omega
    rw [ec, ed]
    split at hr
    · cases hr
    · rename_i r' hbs
      cases hr
      exact hs _ hbs
    · rename_i s' hbs
      obtain ⟨⟨h1, h2, h3⟩, h4⟩ := hs _ hbs
      obtain ⟨⟨g1, g2, g3⟩, g4⟩ := ih s' h1 r hr
      have e2 : uC (w s) ≤ uC (w s') := h2
      have e3 : uS (w s) ≤ uS (w s') := h3
      exact ⟨⟨g1, Nat.le_trans e2 g2, Nat.le_trans e3 g3⟩, fun a b c => h4 (Nat.le_trans g2 a) (Nat.le_trans g3 b) (g4 a b c)⟩
def mL_law : rM := (RL, cL_law, 7, some .boolean, false, List.replicate 100 ⟨0, 0, 0, 0⟩)
def b_L_law (s : Int32 × rS) : Option ((Int32 × rS) ⊕ (Int32 × rS)) := if ((nI (rK s.2 2).2) - 6) < s.1 then (some (.inl ((1, s.2)))) else (if inB s.1 ((rK s.2 2).2) then (oLet ((rI s.2 2 (s.1 : Int32).toNatClampNeg) &&& 63 : Int32) fun x7 => if x7 = 0 then (if inB (s.1 + 1) ((rK s.2 2).2) then (if inB (s.1 + 2) ((rK s.2 2).2) then (if inB (s.1 + 3) ((rK s.2 2).2) then (if inB (s.1 + 4) ((rK s.2 2).2) then (if inB (s.1 + 5) ((rK s.2 2).2) then (oB (f_L_rules s.2 (rI s.2 2 (s.1 + 1 : Int32).toNatClampNeg) (rI s.2 2 (s.1 + 2 : Int32).toNatClampNeg) (rI s.2 2 (s.1 + 3 : Int32).toNatClampNeg) (rI s.2 2 (s.1 + 4 : Int32).toNatClampNeg) (rI s.2 2 (s.1 + 5 : Int32).toNatClampNeg)) fun v14 σ15 => if inB (s.1 + 1) ((rK σ15 2).2) then (if inB (s.1 + 2) ((rK σ15 2).2) then (if inB (s.1 + 3) ((rK σ15 2).2) then (if inB (s.1 + 4) ((rK σ15 2).2) then (if inB (s.1 + 5) ((rK σ15 2).2) then (oB (f_X11_rules σ15 (rI σ15 2 (s.1 + 1 : Int32).toNatClampNeg) (rI σ15 2 (s.1 + 2 : Int32).toNatClampNeg) (rI σ15 2 (s.1 + 3 : Int32).toNatClampNeg) (rI σ15 2 (s.1 + 4 : Int32).toNatClampNeg) (rI σ15 2 (s.1 + 5 : Int32).toNatClampNeg)) fun v21 σ22 => if (v_X11_thrown σ22) = v14 then (if (if v14 = 0 then (if (lg_cmp (rL σ22 114 (0 : Int32).toNatClampNeg) (((v21 : Int32)).toInt64)) = 0 then true else false) else true) = true then (some (.inr ((s.1 + 6, σ22)))) else (some (.inl ((0, σ22))))) else (some (.inl ((0, σ22))))) else none) else none) else none) else none) else none) else none) else none) else none) else none) else none) else (if x7 = 1 then (if inB (s.1 + 1) ((rK s.2 2).2) then (if inB (s.1 + 2) ((rK s.2 2).2) then (oB (f_L_player s.2 (rI s.2 2 (s.1 + 1 : Int32).toNatClampNeg) (rI s.2 2 (s.1 + 2 : Int32).toNatClampNeg)) fun v26 σ27 => if inB (s.1 + 1) ((rK σ27 2).2) then (if inB (s.1 + 2) ((rK σ27 2).2) then (oB (f_X11_player σ27 (rI σ27 2 (s.1 + 1 : Int32).toNatClampNeg) (rI σ27 2 (s.1 + 2 : Int32).toNatClampNeg)) fun v30 σ31 => if (v_X11_thrown σ31) = v26 then (if (if v26 = 0 then (if (lg_cmp (rL σ31 114 (0 : Int32).toNatClampNeg) (((v30 : Int32)).toInt64)) = 0 then true else false) else true) = true then (some (.inr ((s.1 + 6, σ31)))) else (some (.inl ((0, σ31))))) else (some (.inl ((0, σ31))))) else none) else none) else none) else none) else (if x7 = 2 then (if inB (s.1 + 1) ((rK s.2 2).2) then (if inB (s.1 + 2) ((rK s.2 2).2) then (if inB (s.1 + 3) ((rK s.2 2).2) then (oB (f_L_deal s.2 (rI s.2 2 (s.1 + 1 : Int32).toNatClampNeg) (rI s.2 2 (s.1 + 2 : Int32).toNatClampNeg) (rI s.2 2 (s.1 + 3 : Int32).toNatClampNeg)) fun v36 σ37 => if inB (s.1 + 1) ((rK σ37 2).2) then (if inB (s.1 + 2) ((rK σ37 2).2) then (if inB (s.1 + 3) ((rK σ37 2).2) then (oB (f_X11_deal σ37 (rI σ37 2 (s.1 + 1 : Int32).toNatClampNeg) (rI σ37 2 (s.1 + 2 : Int32).toNatClampNeg) (rI σ37 2 (s.1 + 3 : Int32).toNatClampNeg)) fun v41 σ42 => if (v_X11_thrown σ42) = v36 then (if (if v36 = 0 then (if (lg_cmp (rL σ42 114 (0 : Int32).toNatClampNeg) (((v41 : Int32)).toInt64)) = 0 then true else false) else true) = true then (some (.inr ((s.1 + 6, σ42)))) else (some (.inl ((0, σ42))))) else (some (.inl ((0, σ42))))) else none) else none) else none) else none) else none) else none) else (if x7 = 3 then (if inB (s.1 + 1) ((rK s.2 2).2) then (oB (f_L_lay s.2 (rI s.2 2 (s.1 + 1 : Int32).toNatClampNeg)) fun v45 σ46 => if inB (s.1 + 1) ((rK σ46 2).2) then (oB (f_X11_lay σ46 (rI σ46 2 (s.1 + 1 : Int32).toNatClampNeg)) fun v48 σ49 => if (v_X11_thrown σ49) = v45 then (if (if v45 = 0 then (if (lg_cmp (rL σ49 114 (0 : Int32).toNatClampNeg) (((v48 : Int32)).toInt64)) = 0 then true else false) else true) = true then (some (.inr ((s.1 + 6, σ49)))) else (some (.inl ((0, σ49))))) else (some (.inl ((0, σ49))))) else none) else none) else (if x7 = 4 then (if inB (s.1 + 1) ((rK s.2 2).2) then (oB (f_L_joker s.2 (rI s.2 2 (s.1 + 1 : Int32).toNatClampNeg)) fun v52 σ53 => if inB (s.1 + 1) ((rK σ53 2).2) then (oB (f_X11_joker σ53 (rI σ53 2 (s.1 + 1 : Int32).toNatClampNeg)) fun v55 σ56 => if (v_X11_thrown σ56) = v52 then (if (if v52 = 0 then (if (lg_cmp (rL σ56 114 (0 : Int32).toNatClampNeg) (((v55 : Int32)).toInt64)) = 0 then true else false) else true) = true then (some (.inr ((s.1 + 6, σ56)))) else (some (.inl ((0, σ56))))) else (some (.inl ((0, σ56))))) else none) else none) else (if x7 = 5 then (if inB (s.1 + 1) ((rK s.2 2).2) then (oB (f_L_swap s.2 (rI s.2 2 (s.1 + 1 : Int32).toNatClampNeg)) fun v59 σ60 => if inB (s.1 + 1) ((rK σ60 2).2) then (oB (f_X11_swap σ60 (rI σ60 2 (s.1 + 1 : Int32).toNatClampNeg)) fun v62 σ63 => if (v_X11_thrown σ63) = v59 then (if (if v59 = 0 then (if (lg_cmp (rL σ63 114 (0 : Int32).toNatClampNeg) (((v62 : Int32)).toInt64)) = 0 then true else false) else true) = true then (some (.inr ((s.1 + 6, σ63)))) else (some (.inl ((0, σ63))))) else (some (.inl ((0, σ63))))) else none) else none) else (if x7 = 6 then (oB (f_L_back s.2) fun v65 σ66 => oB (f_X11_back σ66) fun v67 σ68 => if (v_X11_thrown σ68) = v65 then (if (if v65 = 0 then (if (lg_cmp (rL σ68 114 (0 : Int32).toNatClampNeg) (((v67 : Int32)).toInt64)) = 0 then true else false) else true) = true then (some (.inr ((s.1 + 6, σ68)))) else (some (.inl ((0, σ68))))) else (some (.inl ((0, σ68))))) else (if x7 = 7 then (oB (f_L_end s.2) fun v70 σ71 => oB (f_X11_end σ71) fun v72 σ73 => if (v_X11_thrown σ73) = v70 then (if (if v70 = 0 then (if (lg_cmp (rL σ73 114 (0 : Int32).toNatClampNeg) (((v72 : Int32)).toInt64)) = 0 then true else false) else true) = true then (some (.inr ((s.1 + 6, σ73)))) else (some (.inl ((0, σ73))))) else (some (.inl ((0, σ73))))) else (if x7 = 8 then (oB (f_L_draw s.2) fun v75 σ76 => oB (f_X11_draw σ76) fun v77 σ78 => if (v_X11_thrown σ78) = v75 then (if (if v75 = 0 then (if (lg_cmp (rL σ78 114 (0 : Int32).toNatClampNeg) (((v77 : Int32)).toInt64)) = 0 then true else false) else true) = true then (some (.inr ((s.1 + 6, σ78)))) else (some (.inl ((0, σ78))))) else (some (.inl ((0, σ78))))) else (if x7 = 9 then (if inB (s.1 + 1) ((rK s.2 2).2) then (oB (f_L_tick s.2 (rI s.2 2 (s.1 + 1 : Int32).toNatClampNeg)) fun v81 σ82 => if inB (s.1 + 1) ((rK σ82 2).2) then (oB (f_X11_tick σ82 (rI σ82 2 (s.1 + 1 : Int32).toNatClampNeg)) fun v84 σ85 => if (v_X11_thrown σ85) = v81 then (if (if v81 = 0 then (if (lg_cmp (rL σ85 114 (0 : Int32).toNatClampNeg) (((v84 : Int32)).toInt64)) = 0 then true else false) else true) = true then (some (.inr ((s.1 + 6, σ85)))) else (some (.inl ((0, σ85))))) else (some (.inl ((0, σ85))))) else none) else none) else (if x7 = 10 then (oB (f_L_auto s.2) fun v87 σ88 => oB (f_X11_auto σ88) fun v89 σ90 => if (v_X11_thrown σ90) = v87 then (if (if v87 = 0 then (if (lg_cmp (rL σ90 114 (0 : Int32).toNatClampNeg) (((v89 : Int32)).toInt64)) = 0 then true else false) else true) = true then (some (.inr ((s.1 + 6, σ90)))) else (some (.inl ((0, σ90))))) else (some (.inl ((0, σ90))))) else (if x7 = 11 then (if inB (s.1 + 1) ((rK s.2 2).2) then (oB (f_L_type s.2 (((rI s.2 2 (s.1 + 1 : Int32).toNatClampNeg).toUInt32 % 65536).toInt32)) fun v93 σ94 => if inB (s.1 + 1) ((rK σ94 2).2) then (oB (f_X11_type σ94 (((rI σ94 2 (s.1 + 1 : Int32).toNatClampNeg).toUInt32 % 65536).toInt32)) fun v96 σ97 => if (v_X11_thrown σ97) = v93 then (if (if v93 = 0 then (if (lg_cmp (rL σ97 114 (0 : Int32).toNatClampNeg) (((v96 : Int32)).toInt64)) = 0 then true else false) else true) = true then (some (.inr ((s.1 + 6, σ97)))) else (some (.inl ((0, σ97))))) else (some (.inl ((0, σ97))))) else none) else none) else (if x7 = 12 then (oB (f_X10_wipe s.2) fun v99 σ100 => oB (f_X11_wipe σ100) fun v101 σ102 => if v99 = v101 then (some (.inr ((s.1 + 6, σ102)))) else (some (.inl ((0, σ102))))) else (if x7 = 13 then (oB (f_L_play s.2) fun v104 σ105 => oB (f_X11_play σ105) fun v106 σ107 => if (v_X11_thrown σ107) = v104 then (if (if v104 = 0 then (if (lg_cmp (rL σ107 114 (0 : Int32).toNatClampNeg) (((v106 : Int32)).toInt64)) = 0 then true else false) else true) = true then (some (.inr ((s.1 + 6, σ107)))) else (some (.inl ((0, σ107))))) else (some (.inl ((0, σ107))))) else (if x7 = 14 then (oB (f_X10_isWhole s.2) fun v109 σ110 => oB (f_X11_isWhole σ110) fun v111 σ112 => if v109 = v111 then (some (.inr ((s.1 + 6, σ112)))) else (some (.inl ((0, σ112))))) else (if x7 = 15 then (if inB (s.1 + 1) ((rK s.2 2).2) then (oB (f_L_cuts s.2 (rI s.2 2 (s.1 + 1 : Int32).toNatClampNeg)) fun v115 σ116 => if inB (s.1 + 1) ((rK σ116 2).2) then (oB (f_X11_cuts σ116 (rI σ116 2 (s.1 + 1 : Int32).toNatClampNeg)) fun v118 σ119 => if (v_X11_thrown σ119) = v115 then (if (if v115 = 0 then (if (lg_cmp (rL σ119 114 (0 : Int32).toNatClampNeg) (((v118 : Int32)).toInt64)) = 0 then true else false) else true) = true then (some (.inr ((s.1 + 6, σ119)))) else (some (.inl ((0, σ119))))) else (some (.inl ((0, σ119))))) else none) else none) else (if x7 = 16 then (oB (f_L_cutsAnew s.2) fun v121 σ122 => oB (f_X11_cutsAnew σ122) fun v123 σ124 => if (v_X11_thrown σ124) = v121 then (if (if v121 = 0 then (if (lg_cmp (rL σ124 114 (0 : Int32).toNatClampNeg) (((v123 : Int32)).toInt64)) = 0 then true else false) else true) = true then (some (.inr ((s.1 + 6, σ124)))) else (some (.inl ((0, σ124))))) else (some (.inl ((0, σ124))))) else (if x7 = 17 then (if inB (s.1 + 1) ((rK s.2 2).2) then (oB (f_L_states s.2 (rI s.2 2 (s.1 + 1 : Int32).toNatClampNeg)) fun v127 σ128 => if inB (s.1 + 1) ((rK σ128 2).2) then (oB (f_X11_states σ128 (rI σ128 2 (s.1 + 1 : Int32).toNatClampNeg)) fun v130 σ131 => if (v_X11_thrown σ131) = v127 then (if (if v127 = 0 then (if (lg_cmp (rL σ131 114 (0 : Int32).toNatClampNeg) (((v130 : Int32)).toInt64)) = 0 then true else false) else true) = true then (some (.inr ((s.1 + 6, σ131)))) else (some (.inl ((0, σ131))))) else (some (.inl ((0, σ131))))) else none) else none) else (if x7 = 18 then (if inB (s.1 + 1) ((rK s.2 2).2) then (if inB (s.1 + 2) ((rK s.2 2).2) then (oB (f_L_best s.2 (rI s.2 2 (s.1 + 1 : Int32).toNatClampNeg) (rI s.2 2 (s.1 + 2 : Int32).toNatClampNeg)) fun v135 σ136 => if inB (s.1 + 1) ((rK σ136 2).2) then (if inB (s.1 + 2) ((rK σ136 2).2) then (oB (f_X11_best σ136 (rI σ136 2 (s.1 + 1 : Int32).toNatClampNeg) (rI σ136 2 (s.1 + 2 : Int32).toNatClampNeg)) fun v139 σ140 => if (v_X11_thrown σ140) = v135 then (if (if v135 = 0 then (if (lg_cmp (rL σ140 114 (0 : Int32).toNatClampNeg) (((v139 : Int32)).toInt64)) = 0 then true else false) else true) = true then (some (.inr ((s.1 + 6, σ140)))) else (some (.inl ((0, σ140))))) else (some (.inl ((0, σ140))))) else none) else none) else none) else none) else (if x7 = 19 then (if inB (s.1 + 1) ((rK s.2 2).2) then (if inB (s.1 + 2) ((rK s.2 2).2) then (oB (f_L_plan s.2 (rI s.2 2 (s.1 + 1 : Int32).toNatClampNeg) (rI s.2 2 (s.1 + 2 : Int32).toNatClampNeg)) fun v144 σ145 => if inB (s.1 + 1) ((rK σ145 2).2) then (if inB (s.1 + 2) ((rK σ145 2).2) then (oB (f_X11_plan σ145 (rI σ145 2 (s.1 + 1 : Int32).toNatClampNeg) (rI σ145 2 (s.1 + 2 : Int32).toNatClampNeg)) fun v148 σ149 => if (v_X11_thrown σ149) = v144 then (if (if v144 = 0 then (if (lg_cmp (rL σ149 114 (0 : Int32).toNatClampNeg) (((v148 : Int32)).toInt64)) = 0 then true else false) else true) = true then (some (.inr ((s.1 + 6, σ149)))) else (some (.inl ((0, σ149))))) else (some (.inl ((0, σ149))))) else none) else none) else none) else none) else (if x7 = 20 then (if inB (s.1 + 1) ((rK s.2 2).2) then (oB (f_L_alone s.2 (rI s.2 2 (s.1 + 1 : Int32).toNatClampNeg)) fun v152 σ153 => if inB (s.1 + 1) ((rK σ153 2).2) then (oB (f_X11_alone σ153 (rI σ153 2 (s.1 + 1 : Int32).toNatClampNeg)) fun v155 σ156 => if (v_X11_thrown σ156) = v152 then (if v152 = 0 then (if (lg_cmp (rL σ156 114 (0 : Int32).toNatClampNeg) ((if v155 = 0 then (0 : Int64) else (1 : Int64) : Int64))) = 0 then (some (.inr ((s.1 + 6, σ156)))) else (some (.inl ((0, σ156))))) else (some (.inr ((s.1 + 6, σ156))))) else (some (.inl ((0, σ156))))) else none) else none) else (if x7 = 21 then (if inB (s.1 + 1) ((rK s.2 2).2) then (if inB (s.1 + 2) ((rK s.2 2).2) then (if inB (s.1 + 3) ((rK s.2 2).2) then (oB (f_L_chance s.2 (rI s.2 2 (s.1 + 1 : Int32).toNatClampNeg) (rI s.2 2 (s.1 + 2 : Int32).toNatClampNeg) (rI s.2 2 (s.1 + 3 : Int32).toNatClampNeg)) fun v161 σ162 => if inB (s.1 + 1) ((rK σ162 2).2) then (if inB (s.1 + 2) ((rK σ162 2).2) then (if inB (s.1 + 3) ((rK σ162 2).2) then (oB (f_X11_chance σ162 (rI σ162 2 (s.1 + 1 : Int32).toNatClampNeg) (rI σ162 2 (s.1 + 2 : Int32).toNatClampNeg) (rI σ162 2 (s.1 + 3 : Int32).toNatClampNeg)) fun v166 σ167 => if (v_X11_thrown σ167) = v161 then (if (if v161 = 0 then (if (lg_cmp (rL σ167 114 (0 : Int32).toNatClampNeg) (((v166 : Int32)).toInt64)) = 0 then true else false) else true) = true then (some (.inr ((s.1 + 6, σ167)))) else (some (.inl ((0, σ167))))) else (some (.inl ((0, σ167))))) else none) else none) else none) else none) else none) else none) else (if x7 = 22 then (if inB (s.1 + 1) ((rK s.2 2).2) then (if inB (s.1 + 2) ((rK s.2 2).2) then (oB (f_L_passed s.2 (rI s.2 2 (s.1 + 1 : Int32).toNatClampNeg) (rI s.2 2 (s.1 + 2 : Int32).toNatClampNeg)) fun v171 σ172 => if inB (s.1 + 1) ((rK σ172 2).2) then (if inB (s.1 + 2) ((rK σ172 2).2) then (oB (f_X11_passed σ172 (rI σ172 2 (s.1 + 1 : Int32).toNatClampNeg) (rI σ172 2 (s.1 + 2 : Int32).toNatClampNeg)) fun v175 σ176 => if (v_X11_thrown σ176) = v171 then (if v171 = 0 then (if (lg_cmp (rL σ176 114 (0 : Int32).toNatClampNeg) ((if v175 = 0 then (0 : Int64) else (1 : Int64) : Int64))) = 0 then (some (.inr ((s.1 + 6, σ176)))) else (some (.inl ((0, σ176))))) else (some (.inr ((s.1 + 6, σ176))))) else (some (.inl ((0, σ176))))) else none) else none) else none) else none) else (if x7 = 23 then (if inB (s.1 + 1) ((rK s.2 2).2) then (if inB (s.1 + 2) ((rK s.2 2).2) then (if inB (s.1 + 3) ((rK s.2 2).2) then (oB (f_L_claim s.2 (rI s.2 2 (s.1 + 1 : Int32).toNatClampNeg) (rI s.2 2 (s.1 + 2 : Int32).toNatClampNeg) (rI s.2 2 (s.1 + 3 : Int32).toNatClampNeg)) fun v181 σ182 => if inB (s.1 + 1) ((rK σ182 2).2) then (if inB (s.1 + 2) ((rK σ182 2).2) then (if inB (s.1 + 3) ((rK σ182 2).2) then (oB (f_X11_claim σ182 (rI σ182 2 (s.1 + 1 : Int32).toNatClampNeg) (rI σ182 2 (s.1 + 2 : Int32).toNatClampNeg) (rI σ182 2 (s.1 + 3 : Int32).toNatClampNeg)) fun v186 σ187 => if (v_X11_thrown σ187) = v181 then (if (if v181 = 0 then (if (lg_cmp (rL σ187 114 (0 : Int32).toNatClampNeg) (((v186 : Int32)).toInt64)) = 0 then true else false) else true) = true then (some (.inr ((s.1 + 6, σ187)))) else (some (.inl ((0, σ187))))) else (some (.inl ((0, σ187))))) else none) else none) else none) else none) else none) else none) else (if x7 = 24 then ((f_X10_copies s.2).bind fun v189 => oB (f_X11_copies s.2) fun v190 σ191 => if (lg_cmp v189 v190) = 0 then (some (.inr ((s.1 + 6, σ191)))) else (some (.inl ((0, σ191))))) else (if x7 = 25 then (if inB (s.1 + 1) ((rK s.2 2).2) then (if inB (s.1 + 2) ((rK s.2 2).2) then (oB (f_L_rackIs s.2 (rI s.2 2 (s.1 + 1 : Int32).toNatClampNeg) (rI s.2 2 (s.1 + 2 : Int32).toNatClampNeg)) fun v195 σ196 => if inB (s.1 + 1) ((rK σ196 2).2) then (if inB (s.1 + 2) ((rK σ196 2).2) then (oB (f_X11_rackIs σ196 (rI σ196 2 (s.1 + 1 : Int32).toNatClampNeg) (rI σ196 2 (s.1 + 2 : Int32).toNatClampNeg)) fun v199 σ200 => if (v_X11_thrown σ200) = v195 then (if (if v195 = 0 then (if (lg_cmp (rL σ200 114 (0 : Int32).toNatClampNeg) (((v199 : Int32)).toInt64)) = 0 then true else false) else true) = true then (some (.inr ((s.1 + 6, σ200)))) else (some (.inl ((0, σ200))))) else (some (.inl ((0, σ200))))) else none) else none) else none) else none) else (if x7 = 26 then (if inB (s.1 + 1) ((rK s.2 2).2) then (if inB (s.1 + 2) ((rK s.2 2).2) then (oB (f_L_tableIs s.2 (rI s.2 2 (s.1 + 1 : Int32).toNatClampNeg) ((if (rI s.2 2 (s.1 + 2 : Int32).toNatClampNeg) = 0 then 0 else 1 : Int32))) fun v204 σ205 => if inB (s.1 + 1) ((rK σ205 2).2) then (if inB (s.1 + 2) ((rK σ205 2).2) then (oB (f_X11_tableIs σ205 (rI σ205 2 (s.1 + 1 : Int32).toNatClampNeg) ((if (rI σ205 2 (s.1 + 2 : Int32).toNatClampNeg) = 0 then 0 else 1 : Int32))) fun v208 σ209 => if (v_X11_thrown σ209) = v204 then (if (if v204 = 0 then (if (lg_cmp (rL σ209 114 (0 : Int32).toNatClampNeg) (((v208 : Int32)).toInt64)) = 0 then true else false) else true) = true then (some (.inr ((s.1 + 6, σ209)))) else (some (.inl ((0, σ209))))) else (some (.inl ((0, σ209))))) else none) else none) else none) else none) else (if x7 = 27 then (if inB (s.1 + 1) ((rK s.2 2).2) then (oB (f_L_poolIs s.2 (rI s.2 2 (s.1 + 1 : Int32).toNatClampNeg)) fun v212 σ213 => if inB (s.1 + 1) ((rK σ213 2).2) then (oB (f_X11_poolIs σ213 (rI σ213 2 (s.1 + 1 : Int32).toNatClampNeg)) fun v215 σ216 => if (v_X11_thrown σ216) = v212 then (if (if v212 = 0 then (if (lg_cmp (rL σ216 114 (0 : Int32).toNatClampNeg) (((v215 : Int32)).toInt64)) = 0 then true else false) else true) = true then (some (.inr ((s.1 + 6, σ216)))) else (some (.inl ((0, σ216))))) else (some (.inl ((0, σ216))))) else none) else none) else (if x7 = 28 then (if inB (s.1 + 1) ((rK s.2 2).2) then (if inB (s.1 + 2) ((rK s.2 2).2) then (oB (f_L_playerIs s.2 (rI s.2 2 (s.1 + 1 : Int32).toNatClampNeg) (rI s.2 2 (s.1 + 2 : Int32).toNatClampNeg)) fun v220 σ221 => if inB (s.1 + 1) ((rK σ221 2).2) then (if inB (s.1 + 2) ((rK σ221 2).2) then (oB (f_X11_playerIs σ221 (rI σ221 2 (s.1 + 1 : Int32).toNatClampNeg) (rI σ221 2 (s.1 + 2 : Int32).toNatClampNeg)) fun v224 σ225 => if (v_X11_thrown σ225) = v220 then (if (if v220 = 0 then (if (lg_cmp (rL σ225 114 (0 : Int32).toNatClampNeg) (((v224 : Int32)).toInt64)) = 0 then true else false) else true) = true then (some (.inr ((s.1 + 6, σ225)))) else (some (.inl ((0, σ225))))) else (some (.inl ((0, σ225))))) else none) else none) else none) else none) else (if x7 = 29 then (if inB (s.1 + 1) ((rK s.2 2).2) then (oB (f_L_team s.2 (rI s.2 2 (s.1 + 1 : Int32).toNatClampNeg)) fun v228 σ229 => if inB (s.1 + 1) ((rK σ229 2).2) then (oB (f_X11_team σ229 (rI σ229 2 (s.1 + 1 : Int32).toNatClampNeg)) fun v231 σ232 => if (v_X11_thrown σ232) = v228 then (if (if v228 = 0 then (if (lg_cmp (rL σ232 114 (0 : Int32).toNatClampNeg) (((v231 : Int32)).toInt64)) = 0 then true else false) else true) = true then (some (.inr ((s.1 + 6, σ232)))) else (some (.inl ((0, σ232))))) else (some (.inl ((0, σ232))))) else none) else none) else (if x7 = 30 then (if inB (s.1 + 1) ((rK s.2 2).2) then (if inB (s.1 + 2) ((rK s.2 2).2) then (oB (f_L_entry s.2 (rI s.2 2 (s.1 + 1 : Int32).toNatClampNeg) (rI s.2 2 (s.1 + 2 : Int32).toNatClampNeg)) fun v236 σ237 => if inB (s.1 + 1) ((rK σ237 2).2) then (if inB (s.1 + 2) ((rK σ237 2).2) then (oB (f_X11_entry σ237 (rI σ237 2 (s.1 + 1 : Int32).toNatClampNeg) (rI σ237 2 (s.1 + 2 : Int32).toNatClampNeg)) fun v240 σ241 => if (v_X11_thrown σ241) = v236 then (if (if v236 = 0 then (if (lg_cmp (rL σ241 114 (0 : Int32).toNatClampNeg) (((v240 : Int32)).toInt64)) = 0 then true else false) else true) = true then (some (.inr ((s.1 + 6, σ241)))) else (some (.inl ((0, σ241))))) else (some (.inl ((0, σ241))))) else none) else none) else none) else none) else (if x7 = 31 then (oB (f_X10_isReplayed s.2) fun v243 σ244 => oB (f_X11_isReplayed σ244) fun v245 σ246 => if v243 = v245 then (some (.inr ((s.1 + 6, σ246)))) else (some (.inl ((0, σ246))))) else (if x7 = 32 then (if inB (s.1 + 1) ((rK s.2 2).2) then (oB (f_L_sum s.2 (rI s.2 2 (s.1 + 1 : Int32).toNatClampNeg)) fun v249 σ250 => if inB (s.1 + 1) ((rK σ250 2).2) then (oB (f_X11_sum σ250 (rI σ250 2 (s.1 + 1 : Int32).toNatClampNeg)) fun v252 σ253 => if (v_X11_thrown σ253) = v249 then (if (if v249 = 0 then (if (lg_cmp (rL σ253 114 (0 : Int32).toNatClampNeg) (((v252 : Int32)).toInt64)) = 0 then true else false) else true) = true then (some (.inr ((s.1 + 6, σ253)))) else (some (.inl ((0, σ253))))) else (some (.inl ((0, σ253))))) else none) else none) else (some (.inr ((s.1 + 6, s.2))))))))))))))))))))))))))))))))))))) else none)
abbrev lsL (s : Int32 × rS) : List (Option Value) := [some (.ref 2), some (.ref 3), some (.ref 67), some (.ref 114), some (.int s.1), none, none]
set_option maxRecDepth 40000 in
set_option maxHeartbeats 4000000 in
theorem okb_L_law {o : Option Value ⊕ String} {τ : rS} (kN ksN : Nat) (s : Int32 × rS) : rP Sy mL_law 25 (kN + 4) (ksN + 24) o τ (W2 Prod.snd Prod.snd) (K2 (K0 tI o τ) (QL mL_law 25 kN ksN o τ 23 lsL (fun _ => []) Prod.snd)) 23 (lsL s) [] s.2 (b_L_law s) := by
  unfold b_L_law
  refine P_l (fun hJ _ _ q => E_iload dL_law_23 rfl (E_aload_n dL_law_25 rfl (E_alen (v := nI (rK s.2 2).2) dL_law_26 (Sy_two hJ.1) (by decide) rfl (E_bipush (v := 6) dL_law_27 (by decide) (E_isub dL_law_29 q))))) ?_
  refine P_if (fun hJ _ _ h1 h2 => E_icmp_gt 2047 dL_law_30 (by decide) h1 h2) ?_ ?_
  · skip
    refine P_l (fun hJ _ _ q => E_iconst (v := 1) dL_law_2047 (by decide) q) ?_
    exact P_inl (P_ret (fun _ _ => E_zret01 rfl (by decide) dL_law_2048))
  · skip
    refine P_l (fun hJ _ _ q => E_aload_n dL_law_33 rfl (E_iload dL_law_34 rfl q)) ?_
    refine P_g (fun g6 => ?_)
    refine P_l (fun hJ _ _ q => E_iald dL_law_36 (Sy_two hJ.1) (inB_vp g6) (E_bipush (v := 63) dL_law_37 (by decide) (E_iand dL_law_39 q))) ?_
    refine P_vst ((rI s.2 2 (s.1 : Int32).toNatClampNeg) &&& 63) (fun x => .int x :: []) (fun x7 => ?_)
    refine P_case (fun h8 => ?_) (fun h8 => ?_)
    · skip
      refine P_l (fun hJ _ _ q => E_tableIn (off := 148) 188 dL_law_40 (by rw [h8]; decide) (by rw [h8]; decide) (by rw [h8]; rfl) (by decide) q) ?_
      refine P_l (fun hJ _ _ q => E_aload_n dL_law_188 rfl (E_aload_n dL_law_189 rfl (E_iload dL_law_190 rfl (E_iconst (v := 1) dL_law_192 (by decide) (E_iadd dL_law_193 q))))) ?_
      refine P_g (fun g9 => ?_)
      refine P_l (fun hJ _ _ q => E_iald dL_law_194 (Sy_two hJ.1) (inB_vp g9) (E_aload_n dL_law_195 rfl (E_iload dL_law_196 rfl (E_iconst (v := 2) dL_law_198 (by decide) (E_iadd dL_law_199 q))))) ?_
      refine P_g (fun g10 => ?_)
      refine P_l (fun hJ _ _ q => E_iald dL_law_200 (Sy_two hJ.1) (inB_vp g10) (E_aload_n dL_law_201 rfl (E_iload dL_law_202 rfl (E_iconst (v := 3) dL_law_204 (by decide) (E_iadd dL_law_205 q))))) ?_
      refine P_g (fun g11 => ?_)
      refine P_l (fun hJ _ _ q => E_iald dL_law_206 (Sy_two hJ.1) (inB_vp g11) (E_aload_n dL_law_207 rfl (E_iload dL_law_208 rfl (E_iconst (v := 4) dL_law_210 (by decide) (E_iadd dL_law_211 q))))) ?_
      refine P_g (fun g12 => ?_)
      refine P_l (fun hJ _ _ q => E_iald dL_law_212 (Sy_two hJ.1) (inB_vp g12) (E_aload_n dL_law_213 rfl (E_iload dL_law_214 rfl (E_iconst (v := 5) dL_law_216 (by decide) (E_iadd dL_law_217 q))))) ?_
      refine P_g (fun g13 => ?_)
      refine P_l (fun hJ _ _ q => E_iald dL_law_218 (Sy_two hJ.1) (inB_vp g13) (E_aload_n dL_law_219 rfl q)) ?_
      refine P_callH (st2 := fun v => .int v :: []) (kc2 := kN + 3) (ks2 := ksN + 18) (fun hJ => (ok_L_rules (σ := s.2) (p1 := rI s.2 2 (s.1 + 1 : Int32).toNatClampNeg) (p2 := rI s.2 2 (s.1 + 2 : Int32).toNatClampNeg) (p3 := rI s.2 2 (s.1 + 3 : Int32).toNatClampNeg) (p4 := rI s.2 2 (s.1 + 4 : Int32).toNatClampNeg) (p5 := rI s.2 2 (s.1 + 5 : Int32).toNatClampNeg))) (fun hJ _ _ _ _ v τ1 hM q => E_callSH (as := [.ref 3, .int (rI s.2 2 (s.1 + 1 : Int32).toNatClampNeg), .int (rI s.2 2 (s.1 + 2 : Int32).toNatClampNeg), .int (rI s.2 2 (s.1 + 3 : Int32).toNatClampNeg), .int (rI s.2 2 (s.1 + 4 : Int32).toNatClampNeg), .int (rI s.2 2 (s.1 + 5 : Int32).toNatClampNeg), .ref 114]) (st := []) hM (by decide) yfL_rules mlL_115 stL_rules rfl (Nat.le_of_ble_eq_true rfl) rfl dL_law_220 q) (by omega) (by omega) (fun v14 σ15 => ?_)
      refine P_l (fun hJ _ _ q => E_istore (ls2 := [some (.ref 2), some (.ref 3), some (.ref 67), some (.ref 114), some (.int s.1), some (.int v14), none]) dL_law_223 (by decide) rfl (E_aload_n dL_law_225 rfl (E_aload_n dL_law_226 rfl (E_iload dL_law_227 rfl (E_iconst (v := 1) dL_law_229 (by decide) (E_iadd dL_law_230 q)))))) ?_
      refine P_g (fun g16 => ?_)
      refine P_l (fun hJ _ _ q => E_iald dL_law_231 (Sy_two hJ.1) (inB_vp g16) (E_aload_n dL_law_232 rfl (E_iload dL_law_233 rfl (E_iconst (v := 2) dL_law_235 (by decide) (E_iadd dL_law_236 q))))) ?_
      refine P_g (fun g17 => ?_)
      refine P_l (fun hJ _ _ q => E_iald dL_law_237 (Sy_two hJ.1) (inB_vp g17) (E_aload_n dL_law_238 rfl (E_iload dL_law_239 rfl (E_iconst (v := 3) dL_law_241 (by decide) (E_iadd dL_law_242 q))))) ?_
      refine P_g (fun g18 => ?_)
      refine P_l (fun hJ _ _ q => E_iald dL_law_243 (Sy_two hJ.1) (inB_vp g18) (E_aload_n dL_law_244 rfl (E_iload dL_law_245 rfl (E_iconst (v := 4) dL_law_247 (by decide) (E_iadd dL_law_248 q))))) ?_
      refine P_g (fun g19 => ?_)
      refine P_l (fun hJ _ _ q => E_iald dL_law_249 (Sy_two hJ.1) (inB_vp g19) (E_aload_n dL_law_250 rfl (E_iload dL_law_251 rfl (E_iconst (v := 5) dL_law_253 (by decide) (E_iadd dL_law_254 q))))) ?_
      refine P_g (fun g20 => ?_)
      refine P_l (fun hJ _ _ q => E_iald dL_law_255 (Sy_two hJ.1) (inB_vp g20) q) ?_
      refine P_call (t := fun v => some (.int v)) (st2 := fun v => .int v :: []) (kc2 := kN + 3) (ks2 := ksN + 18) (fun hJ => (ok_X11_rules (σ := σ15) (p1 := rI σ15 2 (s.1 + 1 : Int32).toNatClampNeg) (p2 := rI σ15 2 (s.1 + 2 : Int32).toNatClampNeg) (p3 := rI σ15 2 (s.1 + 3 : Int32).toNatClampNeg) (p4 := rI σ15 2 (s.1 + 4 : Int32).toNatClampNeg) (p5 := rI σ15 2 (s.1 + 5 : Int32).toNatClampNeg) )) (fun hJ _ _ _ _ v τ1 hM q => E_callV (as := [.int (rI σ15 2 (s.1 + 1 : Int32).toNatClampNeg), .int (rI σ15 2 (s.1 + 2 : Int32).toNatClampNeg), .int (rI σ15 2 (s.1 + 3 : Int32).toNatClampNeg), .int (rI σ15 2 (s.1 + 4 : Int32).toNatClampNeg), .int (rI σ15 2 (s.1 + 5 : Int32).toNatClampNeg)]) (b := 67) (st := []) hM (by decide) yfX11_rules mlL_120 imX11_rules seX11_rules clX11 (kd67 hJ.1.1) rfl (Nat.le_of_ble_eq_true rfl) rfl dL_law_256 q) (by omega) (by omega) (fun v21 σ22 => ?_)
      refine P_l (fun hJ _ _ q => E_istore (ls2 := [some (.ref 2), some (.ref 3), some (.ref 67), some (.ref 114), some (.int s.1), some (.int v14), some (.int v21)]) dL_law_259 (by decide) rfl (E_aload_n dL_law_261 rfl (E_callV (as := []) (b := 67) (st := []) (ok_X11_thrown (σ := σ22)  hJ ) (by decide) yfX11_thrown mlL_121 imX11_thrown seX11_thrown clX11 (kd67 hJ.1.1) rfl (Nat.le_of_ble_eq_true rfl) rfl dL_law_262 (E_iload dL_law_265 rfl q)))) ?_
      refine P_if (fun hJ _ _ h1 h2 => E_icmp_eq 272 dL_law_267 (by decide) h1 h2) ?_ ?_
      · skip
        refine P_l (fun hJ _ _ q => E_iload dL_law_272 rfl q) ?_
        refine P_if (c := (if v14 = 0 then (if (lg_cmp (rL σ22 114 (0 : Int32).toNatClampNeg) (((v21 : Int32)).toInt64)) = 0 then true else false) else true) = true) (pc1 := 289) (ls1 := [some (.ref 2), some (.ref 3), some (.ref 67), some (.ref 114), some (.int s.1), some (.int v14), some (.int v21)]) (st1 := []) (pc2 := 287) (ls2 := [some (.ref 2), some (.ref 3), some (.ref 67), some (.ref 114), some (.int s.1), some (.int v14), some (.int v21)]) (st2 := []) (fun hJ _ _ hX hY => ?_) ?_ ?_
        · skip
          refine E_if_ne 289 dL_law_274 (by decide) (fun c_274_0 => ?_) (fun c_274_0 => ?_)
          · skip
            exact hX (by simp only [if_neg c_274_0])
          · skip
            refine E_aload_n dL_law_277 rfl ?_
            refine E_iconst (v := 0) dL_law_278 (by decide) ?_
            refine E_lald dL_law_279 (kd114 hJ.1.1) (inB_vp (by decide)) ?_
            refine E_iload dL_law_280 rfl ?_
            refine E_i2l dL_law_282 ?_
            refine E_lcmp dL_law_283 ?_
            refine E_if_eq 289 dL_law_284 (by decide) (fun c_284_1 => ?_) (fun c_284_1 => ?_)
            · skip
              exact hX (by simp only [if_pos c_274_0, if_pos c_284_1])
            · skip
              exact hY (by simp only [if_pos c_274_0, if_neg c_284_1]; exact Bool.false_ne_true)
        · skip
          refine P_l (fun hJ _ _ q => E_goto 2041 dL_law_289 (by decide) (E_iinc (v := 6) (ls2 := [some (.ref 2), some (.ref 3), some (.ref 67), some (.ref 114), some (.int (s.1 + 6)), some (.int v14), some (.int v21)]) dL_law_2041 rfl (by decide) (by decide) rfl (E_goto 23 dL_law_2044 (by decide) q))) ?_
          refine P_less [some (.ref 2), some (.ref 3), some (.ref 67), some (.ref 114), some (.int (s.1 + 6)), none, none] (And.intro rfl (And.intro rfl (And.intro rfl (And.intro rfl (And.intro rfl trivial))))) ?_
          refine P_room (kc2 := kN) (ks2 := ksN) (by omega) (by omega) ?_
          exact P_back ((s.1 + 6, σ22))
        · skip
          refine P_l (fun hJ _ _ q => E_iconst (v := 0) dL_law_287 (by decide) q) ?_
          exact P_inl (P_ret (fun _ _ => E_zret01 rfl (by decide) dL_law_288))
      · skip
        refine P_l (fun hJ _ _ q => E_iconst (v := 0) dL_law_270 (by decide) q) ?_
        exact P_inl (P_ret (fun _ _ => E_zret01 rfl (by decide) dL_law_271))
    · skip
      refine P_case (fun h23 => ?_) (fun h23 => ?_)
      · skip
        refine P_l (fun hJ _ _ q => E_tableIn (off := 252) 292 dL_law_40 (by rw [h23]; decide) (by rw [h23]; decide) (by rw [h23]; rfl) (by decide) q) ?_
        refine P_l (fun hJ _ _ q => E_aload_n dL_law_292 rfl (E_aload_n dL_law_293 rfl (E_iload dL_law_294 rfl (E_iconst (v := 1) dL_law_296 (by decide) (E_iadd dL_law_297 q))))) ?_
        refine P_g (fun g24 => ?_)
        refine P_l (fun hJ _ _ q => E_iald dL_law_298 (Sy_two hJ.1) (inB_vp g24) (E_aload_n dL_law_299 rfl (E_iload dL_law_300 rfl (E_iconst (v := 2) dL_law_302 (by decide) (E_iadd dL_law_303 q))))) ?_
        refine P_g (fun g25 => ?_)
        refine P_l (fun hJ _ _ q => E_iald dL_law_304 (Sy_two hJ.1) (inB_vp g25) (E_aload_n dL_law_305 rfl q)) ?_
        refine P_callH (st2 := fun v => .int v :: []) (kc2 := kN + 3) (ks2 := ksN + 18) (fun hJ => (ok_L_player (σ := s.2) (p1 := rI s.2 2 (s.1 + 1 : Int32).toNatClampNeg) (p2 := rI s.2 2 (s.1 + 2 : Int32).toNatClampNeg))) (fun hJ _ _ _ _ v τ1 hM q => E_callSH (as := [.ref 3, .int (rI s.2 2 (s.1 + 1 : Int32).toNatClampNeg), .int (rI s.2 2 (s.1 + 2 : Int32).toNatClampNeg), .ref 114]) (st := []) hM (by decide) yfL_player mlL_124 stL_player rfl (Nat.le_of_ble_eq_true rfl) rfl dL_law_306 q) (by omega) (by omega) (fun v26 σ27 => ?_)
        refine P_l (fun hJ _ _ q => E_istore (ls2 := [some (.ref 2), some (.ref 3), some (.ref 67), some (.ref 114), some (.int s.1), some (.int v26), none]) dL_law_309 (by decide) rfl (E_aload_n dL_law_311 rfl (E_aload_n dL_law_312 rfl (E_iload dL_law_313 rfl (E_iconst (v := 1) dL_law_315 (by decide) (E_iadd dL_law_316 q)))))) ?_
        refine P_g (fun g28 => ?_)
        refine P_l (fun hJ _ _ q => E_iald dL_law_317 (Sy_two hJ.1) (inB_vp g28) (E_aload_n dL_law_318 rfl (E_iload dL_law_319 rfl (E_iconst (v := 2) dL_law_321 (by decide) (E_iadd dL_law_322 q))))) ?_
        refine P_g (fun g29 => ?_)
        refine P_l (fun hJ _ _ q => E_iald dL_law_323 (Sy_two hJ.1) (inB_vp g29) q) ?_
        refine P_call (t := fun v => some (.int v)) (st2 := fun v => .int v :: []) (kc2 := kN + 3) (ks2 := ksN + 18) (fun hJ => (ok_X11_player (σ := σ27) (p1 := rI σ27 2 (s.1 + 1 : Int32).toNatClampNeg) (p2 := rI σ27 2 (s.1 + 2 : Int32).toNatClampNeg) )) (fun hJ _ _ _ _ v τ1 hM q => E_callV (as := [.int (rI σ27 2 (s.1 + 1 : Int32).toNatClampNeg), .int (rI σ27 2 (s.1 + 2 : Int32).toNatClampNeg)]) (b := 67) (st := []) hM (by decide) yfX11_player mlL_127 imX11_player seX11_player clX11 (kd67 hJ.1.1) rfl (Nat.le_of_ble_eq_true rfl) rfl dL_law_324 q) (by omega) (by omega) (fun v30 σ31 => ?_)
        refine P_l (fun hJ _ _ q => E_istore (ls2 := [some (.ref 2), some (.ref 3), some (.ref 67), some (.ref 114), some (.int s.1), some (.int v26), some (.int v30)]) dL_law_327 (by decide) rfl (E_aload_n dL_law_329 rfl (E_callV (as := []) (b := 67) (st := []) (ok_X11_thrown (σ := σ31)  hJ ) (by decide) yfX11_thrown mlL_121 imX11_thrown seX11_thrown clX11 (kd67 hJ.1.1) rfl (Nat.le_of_ble_eq_true rfl) rfl dL_law_330 (E_iload dL_law_333 rfl q)))) ?_
        refine P_if (fun hJ _ _ h1 h2 => E_icmp_eq 340 dL_law_335 (by decide) h1 h2) ?_ ?_
        · skip
          refine P_l (fun hJ _ _ q => E_iload dL_law_340 rfl q) ?_
          refine P_if (c := (if v26 = 0 then (if (lg_cmp (rL σ31 114 (0 : Int32).toNatClampNeg) (((v30 : Int32)).toInt64)) = 0 then true else false) else true) = true) (pc1 := 357) (ls1 := [some (.ref 2), some (.ref 3), some (.ref 67), some (.ref 114), some (.int s.1), some (.int v26), some (.int v30)]) (st1 := []) (pc2 := 355) (ls2 := [some (.ref 2), some (.ref 3), some (.ref 67), some (.ref 114), some (.int s.1), some (.int v26), some (.int v30)]) (st2 := []) (fun hJ _ _ hX hY => ?_) ?_ ?_
          · skip
            refine E_if_ne 357 dL_law_342 (by decide) (fun c_342_0 => ?_) (fun c_342_0 => ?_)
            · skip
              exact hX (by simp only [if_neg c_342_0])
            · skip
              refine E_aload_n dL_law_345 rfl ?_
              refine E_iconst (v := 0) dL_law_346 (by decide) ?_
              refine E_lald dL_law_347 (kd114 hJ.1.1) (inB_vp (by decide)) ?_
              refine E_iload dL_law_348 rfl ?_
              refine E_i2l dL_law_350 ?_
              refine E_lcmp dL_law_351 ?_
              refine E_if_eq 357 dL_law_352 (by decide) (fun c_352_1 => ?_) (fun c_352_1 => ?_)
              · skip
                exact hX (by simp only [if_pos c_342_0, if_pos c_352_1])
              · skip
                exact hY (by simp only [if_pos c_342_0, if_neg c_352_1]; exact Bool.false_ne_true)
          · skip
            refine P_l (fun hJ _ _ q => E_goto 2041 dL_law_357 (by decide) (E_iinc (v := 6) (ls2 := [some (.ref 2), some (.ref 3), some (.ref 67), some (.ref 114), some (.int (s.1 + 6)), some (.int v26), some (.int v30)]) dL_law_2041 rfl (by decide) (by decide) rfl (E_goto 23 dL_law_2044 (by decide) q))) ?_
            refine P_less [some (.ref 2), some (.ref 3), some (.ref 67), some (.ref 114), some (.int (s.1 + 6)), none, none] (And.intro rfl (And.intro rfl (And.intro rfl (And.intro rfl (And.intro rfl trivial))))) ?_
            refine P_room (kc2 := kN) (ks2 := ksN) (by omega) (by omega) ?_
            exact P_back ((s.1 + 6, σ31))
          · skip
            refine P_l (fun hJ _ _ q => E_iconst (v := 0) dL_law_355 (by decide) q) ?_
            exact P_inl (P_ret (fun _ _ => E_zret01 rfl (by decide) dL_law_356))
        · skip
          refine P_l (fun hJ _ _ q => E_iconst (v := 0) dL_law_338 (by decide) q) ?_
          exact P_inl (P_ret (fun _ _ => E_zret01 rfl (by decide) dL_law_339))
      · skip
        refine P_case (fun h32 => ?_) (fun h32 => ?_)
        · skip
          refine P_l (fun hJ _ _ q => E_tableIn (off := 320) 360 dL_law_40 (by rw [h32]; decide) (by rw [h32]; decide) (by rw [h32]; rfl) (by decide) q) ?_
          refine P_l (fun hJ _ _ q => E_aload_n dL_law_360 rfl (E_aload_n dL_law_361 rfl (E_iload dL_law_362 rfl (E_iconst (v := 1) dL_law_364 (by decide) (E_iadd dL_law_365 q))))) ?_
          refine P_g (fun g33 => ?_)
          refine P_l (fun hJ _ _ q => E_iald dL_law_366 (Sy_two hJ.1) (inB_vp g33) (E_aload_n dL_law_367 rfl (E_iload dL_law_368 rfl (E_iconst (v := 2) dL_law_370 (by decide) (E_iadd dL_law_371 q))))) ?_
          refine P_g (fun g34 => ?_)
          refine P_l (fun hJ _ _ q => E_iald dL_law_372 (Sy_two hJ.1) (inB_vp g34) (E_aload_n dL_law_373 rfl (E_iload dL_law_374 rfl (E_iconst (v := 3) dL_law_376 (by decide) (E_iadd dL_law_377 q))))) ?_
          refine P_g (fun g35 => ?_)
          refine P_l (fun hJ _ _ q => E_iald dL_law_378 (Sy_two hJ.1) (inB_vp g35) (E_aload_n dL_law_379 rfl q)) ?_
          refine P_callH (st2 := fun v => .int v :: []) (kc2 := kN + 3) (ks2 := ksN + 18) (fun hJ => (ok_L_deal (σ := s.2) (p1 := rI s.2 2 (s.1 + 1 : Int32).toNatClampNeg) (p2 := rI s.2 2 (s.1 + 2 : Int32).toNatClampNeg) (p3 := rI s.2 2 (s.1 + 3 : Int32).toNatClampNeg))) (fun hJ _ _ _ _ v τ1 hM q => E_callSH (as := [.ref 3, .int (rI s.2 2 (s.1 + 1 : Int32).toNatClampNeg), .int (rI s.2 2 (s.1 + 2 : Int32).toNatClampNeg), .int (rI s.2 2 (s.1 + 3 : Int32).toNatClampNeg), .ref 114]) (st := []) hM (by decide) yfL_deal mlL_128 stL_deal rfl (Nat.le_of_ble_eq_true rfl) rfl dL_law_380 q) (by omega) (by omega) (fun v36 σ37 => ?_)
          refine P_l (fun hJ _ _ q => E_istore (ls2 := [some (.ref 2), some (.ref 3), some (.ref 67), some (.ref 114), some (.int s.1), some (.int v36), none]) dL_law_383 (by decide) rfl (E_aload_n dL_law_385 rfl (E_aload_n dL_law_386 rfl (E_iload dL_law_387 rfl (E_iconst (v := 1) dL_law_389 (by decide) (E_iadd dL_law_390 q)))))) ?_
          refine P_g (fun g38 => ?_)
          refine P_l (fun hJ _ _ q => E_iald dL_law_391 (Sy_two hJ.1) (inB_vp g38) (E_aload_n dL_law_392 rfl (E_iload dL_law_393 rfl (E_iconst (v := 2) dL_law_395 (by decide) (E_iadd dL_law_396 q))))) ?_
          refine P_g (fun g39 => ?_)
          refine P_l (fun hJ _ _ q => E_iald dL_law_397 (Sy_two hJ.1) (inB_vp g39) (E_aload_n dL_law_398 rfl (E_iload dL_law_399 rfl (E_iconst (v := 3) dL_law_401 (by decide) (E_iadd dL_law_402 q))))) ?_
          refine P_g (fun g40 => ?_)
          refine P_l (fun hJ _ _ q => E_iald dL_law_403 (Sy_two hJ.1) (inB_vp g40) q) ?_
          refine P_call (t := fun v => some (.int v)) (st2 := fun v => .int v :: []) (kc2 := kN + 3) (ks2 := ksN + 18) (fun hJ => (ok_X11_deal (σ := σ37) (p1 := rI σ37 2 (s.1 + 1 : Int32).toNatClampNeg) (p2 := rI σ37 2 (s.1 + 2 : Int32).toNatClampNeg) (p3 := rI σ37 2 (s.1 + 3 : Int32).toNatClampNeg) )) (fun hJ _ _ _ _ v τ1 hM q => E_callV (as := [.int (rI σ37 2 (s.1 + 1 : Int32).toNatClampNeg), .int (rI σ37 2 (s.1 + 2 : Int32).toNatClampNeg), .int (rI σ37 2 (s.1 + 3 : Int32).toNatClampNeg)]) (b := 67) (st := []) hM (by decide) yfX11_deal mlL_131 imX11_deal seX11_deal clX11 (kd67 hJ.1.1) rfl (Nat.le_of_ble_eq_true rfl) rfl dL_law_404 q) (by omega) (by omega) (fun v41 σ42 => ?_)
          refine P_l (fun hJ _ _ q => E_istore (ls2 := [some (.ref 2), some (.ref 3), some (.ref 67), some (.ref 114), some (.int s.1), some (.int v36), some (.int v41)]) dL_law_407 (by decide) rfl (E_aload_n dL_law_409 rfl (E_callV (as := []) (b := 67) (st := []) (ok_X11_thrown (σ := σ42)  hJ ) (by decide) yfX11_thrown mlL_121 imX11_thrown seX11_thrown clX11 (kd67 hJ.1.1) rfl (Nat.le_of_ble_eq_true rfl) rfl dL_law_410 (E_iload dL_law_413 rfl q)))) ?_
          refine P_if (fun hJ _ _ h1 h2 => E_icmp_eq 420 dL_law_415 (by decide) h1 h2) ?_ ?_
          · skip
            refine P_l (fun hJ _ _ q => E_iload dL_law_420 rfl q) ?_
            refine P_if (c := (if v36 = 0 then (if (lg_cmp (rL σ42 114 (0 : Int32).toNatClampNeg) (((v41 : Int32)).toInt64)) = 0 then true else false) else true) = true) (pc1 := 437) (ls1 := [some (.ref 2), some (.ref 3), some (.ref 67), some (.ref 114), some (.int s.1), some (.int v36), some (.int v41)]) (st1 := []) (pc2 := 435) (ls2 := [some (.ref 2), some (.ref 3), some (.ref 67), some (.ref 114), some (.int s.1), some (.int v36), some (.int v41)]) (st2 := []) (fun hJ _ _ hX hY => ?_) ?_ ?_
            · skip
              refine E_if_ne 437 dL_law_422 (by decide) (fun c_422_0 => ?_) (fun c_422_0 => ?_)
              · skip
                exact hX (by simp only [if_neg c_422_0])
              · skip
                refine E_aload_n dL_law_425 rfl ?_
                refine E_iconst (v := 0) dL_law_426 (by decide) ?_
                refine E_lald dL_law_427 (kd114 hJ.1.1) (inB_vp (by decide)) ?_
                refine E_iload dL_law_428 rfl ?_
                refine E_i2l dL_law_430 ?_
                refine E_lcmp dL_law_431 ?_
                refine E_if_eq 437 dL_law_432 (by decide) (fun c_432_1 => ?_) (fun c_432_1 => ?_)
                · skip
                  exact hX (by simp only [if_pos c_422_0, if_pos c_432_1])
                · skip
                  exact hY (by simp only [if_pos c_422_0, if_neg c_432_1]; exact Bool.false_ne_true)
            · skip
              refine P_l (fun hJ _ _ q => E_goto 2041 dL_law_437 (by decide) (E_iinc (v := 6) (ls2 := [some (.ref 2), some (.ref 3), some (.ref 67), some (.ref 114), some (.int (s.1 + 6)), some (.int v36), some (.int v41)]) dL_law_2041 rfl (by decide) (by decide) rfl (E_goto 23 dL_law_2044 (by decide) q))) ?_
              refine P_less [some (.ref 2), some (.ref 3), some (.ref 67), some (.ref 114), some (.int (s.1 + 6)), none, none] (And.intro rfl (And.intro rfl (And.intro rfl (And.intro rfl (And.intro rfl trivial))))) ?_
              refine P_room (kc2 := kN) (ks2 := ksN) (by omega) (by omega) ?_
              exact P_back ((s.1 + 6, σ42))
            · skip
              refine P_l (fun hJ _ _ q => E_iconst (v := 0) dL_law_435 (by decide) q) ?_
              exact P_inl (P_ret (fun _ _ => E_zret01 rfl (by decide) dL_law_436))
          · skip
            refine P_l (fun hJ _ _ q => E_iconst (v := 0) dL_law_418 (by decide) q) ?_
            exact P_inl (P_ret (fun _ _ => E_zret01 rfl (by decide) dL_law_419))
        · skip
          refine P_case (fun h43 => ?_) (fun h43 => ?_)
          · skip
            refine P_l (fun hJ _ _ q => E_tableIn (off := 400) 440 dL_law_40 (by rw [h43]; decide) (by rw [h43]; decide) (by rw [h43]; rfl) (by decide) q) ?_
            refine P_l (fun hJ _ _ q => E_aload_n dL_law_440 rfl (E_aload_n dL_law_441 rfl (E_iload dL_law_442 rfl (E_iconst (v := 1) dL_law_444 (by decide) (E_iadd dL_law_445 q))))) ?_
            refine P_g (fun g44 => ?_)
            refine P_l (fun hJ _ _ q => E_iald dL_law_446 (Sy_two hJ.1) (inB_vp g44) (E_aload_n dL_law_447 rfl q)) ?_
            refine P_callH (st2 := fun v => .int v :: []) (kc2 := kN + 2) (ks2 := ksN + 12) (fun hJ => (ok_L_lay (σ := s.2) (p1 := rI s.2 2 (s.1 + 1 : Int32).toNatClampNeg))) (fun hJ _ _ _ _ v τ1 hM q => E_callSH (as := [.ref 3, .int (rI s.2 2 (s.1 + 1 : Int32).toNatClampNeg), .ref 114]) (st := []) hM (by decide) yfL_lay mlL_132 stL_lay rfl (Nat.le_of_ble_eq_true rfl) rfl dL_law_448 q) (by omega) (by omega) (fun v45 σ46 => ?_)
            refine P_l (fun hJ _ _ q => E_istore (ls2 := [some (.ref 2), some (.ref 3), some (.ref 67), some (.ref 114), some (.int s.1), some (.int v45), none]) dL_law_451 (by decide) rfl (E_aload_n dL_law_453 rfl (E_aload_n dL_law_454 rfl (E_iload dL_law_455 rfl (E_iconst (v := 1) dL_law_457 (by decide) (E_iadd dL_law_458 q)))))) ?_
            refine P_g (fun g47 => ?_)
            refine P_l (fun hJ _ _ q => E_iald dL_law_459 (Sy_two hJ.1) (inB_vp g47) q) ?_
            refine P_call (t := fun v => some (.int v)) (st2 := fun v => .int v :: []) (kc2 := kN + 2) (ks2 := ksN + 12) (fun hJ => (ok_X11_lay (σ := σ46) (p1 := rI σ46 2 (s.1 + 1 : Int32).toNatClampNeg) )) (fun hJ _ _ _ _ v τ1 hM q => E_callV (as := [.int (rI σ46 2 (s.1 + 1 : Int32).toNatClampNeg)]) (b := 67) (st := []) hM (by decide) yfX11_lay mlL_135 imX11_lay seX11_lay clX11 (kd67 hJ.1.1) rfl (Nat.le_of_ble_eq_true rfl) rfl dL_law_460 q) (by omega) (by omega) (fun v48 σ49 => ?_)
            refine P_l (fun hJ _ _ q => E_istore (ls2 := [some (.ref 2), some (.ref 3), some (.ref 67), some (.ref 114), some (.int s.1), some (.int v45), some (.int v48)]) dL_law_463 (by decide) rfl (E_aload_n dL_law_465 rfl (E_callV (as := []) (b := 67) (st := []) (ok_X11_thrown (σ := σ49)  hJ ) (by decide) yfX11_thrown mlL_121 imX11_thrown seX11_thrown clX11 (kd67 hJ.1.1) rfl (Nat.le_of_ble_eq_true rfl) rfl dL_law_466 (E_iload dL_law_469 rfl q)))) ?_
            refine P_if (fun hJ _ _ h1 h2 => E_icmp_eq 476 dL_law_471 (by decide) h1 h2) ?_ ?_
            · skip
              refine P_l (fun hJ _ _ q => E_iload dL_law_476 rfl q) ?_
              refine P_if (c := (if v45 = 0 then (if (lg_cmp (rL σ49 114 (0 : Int32).toNatClampNeg) (((v48 : Int32)).toInt64)) = 0 then true else false) else true) = true) (pc1 := 493) (ls1 := [some (.ref 2), some (.ref 3), some (.ref 67), some (.ref 114), some (.int s.1), some (.int v45), some (.int v48)]) (st1 := []) (pc2 := 491) (ls2 := [some (.ref 2), some (.ref 3), some (.ref 67), some (.ref 114), some (.int s.1), some (.int v45), some (.int v48)]) (st2 := []) (fun hJ _ _ hX hY => ?_) ?_ ?_
              · skip
                refine E_if_ne 493 dL_law_478 (by decide) (fun c_478_0 => ?_) (fun c_478_0 => ?_)
                · skip
                  exact hX (by simp only [if_neg c_478_0])
                · skip
                  refine E_aload_n dL_law_481 rfl ?_
                  refine E_iconst (v := 0) dL_law_482 (by decide) ?_
                  refine E_lald dL_law_483 (kd114 hJ.1.1) (inB_vp (by decide)) ?_
                  refine E_iload dL_law_484 rfl ?_
                  refine E_i2l dL_law_486 ?_
                  refine E_lcmp dL_law_487 ?_
                  refine E_if_eq 493 dL_law_488 (by decide) (fun c_488_1 => ?_) (fun c_488_1 => ?_)
                  · skip
                    exact hX (by simp only [if_pos c_478_0, if_pos c_488_1])
                  · skip
                    exact hY (by simp only [if_pos c_478_0, if_neg c_488_1]; exact Bool.false_ne_true)
              · skip
                refine P_l (fun hJ _ _ q => E_goto 2041 dL_law_493 (by decide) (E_iinc (v := 6) (ls2 := [some (.ref 2), some (.ref 3), some (.ref 67), some (.ref 114), some (.int (s.1 + 6)), some (.int v45), some (.int v48)]) dL_law_2041 rfl (by decide) (by decide) rfl (E_goto 23 dL_law_2044 (by decide) q))) ?_
                refine P_less [some (.ref 2), some (.ref 3), some (.ref 67), some (.ref 114), some (.int (s.1 + 6)), none, none] (And.intro rfl (And.intro rfl (And.intro rfl (And.intro rfl (And.intro rfl trivial))))) ?_
                refine P_room (kc2 := kN) (ks2 := ksN) (by omega) (by omega) ?_
                exact P_back ((s.1 + 6, σ49))
              · skip
                refine P_l (fun hJ _ _ q => E_iconst (v := 0) dL_law_491 (by decide) q) ?_
                exact P_inl (P_ret (fun _ _ => E_zret01 rfl (by decide) dL_law_492))
            · skip
              refine P_l (fun hJ _ _ q => E_iconst (v := 0) dL_law_474 (by decide) q) ?_
              exact P_inl (P_ret (fun _ _ => E_zret01 rfl (by decide) dL_law_475))
          · skip
            refine P_case (fun h50 => ?_) (fun h50 => ?_)
            · skip
              refine P_l (fun hJ _ _ q => E_tableIn (off := 456) 496 dL_law_40 (by rw [h50]; decide) (by rw [h50]; decide) (by rw [h50]; rfl) (by decide) q) ?_
              refine P_l (fun hJ _ _ q => E_aload_n dL_law_496 rfl (E_aload_n dL_law_497 rfl (E_iload dL_law_498 rfl (E_iconst (v := 1) dL_law_500 (by decide) (E_iadd dL_law_501 q))))) ?_
              refine P_g (fun g51 => ?_)
              refine P_l (fun hJ _ _ q => E_iald dL_law_502 (Sy_two hJ.1) (inB_vp g51) (E_aload_n dL_law_503 rfl q)) ?_
              refine P_callH (st2 := fun v => .int v :: []) (kc2 := kN + 2) (ks2 := ksN + 12) (fun hJ => (ok_L_joker (σ := s.2) (p1 := rI s.2 2 (s.1 + 1 : Int32).toNatClampNeg))) (fun hJ _ _ _ _ v τ1 hM q => E_callSH (as := [.ref 3, .int (rI s.2 2 (s.1 + 1 : Int32).toNatClampNeg), .ref 114]) (st := []) hM (by decide) yfL_joker mlL_136 stL_joker rfl (Nat.le_of_ble_eq_true rfl) rfl dL_law_504 q) (by omega) (by omega) (fun v52 σ53 => ?_)
              refine P_l (fun hJ _ _ q => E_istore (ls2 := [some (.ref 2), some (.ref 3), some (.ref 67), some (.ref 114), some (.int s.1), some (.int v52), none]) dL_law_507 (by decide) rfl (E_aload_n dL_law_509 rfl (E_aload_n dL_law_510 rfl (E_iload dL_law_511 rfl (E_iconst (v := 1) dL_law_513 (by decide) (E_iadd dL_law_514 q)))))) ?_
              refine P_g (fun g54 => ?_)
              refine P_l (fun hJ _ _ q => E_iald dL_law_515 (Sy_two hJ.1) (inB_vp g54) q) ?_
              refine P_call (t := fun v => some (.int v)) (st2 := fun v => .int v :: []) (kc2 := kN + 2) (ks2 := ksN + 12) (fun hJ => (ok_X11_joker (σ := σ53) (p1 := rI σ53 2 (s.1 + 1 : Int32).toNatClampNeg) )) (fun hJ _ _ _ _ v τ1 hM q => E_callV (as := [.int (rI σ53 2 (s.1 + 1 : Int32).toNatClampNeg)]) (b := 67) (st := []) hM (by decide) yfX11_joker mlL_138 imX11_joker seX11_joker clX11 (kd67 hJ.1.1) rfl (Nat.le_of_ble_eq_true rfl) rfl dL_law_516 q) (by omega) (by omega) (fun v55 σ56 => ?_)
              refine P_l (fun hJ _ _ q => E_istore (ls2 := [some (.ref 2), some (.ref 3), some (.ref 67), some (.ref 114), some (.int s.1), some (.int v52), some (.int v55)]) dL_law_519 (by decide) rfl (E_aload_n dL_law_521 rfl (E_callV (as := []) (b := 67) (st := []) (ok_X11_thrown (σ := σ56)  hJ ) (by decide) yfX11_thrown mlL_121 imX11_thrown seX11_thrown clX11 (kd67 hJ.1.1) rfl (Nat.le_of_ble_eq_true rfl) rfl dL_law_522 (E_iload dL_law_525 rfl q)))) ?_
              refine P_if (fun hJ _ _ h1 h2 => E_icmp_eq 532 dL_law_527 (by decide) h1 h2) ?_ ?_
              · skip
                refine P_l (fun hJ _ _ q => E_iload dL_law_532 rfl q) ?_
                refine P_if (c := (if v52 = 0 then (if (lg_cmp (rL σ56 114 (0 : Int32).toNatClampNeg) (((v55 : Int32)).toInt64)) = 0 then true else false) else true) = true) (pc1 := 549) (ls1 := [some (.ref 2), some (.ref 3), some (.ref 67), some (.ref 114), some (.int s.1), some (.int v52), some (.int v55)]) (st1 := []) (pc2 := 547) (ls2 := [some (.ref 2), some (.ref 3), some (.ref 67), some (.ref 114), some (.int s.1), some (.int v52), some (.int v55)]) (st2 := []) (fun hJ _ _ hX hY => ?_) ?_ ?_
                · skip
                  refine E_if_ne 549 dL_law_534 (by decide) (fun c_534_0 => ?_) (fun c_534_0 => ?_)
                  · skip
                    exact hX (by simp only [if_neg c_534_0])
                  · skip
                    refine E_aload_n dL_law_537 rfl ?_
                    refine E_iconst (v := 0) dL_law_538 (by decide) ?_
                    refine E_lald dL_law_539 (kd114 hJ.1.1) (inB_vp (by decide)) ?_
                    refine E_iload dL_law_540 rfl ?_
                    refine E_i2l dL_law_542 ?_
                    refine E_lcmp dL_law_543 ?_
                    refine E_if_eq 549 dL_law_544 (by decide) (fun c_544_1 => ?_) (fun c_544_1 => ?_)
                    · skip
                      exact hX (by simp only [if_pos c_534_0, if_pos c_544_1])
                    · skip
                      exact hY (by simp only [if_pos c_534_0, if_neg c_544_1]; exact Bool.false_ne_true)
                · skip
                  refine P_l (fun hJ _ _ q => E_goto 2041 dL_law_549 (by decide) (E_iinc (v := 6) (ls2 := [some (.ref 2), some (.ref 3), some (.ref 67), some (.ref 114), some (.int (s.1 + 6)), some (.int v52), some (.int v55)]) dL_law_2041 rfl (by decide) (by decide) rfl (E_goto 23 dL_law_2044 (by decide) q))) ?_
                  refine P_less [some (.ref 2), some (.ref 3), some (.ref 67), some (.ref 114), some (.int (s.1 + 6)), none, none] (And.intro rfl (And.intro rfl (And.intro rfl (And.intro rfl (And.intro rfl trivial))))) ?_
                  refine P_room (kc2 := kN) (ks2 := ksN) (by omega) (by omega) ?_
                  exact P_back ((s.1 + 6, σ56))
                · skip
                  refine P_l (fun hJ _ _ q => E_iconst (v := 0) dL_law_547 (by decide) q) ?_
                  exact P_inl (P_ret (fun _ _ => E_zret01 rfl (by decide) dL_law_548))
              · skip
                refine P_l (fun hJ _ _ q => E_iconst (v := 0) dL_law_530 (by decide) q) ?_
                exact P_inl (P_ret (fun _ _ => E_zret01 rfl (by decide) dL_law_531))
            · skip
              refine P_case (fun h57 => ?_) (fun h57 => ?_)
              · skip
                refine P_l (fun hJ _ _ q => E_tableIn (off := 512) 552 dL_law_40 (by rw [h57]; decide) (by rw [h57]; decide) (by rw [h57]; rfl) (by decide) q) ?_
                refine P_l (fun hJ _ _ q => E_aload_n dL_law_552 rfl (E_aload_n dL_law_553 rfl (E_iload dL_law_554 rfl (E_iconst (v := 1) dL_law_556 (by decide) (E_iadd dL_law_557 q))))) ?_
                refine P_g (fun g58 => ?_)
                refine P_l (fun hJ _ _ q => E_iald dL_law_558 (Sy_two hJ.1) (inB_vp g58) (E_aload_n dL_law_559 rfl q)) ?_
                refine P_callH (st2 := fun v => .int v :: []) (kc2 := kN + 2) (ks2 := ksN + 12) (fun hJ => (ok_L_swap (σ := s.2) (p1 := rI s.2 2 (s.1 + 1 : Int32).toNatClampNeg))) (fun hJ _ _ _ _ v τ1 hM q => E_callSH (as := [.ref 3, .int (rI s.2 2 (s.1 + 1 : Int32).toNatClampNeg), .ref 114]) (st := []) hM (by decide) yfL_swap mlL_139 stL_swap rfl (Nat.le_of_ble_eq_true rfl) rfl dL_law_560 q) (by omega) (by omega) (fun v59 σ60 => ?_)
                refine P_l (fun hJ _ _ q => E_istore (ls2 := [some (.ref 2), some (.ref 3), some (.ref 67), some (.ref 114), some (.int s.1), some (.int v59), none]) dL_law_563 (by decide) rfl (E_aload_n dL_law_565 rfl (E_aload_n dL_law_566 rfl (E_iload dL_law_567 rfl (E_iconst (v := 1) dL_law_569 (by decide) (E_iadd dL_law_570 q)))))) ?_
                refine P_g (fun g61 => ?_)
                refine P_l (fun hJ _ _ q => E_iald dL_law_571 (Sy_two hJ.1) (inB_vp g61) q) ?_
                refine P_call (t := fun v => some (.int v)) (st2 := fun v => .int v :: []) (kc2 := kN + 2) (ks2 := ksN + 12) (fun hJ => (ok_X11_swap (σ := σ60) (p1 := rI σ60 2 (s.1 + 1 : Int32).toNatClampNeg) )) (fun hJ _ _ _ _ v τ1 hM q => E_callV (as := [.int (rI σ60 2 (s.1 + 1 : Int32).toNatClampNeg)]) (b := 67) (st := []) hM (by decide) yfX11_swap mlL_141 imX11_swap seX11_swap clX11 (kd67 hJ.1.1) rfl (Nat.le_of_ble_eq_true rfl) rfl dL_law_572 q) (by omega) (by omega) (fun v62 σ63 => ?_)
                refine P_l (fun hJ _ _ q => E_istore (ls2 := [some (.ref 2), some (.ref 3), some (.ref 67), some (.ref 114), some (.int s.1), some (.int v59), some (.int v62)]) dL_law_575 (by decide) rfl (E_aload_n dL_law_577 rfl (E_callV (as := []) (b := 67) (st := []) (ok_X11_thrown (σ := σ63)  hJ ) (by decide) yfX11_thrown mlL_121 imX11_thrown seX11_thrown clX11 (kd67 hJ.1.1) rfl (Nat.le_of_ble_eq_true rfl) rfl dL_law_578 (E_iload dL_law_581 rfl q)))) ?_
                refine P_if (fun hJ _ _ h1 h2 => E_icmp_eq 588 dL_law_583 (by decide) h1 h2) ?_ ?_
                · skip
                  refine P_l (fun hJ _ _ q => E_iload dL_law_588 rfl q) ?_
                  refine P_if (c := (if v59 = 0 then (if (lg_cmp (rL σ63 114 (0 : Int32).toNatClampNeg) (((v62 : Int32)).toInt64)) = 0 then true else false) else true) = true) (pc1 := 605) (ls1 := [some (.ref 2), some (.ref 3), some (.ref 67), some (.ref 114), some (.int s.1), some (.int v59), some (.int v62)]) (st1 := []) (pc2 := 603) (ls2 := [some (.ref 2), some (.ref 3), some (.ref 67), some (.ref 114), some (.int s.1), some (.int v59), some (.int v62)]) (st2 := []) (fun hJ _ _ hX hY => ?_) ?_ ?_
                  · skip
                    refine E_if_ne 605 dL_law_590 (by decide) (fun c_590_0 => ?_) (fun c_590_0 => ?_)
                    · skip
                      exact hX (by simp only [if_neg c_590_0])
                    · skip
                      refine E_aload_n dL_law_593 rfl ?_
                      refine E_iconst (v := 0) dL_law_594 (by decide) ?_
                      refine E_lald dL_law_595 (kd114 hJ.1.1) (inB_vp (by decide)) ?_
                      refine E_iload dL_law_596 rfl ?_
                      refine E_i2l dL_law_598 ?_
                      refine E_lcmp dL_law_599 ?_
                      refine E_if_eq 605 dL_law_600 (by decide) (fun c_600_1 => ?_) (fun c_600_1 => ?_)
                      · skip
                        exact hX (by simp only [if_pos c_590_0, if_pos c_600_1])
                      · skip
                        exact hY (by simp only [if_pos c_590_0, if_neg c_600_1]; exact Bool.false_ne_true)
                  · skip
                    refine P_l (fun hJ _ _ q => E_goto 2041 dL_law_605 (by decide) (E_iinc (v := 6) (ls2 := [some (.ref 2), some (.ref 3), some (.ref 67), some (.ref 114), some (.int (s.1 + 6)), some (.int v59), some (.int v62)]) dL_law_2041 rfl (by decide) (by decide) rfl (E_goto 23 dL_law_2044 (by decide) q))) ?_
                    refine P_less [some (.ref 2), some (.ref 3), some (.ref 67), some (.ref 114), some (.int (s.1 + 6)), none, none] (And.intro rfl (And.intro rfl (And.intro rfl (And.intro rfl (And.intro rfl trivial))))) ?_
                    refine P_room (kc2 := kN) (ks2 := ksN) (by omega) (by omega) ?_
                    exact P_back ((s.1 + 6, σ63))
                  · skip
                    refine P_l (fun hJ _ _ q => E_iconst (v := 0) dL_law_603 (by decide) q) ?_
                    exact P_inl (P_ret (fun _ _ => E_zret01 rfl (by decide) dL_law_604))
                · skip
                  refine P_l (fun hJ _ _ q => E_iconst (v := 0) dL_law_586 (by decide) q) ?_
                  exact P_inl (P_ret (fun _ _ => E_zret01 rfl (by decide) dL_law_587))
              · skip
                refine P_case (fun h64 => ?_) (fun h64 => ?_)
                · skip
                  refine P_l (fun hJ _ _ q => E_tableIn (off := 568) 608 dL_law_40 (by rw [h64]; decide) (by rw [h64]; decide) (by rw [h64]; rfl) (by decide) q) ?_
                  refine P_l (fun hJ _ _ q => E_aload_n dL_law_608 rfl (E_aload_n dL_law_609 rfl q)) ?_
                  refine P_callH (st2 := fun v => .int v :: []) (kc2 := kN + 3) (ks2 := ksN + 18) (fun hJ => (ok_L_back (σ := s.2) )) (fun hJ _ _ _ _ v τ1 hM q => E_callSH (as := [.ref 3, .ref 114]) (st := []) hM (by decide) yfL_back mlL_142 stL_back rfl (Nat.le_of_ble_eq_true rfl) rfl dL_law_610 q) (by omega) (by omega) (fun v65 σ66 => ?_)
                  refine P_l (fun hJ _ _ q => E_istore (ls2 := [some (.ref 2), some (.ref 3), some (.ref 67), some (.ref 114), some (.int s.1), some (.int v65), none]) dL_law_613 (by decide) rfl (E_aload_n dL_law_615 rfl q)) ?_
                  refine P_call (t := fun v => some (.int v)) (st2 := fun v => .int v :: []) (kc2 := kN + 3) (ks2 := ksN + 18) (fun hJ => (ok_X11_back (σ := σ66)  )) (fun hJ _ _ _ _ v τ1 hM q => E_callV (as := []) (b := 67) (st := []) hM (by decide) yfX11_back mlL_145 imX11_back seX11_back clX11 (kd67 hJ.1.1) rfl (Nat.le_of_ble_eq_true rfl) rfl dL_law_616 q) (by omega) (by omega) (fun v67 σ68 => ?_)
                  refine P_l (fun hJ _ _ q => E_istore (ls2 := [some (.ref 2), some (.ref 3), some (.ref 67), some (.ref 114), some (.int s.1), some (.int v65), some (.int v67)]) dL_law_619 (by decide) rfl (E_aload_n dL_law_621 rfl (E_callV (as := []) (b := 67) (st := []) (ok_X11_thrown (σ := σ68)  hJ ) (by decide) yfX11_thrown mlL_121 imX11_thrown seX11_thrown clX11 (kd67 hJ.1.1) rfl (Nat.le_of_ble_eq_true rfl) rfl dL_law_622 (E_iload dL_law_625 rfl q)))) ?_
                  refine P_if (fun hJ _ _ h1 h2 => E_icmp_eq 632 dL_law_627 (by decide) h1 h2) ?_ ?_
                  · skip
                    refine P_l (fun hJ _ _ q => E_iload dL_law_632 rfl q) ?_
                    refine P_if (c := (if v65 = 0 then (if (lg_cmp (rL σ68 114 (0 : Int32).toNatClampNeg) (((v67 : Int32)).toInt64)) = 0 then true else false) else true) = true) (pc1 := 649) (ls1 := [some (.ref 2), some (.ref 3), some (.ref 67), some (.ref 114), some (.int s.1), some (.int v65), some (.int v67)]) (st1 := []) (pc2 := 647) (ls2 := [some (.ref 2), some (.ref 3), some (.ref 67), some (.ref 114), some (.int s.1), some (.int v65), some (.int v67)]) (st2 := []) (fun hJ _ _ hX hY => ?_) ?_ ?_
                    · skip
                      refine E_if_ne 649 dL_law_634 (by decide) (fun c_634_0 => ?_) (fun c_634_0 => ?_)
                      · skip
                        exact hX (by simp only [if_neg c_634_0])
                      · skip
                        refine E_aload_n dL_law_637 rfl ?_
                        refine E_iconst (v := 0) dL_law_638 (by decide) ?_
                        refine E_lald dL_law_639 (kd114 hJ.1.1) (inB_vp (by decide)) ?_
                        refine E_iload dL_law_640 rfl ?_
                        refine E_i2l dL_law_642 ?_
                        refine E_lcmp dL_law_643 ?_
                        refine E_if_eq 649 dL_law_644 (by decide) (fun c_644_1 => ?_) (fun c_644_1 => ?_)
                        · skip
                          exact hX (by simp only [if_pos c_634_0, if_pos c_644_1])
                        · skip
                          exact hY (by simp only [if_pos c_634_0, if_neg c_644_1]; exact Bool.false_ne_true)
                    · skip
                      refine P_l (fun hJ _ _ q => E_goto 2041 dL_law_649 (by decide) (E_iinc (v := 6) (ls2 := [some (.ref 2), some (.ref 3), some (.ref 67), some (.ref 114), some (.int (s.1 + 6)), some (.int v65), some (.int v67)]) dL_law_2041 rfl (by decide) (by decide) rfl (E_goto 23 dL_law_2044 (by decide) q))) ?_
                      refine P_less [some (.ref 2), some (.ref 3), some (.ref 67), some (.ref 114), some (.int (s.1 + 6)), none, none] (And.intro rfl (And.intro rfl (And.intro rfl (And.intro rfl (And.intro rfl trivial))))) ?_
                      refine P_room (kc2 := kN) (ks2 := ksN) (by omega) (by omega) ?_
                      exact P_back ((s.1 + 6, σ68))
                    · skip
                      refine P_l (fun hJ _ _ q => E_iconst (v := 0) dL_law_647 (by decide) q) ?_
                      exact P_inl (P_ret (fun _ _ => E_zret01 rfl (by decide) dL_law_648))
                  · skip
                    refine P_l (fun hJ _ _ q => E_iconst (v := 0) dL_law_630 (by decide) q) ?_
                    exact P_inl (P_ret (fun _ _ => E_zret01 rfl (by decide) dL_law_631))
                · skip
                  refine P_case (fun h69 => ?_) (fun h69 => ?_)
                  · skip
                    refine P_l (fun hJ _ _ q => E_tableIn (off := 612) 652 dL_law_40 (by rw [h69]; decide) (by rw [h69]; decide) (by rw [h69]; rfl) (by decide) q) ?_
                    refine P_l (fun hJ _ _ q => E_aload_n dL_law_652 rfl (E_aload_n dL_law_653 rfl q)) ?_
                    refine P_callH (st2 := fun v => .int v :: []) (kc2 := kN + 3) (ks2 := ksN + 18) (fun hJ => (ok_L_end (σ := s.2) )) (fun hJ _ _ _ _ v τ1 hM q => E_callSH (as := [.ref 3, .ref 114]) (st := []) hM (by decide) yfL_end mlL_146 stL_end rfl (Nat.le_of_ble_eq_true rfl) rfl dL_law_654 q) (by omega) (by omega) (fun v70 σ71 => ?_)
                    refine P_l (fun hJ _ _ q => E_istore (ls2 := [some (.ref 2), some (.ref 3), some (.ref 67), some (.ref 114), some (.int s.1), some (.int v70), none]) dL_law_657 (by decide) rfl (E_aload_n dL_law_659 rfl q)) ?_
                    refine P_call (t := fun v => some (.int v)) (st2 := fun v => .int v :: []) (kc2 := kN + 3) (ks2 := ksN + 18) (fun hJ => (ok_X11_end (σ := σ71)  )) (fun hJ _ _ _ _ v τ1 hM q => E_callV (as := []) (b := 67) (st := []) hM (by decide) yfX11_end mlL_148 imX11_end seX11_end clX11 (kd67 hJ.1.1) rfl (Nat.le_of_ble_eq_true rfl) rfl dL_law_660 q) (by omega) (by omega) (fun v72 σ73 => ?_)
                    refine P_l (fun hJ _ _ q => E_istore (ls2 := [some (.ref 2), some (.ref 3), some (.ref 67), some (.ref 114), some (.int s.1), some (.int v70), some (.int v72)]) dL_law_663 (by decide) rfl (E_aload_n dL_law_665 rfl (E_callV (as := []) (b := 67) (st := []) (ok_X11_thrown (σ := σ73)  hJ ) (by decide) yfX11_thrown mlL_121 imX11_thrown seX11_thrown clX11 (kd67 hJ.1.1) rfl (Nat.le_of_ble_eq_true rfl) rfl dL_law_666 (E_iload dL_law_669 rfl q)))) ?_
                    refine P_if (fun hJ _ _ h1 h2 => E_icmp_eq 676 dL_law_671 (by decide) h1 h2) ?_ ?_
                    · skip
                      refine P_l (fun hJ _ _ q => E_iload dL_law_676 rfl q) ?_
                      refine P_if (c := (if v70 = 0 then (if (lg_cmp (rL σ73 114 (0 : Int32).toNatClampNeg) (((v72 : Int32)).toInt64)) = 0 then true else false) else true) = true) (pc1 := 693) (ls1 := [some (.ref 2), some (.ref 3), some (.ref 67), some (.ref 114), some (.int s.1), some (.int v70), some (.int v72)]) (st1 := []) (pc2 := 691) (ls2 := [some (.ref 2), some (.ref 3), some (.ref 67), some (.ref 114), some (.int s.1), some (.int v70), some (.int v72)]) (st2 := []) (fun hJ _ _ hX hY => ?_) ?_ ?_
                      · skip
                        refine E_if_ne 693 dL_law_678 (by decide) (fun c_678_0 => ?_) (fun c_678_0 => ?_)
                        · skip
                          exact hX (by simp only [if_neg c_678_0])
                        · skip
                          refine E_aload_n dL_law_681 rfl ?_
                          refine E_iconst (v := 0) dL_law_682 (by decide) ?_
                          refine E_lald dL_law_683 (kd114 hJ.1.1) (inB_vp (by decide)) ?_
                          refine E_iload dL_law_684 rfl ?_
                          refine E_i2l dL_law_686 ?_
                          refine E_lcmp dL_law_687 ?_
                          refine E_if_eq 693 dL_law_688 (by decide) (fun c_688_1 => ?_) (fun c_688_1 => ?_)
                          · skip
                            exact hX (by simp only [if_pos c_678_0, if_pos c_688_1])
                          · skip
                            exact hY (by simp only [if_pos c_678_0, if_neg c_688_1]; exact Bool.false_ne_true)
                      · skip
                        refine P_l (fun hJ _ _ q => E_goto 2041 dL_law_693 (by decide) (E_iinc (v := 6) (ls2 := [some (.ref 2), some (.ref 3), some (.ref 67), some (.ref 114), some (.int (s.1 + 6)), some (.int v70), some (.int v72)]) dL_law_2041 rfl (by decide) (by decide) rfl (E_goto 23 dL_law_2044 (by decide) q))) ?_
                        refine P_less [some (.ref 2), some (.ref 3), some (.ref 67), some (.ref 114), some (.int (s.1 + 6)), none, none] (And.intro rfl (And.intro rfl (And.intro rfl (And.intro rfl (And.intro rfl trivial))))) ?_
                        refine P_room (kc2 := kN) (ks2 := ksN) (by omega) (by omega) ?_
                        exact P_back ((s.1 + 6, σ73))
                      · skip
                        refine P_l (fun hJ _ _ q => E_iconst (v := 0) dL_law_691 (by decide) q) ?_
                        exact P_inl (P_ret (fun _ _ => E_zret01 rfl (by decide) dL_law_692))
                    · skip
                      refine P_l (fun hJ _ _ q => E_iconst (v := 0) dL_law_674 (by decide) q) ?_
                      exact P_inl (P_ret (fun _ _ => E_zret01 rfl (by decide) dL_law_675))
                  · skip
                    refine P_case (fun h74 => ?_) (fun h74 => ?_)
                    · skip
                      refine P_l (fun hJ _ _ q => E_tableIn (off := 656) 696 dL_law_40 (by rw [h74]; decide) (by rw [h74]; decide) (by rw [h74]; rfl) (by decide) q) ?_
                      refine P_l (fun hJ _ _ q => E_aload_n dL_law_696 rfl (E_aload_n dL_law_697 rfl q)) ?_
                      refine P_callH (st2 := fun v => .int v :: []) (kc2 := kN + 3) (ks2 := ksN + 18) (fun hJ => (ok_L_draw (σ := s.2) )) (fun hJ _ _ _ _ v τ1 hM q => E_callSH (as := [.ref 3, .ref 114]) (st := []) hM (by decide) yfL_draw mlL_149 stL_draw rfl (Nat.le_of_ble_eq_true rfl) rfl dL_law_698 q) (by omega) (by omega) (fun v75 σ76 => ?_)
                      refine P_l (fun hJ _ _ q => E_istore (ls2 := [some (.ref 2), some (.ref 3), some (.ref 67), some (.ref 114), some (.int s.1), some (.int v75), none]) dL_law_701 (by decide) rfl (E_aload_n dL_law_703 rfl q)) ?_
                      refine P_call (t := fun v => some (.int v)) (st2 := fun v => .int v :: []) (kc2 := kN + 3) (ks2 := ksN + 18) (fun hJ => (ok_X11_draw (σ := σ76)  )) (fun hJ _ _ _ _ v τ1 hM q => E_callV (as := []) (b := 67) (st := []) hM (by decide) yfX11_draw mlL_151 imX11_draw seX11_draw clX11 (kd67 hJ.1.1) rfl (Nat.le_of_ble_eq_true rfl) rfl dL_law_704 q) (by omega) (by omega) (fun v77 σ78 => ?_)
                      refine P_l (fun hJ _ _ q => E_istore (ls2 := [some (.ref 2), some (.ref 3), some (.ref 67), some (.ref 114), some (.int s.1), some (.int v75), some (.int v77)]) dL_law_707 (by decide) rfl (E_aload_n dL_law_709 rfl (E_callV (as := []) (b := 67) (st := []) (ok_X11_thrown (σ := σ78)  hJ ) (by decide) yfX11_thrown mlL_121 imX11_thrown seX11_thrown clX11 (kd67 hJ.1.1) rfl (Nat.le_of_ble_eq_true rfl) rfl dL_law_710 (E_iload dL_law_713 rfl q)))) ?_
                      refine P_if (fun hJ _ _ h1 h2 => E_icmp_eq 720 dL_law_715 (by decide) h1 h2) ?_ ?_
                      · skip
                        refine P_l (fun hJ _ _ q => E_iload dL_law_720 rfl q) ?_
                        refine P_if (c := (if v75 = 0 then (if (lg_cmp (rL σ78 114 (0 : Int32).toNatClampNeg) (((v77 : Int32)).toInt64)) = 0 then true else false) else true) = true) (pc1 := 737) (ls1 := [some (.ref 2), some (.ref 3), some (.ref 67), some (.ref 114), some (.int s.1), some (.int v75), some (.int v77)]) (st1 := []) (pc2 := 735) (ls2 := [some (.ref 2), some (.ref 3), some (.ref 67), some (.ref 114), some (.int s.1), some (.int v75), some (.int v77)]) (st2 := []) (fun hJ _ _ hX hY => ?_) ?_ ?_
                        · skip
                          refine E_if_ne 737 dL_law_722 (by decide) (fun c_722_0 => ?_) (fun c_722_0 => ?_)
                          · skip
                            exact hX (by simp only [if_neg c_722_0])
                          · skip
                            refine E_aload_n dL_law_725 rfl ?_
                            refine E_iconst (v := 0) dL_law_726 (by decide) ?_
                            refine E_lald dL_law_727 (kd114 hJ.1.1) (inB_vp (by decide)) ?_
                            refine E_iload dL_law_728 rfl ?_
                            refine E_i2l dL_law_730 ?_
                            refine E_lcmp dL_law_731 ?_
                            refine E_if_eq 737 dL_law_732 (by decide) (fun c_732_1 => ?_) (fun c_732_1 => ?_)
                            · skip
                              exact hX (by simp only [if_pos c_722_0, if_pos c_732_1])
                            · skip
                              exact hY (by simp only [if_pos c_722_0, if_neg c_732_1]; exact Bool.false_ne_true)
                        · skip
                          refine P_l (fun hJ _ _ q => E_goto 2041 dL_law_737 (by decide) (E_iinc (v := 6) (ls2 := [some (.ref 2), some (.ref 3), some (.ref 67), some (.ref 114), some (.int (s.1 + 6)), some (.int v75), some (.int v77)]) dL_law_2041 rfl (by decide) (by decide) rfl (E_goto 23 dL_law_2044 (by decide) q))) ?_
                          refine P_less [some (.ref 2), some (.ref 3), some (.ref 67), some (.ref 114), some (.int (s.1 + 6)), none, none] (And.intro rfl (And.intro rfl (And.intro rfl (And.intro rfl (And.intro rfl trivial))))) ?_
                          refine P_room (kc2 := kN) (ks2 := ksN) (by omega) (by omega) ?_
                          exact P_back ((s.1 + 6, σ78))
                        · skip
                          refine P_l (fun hJ _ _ q => E_iconst (v := 0) dL_law_735 (by decide) q) ?_
                          exact P_inl (P_ret (fun _ _ => E_zret01 rfl (by decide) dL_law_736))
                      · skip
                        refine P_l (fun hJ _ _ q => E_iconst (v := 0) dL_law_718 (by decide) q) ?_
                        exact P_inl (P_ret (fun _ _ => E_zret01 rfl (by decide) dL_law_719))
                    · skip
                      refine P_case (fun h79 => ?_) (fun h79 => ?_)
                      · skip
                        refine P_l (fun hJ _ _ q => E_tableIn (off := 700) 740 dL_law_40 (by rw [h79]; decide) (by rw [h79]; decide) (by rw [h79]; rfl) (by decide) q) ?_
                        refine P_l (fun hJ _ _ q => E_aload_n dL_law_740 rfl (E_aload_n dL_law_741 rfl (E_iload dL_law_742 rfl (E_iconst (v := 1) dL_law_744 (by decide) (E_iadd dL_law_745 q))))) ?_
                        refine P_g (fun g80 => ?_)
                        refine P_l (fun hJ _ _ q => E_iald dL_law_746 (Sy_two hJ.1) (inB_vp g80) (E_aload_n dL_law_747 rfl q)) ?_
                        refine P_callH (st2 := fun v => .int v :: []) (kc2 := kN + 2) (ks2 := ksN + 12) (fun hJ => (ok_L_tick (σ := s.2) (p1 := rI s.2 2 (s.1 + 1 : Int32).toNatClampNeg))) (fun hJ _ _ _ _ v τ1 hM q => E_callSH (as := [.ref 3, .int (rI s.2 2 (s.1 + 1 : Int32).toNatClampNeg), .ref 114]) (st := []) hM (by decide) yfL_tick mlL_152 stL_tick rfl (Nat.le_of_ble_eq_true rfl) rfl dL_law_748 q) (by omega) (by omega) (fun v81 σ82 => ?_)
                        refine P_l (fun hJ _ _ q => E_istore (ls2 := [some (.ref 2), some (.ref 3), some (.ref 67), some (.ref 114), some (.int s.1), some (.int v81), none]) dL_law_751 (by decide) rfl (E_aload_n dL_law_753 rfl (E_aload_n dL_law_754 rfl (E_iload dL_law_755 rfl (E_iconst (v := 1) dL_law_757 (by decide) (E_iadd dL_law_758 q)))))) ?_
                        refine P_g (fun g83 => ?_)
                        refine P_l (fun hJ _ _ q => E_iald dL_law_759 (Sy_two hJ.1) (inB_vp g83) q) ?_
                        refine P_call (t := fun v => some (.int v)) (st2 := fun v => .int v :: []) (kc2 := kN + 2) (ks2 := ksN + 12) (fun hJ => (ok_X11_tick (σ := σ82) (p1 := rI σ82 2 (s.1 + 1 : Int32).toNatClampNeg) )) (fun hJ _ _ _ _ v τ1 hM q => E_callV (as := [.int (rI σ82 2 (s.1 + 1 : Int32).toNatClampNeg)]) (b := 67) (st := []) hM (by decide) yfX11_tick mlL_154 imX11_tick seX11_tick clX11 (kd67 hJ.1.1) rfl (Nat.le_of_ble_eq_true rfl) rfl dL_law_760 q) (by omega) (by omega) (fun v84 σ85 => ?_)
                        refine P_l (fun hJ _ _ q => E_istore (ls2 := [some (.ref 2), some (.ref 3), some (.ref 67), some (.ref 114), some (.int s.1), some (.int v81), some (.int v84)]) dL_law_763 (by decide) rfl (E_aload_n dL_law_765 rfl (E_callV (as := []) (b := 67) (st := []) (ok_X11_thrown (σ := σ85)  hJ ) (by decide) yfX11_thrown mlL_121 imX11_thrown seX11_thrown clX11 (kd67 hJ.1.1) rfl (Nat.le_of_ble_eq_true rfl) rfl dL_law_766 (E_iload dL_law_769 rfl q)))) ?_
                        refine P_if (fun hJ _ _ h1 h2 => E_icmp_eq 776 dL_law_771 (by decide) h1 h2) ?_ ?_
                        · skip
                          refine P_l (fun hJ _ _ q => E_iload dL_law_776 rfl q) ?_
                          refine P_if (c := (if v81 = 0 then (if (lg_cmp (rL σ85 114 (0 : Int32).toNatClampNeg) (((v84 : Int32)).toInt64)) = 0 then true else false) else true) = true) (pc1 := 793) (ls1 := [some (.ref 2), some (.ref 3), some (.ref 67), some (.ref 114), some (.int s.1), some (.int v81), some (.int v84)]) (st1 := []) (pc2 := 791) (ls2 := [some (.ref 2), some (.ref 3), some (.ref 67), some (.ref 114), some (.int s.1), some (.int v81), some (.int v84)]) (st2 := []) (fun hJ _ _ hX hY => ?_) ?_ ?_
                          · skip
                            refine E_if_ne 793 dL_law_778 (by decide) (fun c_778_0 => ?_) (fun c_778_0 => ?_)
                            · skip
                              exact hX (by simp only [if_neg c_778_0])
                            · skip
                              refine E_aload_n dL_law_781 rfl ?_
                              refine E_iconst (v := 0) dL_law_782 (by decide) ?_
                              refine E_lald dL_law_783 (kd114 hJ.1.1) (inB_vp (by decide)) ?_
                              refine E_iload dL_law_784 rfl ?_
                              refine E_i2l dL_law_786 ?_
                              refine E_lcmp dL_law_787 ?_
                              refine E_if_eq 793 dL_law_788 (by decide) (fun c_788_1 => ?_) (fun c_788_1 => ?_)
                              · skip
                                exact hX (by simp only [if_pos c_778_0, if_pos c_788_1])
                              · skip
                                exact hY (by simp only [if_pos c_778_0, if_neg c_788_1]; exact Bool.false_ne_true)
                          · skip
                            refine P_l (fun hJ _ _ q => E_goto 2041 dL_law_793 (by decide) (E_iinc (v := 6) (ls2 := [some (.ref 2), some (.ref 3), some (.ref 67), some (.ref 114), some (.int (s.1 + 6)), some (.int v81), some (.int v84)]) dL_law_2041 rfl (by decide) (by decide) rfl (E_goto 23 dL_law_2044 (by decide) q))) ?_
                            refine P_less [some (.ref 2), some (.ref 3), some (.ref 67), some (.ref 114), some (.int (s.1 + 6)), none, none] (And.intro rfl (And.intro rfl (And.intro rfl (And.intro rfl (And.intro rfl trivial))))) ?_
                            refine P_room (kc2 := kN) (ks2 := ksN) (by omega) (by omega) ?_
                            exact P_back ((s.1 + 6, σ85))
                          · skip
                            refine P_l (fun hJ _ _ q => E_iconst (v := 0) dL_law_791 (by decide) q) ?_
                            exact P_inl (P_ret (fun _ _ => E_zret01 rfl (by decide) dL_law_792))
                        · skip
                          refine P_l (fun hJ _ _ q => E_iconst (v := 0) dL_law_774 (by decide) q) ?_
                          exact P_inl (P_ret (fun _ _ => E_zret01 rfl (by decide) dL_law_775))
                      · skip
                        refine P_case (fun h86 => ?_) (fun h86 => ?_)
                        · skip
                          refine P_l (fun hJ _ _ q => E_tableIn (off := 756) 796 dL_law_40 (by rw [h86]; decide) (by rw [h86]; decide) (by rw [h86]; rfl) (by decide) q) ?_
                          refine P_l (fun hJ _ _ q => E_aload_n dL_law_796 rfl (E_aload_n dL_law_797 rfl q)) ?_
                          refine P_callH (st2 := fun v => .int v :: []) (kc2 := kN + 2) (ks2 := ksN + 12) (fun hJ => (ok_L_auto (σ := s.2) )) (fun hJ _ _ _ _ v τ1 hM q => E_callSH (as := [.ref 3, .ref 114]) (st := []) hM (by decide) yfL_auto mlL_155 stL_auto rfl (Nat.le_of_ble_eq_true rfl) rfl dL_law_798 q) (by omega) (by omega) (fun v87 σ88 => ?_)
                          refine P_l (fun hJ _ _ q => E_istore (ls2 := [some (.ref 2), some (.ref 3), some (.ref 67), some (.ref 114), some (.int s.1), some (.int v87), none]) dL_law_801 (by decide) rfl (E_aload_n dL_law_803 rfl q)) ?_
                          refine P_call (t := fun v => some (.int v)) (st2 := fun v => .int v :: []) (kc2 := kN + 2) (ks2 := ksN + 12) (fun hJ => (ok_X11_auto (σ := σ88)  )) (fun hJ _ _ _ _ v τ1 hM q => E_callV (as := []) (b := 67) (st := []) hM (by decide) yfX11_auto mlL_157 imX11_auto seX11_auto clX11 (kd67 hJ.1.1) rfl (Nat.le_of_ble_eq_true rfl) rfl dL_law_804 q) (by omega) (by omega) (fun v89 σ90 => ?_)
                          refine P_l (fun hJ _ _ q => E_istore (ls2 := [some (.ref 2), some (.ref 3), some (.ref 67), some (.ref 114), some (.int s.1), some (.int v87), some (.int v89)]) dL_law_807 (by decide) rfl (E_aload_n dL_law_809 rfl (E_callV (as := []) (b := 67) (st := []) (ok_X11_thrown (σ := σ90)  hJ ) (by decide) yfX11_thrown mlL_121 imX11_thrown seX11_thrown clX11 (kd67 hJ.1.1) rfl (Nat.le_of_ble_eq_true rfl) rfl dL_law_810 (E_iload dL_law_813 rfl q)))) ?_
                          refine P_if (fun hJ _ _ h1 h2 => E_icmp_eq 820 dL_law_815 (by decide) h1 h2) ?_ ?_
                          · skip
                            refine P_l (fun hJ _ _ q => E_iload dL_law_820 rfl q) ?_
                            refine P_if (c := (if v87 = 0 then (if (lg_cmp (rL σ90 114 (0 : Int32).toNatClampNeg) (((v89 : Int32)).toInt64)) = 0 then true else false) else true) = true) (pc1 := 837) (ls1 := [some (.ref 2), some (.ref 3), some (.ref 67), some (.ref 114), some (.int s.1), some (.int v87), some (.int v89)]) (st1 := []) (pc2 := 835) (ls2 := [some (.ref 2), some (.ref 3), some (.ref 67), some (.ref 114), some (.int s.1), some (.int v87), some (.int v89)]) (st2 := []) (fun hJ _ _ hX hY => ?_) ?_ ?_
                            · skip
                              refine E_if_ne 837 dL_law_822 (by decide) (fun c_822_0 => ?_) (fun c_822_0 => ?_)
                              · skip
                                exact hX (by simp only [if_neg c_822_0])
                              · skip
                                refine E_aload_n dL_law_825 rfl ?_
                                refine E_iconst (v := 0) dL_law_826 (by decide) ?_
                                refine E_lald dL_law_827 (kd114 hJ.1.1) (inB_vp (by decide)) ?_
                                refine E_iload dL_law_828 rfl ?_
                                refine E_i2l dL_law_830 ?_
                                refine E_lcmp dL_law_831 ?_
                                refine E_if_eq 837 dL_law_832 (by decide) (fun c_832_1 => ?_) (fun c_832_1 => ?_)
                                · skip
                                  exact hX (by simp only [if_pos c_822_0, if_pos c_832_1])
                                · skip
                                  exact hY (by simp only [if_pos c_822_0, if_neg c_832_1]; exact Bool.false_ne_true)
                            · skip
                              refine P_l (fun hJ _ _ q => E_goto 2041 dL_law_837 (by decide) (E_iinc (v := 6) (ls2 := [some (.ref 2), some (.ref 3), some (.ref 67), some (.ref 114), some (.int (s.1 + 6)), some (.int v87), some (.int v89)]) dL_law_2041 rfl (by decide) (by decide) rfl (E_goto 23 dL_law_2044 (by decide) q))) ?_
                              refine P_less [some (.ref 2), some (.ref 3), some (.ref 67), some (.ref 114), some (.int (s.1 + 6)), none, none] (And.intro rfl (And.intro rfl (And.intro rfl (And.intro rfl (And.intro rfl trivial))))) ?_
                              refine P_room (kc2 := kN) (ks2 := ksN) (by omega) (by omega) ?_
                              exact P_back ((s.1 + 6, σ90))
                            · skip
                              refine P_l (fun hJ _ _ q => E_iconst (v := 0) dL_law_835 (by decide) q) ?_
                              exact P_inl (P_ret (fun _ _ => E_zret01 rfl (by decide) dL_law_836))
                          · skip
                            refine P_l (fun hJ _ _ q => E_iconst (v := 0) dL_law_818 (by decide) q) ?_
                            exact P_inl (P_ret (fun _ _ => E_zret01 rfl (by decide) dL_law_819))
                        · skip
                          refine P_case (fun h91 => ?_) (fun h91 => ?_)
                          · skip
                            refine P_l (fun hJ _ _ q => E_tableIn (off := 800) 840 dL_law_40 (by rw [h91]; decide) (by rw [h91]; decide) (by rw [h91]; rfl) (by decide) q) ?_
                            refine P_l (fun hJ _ _ q => E_aload_n dL_law_840 rfl (E_aload_n dL_law_841 rfl (E_iload dL_law_842 rfl (E_iconst (v := 1) dL_law_844 (by decide) (E_iadd dL_law_845 q))))) ?_
                            refine P_g (fun g92 => ?_)
                            refine P_l (fun hJ _ _ q => E_iald dL_law_846 (Sy_two hJ.1) (inB_vp g92) (E_i2c dL_law_847 (E_aload_n dL_law_848 rfl q))) ?_
                            refine P_callH (st2 := fun v => .int v :: []) (kc2 := kN + 3) (ks2 := ksN + 18) (fun hJ => (ok_L_type (σ := s.2) (p1 := ((rI s.2 2 (s.1 + 1 : Int32).toNatClampNeg).toUInt32 % 65536).toInt32))) (fun hJ _ _ _ _ v τ1 hM q => E_callSH (as := [.ref 3, .int (((rI s.2 2 (s.1 + 1 : Int32).toNatClampNeg).toUInt32 % 65536).toInt32), .ref 114]) (st := []) hM (by decide) yfL_type mlL_158 stL_type rfl (Nat.le_of_ble_eq_true rfl) rfl dL_law_849 q) (by omega) (by omega) (fun v93 σ94 => ?_)
                            refine P_l (fun hJ _ _ q => E_istore (ls2 := [some (.ref 2), some (.ref 3), some (.ref 67), some (.ref 114), some (.int s.1), some (.int v93), none]) dL_law_852 (by decide) rfl (E_aload_n dL_law_854 rfl (E_aload_n dL_law_855 rfl (E_iload dL_law_856 rfl (E_iconst (v := 1) dL_law_858 (by decide) (E_iadd dL_law_859 q)))))) ?_
                            refine P_g (fun g95 => ?_)
                            refine P_l (fun hJ _ _ q => E_iald dL_law_860 (Sy_two hJ.1) (inB_vp g95) (E_i2c dL_law_861 q)) ?_
                            refine P_call (t := fun v => some (.int v)) (st2 := fun v => .int v :: []) (kc2 := kN + 3) (ks2 := ksN + 18) (fun hJ => (ok_X11_type (σ := σ94) (p1 := ((rI σ94 2 (s.1 + 1 : Int32).toNatClampNeg).toUInt32 % 65536).toInt32) )) (fun hJ _ _ _ _ v τ1 hM q => E_callV (as := [.int (((rI σ94 2 (s.1 + 1 : Int32).toNatClampNeg).toUInt32 % 65536).toInt32)]) (b := 67) (st := []) hM (by decide) yfX11_type mlL_161 imX11_type seX11_type clX11 (kd67 hJ.1.1) rfl (Nat.le_of_ble_eq_true rfl) rfl dL_law_862 q) (by omega) (by omega) (fun v96 σ97 => ?_)
                            refine P_l (fun hJ _ _ q => E_istore (ls2 := [some (.ref 2), some (.ref 3), some (.ref 67), some (.ref 114), some (.int s.1), some (.int v93), some (.int v96)]) dL_law_865 (by decide) rfl (E_aload_n dL_law_867 rfl (E_callV (as := []) (b := 67) (st := []) (ok_X11_thrown (σ := σ97)  hJ ) (by decide) yfX11_thrown mlL_121 imX11_thrown seX11_thrown clX11 (kd67 hJ.1.1) rfl (Nat.le_of_ble_eq_true rfl) rfl dL_law_868 (E_iload dL_law_871 rfl q)))) ?_
                            refine P_if (fun hJ _ _ h1 h2 => E_icmp_eq 878 dL_law_873 (by decide) h1 h2) ?_ ?_
                            · skip
                              refine P_l (fun hJ _ _ q => E_iload dL_law_878 rfl q) ?_
                              refine P_if (c := (if v93 = 0 then (if (lg_cmp (rL σ97 114 (0 : Int32).toNatClampNeg) (((v96 : Int32)).toInt64)) = 0 then true else false) else true) = true) (pc1 := 895) (ls1 := [some (.ref 2), some (.ref 3), some (.ref 67), some (.ref 114), some (.int s.1), some (.int v93), some (.int v96)]) (st1 := []) (pc2 := 893) (ls2 := [some (.ref 2), some (.ref 3), some (.ref 67), some (.ref 114), some (.int s.1), some (.int v93), some (.int v96)]) (st2 := []) (fun hJ _ _ hX hY => ?_) ?_ ?_
                              · skip
                                refine E_if_ne 895 dL_law_880 (by decide) (fun c_880_0 => ?_) (fun c_880_0 => ?_)
                                · skip
                                  exact hX (by simp only [if_neg c_880_0])
                                · skip
                                  refine E_aload_n dL_law_883 rfl ?_
                                  refine E_iconst (v := 0) dL_law_884 (by decide) ?_
                                  refine E_lald dL_law_885 (kd114 hJ.1.1) (inB_vp (by decide)) ?_
                                  refine E_iload dL_law_886 rfl ?_
                                  refine E_i2l dL_law_888 ?_
                                  refine E_lcmp dL_law_889 ?_
                                  refine E_if_eq 895 dL_law_890 (by decide) (fun c_890_1 => ?_) (fun c_890_1 => ?_)
                                  · skip
                                    exact hX (by simp only [if_pos c_880_0, if_pos c_890_1])
                                  · skip
                                    exact hY (by simp only [if_pos c_880_0, if_neg c_890_1]; exact Bool.false_ne_true)
                              · skip
                                refine P_l (fun hJ _ _ q => E_goto 2041 dL_law_895 (by decide) (E_iinc (v := 6) (ls2 := [some (.ref 2), some (.ref 3), some (.ref 67), some (.ref 114), some (.int (s.1 + 6)), some (.int v93), some (.int v96)]) dL_law_2041 rfl (by decide) (by decide) rfl (E_goto 23 dL_law_2044 (by decide) q))) ?_
                                refine P_less [some (.ref 2), some (.ref 3), some (.ref 67), some (.ref 114), some (.int (s.1 + 6)), none, none] (And.intro rfl (And.intro rfl (And.intro rfl (And.intro rfl (And.intro rfl trivial))))) ?_
                                refine P_room (kc2 := kN) (ks2 := ksN) (by omega) (by omega) ?_
                                exact P_back ((s.1 + 6, σ97))
                              · skip
                                refine P_l (fun hJ _ _ q => E_iconst (v := 0) dL_law_893 (by decide) q) ?_
                                exact P_inl (P_ret (fun _ _ => E_zret01 rfl (by decide) dL_law_894))
                            · skip
                              refine P_l (fun hJ _ _ q => E_iconst (v := 0) dL_law_876 (by decide) q) ?_
                              exact P_inl (P_ret (fun _ _ => E_zret01 rfl (by decide) dL_law_877))
                          · skip
                            refine P_case (fun h98 => ?_) (fun h98 => ?_)
                            · skip
                              refine P_l (fun hJ _ _ q => E_tableIn (off := 858) 898 dL_law_40 (by rw [h98]; decide) (by rw [h98]; decide) (by rw [h98]; rfl) (by decide) q) ?_
                              refine P_l (fun hJ _ _ q => E_aload_n dL_law_898 rfl q) ?_
                              refine P_call (t := fun v => some (.int v)) (st2 := fun v => .int v :: []) (kc2 := kN + 3) (ks2 := ksN + 18) (fun hJ => (ok_X10_wipe (σ := s.2)  )) (fun hJ _ _ _ _ v τ1 hM q => E_callV (as := []) (b := 3) (st := []) hM (by decide) yfX10_wipe mlL_162 imX10_wipe seX10_wipe clX10 (kd3 hJ.1.1) rfl (Nat.le_of_ble_eq_true rfl) rfl dL_law_899 q) (by omega) (by omega) (fun v99 σ100 => ?_)
                              refine P_l (fun hJ _ _ q => E_aload_n dL_law_902 rfl q) ?_
                              refine P_call (t := fun v => some (.int v)) (st2 := fun v => .int v :: [.int v99]) (kc2 := kN + 3) (ks2 := ksN + 18) (fun hJ => (ok_X11_wipe (σ := σ100)  )) (fun hJ _ _ _ _ v τ1 hM q => E_callV (as := []) (b := 67) (st := [.int v99]) hM (by decide) yfX11_wipe mlL_165 imX11_wipe seX11_wipe clX11 (kd67 hJ.1.1) rfl (Nat.le_of_ble_eq_true rfl) rfl dL_law_903 q) (by omega) (by omega) (fun v101 σ102 => ?_)
                              refine P_if (fun hJ _ _ h1 h2 => E_icmp_eq 2041 dL_law_906 (by decide) h1 h2) ?_ ?_
                              · skip
                                refine P_l (fun hJ _ _ q => E_iinc (v := 6) (ls2 := [some (.ref 2), some (.ref 3), some (.ref 67), some (.ref 114), some (.int (s.1 + 6)), none, none]) dL_law_2041 rfl (by decide) (by decide) rfl (E_goto 23 dL_law_2044 (by decide) q)) ?_
                                refine P_room (kc2 := kN) (ks2 := ksN) (by omega) (by omega) ?_
                                exact P_back ((s.1 + 6, σ102))
                              · skip
                                refine P_l (fun hJ _ _ q => E_iconst (v := 0) dL_law_909 (by decide) q) ?_
                                exact P_inl (P_ret (fun _ _ => E_zret01 rfl (by decide) dL_law_910))
                            · skip
                              refine P_case (fun h103 => ?_) (fun h103 => ?_)
                              · skip
                                refine P_l (fun hJ _ _ q => E_tableIn (off := 871) 911 dL_law_40 (by rw [h103]; decide) (by rw [h103]; decide) (by rw [h103]; rfl) (by decide) q) ?_
                                refine P_l (fun hJ _ _ q => E_aload_n dL_law_911 rfl (E_aload_n dL_law_912 rfl q)) ?_
                                refine P_callH (st2 := fun v => .int v :: []) (kc2 := kN + 2) (ks2 := ksN + 12) (fun hJ => (ok_L_play (σ := s.2) )) (fun hJ _ _ _ _ v τ1 hM q => E_callSH (as := [.ref 3, .ref 114]) (st := []) hM (by decide) yfL_play mlL_166 stL_play rfl (Nat.le_of_ble_eq_true rfl) rfl dL_law_913 q) (by omega) (by omega) (fun v104 σ105 => ?_)
                                refine P_l (fun hJ _ _ q => E_istore (ls2 := [some (.ref 2), some (.ref 3), some (.ref 67), some (.ref 114), some (.int s.1), some (.int v104), none]) dL_law_916 (by decide) rfl (E_aload_n dL_law_918 rfl q)) ?_
                                refine P_call (t := fun v => some (.int v)) (st2 := fun v => .int v :: []) (kc2 := kN + 2) (ks2 := ksN + 12) (fun hJ => (ok_X11_play (σ := σ105)  )) (fun hJ _ _ _ _ v τ1 hM q => E_callV (as := []) (b := 67) (st := []) hM (by decide) yfX11_play mlL_168 imX11_play seX11_play clX11 (kd67 hJ.1.1) rfl (Nat.le_of_ble_eq_true rfl) rfl dL_law_919 q) (by omega) (by omega) (fun v106 σ107 => ?_)
                                refine P_l (fun hJ _ _ q => E_istore (ls2 := [some (.ref 2), some (.ref 3), some (.ref 67), some (.ref 114), some (.int s.1), some (.int v104), some (.int v106)]) dL_law_922 (by decide) rfl (E_aload_n dL_law_924 rfl (E_callV (as := []) (b := 67) (st := []) (ok_X11_thrown (σ := σ107)  hJ ) (by decide) yfX11_thrown mlL_121 imX11_thrown seX11_thrown clX11 (kd67 hJ.1.1) rfl (Nat.le_of_ble_eq_true rfl) rfl dL_law_925 (E_iload dL_law_928 rfl q)))) ?_
                                refine P_if (fun hJ _ _ h1 h2 => E_icmp_eq 935 dL_law_930 (by decide) h1 h2) ?_ ?_
                                · skip
                                  refine P_l (fun hJ _ _ q => E_iload dL_law_935 rfl q) ?_
                                  refine P_if (c := (if v104 = 0 then (if (lg_cmp (rL σ107 114 (0 : Int32).toNatClampNeg) (((v106 : Int32)).toInt64)) = 0 then true else false) else true) = true) (pc1 := 952) (ls1 := [some (.ref 2), some (.ref 3), some (.ref 67), some (.ref 114), some (.int s.1), some (.int v104), some (.int v106)]) (st1 := []) (pc2 := 950) (ls2 := [some (.ref 2), some (.ref 3), some (.ref 67), some (.ref 114), some (.int s.1), some (.int v104), some (.int v106)]) (st2 := []) (fun hJ _ _ hX hY => ?_) ?_ ?_
                                  · skip
                                    refine E_if_ne 952 dL_law_937 (by decide) (fun c_937_0 => ?_) (fun c_937_0 => ?_)
                                    · skip
                                      exact hX (by simp only [if_neg c_937_0])
                                    · skip
                                      refine E_aload_n dL_law_940 rfl ?_
                                      refine E_iconst (v := 0) dL_law_941 (by decide) ?_
                                      refine E_lald dL_law_942 (kd114 hJ.1.1) (inB_vp (by decide)) ?_
                                      refine E_iload dL_law_943 rfl ?_
                                      refine E_i2l dL_law_945 ?_
                                      refine E_lcmp dL_law_946 ?_
                                      refine E_if_eq 952 dL_law_947 (by decide) (fun c_947_1 => ?_) (fun c_947_1 => ?_)
                                      · skip
                                        exact hX (by simp only [if_pos c_937_0, if_pos c_947_1])
                                      · skip
                                        exact hY (by simp only [if_pos c_937_0, if_neg c_947_1]; exact Bool.false_ne_true)
                                  · skip
                                    refine P_l (fun hJ _ _ q => E_goto 2041 dL_law_952 (by decide) (E_iinc (v := 6) (ls2 := [some (.ref 2), some (.ref 3), some (.ref 67), some (.ref 114), some (.int (s.1 + 6)), some (.int v104), some (.int v106)]) dL_law_2041 rfl (by decide) (by decide) rfl (E_goto 23 dL_law_2044 (by decide) q))) ?_
                                    refine P_less [some (.ref 2), some (.ref 3), some (.ref 67), some (.ref 114), some (.int (s.1 + 6)), none, none] (And.intro rfl (And.intro rfl (And.intro rfl (And.intro rfl (And.intro rfl trivial))))) ?_
                                    refine P_room (kc2 := kN) (ks2 := ksN) (by omega) (by omega) ?_
                                    exact P_back ((s.1 + 6, σ107))
                                  · skip
                                    refine P_l (fun hJ _ _ q => E_iconst (v := 0) dL_law_950 (by decide) q) ?_
                                    exact P_inl (P_ret (fun _ _ => E_zret01 rfl (by decide) dL_law_951))
                                · skip
                                  refine P_l (fun hJ _ _ q => E_iconst (v := 0) dL_law_933 (by decide) q) ?_
                                  exact P_inl (P_ret (fun _ _ => E_zret01 rfl (by decide) dL_law_934))
                              · skip
                                refine P_case (fun h108 => ?_) (fun h108 => ?_)
                                · skip
                                  refine P_l (fun hJ _ _ q => E_tableIn (off := 915) 955 dL_law_40 (by rw [h108]; decide) (by rw [h108]; decide) (by rw [h108]; rfl) (by decide) q) ?_
                                  refine P_l (fun hJ _ _ q => E_aload_n dL_law_955 rfl q) ?_
                                  refine P_call (t := fun v => some (.int v)) (st2 := fun v => .int v :: []) (kc2 := kN + 2) (ks2 := ksN + 12) (fun hJ => (ok_X10_isWhole (σ := s.2)  )) (fun hJ _ _ _ _ v τ1 hM q => E_callV (as := []) (b := 3) (st := []) hM (by decide) yfX10_isWhole mlL_169 imX10_isWhole seX10_isWhole clX10 (kd3 hJ.1.1) rfl (Nat.le_of_ble_eq_true rfl) rfl dL_law_956 q) (by omega) (by omega) (fun v109 σ110 => ?_)
                                  refine P_l (fun hJ _ _ q => E_aload_n dL_law_959 rfl q) ?_
                                  refine P_call (t := fun v => some (.int v)) (st2 := fun v => .int v :: [.int v109]) (kc2 := kN + 2) (ks2 := ksN + 12) (fun hJ => (ok_X11_isWhole (σ := σ110)  )) (fun hJ _ _ _ _ v τ1 hM q => E_callV (as := []) (b := 67) (st := [.int v109]) hM (by decide) yfX11_isWhole mlL_173 imX11_isWhole seX11_isWhole clX11 (kd67 hJ.1.1) rfl (Nat.le_of_ble_eq_true rfl) rfl dL_law_960 q) (by omega) (by omega) (fun v111 σ112 => ?_)
                                  refine P_if (fun hJ _ _ h1 h2 => E_icmp_eq 2041 dL_law_963 (by decide) h1 h2) ?_ ?_
                                  · skip
                                    refine P_l (fun hJ _ _ q => E_iinc (v := 6) (ls2 := [some (.ref 2), some (.ref 3), some (.ref 67), some (.ref 114), some (.int (s.1 + 6)), none, none]) dL_law_2041 rfl (by decide) (by decide) rfl (E_goto 23 dL_law_2044 (by decide) q)) ?_
                                    refine P_room (kc2 := kN) (ks2 := ksN) (by omega) (by omega) ?_
                                    exact P_back ((s.1 + 6, σ112))
                                  · skip
                                    refine P_l (fun hJ _ _ q => E_iconst (v := 0) dL_law_966 (by decide) q) ?_
                                    exact P_inl (P_ret (fun _ _ => E_zret01 rfl (by decide) dL_law_967))
                                · skip
                                  refine P_case (fun h113 => ?_) (fun h113 => ?_)
                                  · skip
                                    refine P_l (fun hJ _ _ q => E_tableIn (off := 928) 968 dL_law_40 (by rw [h113]; decide) (by rw [h113]; decide) (by rw [h113]; rfl) (by decide) q) ?_
                                    refine P_l (fun hJ _ _ q => E_aload_n dL_law_968 rfl (E_aload_n dL_law_969 rfl (E_iload dL_law_970 rfl (E_iconst (v := 1) dL_law_972 (by decide) (E_iadd dL_law_973 q))))) ?_
                                    refine P_g (fun g114 => ?_)
                                    refine P_l (fun hJ _ _ q => E_iald dL_law_974 (Sy_two hJ.1) (inB_vp g114) (E_aload_n dL_law_975 rfl q)) ?_
                                    refine P_callH (st2 := fun v => .int v :: []) (kc2 := kN + 3) (ks2 := ksN + 18) (fun hJ => (ok_L_cuts (σ := s.2) (p1 := rI s.2 2 (s.1 + 1 : Int32).toNatClampNeg))) (fun hJ _ _ _ _ v τ1 hM q => E_callSH (as := [.ref 3, .int (rI s.2 2 (s.1 + 1 : Int32).toNatClampNeg), .ref 114]) (st := []) hM (by decide) yfL_cuts mlL_174 stL_cuts rfl (Nat.le_of_ble_eq_true rfl) rfl dL_law_976 q) (by omega) (by omega) (fun v115 σ116 => ?_)
                                    refine P_l (fun hJ _ _ q => E_istore (ls2 := [some (.ref 2), some (.ref 3), some (.ref 67), some (.ref 114), some (.int s.1), some (.int v115), none]) dL_law_979 (by decide) rfl (E_aload_n dL_law_981 rfl (E_aload_n dL_law_982 rfl (E_iload dL_law_983 rfl (E_iconst (v := 1) dL_law_985 (by decide) (E_iadd dL_law_986 q)))))) ?_
                                    refine P_g (fun g117 => ?_)
                                    refine P_l (fun hJ _ _ q => E_iald dL_law_987 (Sy_two hJ.1) (inB_vp g117) q) ?_
                                    refine P_call (t := fun v => some (.int v)) (st2 := fun v => .int v :: []) (kc2 := kN + 3) (ks2 := ksN + 18) (fun hJ => (ok_X11_cuts (σ := σ116) (p1 := rI σ116 2 (s.1 + 1 : Int32).toNatClampNeg) )) (fun hJ _ _ _ _ v τ1 hM q => E_callV (as := [.int (rI σ116 2 (s.1 + 1 : Int32).toNatClampNeg)]) (b := 67) (st := []) hM (by decide) yfX11_cuts mlL_176 imX11_cuts seX11_cuts clX11 (kd67 hJ.1.1) rfl (Nat.le_of_ble_eq_true rfl) rfl dL_law_988 q) (by omega) (by omega) (fun v118 σ119 => ?_)
                                    refine P_l (fun hJ _ _ q => E_istore (ls2 := [some (.ref 2), some (.ref 3), some (.ref 67), some (.ref 114), some (.int s.1), some (.int v115), some (.int v118)]) dL_law_991 (by decide) rfl (E_aload_n dL_law_993 rfl (E_callV (as := []) (b := 67) (st := []) (ok_X11_thrown (σ := σ119)  hJ ) (by decide) yfX11_thrown mlL_121 imX11_thrown seX11_thrown clX11 (kd67 hJ.1.1) rfl (Nat.le_of_ble_eq_true rfl) rfl dL_law_994 (E_iload dL_law_997 rfl q)))) ?_
                                    refine P_if (fun hJ _ _ h1 h2 => E_icmp_eq 1004 dL_law_999 (by decide) h1 h2) ?_ ?_
                                    · skip
                                      refine P_l (fun hJ _ _ q => E_iload dL_law_1004 rfl q) ?_
                                      refine P_if (c := (if v115 = 0 then (if (lg_cmp (rL σ119 114 (0 : Int32).toNatClampNeg) (((v118 : Int32)).toInt64)) = 0 then true else false) else true) = true) (pc1 := 1021) (ls1 := [some (.ref 2), some (.ref 3), some (.ref 67), some (.ref 114), some (.int s.1), some (.int v115), some (.int v118)]) (st1 := []) (pc2 := 1019) (ls2 := [some (.ref 2), some (.ref 3), some (.ref 67), some (.ref 114), some (.int s.1), some (.int v115), some (.int v118)]) (st2 := []) (fun hJ _ _ hX hY => ?_) ?_ ?_
                                      · skip
                                        refine E_if_ne 1021 dL_law_1006 (by decide) (fun c_1006_0 => ?_) (fun c_1006_0 => ?_)
                                        · skip
                                          exact hX (by simp only [if_neg c_1006_0])
                                        · skip
                                          refine E_aload_n dL_law_1009 rfl ?_
                                          refine E_iconst (v := 0) dL_law_1010 (by decide) ?_
                                          refine E_lald dL_law_1011 (kd114 hJ.1.1) (inB_vp (by decide)) ?_
                                          refine E_iload dL_law_1012 rfl ?_
                                          refine E_i2l dL_law_1014 ?_
                                          refine E_lcmp dL_law_1015 ?_
                                          refine E_if_eq 1021 dL_law_1016 (by decide) (fun c_1016_1 => ?_) (fun c_1016_1 => ?_)
                                          · skip
                                            exact hX (by simp only [if_pos c_1006_0, if_pos c_1016_1])
                                          · skip
                                            exact hY (by simp only [if_pos c_1006_0, if_neg c_1016_1]; exact Bool.false_ne_true)
                                      · skip
                                        refine P_l (fun hJ _ _ q => E_goto 2041 dL_law_1021 (by decide) (E_iinc (v := 6) (ls2 := [some (.ref 2), some (.ref 3), some (.ref 67), some (.ref 114), some (.int (s.1 + 6)), some (.int v115), some (.int v118)]) dL_law_2041 rfl (by decide) (by decide) rfl (E_goto 23 dL_law_2044 (by decide) q))) ?_
                                        refine P_less [some (.ref 2), some (.ref 3), some (.ref 67), some (.ref 114), some (.int (s.1 + 6)), none, none] (And.intro rfl (And.intro rfl (And.intro rfl (And.intro rfl (And.intro rfl trivial))))) ?_
                                        refine P_room (kc2 := kN) (ks2 := ksN) (by omega) (by omega) ?_
                                        exact P_back ((s.1 + 6, σ119))
                                      · skip
                                        refine P_l (fun hJ _ _ q => E_iconst (v := 0) dL_law_1019 (by decide) q) ?_
                                        exact P_inl (P_ret (fun _ _ => E_zret01 rfl (by decide) dL_law_1020))
                                    · skip
                                      refine P_l (fun hJ _ _ q => E_iconst (v := 0) dL_law_1002 (by decide) q) ?_
                                      exact P_inl (P_ret (fun _ _ => E_zret01 rfl (by decide) dL_law_1003))
                                  · skip
                                    refine P_case (fun h120 => ?_) (fun h120 => ?_)
                                    · skip
                                      refine P_l (fun hJ _ _ q => E_tableIn (off := 984) 1024 dL_law_40 (by rw [h120]; decide) (by rw [h120]; decide) (by rw [h120]; rfl) (by decide) q) ?_
                                      refine P_l (fun hJ _ _ q => E_aload_n dL_law_1024 rfl (E_aload_n dL_law_1025 rfl q)) ?_
                                      refine P_callH (st2 := fun v => .int v :: []) (kc2 := kN + 3) (ks2 := ksN + 18) (fun hJ => (ok_L_cutsAnew (σ := s.2) )) (fun hJ _ _ _ _ v τ1 hM q => E_callSH (as := [.ref 3, .ref 114]) (st := []) hM (by decide) yfL_cutsAnew mlL_177 stL_cutsAnew rfl (Nat.le_of_ble_eq_true rfl) rfl dL_law_1026 q) (by omega) (by omega) (fun v121 σ122 => ?_)
                                      refine P_l (fun hJ _ _ q => E_istore (ls2 := [some (.ref 2), some (.ref 3), some (.ref 67), some (.ref 114), some (.int s.1), some (.int v121), none]) dL_law_1029 (by decide) rfl (E_aload_n dL_law_1031 rfl q)) ?_
                                      refine P_call (t := fun v => some (.int v)) (st2 := fun v => .int v :: []) (kc2 := kN + 3) (ks2 := ksN + 18) (fun hJ => (ok_X11_cutsAnew (σ := σ122)  )) (fun hJ _ _ _ _ v τ1 hM q => E_callV (as := []) (b := 67) (st := []) hM (by decide) yfX11_cutsAnew mlL_179 imX11_cutsAnew seX11_cutsAnew clX11 (kd67 hJ.1.1) rfl (Nat.le_of_ble_eq_true rfl) rfl dL_law_1032 q) (by omega) (by omega) (fun v123 σ124 => ?_)
                                      refine P_l (fun hJ _ _ q => E_istore (ls2 := [some (.ref 2), some (.ref 3), some (.ref 67), some (.ref 114), some (.int s.1), some (.int v121), some (.int v123)]) dL_law_1035 (by decide) rfl (E_aload_n dL_law_1037 rfl (E_callV (as := []) (b := 67) (st := []) (ok_X11_thrown (σ := σ124)  hJ ) (by decide) yfX11_thrown mlL_121 imX11_thrown seX11_thrown clX11 (kd67 hJ.1.1) rfl (Nat.le_of_ble_eq_true rfl) rfl dL_law_1038 (E_iload dL_law_1041 rfl q)))) ?_
                                      refine P_if (fun hJ _ _ h1 h2 => E_icmp_eq 1048 dL_law_1043 (by decide) h1 h2) ?_ ?_
                                      · skip
                                        refine P_l (fun hJ _ _ q => E_iload dL_law_1048 rfl q) ?_
                                        refine P_if (c := (if v121 = 0 then (if (lg_cmp (rL σ124 114 (0 : Int32).toNatClampNeg) (((v123 : Int32)).toInt64)) = 0 then true else false) else true) = true) (pc1 := 1065) (ls1 := [some (.ref 2), some (.ref 3), some (.ref 67), some (.ref 114), some (.int s.1), some (.int v121), some (.int v123)]) (st1 := []) (pc2 := 1063) (ls2 := [some (.ref 2), some (.ref 3), some (.ref 67), some (.ref 114), some (.int s.1), some (.int v121), some (.int v123)]) (st2 := []) (fun hJ _ _ hX hY => ?_) ?_ ?_
                                        · skip
                                          refine E_if_ne 1065 dL_law_1050 (by decide) (fun c_1050_0 => ?_) (fun c_1050_0 => ?_)
                                          · skip
                                            exact hX (by simp only [if_neg c_1050_0])
                                          · skip
                                            refine E_aload_n dL_law_1053 rfl ?_
                                            refine E_iconst (v := 0) dL_law_1054 (by decide) ?_
                                            refine E_lald dL_law_1055 (kd114 hJ.1.1) (inB_vp (by decide)) ?_
                                            refine E_iload dL_law_1056 rfl ?_
                                            refine E_i2l dL_law_1058 ?_
                                            refine E_lcmp dL_law_1059 ?_
                                            refine E_if_eq 1065 dL_law_1060 (by decide) (fun c_1060_1 => ?_) (fun c_1060_1 => ?_)
                                            · skip
                                              exact hX (by simp only [if_pos c_1050_0, if_pos c_1060_1])
                                            · skip
                                              exact hY (by simp only [if_pos c_1050_0, if_neg c_1060_1]; exact Bool.false_ne_true)
                                        · skip
                                          refine P_l (fun hJ _ _ q => E_goto 2041 dL_law_1065 (by decide) (E_iinc (v := 6) (ls2 := [some (.ref 2), some (.ref 3), some (.ref 67), some (.ref 114), some (.int (s.1 + 6)), some (.int v121), some (.int v123)]) dL_law_2041 rfl (by decide) (by decide) rfl (E_goto 23 dL_law_2044 (by decide) q))) ?_
                                          refine P_less [some (.ref 2), some (.ref 3), some (.ref 67), some (.ref 114), some (.int (s.1 + 6)), none, none] (And.intro rfl (And.intro rfl (And.intro rfl (And.intro rfl (And.intro rfl trivial))))) ?_
                                          refine P_room (kc2 := kN) (ks2 := ksN) (by omega) (by omega) ?_
                                          exact P_back ((s.1 + 6, σ124))
                                        · skip
                                          refine P_l (fun hJ _ _ q => E_iconst (v := 0) dL_law_1063 (by decide) q) ?_
                                          exact P_inl (P_ret (fun _ _ => E_zret01 rfl (by decide) dL_law_1064))
                                      · skip
                                        refine P_l (fun hJ _ _ q => E_iconst (v := 0) dL_law_1046 (by decide) q) ?_
                                        exact P_inl (P_ret (fun _ _ => E_zret01 rfl (by decide) dL_law_1047))
                                    · skip
                                      refine P_case (fun h125 => ?_) (fun h125 => ?_)
                                      · skip
                                        refine P_l (fun hJ _ _ q => E_tableIn (off := 1028) 1068 dL_law_40 (by rw [h125]; decide) (by rw [h125]; decide) (by rw [h125]; rfl) (by decide) q) ?_
                                        refine P_l (fun hJ _ _ q => E_aload_n dL_law_1068 rfl (E_aload_n dL_law_1069 rfl (E_iload dL_law_1070 rfl (E_iconst (v := 1) dL_law_1072 (by decide) (E_iadd dL_law_1073 q))))) ?_
                                        refine P_g (fun g126 => ?_)
                                        refine P_l (fun hJ _ _ q => E_iald dL_law_1074 (Sy_two hJ.1) (inB_vp g126) (E_aload_n dL_law_1075 rfl q)) ?_
                                        refine P_callH (st2 := fun v => .int v :: []) (kc2 := kN + 3) (ks2 := ksN + 18) (fun hJ => (ok_L_states (σ := s.2) (p1 := rI s.2 2 (s.1 + 1 : Int32).toNatClampNeg))) (fun hJ _ _ _ _ v τ1 hM q => E_callSH (as := [.ref 3, .int (rI s.2 2 (s.1 + 1 : Int32).toNatClampNeg), .ref 114]) (st := []) hM (by decide) yfL_states mlL_180 stL_states rfl (Nat.le_of_ble_eq_true rfl) rfl dL_law_1076 q) (by omega) (by omega) (fun v127 σ128 => ?_)
                                        refine P_l (fun hJ _ _ q => E_istore (ls2 := [some (.ref 2), some (.ref 3), some (.ref 67), some (.ref 114), some (.int s.1), some (.int v127), none]) dL_law_1079 (by decide) rfl (E_aload_n dL_law_1081 rfl (E_aload_n dL_law_1082 rfl (E_iload dL_law_1083 rfl (E_iconst (v := 1) dL_law_1085 (by decide) (E_iadd dL_law_1086 q)))))) ?_
                                        refine P_g (fun g129 => ?_)
                                        refine P_l (fun hJ _ _ q => E_iald dL_law_1087 (Sy_two hJ.1) (inB_vp g129) q) ?_
                                        refine P_call (t := fun v => some (.int v)) (st2 := fun v => .int v :: []) (kc2 := kN + 3) (ks2 := ksN + 18) (fun hJ => (ok_X11_states (σ := σ128) (p1 := rI σ128 2 (s.1 + 1 : Int32).toNatClampNeg) )) (fun hJ _ _ _ _ v τ1 hM q => E_callV (as := [.int (rI σ128 2 (s.1 + 1 : Int32).toNatClampNeg)]) (b := 67) (st := []) hM (by decide) yfX11_states mlL_182 imX11_states seX11_states clX11 (kd67 hJ.1.1) rfl (Nat.le_of_ble_eq_true rfl) rfl dL_law_1088 q) (by omega) (by omega) (fun v130 σ131 => ?_)
                                        refine P_l (fun hJ _ _ q => E_istore (ls2 := [some (.ref 2), some (.ref 3), some (.ref 67), some (.ref 114), some (.int s.1), some (.int v127), some (.int v130)]) dL_law_1091 (by decide) rfl (E_aload_n dL_law_1093 rfl (E_callV (as := []) (b := 67) (st := []) (ok_X11_thrown (σ := σ131)  hJ ) (by decide) yfX11_thrown mlL_121 imX11_thrown seX11_thrown clX11 (kd67 hJ.1.1) rfl (Nat.le_of_ble_eq_true rfl) rfl dL_law_1094 (E_iload dL_law_1097 rfl q)))) ?_
                                        refine P_if (fun hJ _ _ h1 h2 => E_icmp_eq 1104 dL_law_1099 (by decide) h1 h2) ?_ ?_
                                        · skip
                                          refine P_l (fun hJ _ _ q => E_iload dL_law_1104 rfl q) ?_
                                          refine P_if (c := (if v127 = 0 then (if (lg_cmp (rL σ131 114 (0 : Int32).toNatClampNeg) (((v130 : Int32)).toInt64)) = 0 then true else false) else true) = true) (pc1 := 1121) (ls1 := [some (.ref 2), some (.ref 3), some (.ref 67), some (.ref 114), some (.int s.1), some (.int v127), some (.int v130)]) (st1 := []) (pc2 := 1119) (ls2 := [some (.ref 2), some (.ref 3), some (.ref 67), some (.ref 114), some (.int s.1), some (.int v127), some (.int v130)]) (st2 := []) (fun hJ _ _ hX hY => ?_) ?_ ?_
                                          · skip
                                            refine E_if_ne 1121 dL_law_1106 (by decide) (fun c_1106_0 => ?_) (fun c_1106_0 => ?_)
                                            · skip
                                              exact hX (by simp only [if_neg c_1106_0])
                                            · skip
                                              refine E_aload_n dL_law_1109 rfl ?_
                                              refine E_iconst (v := 0) dL_law_1110 (by decide) ?_
                                              refine E_lald dL_law_1111 (kd114 hJ.1.1) (inB_vp (by decide)) ?_
                                              refine E_iload dL_law_1112 rfl ?_
                                              refine E_i2l dL_law_1114 ?_
                                              refine E_lcmp dL_law_1115 ?_
                                              refine E_if_eq 1121 dL_law_1116 (by decide) (fun c_1116_1 => ?_) (fun c_1116_1 => ?_)
                                              · skip
                                                exact hX (by simp only [if_pos c_1106_0, if_pos c_1116_1])
                                              · skip
                                                exact hY (by simp only [if_pos c_1106_0, if_neg c_1116_1]; exact Bool.false_ne_true)
                                          · skip
                                            refine P_l (fun hJ _ _ q => E_goto 2041 dL_law_1121 (by decide) (E_iinc (v := 6) (ls2 := [some (.ref 2), some (.ref 3), some (.ref 67), some (.ref 114), some (.int (s.1 + 6)), some (.int v127), some (.int v130)]) dL_law_2041 rfl (by decide) (by decide) rfl (E_goto 23 dL_law_2044 (by decide) q))) ?_
                                            refine P_less [some (.ref 2), some (.ref 3), some (.ref 67), some (.ref 114), some (.int (s.1 + 6)), none, none] (And.intro rfl (And.intro rfl (And.intro rfl (And.intro rfl (And.intro rfl trivial))))) ?_
                                            refine P_room (kc2 := kN) (ks2 := ksN) (by omega) (by omega) ?_
                                            exact P_back ((s.1 + 6, σ131))
                                          · skip
                                            refine P_l (fun hJ _ _ q => E_iconst (v := 0) dL_law_1119 (by decide) q) ?_
                                            exact P_inl (P_ret (fun _ _ => E_zret01 rfl (by decide) dL_law_1120))
                                        · skip
                                          refine P_l (fun hJ _ _ q => E_iconst (v := 0) dL_law_1102 (by decide) q) ?_
                                          exact P_inl (P_ret (fun _ _ => E_zret01 rfl (by decide) dL_law_1103))
                                      · skip
                                        refine P_case (fun h132 => ?_) (fun h132 => ?_)
                                        · skip
                                          refine P_l (fun hJ _ _ q => E_tableIn (off := 1084) 1124 dL_law_40 (by rw [h132]; decide) (by rw [h132]; decide) (by rw [h132]; rfl) (by decide) q) ?_
                                          refine P_l (fun hJ _ _ q => E_aload_n dL_law_1124 rfl (E_aload_n dL_law_1125 rfl (E_iload dL_law_1126 rfl (E_iconst (v := 1) dL_law_1128 (by decide) (E_iadd dL_law_1129 q))))) ?_
                                          refine P_g (fun g133 => ?_)
                                          refine P_l (fun hJ _ _ q => E_iald dL_law_1130 (Sy_two hJ.1) (inB_vp g133) (E_aload_n dL_law_1131 rfl (E_iload dL_law_1132 rfl (E_iconst (v := 2) dL_law_1134 (by decide) (E_iadd dL_law_1135 q))))) ?_
                                          refine P_g (fun g134 => ?_)
                                          refine P_l (fun hJ _ _ q => E_iald dL_law_1136 (Sy_two hJ.1) (inB_vp g134) (E_aload_n dL_law_1137 rfl q)) ?_
                                          refine P_callH (st2 := fun v => .int v :: []) (kc2 := kN + 2) (ks2 := ksN + 12) (fun hJ => (ok_L_best (σ := s.2) (p1 := rI s.2 2 (s.1 + 1 : Int32).toNatClampNeg) (p2 := rI s.2 2 (s.1 + 2 : Int32).toNatClampNeg))) (fun hJ _ _ _ _ v τ1 hM q => E_callSH (as := [.ref 3, .int (rI s.2 2 (s.1 + 1 : Int32).toNatClampNeg), .int (rI s.2 2 (s.1 + 2 : Int32).toNatClampNeg), .ref 114]) (st := []) hM (by decide) yfL_best mlL_183 stL_best rfl (Nat.le_of_ble_eq_true rfl) rfl dL_law_1138 q) (by omega) (by omega) (fun v135 σ136 => ?_)
                                          refine P_l (fun hJ _ _ q => E_istore (ls2 := [some (.ref 2), some (.ref 3), some (.ref 67), some (.ref 114), some (.int s.1), some (.int v135), none]) dL_law_1141 (by decide) rfl (E_aload_n dL_law_1143 rfl (E_aload_n dL_law_1144 rfl (E_iload dL_law_1145 rfl (E_iconst (v := 1) dL_law_1147 (by decide) (E_iadd dL_law_1148 q)))))) ?_
                                          refine P_g (fun g137 => ?_)
                                          refine P_l (fun hJ _ _ q => E_iald dL_law_1149 (Sy_two hJ.1) (inB_vp g137) (E_aload_n dL_law_1150 rfl (E_iload dL_law_1151 rfl (E_iconst (v := 2) dL_law_1153 (by decide) (E_iadd dL_law_1154 q))))) ?_
                                          refine P_g (fun g138 => ?_)
                                          refine P_l (fun hJ _ _ q => E_iald dL_law_1155 (Sy_two hJ.1) (inB_vp g138) q) ?_
                                          refine P_call (t := fun v => some (.int v)) (st2 := fun v => .int v :: []) (kc2 := kN + 2) (ks2 := ksN + 12) (fun hJ => (ok_X11_best (σ := σ136) (p1 := rI σ136 2 (s.1 + 1 : Int32).toNatClampNeg) (p2 := rI σ136 2 (s.1 + 2 : Int32).toNatClampNeg) )) (fun hJ _ _ _ _ v τ1 hM q => E_callV (as := [.int (rI σ136 2 (s.1 + 1 : Int32).toNatClampNeg), .int (rI σ136 2 (s.1 + 2 : Int32).toNatClampNeg)]) (b := 67) (st := []) hM (by decide) yfX11_best mlL_185 imX11_best seX11_best clX11 (kd67 hJ.1.1) rfl (Nat.le_of_ble_eq_true rfl) rfl dL_law_1156 q) (by omega) (by omega) (fun v139 σ140 => ?_)
                                          refine P_l (fun hJ _ _ q => E_istore (ls2 := [some (.ref 2), some (.ref 3), some (.ref 67), some (.ref 114), some (.int s.1), some (.int v135), some (.int v139)]) dL_law_1159 (by decide) rfl (E_aload_n dL_law_1161 rfl (E_callV (as := []) (b := 67) (st := []) (ok_X11_thrown (σ := σ140)  hJ ) (by decide) yfX11_thrown mlL_121 imX11_thrown seX11_thrown clX11 (kd67 hJ.1.1) rfl (Nat.le_of_ble_eq_true rfl) rfl dL_law_1162 (E_iload dL_law_1165 rfl q)))) ?_
                                          refine P_if (fun hJ _ _ h1 h2 => E_icmp_eq 1172 dL_law_1167 (by decide) h1 h2) ?_ ?_
                                          · skip
                                            refine P_l (fun hJ _ _ q => E_iload dL_law_1172 rfl q) ?_
                                            refine P_if (c := (if v135 = 0 then (if (lg_cmp (rL σ140 114 (0 : Int32).toNatClampNeg) (((v139 : Int32)).toInt64)) = 0 then true else false) else true) = true) (pc1 := 1189) (ls1 := [some (.ref 2), some (.ref 3), some (.ref 67), some (.ref 114), some (.int s.1), some (.int v135), some (.int v139)]) (st1 := []) (pc2 := 1187) (ls2 := [some (.ref 2), some (.ref 3), some (.ref 67), some (.ref 114), some (.int s.1), some (.int v135), some (.int v139)]) (st2 := []) (fun hJ _ _ hX hY => ?_) ?_ ?_
                                            · skip
                                              refine E_if_ne 1189 dL_law_1174 (by decide) (fun c_1174_0 => ?_) (fun c_1174_0 => ?_)
                                              · skip
                                                exact hX (by simp only [if_neg c_1174_0])
                                              · skip
                                                refine E_aload_n dL_law_1177 rfl ?_
                                                refine E_iconst (v := 0) dL_law_1178 (by decide) ?_
                                                refine E_lald dL_law_1179 (kd114 hJ.1.1) (inB_vp (by decide)) ?_
                                                refine E_iload dL_law_1180 rfl ?_
                                                refine E_i2l dL_law_1182 ?_
                                                refine E_lcmp dL_law_1183 ?_
                                                refine E_if_eq 1189 dL_law_1184 (by decide) (fun c_1184_1 => ?_) (fun c_1184_1 => ?_)
                                                · skip
                                                  exact hX (by simp only [if_pos c_1174_0, if_pos c_1184_1])
                                                · skip
                                                  exact hY (by simp only [if_pos c_1174_0, if_neg c_1184_1]; exact Bool.false_ne_true)
                                            · skip
                                              refine P_l (fun hJ _ _ q => E_goto 2041 dL_law_1189 (by decide) (E_iinc (v := 6) (ls2 := [some (.ref 2), some (.ref 3), some (.ref 67), some (.ref 114), some (.int (s.1 + 6)), some (.int v135), some (.int v139)]) dL_law_2041 rfl (by decide) (by decide) rfl (E_goto 23 dL_law_2044 (by decide) q))) ?_
                                              refine P_less [some (.ref 2), some (.ref 3), some (.ref 67), some (.ref 114), some (.int (s.1 + 6)), none, none] (And.intro rfl (And.intro rfl (And.intro rfl (And.intro rfl (And.intro rfl trivial))))) ?_
                                              refine P_room (kc2 := kN) (ks2 := ksN) (by omega) (by omega) ?_
                                              exact P_back ((s.1 + 6, σ140))
                                            · skip
                                              refine P_l (fun hJ _ _ q => E_iconst (v := 0) dL_law_1187 (by decide) q) ?_
                                              exact P_inl (P_ret (fun _ _ => E_zret01 rfl (by decide) dL_law_1188))
                                          · skip
                                            refine P_l (fun hJ _ _ q => E_iconst (v := 0) dL_law_1170 (by decide) q) ?_
                                            exact P_inl (P_ret (fun _ _ => E_zret01 rfl (by decide) dL_law_1171))
                                        · skip
                                          refine P_case (fun h141 => ?_) (fun h141 => ?_)
                                          · skip
                                            refine P_l (fun hJ _ _ q => E_tableIn (off := 1152) 1192 dL_law_40 (by rw [h141]; decide) (by rw [h141]; decide) (by rw [h141]; rfl) (by decide) q) ?_
                                            refine P_l (fun hJ _ _ q => E_aload_n dL_law_1192 rfl (E_aload_n dL_law_1193 rfl (E_iload dL_law_1194 rfl (E_iconst (v := 1) dL_law_1196 (by decide) (E_iadd dL_law_1197 q))))) ?_
                                            refine P_g (fun g142 => ?_)
                                            refine P_l (fun hJ _ _ q => E_iald dL_law_1198 (Sy_two hJ.1) (inB_vp g142) (E_aload_n dL_law_1199 rfl (E_iload dL_law_1200 rfl (E_iconst (v := 2) dL_law_1202 (by decide) (E_iadd dL_law_1203 q))))) ?_
                                            refine P_g (fun g143 => ?_)
                                            refine P_l (fun hJ _ _ q => E_iald dL_law_1204 (Sy_two hJ.1) (inB_vp g143) (E_aload_n dL_law_1205 rfl q)) ?_
                                            refine P_callH (st2 := fun v => .int v :: []) (kc2 := kN + 2) (ks2 := ksN + 12) (fun hJ => (ok_L_plan (σ := s.2) (p1 := rI s.2 2 (s.1 + 1 : Int32).toNatClampNeg) (p2 := rI s.2 2 (s.1 + 2 : Int32).toNatClampNeg))) (fun hJ _ _ _ _ v τ1 hM q => E_callSH (as := [.ref 3, .int (rI s.2 2 (s.1 + 1 : Int32).toNatClampNeg), .int (rI s.2 2 (s.1 + 2 : Int32).toNatClampNeg), .ref 114]) (st := []) hM (by decide) yfL_plan mlL_186 stL_plan rfl (Nat.le_of_ble_eq_true rfl) rfl dL_law_1206 q) (by omega) (by omega) (fun v144 σ145 => ?_)
                                            refine P_l (fun hJ _ _ q => E_istore (ls2 := [some (.ref 2), some (.ref 3), some (.ref 67), some (.ref 114), some (.int s.1), some (.int v144), none]) dL_law_1209 (by decide) rfl (E_aload_n dL_law_1211 rfl (E_aload_n dL_law_1212 rfl (E_iload dL_law_1213 rfl (E_iconst (v := 1) dL_law_1215 (by decide) (E_iadd dL_law_1216 q)))))) ?_
                                            refine P_g (fun g146 => ?_)
                                            refine P_l (fun hJ _ _ q => E_iald dL_law_1217 (Sy_two hJ.1) (inB_vp g146) (E_aload_n dL_law_1218 rfl (E_iload dL_law_1219 rfl (E_iconst (v := 2) dL_law_1221 (by decide) (E_iadd dL_law_1222 q))))) ?_
                                            refine P_g (fun g147 => ?_)
                                            refine P_l (fun hJ _ _ q => E_iald dL_law_1223 (Sy_two hJ.1) (inB_vp g147) q) ?_
                                            refine P_call (t := fun v => some (.int v)) (st2 := fun v => .int v :: []) (kc2 := kN + 2) (ks2 := ksN + 12) (fun hJ => (ok_X11_plan (σ := σ145) (p1 := rI σ145 2 (s.1 + 1 : Int32).toNatClampNeg) (p2 := rI σ145 2 (s.1 + 2 : Int32).toNatClampNeg) )) (fun hJ _ _ _ _ v τ1 hM q => E_callV (as := [.int (rI σ145 2 (s.1 + 1 : Int32).toNatClampNeg), .int (rI σ145 2 (s.1 + 2 : Int32).toNatClampNeg)]) (b := 67) (st := []) hM (by decide) yfX11_plan mlL_188 imX11_plan seX11_plan clX11 (kd67 hJ.1.1) rfl (Nat.le_of_ble_eq_true rfl) rfl dL_law_1224 q) (by omega) (by omega) (fun v148 σ149 => ?_)
                                            refine P_l (fun hJ _ _ q => E_istore (ls2 := [some (.ref 2), some (.ref 3), some (.ref 67), some (.ref 114), some (.int s.1), some (.int v144), some (.int v148)]) dL_law_1227 (by decide) rfl (E_aload_n dL_law_1229 rfl (E_callV (as := []) (b := 67) (st := []) (ok_X11_thrown (σ := σ149)  hJ ) (by decide) yfX11_thrown mlL_121 imX11_thrown seX11_thrown clX11 (kd67 hJ.1.1) rfl (Nat.le_of_ble_eq_true rfl) rfl dL_law_1230 (E_iload dL_law_1233 rfl q)))) ?_
                                            refine P_if (fun hJ _ _ h1 h2 => E_icmp_eq 1240 dL_law_1235 (by decide) h1 h2) ?_ ?_
                                            · skip
                                              refine P_l (fun hJ _ _ q => E_iload dL_law_1240 rfl q) ?_
                                              refine P_if (c := (if v144 = 0 then (if (lg_cmp (rL σ149 114 (0 : Int32).toNatClampNeg) (((v148 : Int32)).toInt64)) = 0 then true else false) else true) = true) (pc1 := 1257) (ls1 := [some (.ref 2), some (.ref 3), some (.ref 67), some (.ref 114), some (.int s.1), some (.int v144), some (.int v148)]) (st1 := []) (pc2 := 1255) (ls2 := [some (.ref 2), some (.ref 3), some (.ref 67), some (.ref 114), some (.int s.1), some (.int v144), some (.int v148)]) (st2 := []) (fun hJ _ _ hX hY => ?_) ?_ ?_
                                              · skip
                                                refine E_if_ne 1257 dL_law_1242 (by decide) (fun c_1242_0 => ?_) (fun c_1242_0 => ?_)
                                                · skip
                                                  exact hX (by simp only [if_neg c_1242_0])
                                                · skip
                                                  refine E_aload_n dL_law_1245 rfl ?_
                                                  refine E_iconst (v := 0) dL_law_1246 (by decide) ?_
                                                  refine E_lald dL_law_1247 (kd114 hJ.1.1) (inB_vp (by decide)) ?_
                                                  refine E_iload dL_law_1248 rfl ?_
                                                  refine E_i2l dL_law_1250 ?_
                                                  refine E_lcmp dL_law_1251 ?_
                                                  refine E_if_eq 1257 dL_law_1252 (by decide) (fun c_1252_1 => ?_) (fun c_1252_1 => ?_)
                                                  · skip
                                                    exact hX (by simp only [if_pos c_1242_0, if_pos c_1252_1])
                                                  · skip
                                                    exact hY (by simp only [if_pos c_1242_0, if_neg c_1252_1]; exact Bool.false_ne_true)
                                              · skip
                                                refine P_l (fun hJ _ _ q => E_goto 2041 dL_law_1257 (by decide) (E_iinc (v := 6) (ls2 := [some (.ref 2), some (.ref 3), some (.ref 67), some (.ref 114), some (.int (s.1 + 6)), some (.int v144), some (.int v148)]) dL_law_2041 rfl (by decide) (by decide) rfl (E_goto 23 dL_law_2044 (by decide) q))) ?_
                                                refine P_less [some (.ref 2), some (.ref 3), some (.ref 67), some (.ref 114), some (.int (s.1 + 6)), none, none] (And.intro rfl (And.intro rfl (And.intro rfl (And.intro rfl (And.intro rfl trivial))))) ?_
                                                refine P_room (kc2 := kN) (ks2 := ksN) (by omega) (by omega) ?_
                                                exact P_back ((s.1 + 6, σ149))
                                              · skip
                                                refine P_l (fun hJ _ _ q => E_iconst (v := 0) dL_law_1255 (by decide) q) ?_
                                                exact P_inl (P_ret (fun _ _ => E_zret01 rfl (by decide) dL_law_1256))
                                            · skip
                                              refine P_l (fun hJ _ _ q => E_iconst (v := 0) dL_law_1238 (by decide) q) ?_
                                              exact P_inl (P_ret (fun _ _ => E_zret01 rfl (by decide) dL_law_1239))
                                          · skip
                                            refine P_case (fun h150 => ?_) (fun h150 => ?_)
                                            · skip
                                              refine P_l (fun hJ _ _ q => E_tableIn (off := 1220) 1260 dL_law_40 (by rw [h150]; decide) (by rw [h150]; decide) (by rw [h150]; rfl) (by decide) q) ?_
                                              refine P_l (fun hJ _ _ q => E_aload_n dL_law_1260 rfl (E_aload_n dL_law_1261 rfl (E_iload dL_law_1262 rfl (E_iconst (v := 1) dL_law_1264 (by decide) (E_iadd dL_law_1265 q))))) ?_
                                              refine P_g (fun g151 => ?_)
                                              refine P_l (fun hJ _ _ q => E_iald dL_law_1266 (Sy_two hJ.1) (inB_vp g151) (E_aload_n dL_law_1267 rfl q)) ?_
                                              refine P_callH (st2 := fun v => .int v :: []) (kc2 := kN + 3) (ks2 := ksN + 18) (fun hJ => (ok_L_alone (σ := s.2) (p1 := rI s.2 2 (s.1 + 1 : Int32).toNatClampNeg))) (fun hJ _ _ _ _ v τ1 hM q => E_callSH (as := [.ref 3, .int (rI s.2 2 (s.1 + 1 : Int32).toNatClampNeg), .ref 114]) (st := []) hM (by decide) yfL_alone mlL_189 stL_alone rfl (Nat.le_of_ble_eq_true rfl) rfl dL_law_1268 q) (by omega) (by omega) (fun v152 σ153 => ?_)
                                              refine P_l (fun hJ _ _ q => E_istore (ls2 := [some (.ref 2), some (.ref 3), some (.ref 67), some (.ref 114), some (.int s.1), some (.int v152), none]) dL_law_1271 (by decide) rfl (E_aload_n dL_law_1273 rfl (E_aload_n dL_law_1274 rfl (E_iload dL_law_1275 rfl (E_iconst (v := 1) dL_law_1277 (by decide) (E_iadd dL_law_1278 q)))))) ?_
                                              refine P_g (fun g154 => ?_)
                                              refine P_l (fun hJ _ _ q => E_iald dL_law_1279 (Sy_two hJ.1) (inB_vp g154) q) ?_
                                              refine P_call (t := fun v => some (.int v)) (st2 := fun v => .int v :: []) (kc2 := kN + 3) (ks2 := ksN + 18) (fun hJ => (ok_X11_alone (σ := σ153) (p1 := rI σ153 2 (s.1 + 1 : Int32).toNatClampNeg) )) (fun hJ _ _ _ _ v τ1 hM q => E_callV (as := [.int (rI σ153 2 (s.1 + 1 : Int32).toNatClampNeg)]) (b := 67) (st := []) hM (by decide) yfX11_alone mlL_191 imX11_alone seX11_alone clX11 (kd67 hJ.1.1) rfl (Nat.le_of_ble_eq_true rfl) rfl dL_law_1280 q) (by omega) (by omega) (fun v155 σ156 => ?_)
                                              refine P_l (fun hJ _ _ q => E_istore (ls2 := [some (.ref 2), some (.ref 3), some (.ref 67), some (.ref 114), some (.int s.1), some (.int v152), some (.int v155)]) dL_law_1283 (by decide) rfl (E_aload_n dL_law_1285 rfl (E_callV (as := []) (b := 67) (st := []) (ok_X11_thrown (σ := σ156)  hJ ) (by decide) yfX11_thrown mlL_121 imX11_thrown seX11_thrown clX11 (kd67 hJ.1.1) rfl (Nat.le_of_ble_eq_true rfl) rfl dL_law_1286 (E_iload dL_law_1289 rfl q)))) ?_
                                              refine P_if (fun hJ _ _ h1 h2 => E_icmp_eq 1296 dL_law_1291 (by decide) h1 h2) ?_ ?_
                                              · skip
                                                refine P_l (fun hJ _ _ q => E_iload dL_law_1296 rfl q) ?_
                                                refine P_if (fun hJ _ _ h1 h2 => E_if_ne 1320 dL_law_1298 (by decide) h2 h1) ?_ ?_
                                                · skip
                                                  refine P_l (fun hJ _ _ q => E_aload_n dL_law_1301 rfl (E_iconst (v := 0) dL_law_1302 (by decide) (E_lald dL_law_1303 (kd114 hJ.1.1) (inB_vp (by decide)) (E_iload dL_law_1304 rfl q)))) ?_
                                                  refine P_l (pc2 := 1314) (ls2 := [some (.ref 2), some (.ref 3), some (.ref 67), some (.ref 114), some (.int s.1), none, none]) (st2 := [.long ((if v155 = 0 then (0 : Int64) else (1 : Int64) : Int64)), .long (rL σ156 114 (0 : Int32).toNatClampNeg)]) (fun hJ _ _ hq => ?_) ?_
                                                  · skip
                                                    refine E_if_eq 1313 dL_law_1306 (by decide) (fun c_1306_0 => ?_) (fun c_1306_0 => ?_)
                                                    · skip
                                                      refine E_lconst (v := 0) dL_law_1313 (by decide) ?_
                                                      simp only [if_pos c_1306_0] at hq
                                                      exact E_less (ls2 := [some (.ref 2), some (.ref 3), some (.ref 67), some (.ref 114), some (.int s.1), none, none]) hq (rLe_at [some (.ref 2), some (.ref 3), some (.ref 67), some (.ref 114), some (.int s.1), none, none] [some (.ref 2), some (.ref 3), some (.ref 67), some (.ref 114), some (.int s.1), some (.int v152), some (.int v155)] (And.intro rfl (And.intro rfl (And.intro rfl (And.intro rfl (And.intro rfl trivial))))))
                                                    · skip
                                                      refine E_lconst (v := 1) dL_law_1309 (by decide) ?_
                                                      refine E_goto 1314 dL_law_1310 (by decide) ?_
                                                      simp only [if_neg c_1306_0] at hq
                                                      exact E_less (ls2 := [some (.ref 2), some (.ref 3), some (.ref 67), some (.ref 114), some (.int s.1), none, none]) hq (rLe_at [some (.ref 2), some (.ref 3), some (.ref 67), some (.ref 114), some (.int s.1), none, none] [some (.ref 2), some (.ref 3), some (.ref 67), some (.ref 114), some (.int s.1), some (.int v152), some (.int v155)] (And.intro rfl (And.intro rfl (And.intro rfl (And.intro rfl (And.intro rfl trivial))))))
                                                  · skip
                                                    refine P_l (fun hJ _ _ q => E_lcmp dL_law_1314 q) ?_
                                                    refine P_if (fun hJ _ _ h1 h2 => E_if_eq 1320 dL_law_1315 (by decide) h1 h2) ?_ ?_
                                                    · skip
                                                      refine P_l (fun hJ _ _ q => E_goto 2041 dL_law_1320 (by decide) (E_iinc (v := 6) (ls2 := [some (.ref 2), some (.ref 3), some (.ref 67), some (.ref 114), some (.int (s.1 + 6)), none, none]) dL_law_2041 rfl (by decide) (by decide) rfl (E_goto 23 dL_law_2044 (by decide) q))) ?_
                                                      refine P_room (kc2 := kN) (ks2 := ksN) (by omega) (by omega) ?_
                                                      exact P_back ((s.1 + 6, σ156))
                                                    · skip
                                                      refine P_l (fun hJ _ _ q => E_iconst (v := 0) dL_law_1318 (by decide) q) ?_
                                                      exact P_inl (P_ret (fun _ _ => E_zret01 rfl (by decide) dL_law_1319))
                                                · skip
                                                  refine P_l (fun hJ _ _ q => E_goto 2041 dL_law_1320 (by decide) (E_iinc (v := 6) (ls2 := [some (.ref 2), some (.ref 3), some (.ref 67), some (.ref 114), some (.int (s.1 + 6)), some (.int v152), some (.int v155)]) dL_law_2041 rfl (by decide) (by decide) rfl (E_goto 23 dL_law_2044 (by decide) q))) ?_
                                                  refine P_less [some (.ref 2), some (.ref 3), some (.ref 67), some (.ref 114), some (.int (s.1 + 6)), none, none] (And.intro rfl (And.intro rfl (And.intro rfl (And.intro rfl (And.intro rfl trivial))))) ?_
                                                  refine P_room (kc2 := kN) (ks2 := ksN) (by omega) (by omega) ?_
                                                  exact P_back ((s.1 + 6, σ156))
                                              · skip
                                                refine P_l (fun hJ _ _ q => E_iconst (v := 0) dL_law_1294 (by decide) q) ?_
                                                exact P_inl (P_ret (fun _ _ => E_zret01 rfl (by decide) dL_law_1295))
                                            · skip
                                              refine P_case (fun h157 => ?_) (fun h157 => ?_)
                                              · skip
                                                refine P_l (fun hJ _ _ q => E_tableIn (off := 1283) 1323 dL_law_40 (by rw [h157]; decide) (by rw [h157]; decide) (by rw [h157]; rfl) (by decide) q) ?_
                                                refine P_l (fun hJ _ _ q => E_aload_n dL_law_1323 rfl (E_aload_n dL_law_1324 rfl (E_iload dL_law_1325 rfl (E_iconst (v := 1) dL_law_1327 (by decide) (E_iadd dL_law_1328 q))))) ?_
                                                refine P_g (fun g158 => ?_)
                                                refine P_l (fun hJ _ _ q => E_iald dL_law_1329 (Sy_two hJ.1) (inB_vp g158) (E_aload_n dL_law_1330 rfl (E_iload dL_law_1331 rfl (E_iconst (v := 2) dL_law_1333 (by decide) (E_iadd dL_law_1334 q))))) ?_
                                                refine P_g (fun g159 => ?_)
                                                refine P_l (fun hJ _ _ q => E_iald dL_law_1335 (Sy_two hJ.1) (inB_vp g159) (E_aload_n dL_law_1336 rfl (E_iload dL_law_1337 rfl (E_iconst (v := 3) dL_law_1339 (by decide) (E_iadd dL_law_1340 q))))) ?_
                                                refine P_g (fun g160 => ?_)
                                                refine P_l (fun hJ _ _ q => E_iald dL_law_1341 (Sy_two hJ.1) (inB_vp g160) (E_aload_n dL_law_1342 rfl q)) ?_
                                                refine P_callH (st2 := fun v => .int v :: []) (kc2 := kN + 0) (ks2 := ksN + 0) (fun hJ => (ok_L_chance (σ := s.2) (p1 := rI s.2 2 (s.1 + 1 : Int32).toNatClampNeg) (p2 := rI s.2 2 (s.1 + 2 : Int32).toNatClampNeg) (p3 := rI s.2 2 (s.1 + 3 : Int32).toNatClampNeg))) (fun hJ _ _ _ _ v τ1 hM q => E_callSH (as := [.ref 3, .int (rI s.2 2 (s.1 + 1 : Int32).toNatClampNeg), .int (rI s.2 2 (s.1 + 2 : Int32).toNatClampNeg), .int (rI s.2 2 (s.1 + 3 : Int32).toNatClampNeg), .ref 114]) (st := []) hM (by decide) yfL_chance mlL_192 stL_chance rfl (Nat.le_of_ble_eq_true rfl) rfl dL_law_1343 q) (by omega) (by omega) (fun v161 σ162 => ?_)
                                                refine P_l (fun hJ _ _ q => E_istore (ls2 := [some (.ref 2), some (.ref 3), some (.ref 67), some (.ref 114), some (.int s.1), some (.int v161), none]) dL_law_1346 (by decide) rfl (E_aload_n dL_law_1348 rfl (E_aload_n dL_law_1349 rfl (E_iload dL_law_1350 rfl (E_iconst (v := 1) dL_law_1352 (by decide) (E_iadd dL_law_1353 q)))))) ?_
                                                refine P_g (fun g163 => ?_)
                                                refine P_l (fun hJ _ _ q => E_iald dL_law_1354 (Sy_two hJ.1) (inB_vp g163) (E_aload_n dL_law_1355 rfl (E_iload dL_law_1356 rfl (E_iconst (v := 2) dL_law_1358 (by decide) (E_iadd dL_law_1359 q))))) ?_
                                                refine P_g (fun g164 => ?_)
                                                refine P_l (fun hJ _ _ q => E_iald dL_law_1360 (Sy_two hJ.1) (inB_vp g164) (E_aload_n dL_law_1361 rfl (E_iload dL_law_1362 rfl (E_iconst (v := 3) dL_law_1364 (by decide) (E_iadd dL_law_1365 q))))) ?_
                                                refine P_g (fun g165 => ?_)
                                                refine P_l (fun hJ _ _ q => E_iald dL_law_1366 (Sy_two hJ.1) (inB_vp g165) q) ?_
                                                refine P_call (t := fun v => some (.int v)) (st2 := fun v => .int v :: []) (kc2 := kN + 0) (ks2 := ksN + 0) (fun hJ => (ok_X11_chance (σ := σ162) (p1 := rI σ162 2 (s.1 + 1 : Int32).toNatClampNeg) (p2 := rI σ162 2 (s.1 + 2 : Int32).toNatClampNeg) (p3 := rI σ162 2 (s.1 + 3 : Int32).toNatClampNeg) )) (fun hJ _ _ _ _ v τ1 hM q => E_callV (as := [.int (rI σ162 2 (s.1 + 1 : Int32).toNatClampNeg), .int (rI σ162 2 (s.1 + 2 : Int32).toNatClampNeg), .int (rI σ162 2 (s.1 + 3 : Int32).toNatClampNeg)]) (b := 67) (st := []) hM (by decide) yfX11_chance mlL_194 imX11_chance seX11_chance clX11 (kd67 hJ.1.1) rfl (Nat.le_of_ble_eq_true rfl) rfl dL_law_1367 q) (by omega) (by omega) (fun v166 σ167 => ?_)
                                                refine P_l (fun hJ _ _ q => E_istore (ls2 := [some (.ref 2), some (.ref 3), some (.ref 67), some (.ref 114), some (.int s.1), some (.int v161), some (.int v166)]) dL_law_1370 (by decide) rfl (E_aload_n dL_law_1372 rfl (E_callV (as := []) (b := 67) (st := []) (ok_X11_thrown (σ := σ167)  hJ ) (by decide) yfX11_thrown mlL_121 imX11_thrown seX11_thrown clX11 (kd67 hJ.1.1) rfl (Nat.le_of_ble_eq_true rfl) rfl dL_law_1373 (E_iload dL_law_1376 rfl q)))) ?_
                                                refine P_if (fun hJ _ _ h1 h2 => E_icmp_eq 1383 dL_law_1378 (by decide) h1 h2) ?_ ?_
                                                · skip
                                                  refine P_l (fun hJ _ _ q => E_iload dL_law_1383 rfl q) ?_
                                                  refine P_if (c := (if v161 = 0 then (if (lg_cmp (rL σ167 114 (0 : Int32).toNatClampNeg) (((v166 : Int32)).toInt64)) = 0 then true else false) else true) = true) (pc1 := 1400) (ls1 := [some (.ref 2), some (.ref 3), some (.ref 67), some (.ref 114), some (.int s.1), some (.int v161), some (.int v166)]) (st1 := []) (pc2 := 1398) (ls2 := [some (.ref 2), some (.ref 3), some (.ref 67), some (.ref 114), some (.int s.1), some (.int v161), some (.int v166)]) (st2 := []) (fun hJ _ _ hX hY => ?_) ?_ ?_
                                                  · skip
                                                    refine E_if_ne 1400 dL_law_1385 (by decide) (fun c_1385_0 => ?_) (fun c_1385_0 => ?_)
                                                    · skip
                                                      exact hX (by simp only [if_neg c_1385_0])
                                                    · skip
                                                      refine E_aload_n dL_law_1388 rfl ?_
                                                      refine E_iconst (v := 0) dL_law_1389 (by decide) ?_
                                                      refine E_lald dL_law_1390 (kd114 hJ.1.1) (inB_vp (by decide)) ?_
                                                      refine E_iload dL_law_1391 rfl ?_
                                                      refine E_i2l dL_law_1393 ?_
                                                      refine E_lcmp dL_law_1394 ?_
                                                      refine E_if_eq 1400 dL_law_1395 (by decide) (fun c_1395_1 => ?_) (fun c_1395_1 => ?_)
                                                      · skip
                                                        exact hX (by simp only [if_pos c_1385_0, if_pos c_1395_1])
                                                      · skip
                                                        exact hY (by simp only [if_pos c_1385_0, if_neg c_1395_1]; exact Bool.false_ne_true)
                                                  · skip
                                                    refine P_l (fun hJ _ _ q => E_goto 2041 dL_law_1400 (by decide) (E_iinc (v := 6) (ls2 := [some (.ref 2), some (.ref 3), some (.ref 67), some (.ref 114), some (.int (s.1 + 6)), some (.int v161), some (.int v166)]) dL_law_2041 rfl (by decide) (by decide) rfl (E_goto 23 dL_law_2044 (by decide) q))) ?_
                                                    refine P_less [some (.ref 2), some (.ref 3), some (.ref 67), some (.ref 114), some (.int (s.1 + 6)), none, none] (And.intro rfl (And.intro rfl (And.intro rfl (And.intro rfl (And.intro rfl trivial))))) ?_
                                                    refine P_room (kc2 := kN) (ks2 := ksN) (by omega) (by omega) ?_
                                                    exact P_back ((s.1 + 6, σ167))
                                                  · skip
                                                    refine P_l (fun hJ _ _ q => E_iconst (v := 0) dL_law_1398 (by decide) q) ?_
                                                    exact P_inl (P_ret (fun _ _ => E_zret01 rfl (by decide) dL_law_1399))
                                                · skip
                                                  refine P_l (fun hJ _ _ q => E_iconst (v := 0) dL_law_1381 (by decide) q) ?_
                                                  exact P_inl (P_ret (fun _ _ => E_zret01 rfl (by decide) dL_law_1382))
                                              · skip
                                                refine P_case (fun h168 => ?_) (fun h168 => ?_)
                                                · skip
                                                  refine P_l (fun hJ _ _ q => E_tableIn (off := 1363) 1403 dL_law_40 (by rw [h168]; decide) (by rw [h168]; decide) (by rw [h168]; rfl) (by decide) q) ?_
                                                  refine P_l (fun hJ _ _ q => E_aload_n dL_law_1403 rfl (E_aload_n dL_law_1404 rfl (E_iload dL_law_1405 rfl (E_iconst (v := 1) dL_law_1407 (by decide) (E_iadd dL_law_1408 q))))) ?_
                                                  refine P_g (fun g169 => ?_)
                                                  refine P_l (fun hJ _ _ q => E_iald dL_law_1409 (Sy_two hJ.1) (inB_vp g169) (E_aload_n dL_law_1410 rfl (E_iload dL_law_1411 rfl (E_iconst (v := 2) dL_law_1413 (by decide) (E_iadd dL_law_1414 q))))) ?_
                                                  refine P_g (fun g170 => ?_)
                                                  refine P_l (fun hJ _ _ q => E_iald dL_law_1415 (Sy_two hJ.1) (inB_vp g170) (E_aload_n dL_law_1416 rfl q)) ?_
                                                  refine P_callH (st2 := fun v => .int v :: []) (kc2 := kN + 2) (ks2 := ksN + 12) (fun hJ => (ok_L_passed (σ := s.2) (p1 := rI s.2 2 (s.1 + 1 : Int32).toNatClampNeg) (p2 := rI s.2 2 (s.1 + 2 : Int32).toNatClampNeg))) (fun hJ _ _ _ _ v τ1 hM q => E_callSH (as := [.ref 3, .int (rI s.2 2 (s.1 + 1 : Int32).toNatClampNeg), .int (rI s.2 2 (s.1 + 2 : Int32).toNatClampNeg), .ref 114]) (st := []) hM (by decide) yfL_passed mlL_195 stL_passed rfl (Nat.le_of_ble_eq_true rfl) rfl dL_law_1417 q) (by omega) (by omega) (fun v171 σ172 => ?_)
                                                  refine P_l (fun hJ _ _ q => E_istore (ls2 := [some (.ref 2), some (.ref 3), some (.ref 67), some (.ref 114), some (.int s.1), some (.int v171), none]) dL_law_1420 (by decide) rfl (E_aload_n dL_law_1422 rfl (E_aload_n dL_law_1423 rfl (E_iload dL_law_1424 rfl (E_iconst (v := 1) dL_law_1426 (by decide) (E_iadd dL_law_1427 q)))))) ?_
                                                  refine P_g (fun g173 => ?_)
                                                  refine P_l (fun hJ _ _ q => E_iald dL_law_1428 (Sy_two hJ.1) (inB_vp g173) (E_aload_n dL_law_1429 rfl (E_iload dL_law_1430 rfl (E_iconst (v := 2) dL_law_1432 (by decide) (E_iadd dL_law_1433 q))))) ?_
                                                  refine P_g (fun g174 => ?_)
                                                  refine P_l (fun hJ _ _ q => E_iald dL_law_1434 (Sy_two hJ.1) (inB_vp g174) q) ?_
                                                  refine P_call (t := fun v => some (.int v)) (st2 := fun v => .int v :: []) (kc2 := kN + 2) (ks2 := ksN + 12) (fun hJ => (ok_X11_passed (σ := σ172) (p1 := rI σ172 2 (s.1 + 1 : Int32).toNatClampNeg) (p2 := rI σ172 2 (s.1 + 2 : Int32).toNatClampNeg) )) (fun hJ _ _ _ _ v τ1 hM q => E_callV (as := [.int (rI σ172 2 (s.1 + 1 : Int32).toNatClampNeg), .int (rI σ172 2 (s.1 + 2 : Int32).toNatClampNeg)]) (b := 67) (st := []) hM (by decide) yfX11_passed mlL_197 imX11_passed seX11_passed clX11 (kd67 hJ.1.1) rfl (Nat.le_of_ble_eq_true rfl) rfl dL_law_1435 q) (by omega) (by omega) (fun v175 σ176 => ?_)
                                                  refine P_l (fun hJ _ _ q => E_istore (ls2 := [some (.ref 2), some (.ref 3), some (.ref 67), some (.ref 114), some (.int s.1), some (.int v171), some (.int v175)]) dL_law_1438 (by decide) rfl (E_aload_n dL_law_1440 rfl (E_callV (as := []) (b := 67) (st := []) (ok_X11_thrown (σ := σ176)  hJ ) (by decide) yfX11_thrown mlL_121 imX11_thrown seX11_thrown clX11 (kd67 hJ.1.1) rfl (Nat.le_of_ble_eq_true rfl) rfl dL_law_1441 (E_iload dL_law_1444 rfl q)))) ?_
                                                  refine P_if (fun hJ _ _ h1 h2 => E_icmp_eq 1451 dL_law_1446 (by decide) h1 h2) ?_ ?_
                                                  · skip
                                                    refine P_l (fun hJ _ _ q => E_iload dL_law_1451 rfl q) ?_
                                                    refine P_if (fun hJ _ _ h1 h2 => E_if_ne 1475 dL_law_1453 (by decide) h2 h1) ?_ ?_
                                                    · skip
                                                      refine P_l (fun hJ _ _ q => E_aload_n dL_law_1456 rfl (E_iconst (v := 0) dL_law_1457 (by decide) (E_lald dL_law_1458 (kd114 hJ.1.1) (inB_vp (by decide)) (E_iload dL_law_1459 rfl q)))) ?_
                                                      refine P_l (pc2 := 1469) (ls2 := [some (.ref 2), some (.ref 3), some (.ref 67), some (.ref 114), some (.int s.1), none, none]) (st2 := [.long ((if v175 = 0 then (0 : Int64) else (1 : Int64) : Int64)), .long (rL σ176 114 (0 : Int32).toNatClampNeg)]) (fun hJ _ _ hq => ?_) ?_
                                                      · skip
                                                        refine E_if_eq 1468 dL_law_1461 (by decide) (fun c_1461_0 => ?_) (fun c_1461_0 => ?_)
                                                        · skip
                                                          refine E_lconst (v := 0) dL_law_1468 (by decide) ?_
                                                          simp only [if_pos c_1461_0] at hq
                                                          exact E_less (ls2 := [some (.ref 2), some (.ref 3), some (.ref 67), some (.ref 114), some (.int s.1), none, none]) hq (rLe_at [some (.ref 2), some (.ref 3), some (.ref 67), some (.ref 114), some (.int s.1), none, none] [some (.ref 2), some (.ref 3), some (.ref 67), some (.ref 114), some (.int s.1), some (.int v171), some (.int v175)] (And.intro rfl (And.intro rfl (And.intro rfl (And.intro rfl (And.intro rfl trivial))))))
                                                        · skip
                                                          refine E_lconst (v := 1) dL_law_1464 (by decide) ?_
                                                          refine E_goto 1469 dL_law_1465 (by decide) ?_
                                                          simp only [if_neg c_1461_0] at hq
                                                          exact E_less (ls2 := [some (.ref 2), some (.ref 3), some (.ref 67), some (.ref 114), some (.int s.1), none, none]) hq (rLe_at [some (.ref 2), some (.ref 3), some (.ref 67), some (.ref 114), some (.int s.1), none, none] [some (.ref 2), some (.ref 3), some (.ref 67), some (.ref 114), some (.int s.1), some (.int v171), some (.int v175)] (And.intro rfl (And.intro rfl (And.intro rfl (And.intro rfl (And.intro rfl trivial))))))
                                                      · skip
                                                        refine P_l (fun hJ _ _ q => E_lcmp dL_law_1469 q) ?_
                                                        refine P_if (fun hJ _ _ h1 h2 => E_if_eq 1475 dL_law_1470 (by decide) h1 h2) ?_ ?_
                                                        · skip
                                                          refine P_l (fun hJ _ _ q => E_goto 2041 dL_law_1475 (by decide) (E_iinc (v := 6) (ls2 := [some (.ref 2), some (.ref 3), some (.ref 67), some (.ref 114), some (.int (s.1 + 6)), none, none]) dL_law_2041 rfl (by decide) (by decide) rfl (E_goto 23 dL_law_2044 (by decide) q))) ?_
                                                          refine P_room (kc2 := kN) (ks2 := ksN) (by omega) (by omega) ?_
                                                          exact P_back ((s.1 + 6, σ176))
                                                        · skip
                                                          refine P_l (fun hJ _ _ q => E_iconst (v := 0) dL_law_1473 (by decide) q) ?_
                                                          exact P_inl (P_ret (fun _ _ => E_zret01 rfl (by decide) dL_law_1474))
                                                    · skip
                                                      refine P_l (fun hJ _ _ q => E_goto 2041 dL_law_1475 (by decide) (E_iinc (v := 6) (ls2 := [some (.ref 2), some (.ref 3), some (.ref 67), some (.ref 114), some (.int (s.1 + 6)), some (.int v171), some (.int v175)]) dL_law_2041 rfl (by decide) (by decide) rfl (E_goto 23 dL_law_2044 (by decide) q))) ?_
                                                      refine P_less [some (.ref 2), some (.ref 3), some (.ref 67), some (.ref 114), some (.int (s.1 + 6)), none, none] (And.intro rfl (And.intro rfl (And.intro rfl (And.intro rfl (And.intro rfl trivial))))) ?_
                                                      refine P_room (kc2 := kN) (ks2 := ksN) (by omega) (by omega) ?_
                                                      exact P_back ((s.1 + 6, σ176))
                                                  · skip
                                                    refine P_l (fun hJ _ _ q => E_iconst (v := 0) dL_law_1449 (by decide) q) ?_
                                                    exact P_inl (P_ret (fun _ _ => E_zret01 rfl (by decide) dL_law_1450))
                                                · skip
                                                  refine P_case (fun h177 => ?_) (fun h177 => ?_)
                                                  · skip
                                                    refine P_l (fun hJ _ _ q => E_tableIn (off := 1438) 1478 dL_law_40 (by rw [h177]; decide) (by rw [h177]; decide) (by rw [h177]; rfl) (by decide) q) ?_
                                                    refine P_l (fun hJ _ _ q => E_aload_n dL_law_1478 rfl (E_aload_n dL_law_1479 rfl (E_iload dL_law_1480 rfl (E_iconst (v := 1) dL_law_1482 (by decide) (E_iadd dL_law_1483 q))))) ?_
                                                    refine P_g (fun g178 => ?_)
                                                    refine P_l (fun hJ _ _ q => E_iald dL_law_1484 (Sy_two hJ.1) (inB_vp g178) (E_aload_n dL_law_1485 rfl (E_iload dL_law_1486 rfl (E_iconst (v := 2) dL_law_1488 (by decide) (E_iadd dL_law_1489 q))))) ?_
                                                    refine P_g (fun g179 => ?_)
                                                    refine P_l (fun hJ _ _ q => E_iald dL_law_1490 (Sy_two hJ.1) (inB_vp g179) (E_aload_n dL_law_1491 rfl (E_iload dL_law_1492 rfl (E_iconst (v := 3) dL_law_1494 (by decide) (E_iadd dL_law_1495 q))))) ?_
                                                    refine P_g (fun g180 => ?_)
                                                    refine P_l (fun hJ _ _ q => E_iald dL_law_1496 (Sy_two hJ.1) (inB_vp g180) (E_aload_n dL_law_1497 rfl q)) ?_
                                                    refine P_callH (st2 := fun v => .int v :: []) (kc2 := kN + 1) (ks2 := ksN + 6) (fun hJ => (ok_L_claim (σ := s.2) (p1 := rI s.2 2 (s.1 + 1 : Int32).toNatClampNeg) (p2 := rI s.2 2 (s.1 + 2 : Int32).toNatClampNeg) (p3 := rI s.2 2 (s.1 + 3 : Int32).toNatClampNeg))) (fun hJ _ _ _ _ v τ1 hM q => E_callSH (as := [.ref 3, .int (rI s.2 2 (s.1 + 1 : Int32).toNatClampNeg), .int (rI s.2 2 (s.1 + 2 : Int32).toNatClampNeg), .int (rI s.2 2 (s.1 + 3 : Int32).toNatClampNeg), .ref 114]) (st := []) hM (by decide) yfL_claim mlL_198 stL_claim rfl (Nat.le_of_ble_eq_true rfl) rfl dL_law_1498 q) (by omega) (by omega) (fun v181 σ182 => ?_)
                                                    refine P_l (fun hJ _ _ q => E_istore (ls2 := [some (.ref 2), some (.ref 3), some (.ref 67), some (.ref 114), some (.int s.1), some (.int v181), none]) dL_law_1501 (by decide) rfl (E_aload_n dL_law_1503 rfl (E_aload_n dL_law_1504 rfl (E_iload dL_law_1505 rfl (E_iconst (v := 1) dL_law_1507 (by decide) (E_iadd dL_law_1508 q)))))) ?_
                                                    refine P_g (fun g183 => ?_)
                                                    refine P_l (fun hJ _ _ q => E_iald dL_law_1509 (Sy_two hJ.1) (inB_vp g183) (E_aload_n dL_law_1510 rfl (E_iload dL_law_1511 rfl (E_iconst (v := 2) dL_law_1513 (by decide) (E_iadd dL_law_1514 q))))) ?_
                                                    refine P_g (fun g184 => ?_)
                                                    refine P_l (fun hJ _ _ q => E_iald dL_law_1515 (Sy_two hJ.1) (inB_vp g184) (E_aload_n dL_law_1516 rfl (E_iload dL_law_1517 rfl (E_iconst (v := 3) dL_law_1519 (by decide) (E_iadd dL_law_1520 q))))) ?_
                                                    refine P_g (fun g185 => ?_)
                                                    refine P_l (fun hJ _ _ q => E_iald dL_law_1521 (Sy_two hJ.1) (inB_vp g185) q) ?_
                                                    refine P_call (t := fun v => some (.int v)) (st2 := fun v => .int v :: []) (kc2 := kN + 1) (ks2 := ksN + 6) (fun hJ => (ok_X11_claim (σ := σ182) (p1 := rI σ182 2 (s.1 + 1 : Int32).toNatClampNeg) (p2 := rI σ182 2 (s.1 + 2 : Int32).toNatClampNeg) (p3 := rI σ182 2 (s.1 + 3 : Int32).toNatClampNeg) )) (fun hJ _ _ _ _ v τ1 hM q => E_callV (as := [.int (rI σ182 2 (s.1 + 1 : Int32).toNatClampNeg), .int (rI σ182 2 (s.1 + 2 : Int32).toNatClampNeg), .int (rI σ182 2 (s.1 + 3 : Int32).toNatClampNeg)]) (b := 67) (st := []) hM (by decide) yfX11_claim mlL_200 imX11_claim seX11_claim clX11 (kd67 hJ.1.1) rfl (Nat.le_of_ble_eq_true rfl) rfl dL_law_1522 q) (by omega) (by omega) (fun v186 σ187 => ?_)
                                                    refine P_l (fun hJ _ _ q => E_istore (ls2 := [some (.ref 2), some (.ref 3), some (.ref 67), some (.ref 114), some (.int s.1), some (.int v181), some (.int v186)]) dL_law_1525 (by decide) rfl (E_aload_n dL_law_1527 rfl (E_callV (as := []) (b := 67) (st := []) (ok_X11_thrown (σ := σ187)  hJ ) (by decide) yfX11_thrown mlL_121 imX11_thrown seX11_thrown clX11 (kd67 hJ.1.1) rfl (Nat.le_of_ble_eq_true rfl) rfl dL_law_1528 (E_iload dL_law_1531 rfl q)))) ?_
                                                    refine P_if (fun hJ _ _ h1 h2 => E_icmp_eq 1538 dL_law_1533 (by decide) h1 h2) ?_ ?_
                                                    · skip
                                                      refine P_l (fun hJ _ _ q => E_iload dL_law_1538 rfl q) ?_
                                                      refine P_if (c := (if v181 = 0 then (if (lg_cmp (rL σ187 114 (0 : Int32).toNatClampNeg) (((v186 : Int32)).toInt64)) = 0 then true else false) else true) = true) (pc1 := 1555) (ls1 := [some (.ref 2), some (.ref 3), some (.ref 67), some (.ref 114), some (.int s.1), some (.int v181), some (.int v186)]) (st1 := []) (pc2 := 1553) (ls2 := [some (.ref 2), some (.ref 3), some (.ref 67), some (.ref 114), some (.int s.1), some (.int v181), some (.int v186)]) (st2 := []) (fun hJ _ _ hX hY => ?_) ?_ ?_
                                                      · skip
                                                        refine E_if_ne 1555 dL_law_1540 (by decide) (fun c_1540_0 => ?_) (fun c_1540_0 => ?_)
                                                        · skip
                                                          exact hX (by simp only [if_neg c_1540_0])
                                                        · skip
                                                          refine E_aload_n dL_law_1543 rfl ?_
                                                          refine E_iconst (v := 0) dL_law_1544 (by decide) ?_
                                                          refine E_lald dL_law_1545 (kd114 hJ.1.1) (inB_vp (by decide)) ?_
                                                          refine E_iload dL_law_1546 rfl ?_
                                                          refine E_i2l dL_law_1548 ?_
                                                          refine E_lcmp dL_law_1549 ?_
                                                          refine E_if_eq 1555 dL_law_1550 (by decide) (fun c_1550_1 => ?_) (fun c_1550_1 => ?_)
                                                          · skip
                                                            exact hX (by simp only [if_pos c_1540_0, if_pos c_1550_1])
                                                          · skip
                                                            exact hY (by simp only [if_pos c_1540_0, if_neg c_1550_1]; exact Bool.false_ne_true)
                                                      · skip
                                                        refine P_l (fun hJ _ _ q => E_goto 2041 dL_law_1555 (by decide) (E_iinc (v := 6) (ls2 := [some (.ref 2), some (.ref 3), some (.ref 67), some (.ref 114), some (.int (s.1 + 6)), some (.int v181), some (.int v186)]) dL_law_2041 rfl (by decide) (by decide) rfl (E_goto 23 dL_law_2044 (by decide) q))) ?_
                                                        refine P_less [some (.ref 2), some (.ref 3), some (.ref 67), some (.ref 114), some (.int (s.1 + 6)), none, none] (And.intro rfl (And.intro rfl (And.intro rfl (And.intro rfl (And.intro rfl trivial))))) ?_
                                                        refine P_room (kc2 := kN) (ks2 := ksN) (by omega) (by omega) ?_
                                                        exact P_back ((s.1 + 6, σ187))
                                                      · skip
                                                        refine P_l (fun hJ _ _ q => E_iconst (v := 0) dL_law_1553 (by decide) q) ?_
                                                        exact P_inl (P_ret (fun _ _ => E_zret01 rfl (by decide) dL_law_1554))
                                                    · skip
                                                      refine P_l (fun hJ _ _ q => E_iconst (v := 0) dL_law_1536 (by decide) q) ?_
                                                      exact P_inl (P_ret (fun _ _ => E_zret01 rfl (by decide) dL_law_1537))
                                                  · skip
                                                    refine P_case (fun h188 => ?_) (fun h188 => ?_)
                                                    · skip
                                                      refine P_l (fun hJ _ _ q => E_tableIn (off := 1518) 1558 dL_law_40 (by rw [h188]; decide) (by rw [h188]; decide) (by rw [h188]; rfl) (by decide) q) ?_
                                                      refine P_l (fun hJ _ _ q => E_aload_n dL_law_1558 rfl q) ?_
                                                      refine P_callr (t := fun v => some (.long v)) (st2 := fun v => .long v :: []) (fun hJ => (ok_X10_copies (σ := s.2)  )) (fun hJ _ _ v hM q => E_callV (as := []) (b := 3) (st := []) hM (by decide) yfX10_copies mlL_201 imX10_copies seX10_copies clX10 (kd3 hJ.1.1) rfl (Nat.le_of_ble_eq_true rfl) rfl dL_law_1559 q) (fun v189 => ?_)
                                                      refine P_l (fun hJ _ _ q => E_aload_n dL_law_1562 rfl q) ?_
                                                      refine P_call (t := fun v => some (.long v)) (st2 := fun v => .long v :: [.long v189]) (kc2 := kN + 1) (ks2 := ksN + 6) (fun hJ => (ok_X11_copies (σ := s.2)  )) (fun hJ _ _ _ _ v τ1 hM q => E_callV (as := []) (b := 67) (st := [.long v189]) hM (by decide) yfX11_copies mlL_205 imX11_copies seX11_copies clX11 (kd67 hJ.1.1) rfl (Nat.le_of_ble_eq_true rfl) rfl dL_law_1563 q) (by omega) (by omega) (fun v190 σ191 => ?_)
                                                      refine P_l (fun hJ _ _ q => E_lcmp dL_law_1566 q) ?_
                                                      refine P_if (fun hJ _ _ h1 h2 => E_if_eq 2041 dL_law_1567 (by decide) h1 h2) ?_ ?_
                                                      · skip
                                                        refine P_l (fun hJ _ _ q => E_iinc (v := 6) (ls2 := [some (.ref 2), some (.ref 3), some (.ref 67), some (.ref 114), some (.int (s.1 + 6)), none, none]) dL_law_2041 rfl (by decide) (by decide) rfl (E_goto 23 dL_law_2044 (by decide) q)) ?_
                                                        refine P_room (kc2 := kN) (ks2 := ksN) (by omega) (by omega) ?_
                                                        exact P_back ((s.1 + 6, σ191))
                                                      · skip
                                                        refine P_l (fun hJ _ _ q => E_iconst (v := 0) dL_law_1570 (by decide) q) ?_
                                                        exact P_inl (P_ret (fun _ _ => E_zret01 rfl (by decide) dL_law_1571))
                                                    · skip
                                                      refine P_case (fun h192 => ?_) (fun h192 => ?_)
                                                      · skip
                                                        refine P_l (fun hJ _ _ q => E_tableIn (off := 1532) 1572 dL_law_40 (by rw [h192]; decide) (by rw [h192]; decide) (by rw [h192]; rfl) (by decide) q) ?_
                                                        refine P_l (fun hJ _ _ q => E_aload_n dL_law_1572 rfl (E_aload_n dL_law_1573 rfl (E_iload dL_law_1574 rfl (E_iconst (v := 1) dL_law_1576 (by decide) (E_iadd dL_law_1577 q))))) ?_
                                                        refine P_g (fun g193 => ?_)
                                                        refine P_l (fun hJ _ _ q => E_iald dL_law_1578 (Sy_two hJ.1) (inB_vp g193) (E_aload_n dL_law_1579 rfl (E_iload dL_law_1580 rfl (E_iconst (v := 2) dL_law_1582 (by decide) (E_iadd dL_law_1583 q))))) ?_
                                                        refine P_g (fun g194 => ?_)
                                                        refine P_l (fun hJ _ _ q => E_iald dL_law_1584 (Sy_two hJ.1) (inB_vp g194) (E_aload_n dL_law_1585 rfl q)) ?_
                                                        refine P_callH (st2 := fun v => .int v :: []) (kc2 := kN + 2) (ks2 := ksN + 12) (fun hJ => (ok_L_rackIs (σ := s.2) (p1 := rI s.2 2 (s.1 + 1 : Int32).toNatClampNeg) (p2 := rI s.2 2 (s.1 + 2 : Int32).toNatClampNeg))) (fun hJ _ _ _ _ v τ1 hM q => E_callSH (as := [.ref 3, .int (rI s.2 2 (s.1 + 1 : Int32).toNatClampNeg), .int (rI s.2 2 (s.1 + 2 : Int32).toNatClampNeg), .ref 114]) (st := []) hM (by decide) yfL_rackIs mlL_206 stL_rackIs rfl (Nat.le_of_ble_eq_true rfl) rfl dL_law_1586 q) (by omega) (by omega) (fun v195 σ196 => ?_)
                                                        refine P_l (fun hJ _ _ q => E_istore (ls2 := [some (.ref 2), some (.ref 3), some (.ref 67), some (.ref 114), some (.int s.1), some (.int v195), none]) dL_law_1589 (by decide) rfl (E_aload_n dL_law_1591 rfl (E_aload_n dL_law_1592 rfl (E_iload dL_law_1593 rfl (E_iconst (v := 1) dL_law_1595 (by decide) (E_iadd dL_law_1596 q)))))) ?_
                                                        refine P_g (fun g197 => ?_)
                                                        refine P_l (fun hJ _ _ q => E_iald dL_law_1597 (Sy_two hJ.1) (inB_vp g197) (E_aload_n dL_law_1598 rfl (E_iload dL_law_1599 rfl (E_iconst (v := 2) dL_law_1601 (by decide) (E_iadd dL_law_1602 q))))) ?_
                                                        refine P_g (fun g198 => ?_)
                                                        refine P_l (fun hJ _ _ q => E_iald dL_law_1603 (Sy_two hJ.1) (inB_vp g198) q) ?_
                                                        refine P_call (t := fun v => some (.int v)) (st2 := fun v => .int v :: []) (kc2 := kN + 2) (ks2 := ksN + 12) (fun hJ => (ok_X11_rackIs (σ := σ196) (p1 := rI σ196 2 (s.1 + 1 : Int32).toNatClampNeg) (p2 := rI σ196 2 (s.1 + 2 : Int32).toNatClampNeg) )) (fun hJ _ _ _ _ v τ1 hM q => E_callV (as := [.int (rI σ196 2 (s.1 + 1 : Int32).toNatClampNeg), .int (rI σ196 2 (s.1 + 2 : Int32).toNatClampNeg)]) (b := 67) (st := []) hM (by decide) yfX11_rackIs mlL_208 imX11_rackIs seX11_rackIs clX11 (kd67 hJ.1.1) rfl (Nat.le_of_ble_eq_true rfl) rfl dL_law_1604 q) (by omega) (by omega) (fun v199 σ200 => ?_)
                                                        refine P_l (fun hJ _ _ q => E_istore (ls2 := [some (.ref 2), some (.ref 3), some (.ref 67), some (.ref 114), some (.int s.1), some (.int v195), some (.int v199)]) dL_law_1607 (by decide) rfl (E_aload_n dL_law_1609 rfl (E_callV (as := []) (b := 67) (st := []) (ok_X11_thrown (σ := σ200)  hJ ) (by decide) yfX11_thrown mlL_121 imX11_thrown seX11_thrown clX11 (kd67 hJ.1.1) rfl (Nat.le_of_ble_eq_true rfl) rfl dL_law_1610 (E_iload dL_law_1613 rfl q)))) ?_
                                                        refine P_if (fun hJ _ _ h1 h2 => E_icmp_eq 1620 dL_law_1615 (by decide) h1 h2) ?_ ?_
                                                        · skip
                                                          refine P_l (fun hJ _ _ q => E_iload dL_law_1620 rfl q) ?_
                                                          refine P_if (c := (if v195 = 0 then (if (lg_cmp (rL σ200 114 (0 : Int32).toNatClampNeg) (((v199 : Int32)).toInt64)) = 0 then true else false) else true) = true) (pc1 := 1637) (ls1 := [some (.ref 2), some (.ref 3), some (.ref 67), some (.ref 114), some (.int s.1), some (.int v195), some (.int v199)]) (st1 := []) (pc2 := 1635) (ls2 := [some (.ref 2), some (.ref 3), some (.ref 67), some (.ref 114), some (.int s.1), some (.int v195), some (.int v199)]) (st2 := []) (fun hJ _ _ hX hY => ?_) ?_ ?_
                                                          · skip
                                                            refine E_if_ne 1637 dL_law_1622 (by decide) (fun c_1622_0 => ?_) (fun c_1622_0 => ?_)
                                                            · skip
                                                              exact hX (by simp only [if_neg c_1622_0])
                                                            · skip
                                                              refine E_aload_n dL_law_1625 rfl ?_
                                                              refine E_iconst (v := 0) dL_law_1626 (by decide) ?_
                                                              refine E_lald dL_law_1627 (kd114 hJ.1.1) (inB_vp (by decide)) ?_
                                                              refine E_iload dL_law_1628 rfl ?_
                                                              refine E_i2l dL_law_1630 ?_
                                                              refine E_lcmp dL_law_1631 ?_
                                                              refine E_if_eq 1637 dL_law_1632 (by decide) (fun c_1632_1 => ?_) (fun c_1632_1 => ?_)
                                                              · skip
                                                                exact hX (by simp only [if_pos c_1622_0, if_pos c_1632_1])
                                                              · skip
                                                                exact hY (by simp only [if_pos c_1622_0, if_neg c_1632_1]; exact Bool.false_ne_true)
                                                          · skip
                                                            refine P_l (fun hJ _ _ q => E_goto 2041 dL_law_1637 (by decide) (E_iinc (v := 6) (ls2 := [some (.ref 2), some (.ref 3), some (.ref 67), some (.ref 114), some (.int (s.1 + 6)), some (.int v195), some (.int v199)]) dL_law_2041 rfl (by decide) (by decide) rfl (E_goto 23 dL_law_2044 (by decide) q))) ?_
                                                            refine P_less [some (.ref 2), some (.ref 3), some (.ref 67), some (.ref 114), some (.int (s.1 + 6)), none, none] (And.intro rfl (And.intro rfl (And.intro rfl (And.intro rfl (And.intro rfl trivial))))) ?_
                                                            refine P_room (kc2 := kN) (ks2 := ksN) (by omega) (by omega) ?_
                                                            exact P_back ((s.1 + 6, σ200))
                                                          · skip
                                                            refine P_l (fun hJ _ _ q => E_iconst (v := 0) dL_law_1635 (by decide) q) ?_
                                                            exact P_inl (P_ret (fun _ _ => E_zret01 rfl (by decide) dL_law_1636))
                                                        · skip
                                                          refine P_l (fun hJ _ _ q => E_iconst (v := 0) dL_law_1618 (by decide) q) ?_
                                                          exact P_inl (P_ret (fun _ _ => E_zret01 rfl (by decide) dL_law_1619))
                                                      · skip
                                                        refine P_case (fun h201 => ?_) (fun h201 => ?_)
                                                        · skip
                                                          refine P_l (fun hJ _ _ q => E_tableIn (off := 1600) 1640 dL_law_40 (by rw [h201]; decide) (by rw [h201]; decide) (by rw [h201]; rfl) (by decide) q) ?_
                                                          refine P_l (fun hJ _ _ q => E_aload_n dL_law_1640 rfl (E_aload_n dL_law_1641 rfl (E_iload dL_law_1642 rfl (E_iconst (v := 1) dL_law_1644 (by decide) (E_iadd dL_law_1645 q))))) ?_
                                                          refine P_g (fun g202 => ?_)
                                                          refine P_l (fun hJ _ _ q => E_iald dL_law_1646 (Sy_two hJ.1) (inB_vp g202) (E_aload_n dL_law_1647 rfl (E_iload dL_law_1648 rfl (E_iconst (v := 2) dL_law_1650 (by decide) (E_iadd dL_law_1651 q))))) ?_
                                                          refine P_g (fun g203 => ?_)
                                                          refine P_l (fun hJ _ _ q => E_iald dL_law_1652 (Sy_two hJ.1) (inB_vp g203) q) ?_
                                                          refine P_l (pc2 := 1661) (ls2 := [some (.ref 2), some (.ref 3), some (.ref 67), some (.ref 114), some (.int s.1), none, none]) (st2 := [.int ((if (rI s.2 2 (s.1 + 2 : Int32).toNatClampNeg) = 0 then 0 else 1 : Int32)), .int (rI s.2 2 (s.1 + 1 : Int32).toNatClampNeg), .ref 3]) (fun hJ _ _ hq => ?_) ?_
                                                          · skip
                                                            refine E_if_eq 1660 dL_law_1653 (by decide) (fun c_1653_0 => ?_) (fun c_1653_0 => ?_)
                                                            · skip
                                                              refine E_iconst (v := 0) dL_law_1660 (by decide) ?_
                                                              simp only [if_pos c_1653_0] at hq
                                                              exact hq
                                                            · skip
                                                              refine E_iconst (v := 1) dL_law_1656 (by decide) ?_
                                                              refine E_goto 1661 dL_law_1657 (by decide) ?_
                                                              simp only [if_neg c_1653_0] at hq
                                                              exact hq
                                                          · skip
                                                            refine P_l (fun hJ _ _ q => E_aload_n dL_law_1661 rfl q) ?_
                                                            refine P_callH (st2 := fun v => .int v :: []) (kc2 := kN + 3) (ks2 := ksN + 18) (fun hJ => (ok_L_tableIs (σ := s.2) (p1 := rI s.2 2 (s.1 + 1 : Int32).toNatClampNeg) (p2 := (if (rI s.2 2 (s.1 + 2 : Int32).toNatClampNeg) = 0 then 0 else 1 : Int32)))) (fun hJ _ _ _ _ v τ1 hM q => E_callSH (as := [.ref 3, .int (rI s.2 2 (s.1 + 1 : Int32).toNatClampNeg), .int ((if (rI s.2 2 (s.1 + 2 : Int32).toNatClampNeg) = 0 then 0 else 1 : Int32)), .ref 114]) (st := []) hM (by decide) yfL_tableIs mlL_209 stL_tableIs rfl (Nat.le_of_ble_eq_true rfl) rfl dL_law_1662 q) (by omega) (by omega) (fun v204 σ205 => ?_)
                                                            refine P_l (fun hJ _ _ q => E_istore (ls2 := [some (.ref 2), some (.ref 3), some (.ref 67), some (.ref 114), some (.int s.1), some (.int v204), none]) dL_law_1665 (by decide) rfl (E_aload_n dL_law_1667 rfl (E_aload_n dL_law_1668 rfl (E_iload dL_law_1669 rfl (E_iconst (v := 1) dL_law_1671 (by decide) (E_iadd dL_law_1672 q)))))) ?_
                                                            refine P_g (fun g206 => ?_)
                                                            refine P_l (fun hJ _ _ q => E_iald dL_law_1673 (Sy_two hJ.1) (inB_vp g206) (E_aload_n dL_law_1674 rfl (E_iload dL_law_1675 rfl (E_iconst (v := 2) dL_law_1677 (by decide) (E_iadd dL_law_1678 q))))) ?_
                                                            refine P_g (fun g207 => ?_)
                                                            refine P_l (fun hJ _ _ q => E_iald dL_law_1679 (Sy_two hJ.1) (inB_vp g207) q) ?_
                                                            refine P_l (pc2 := 1688) (ls2 := [some (.ref 2), some (.ref 3), some (.ref 67), some (.ref 114), some (.int s.1), some (.int v204), none]) (st2 := [.int ((if (rI σ205 2 (s.1 + 2 : Int32).toNatClampNeg) = 0 then 0 else 1 : Int32)), .int (rI σ205 2 (s.1 + 1 : Int32).toNatClampNeg), .ref 67]) (fun hJ _ _ hq => ?_) ?_
                                                            · skip
                                                              refine E_if_eq 1687 dL_law_1680 (by decide) (fun c_1680_0 => ?_) (fun c_1680_0 => ?_)
                                                              · skip
                                                                refine E_iconst (v := 0) dL_law_1687 (by decide) ?_
                                                                simp only [if_pos c_1680_0] at hq
                                                                exact hq
                                                              · skip
                                                                refine E_iconst (v := 1) dL_law_1683 (by decide) ?_
                                                                refine E_goto 1688 dL_law_1684 (by decide) ?_
                                                                simp only [if_neg c_1680_0] at hq
                                                                exact hq
                                                            · skip
                                                              refine P_call (t := fun v => some (.int v)) (st2 := fun v => .int v :: []) (kc2 := kN + 3) (ks2 := ksN + 18) (fun hJ => (ok_X11_tableIs (σ := σ205) (p1 := rI σ205 2 (s.1 + 1 : Int32).toNatClampNeg) (p2 := (if (rI σ205 2 (s.1 + 2 : Int32).toNatClampNeg) = 0 then 0 else 1 : Int32)) )) (fun hJ _ _ _ _ v τ1 hM q => E_callV (as := [.int (rI σ205 2 (s.1 + 1 : Int32).toNatClampNeg), .int ((if (rI σ205 2 (s.1 + 2 : Int32).toNatClampNeg) = 0 then 0 else 1 : Int32))]) (b := 67) (st := []) hM (by decide) yfX11_tableIs mlL_212 imX11_tableIs seX11_tableIs clX11 (kd67 hJ.1.1) rfl (Nat.le_of_ble_eq_true rfl) rfl dL_law_1688 q) (by omega) (by omega) (fun v208 σ209 => ?_)
                                                              refine P_l (fun hJ _ _ q => E_istore (ls2 := [some (.ref 2), some (.ref 3), some (.ref 67), some (.ref 114), some (.int s.1), some (.int v204), some (.int v208)]) dL_law_1691 (by decide) rfl (E_aload_n dL_law_1693 rfl (E_callV (as := []) (b := 67) (st := []) (ok_X11_thrown (σ := σ209)  hJ ) (by decide) yfX11_thrown mlL_121 imX11_thrown seX11_thrown clX11 (kd67 hJ.1.1) rfl (Nat.le_of_ble_eq_true rfl) rfl dL_law_1694 (E_iload dL_law_1697 rfl q)))) ?_
                                                              refine P_if (fun hJ _ _ h1 h2 => E_icmp_eq 1704 dL_law_1699 (by decide) h1 h2) ?_ ?_
                                                              · skip
                                                                refine P_l (fun hJ _ _ q => E_iload dL_law_1704 rfl q) ?_
                                                                refine P_if (c := (if v204 = 0 then (if (lg_cmp (rL σ209 114 (0 : Int32).toNatClampNeg) (((v208 : Int32)).toInt64)) = 0 then true else false) else true) = true) (pc1 := 1721) (ls1 := [some (.ref 2), some (.ref 3), some (.ref 67), some (.ref 114), some (.int s.1), some (.int v204), some (.int v208)]) (st1 := []) (pc2 := 1719) (ls2 := [some (.ref 2), some (.ref 3), some (.ref 67), some (.ref 114), some (.int s.1), some (.int v204), some (.int v208)]) (st2 := []) (fun hJ _ _ hX hY => ?_) ?_ ?_
                                                                · skip
                                                                  refine E_if_ne 1721 dL_law_1706 (by decide) (fun c_1706_0 => ?_) (fun c_1706_0 => ?_)
                                                                  · skip
                                                                    exact hX (by simp only [if_neg c_1706_0])
                                                                  · skip
                                                                    refine E_aload_n dL_law_1709 rfl ?_
                                                                    refine E_iconst (v := 0) dL_law_1710 (by decide) ?_
                                                                    refine E_lald dL_law_1711 (kd114 hJ.1.1) (inB_vp (by decide)) ?_
                                                                    refine E_iload dL_law_1712 rfl ?_
                                                                    refine E_i2l dL_law_1714 ?_
                                                                    refine E_lcmp dL_law_1715 ?_
                                                                    refine E_if_eq 1721 dL_law_1716 (by decide) (fun c_1716_1 => ?_) (fun c_1716_1 => ?_)
                                                                    · skip
                                                                      exact hX (by simp only [if_pos c_1706_0, if_pos c_1716_1])
                                                                    · skip
                                                                      exact hY (by simp only [if_pos c_1706_0, if_neg c_1716_1]; exact Bool.false_ne_true)
                                                                · skip
                                                                  refine P_l (fun hJ _ _ q => E_goto 2041 dL_law_1721 (by decide) (E_iinc (v := 6) (ls2 := [some (.ref 2), some (.ref 3), some (.ref 67), some (.ref 114), some (.int (s.1 + 6)), some (.int v204), some (.int v208)]) dL_law_2041 rfl (by decide) (by decide) rfl (E_goto 23 dL_law_2044 (by decide) q))) ?_
                                                                  refine P_less [some (.ref 2), some (.ref 3), some (.ref 67), some (.ref 114), some (.int (s.1 + 6)), none, none] (And.intro rfl (And.intro rfl (And.intro rfl (And.intro rfl (And.intro rfl trivial))))) ?_
                                                                  refine P_room (kc2 := kN) (ks2 := ksN) (by omega) (by omega) ?_
                                                                  exact P_back ((s.1 + 6, σ209))
                                                                · skip
                                                                  refine P_l (fun hJ _ _ q => E_iconst (v := 0) dL_law_1719 (by decide) q) ?_
                                                                  exact P_inl (P_ret (fun _ _ => E_zret01 rfl (by decide) dL_law_1720))
                                                              · skip
                                                                refine P_l (fun hJ _ _ q => E_iconst (v := 0) dL_law_1702 (by decide) q) ?_
                                                                exact P_inl (P_ret (fun _ _ => E_zret01 rfl (by decide) dL_law_1703))
                                                        · skip
                                                          refine P_case (fun h210 => ?_) (fun h210 => ?_)
                                                          · skip
                                                            refine P_l (fun hJ _ _ q => E_tableIn (off := 1684) 1724 dL_law_40 (by rw [h210]; decide) (by rw [h210]; decide) (by rw [h210]; rfl) (by decide) q) ?_
                                                            refine P_l (fun hJ _ _ q => E_aload_n dL_law_1724 rfl (E_aload_n dL_law_1725 rfl (E_iload dL_law_1726 rfl (E_iconst (v := 1) dL_law_1728 (by decide) (E_iadd dL_law_1729 q))))) ?_
                                                            refine P_g (fun g211 => ?_)
                                                            refine P_l (fun hJ _ _ q => E_iald dL_law_1730 (Sy_two hJ.1) (inB_vp g211) (E_aload_n dL_law_1731 rfl q)) ?_
                                                            refine P_callH (st2 := fun v => .int v :: []) (kc2 := kN + 3) (ks2 := ksN + 18) (fun hJ => (ok_L_poolIs (σ := s.2) (p1 := rI s.2 2 (s.1 + 1 : Int32).toNatClampNeg))) (fun hJ _ _ _ _ v τ1 hM q => E_callSH (as := [.ref 3, .int (rI s.2 2 (s.1 + 1 : Int32).toNatClampNeg), .ref 114]) (st := []) hM (by decide) yfL_poolIs mlL_213 stL_poolIs rfl (Nat.le_of_ble_eq_true rfl) rfl dL_law_1732 q) (by omega) (by omega) (fun v212 σ213 => ?_)
                                                            refine P_l (fun hJ _ _ q => E_istore (ls2 := [some (.ref 2), some (.ref 3), some (.ref 67), some (.ref 114), some (.int s.1), some (.int v212), none]) dL_law_1735 (by decide) rfl (E_aload_n dL_law_1737 rfl (E_aload_n dL_law_1738 rfl (E_iload dL_law_1739 rfl (E_iconst (v := 1) dL_law_1741 (by decide) (E_iadd dL_law_1742 q)))))) ?_
                                                            refine P_g (fun g214 => ?_)
                                                            refine P_l (fun hJ _ _ q => E_iald dL_law_1743 (Sy_two hJ.1) (inB_vp g214) q) ?_
                                                            refine P_call (t := fun v => some (.int v)) (st2 := fun v => .int v :: []) (kc2 := kN + 3) (ks2 := ksN + 18) (fun hJ => (ok_X11_poolIs (σ := σ213) (p1 := rI σ213 2 (s.1 + 1 : Int32).toNatClampNeg) )) (fun hJ _ _ _ _ v τ1 hM q => E_callV (as := [.int (rI σ213 2 (s.1 + 1 : Int32).toNatClampNeg)]) (b := 67) (st := []) hM (by decide) yfX11_poolIs mlL_215 imX11_poolIs seX11_poolIs clX11 (kd67 hJ.1.1) rfl (Nat.le_of_ble_eq_true rfl) rfl dL_law_1744 q) (by omega) (by omega) (fun v215 σ216 => ?_)
                                                            refine P_l (fun hJ _ _ q => E_istore (ls2 := [some (.ref 2), some (.ref 3), some (.ref 67), some (.ref 114), some (.int s.1), some (.int v212), some (.int v215)]) dL_law_1747 (by decide) rfl (E_aload_n dL_law_1749 rfl (E_callV (as := []) (b := 67) (st := []) (ok_X11_thrown (σ := σ216)  hJ ) (by decide) yfX11_thrown mlL_121 imX11_thrown seX11_thrown clX11 (kd67 hJ.1.1) rfl (Nat.le_of_ble_eq_true rfl) rfl dL_law_1750 (E_iload dL_law_1753 rfl q)))) ?_
                                                            refine P_if (fun hJ _ _ h1 h2 => E_icmp_eq 1760 dL_law_1755 (by decide) h1 h2) ?_ ?_
                                                            · skip
                                                              refine P_l (fun hJ _ _ q => E_iload dL_law_1760 rfl q) ?_
                                                              refine P_if (c := (if v212 = 0 then (if (lg_cmp (rL σ216 114 (0 : Int32).toNatClampNeg) (((v215 : Int32)).toInt64)) = 0 then true else false) else true) = true) (pc1 := 1777) (ls1 := [some (.ref 2), some (.ref 3), some (.ref 67), some (.ref 114), some (.int s.1), some (.int v212), some (.int v215)]) (st1 := []) (pc2 := 1775) (ls2 := [some (.ref 2), some (.ref 3), some (.ref 67), some (.ref 114), some (.int s.1), some (.int v212), some (.int v215)]) (st2 := []) (fun hJ _ _ hX hY => ?_) ?_ ?_
                                                              · skip
                                                                refine E_if_ne 1777 dL_law_1762 (by decide) (fun c_1762_0 => ?_) (fun c_1762_0 => ?_)
                                                                · skip
                                                                  exact hX (by simp only [if_neg c_1762_0])
                                                                · skip
                                                                  refine E_aload_n dL_law_1765 rfl ?_
                                                                  refine E_iconst (v := 0) dL_law_1766 (by decide) ?_
                                                                  refine E_lald dL_law_1767 (kd114 hJ.1.1) (inB_vp (by decide)) ?_
                                                                  refine E_iload dL_law_1768 rfl ?_
                                                                  refine E_i2l dL_law_1770 ?_
                                                                  refine E_lcmp dL_law_1771 ?_
                                                                  refine E_if_eq 1777 dL_law_1772 (by decide) (fun c_1772_1 => ?_) (fun c_1772_1 => ?_)
                                                                  · skip
                                                                    exact hX (by simp only [if_pos c_1762_0, if_pos c_1772_1])
                                                                  · skip
                                                                    exact hY (by simp only [if_pos c_1762_0, if_neg c_1772_1]; exact Bool.false_ne_true)
                                                              · skip
                                                                refine P_l (fun hJ _ _ q => E_goto 2041 dL_law_1777 (by decide) (E_iinc (v := 6) (ls2 := [some (.ref 2), some (.ref 3), some (.ref 67), some (.ref 114), some (.int (s.1 + 6)), some (.int v212), some (.int v215)]) dL_law_2041 rfl (by decide) (by decide) rfl (E_goto 23 dL_law_2044 (by decide) q))) ?_
                                                                refine P_less [some (.ref 2), some (.ref 3), some (.ref 67), some (.ref 114), some (.int (s.1 + 6)), none, none] (And.intro rfl (And.intro rfl (And.intro rfl (And.intro rfl (And.intro rfl trivial))))) ?_
                                                                refine P_room (kc2 := kN) (ks2 := ksN) (by omega) (by omega) ?_
                                                                exact P_back ((s.1 + 6, σ216))
                                                              · skip
                                                                refine P_l (fun hJ _ _ q => E_iconst (v := 0) dL_law_1775 (by decide) q) ?_
                                                                exact P_inl (P_ret (fun _ _ => E_zret01 rfl (by decide) dL_law_1776))
                                                            · skip
                                                              refine P_l (fun hJ _ _ q => E_iconst (v := 0) dL_law_1758 (by decide) q) ?_
                                                              exact P_inl (P_ret (fun _ _ => E_zret01 rfl (by decide) dL_law_1759))
                                                          · skip
                                                            refine P_case (fun h217 => ?_) (fun h217 => ?_)
                                                            · skip
                                                              refine P_l (fun hJ _ _ q => E_tableIn (off := 1740) 1780 dL_law_40 (by rw [h217]; decide) (by rw [h217]; decide) (by rw [h217]; rfl) (by decide) q) ?_
                                                              refine P_l (fun hJ _ _ q => E_aload_n dL_law_1780 rfl (E_aload_n dL_law_1781 rfl (E_iload dL_law_1782 rfl (E_iconst (v := 1) dL_law_1784 (by decide) (E_iadd dL_law_1785 q))))) ?_
                                                              refine P_g (fun g218 => ?_)
                                                              refine P_l (fun hJ _ _ q => E_iald dL_law_1786 (Sy_two hJ.1) (inB_vp g218) (E_aload_n dL_law_1787 rfl (E_iload dL_law_1788 rfl (E_iconst (v := 2) dL_law_1790 (by decide) (E_iadd dL_law_1791 q))))) ?_
                                                              refine P_g (fun g219 => ?_)
                                                              refine P_l (fun hJ _ _ q => E_iald dL_law_1792 (Sy_two hJ.1) (inB_vp g219) (E_aload_n dL_law_1793 rfl q)) ?_
                                                              refine P_callH (st2 := fun v => .int v :: []) (kc2 := kN + 2) (ks2 := ksN + 12) (fun hJ => (ok_L_playerIs (σ := s.2) (p1 := rI s.2 2 (s.1 + 1 : Int32).toNatClampNeg) (p2 := rI s.2 2 (s.1 + 2 : Int32).toNatClampNeg))) (fun hJ _ _ _ _ v τ1 hM q => E_callSH (as := [.ref 3, .int (rI s.2 2 (s.1 + 1 : Int32).toNatClampNeg), .int (rI s.2 2 (s.1 + 2 : Int32).toNatClampNeg), .ref 114]) (st := []) hM (by decide) yfL_playerIs mlL_216 stL_playerIs rfl (Nat.le_of_ble_eq_true rfl) rfl dL_law_1794 q) (by omega) (by omega) (fun v220 σ221 => ?_)
                                                              refine P_l (fun hJ _ _ q => E_istore (ls2 := [some (.ref 2), some (.ref 3), some (.ref 67), some (.ref 114), some (.int s.1), some (.int v220), none]) dL_law_1797 (by decide) rfl (E_aload_n dL_law_1799 rfl (E_aload_n dL_law_1800 rfl (E_iload dL_law_1801 rfl (E_iconst (v := 1) dL_law_1803 (by decide) (E_iadd dL_law_1804 q)))))) ?_
                                                              refine P_g (fun g222 => ?_)
                                                              refine P_l (fun hJ _ _ q => E_iald dL_law_1805 (Sy_two hJ.1) (inB_vp g222) (E_aload_n dL_law_1806 rfl (E_iload dL_law_1807 rfl (E_iconst (v := 2) dL_law_1809 (by decide) (E_iadd dL_law_1810 q))))) ?_
                                                              refine P_g (fun g223 => ?_)
                                                              refine P_l (fun hJ _ _ q => E_iald dL_law_1811 (Sy_two hJ.1) (inB_vp g223) q) ?_
                                                              refine P_call (t := fun v => some (.int v)) (st2 := fun v => .int v :: []) (kc2 := kN + 2) (ks2 := ksN + 12) (fun hJ => (ok_X11_playerIs (σ := σ221) (p1 := rI σ221 2 (s.1 + 1 : Int32).toNatClampNeg) (p2 := rI σ221 2 (s.1 + 2 : Int32).toNatClampNeg) )) (fun hJ _ _ _ _ v τ1 hM q => E_callV (as := [.int (rI σ221 2 (s.1 + 1 : Int32).toNatClampNeg), .int (rI σ221 2 (s.1 + 2 : Int32).toNatClampNeg)]) (b := 67) (st := []) hM (by decide) yfX11_playerIs mlL_218 imX11_playerIs seX11_playerIs clX11 (kd67 hJ.1.1) rfl (Nat.le_of_ble_eq_true rfl) rfl dL_law_1812 q) (by omega) (by omega) (fun v224 σ225 => ?_)
                                                              refine P_l (fun hJ _ _ q => E_istore (ls2 := [some (.ref 2), some (.ref 3), some (.ref 67), some (.ref 114), some (.int s.1), some (.int v220), some (.int v224)]) dL_law_1815 (by decide) rfl (E_aload_n dL_law_1817 rfl (E_callV (as := []) (b := 67) (st := []) (ok_X11_thrown (σ := σ225)  hJ ) (by decide) yfX11_thrown mlL_121 imX11_thrown seX11_thrown clX11 (kd67 hJ.1.1) rfl (Nat.le_of_ble_eq_true rfl) rfl dL_law_1818 (E_iload dL_law_1821 rfl q)))) ?_
                                                              refine P_if (fun hJ _ _ h1 h2 => E_icmp_eq 1828 dL_law_1823 (by decide) h1 h2) ?_ ?_
                                                              · skip
                                                                refine P_l (fun hJ _ _ q => E_iload dL_law_1828 rfl q) ?_
                                                                refine P_if (c := (if v220 = 0 then (if (lg_cmp (rL σ225 114 (0 : Int32).toNatClampNeg) (((v224 : Int32)).toInt64)) = 0 then true else false) else true) = true) (pc1 := 1845) (ls1 := [some (.ref 2), some (.ref 3), some (.ref 67), some (.ref 114), some (.int s.1), some (.int v220), some (.int v224)]) (st1 := []) (pc2 := 1843) (ls2 := [some (.ref 2), some (.ref 3), some (.ref 67), some (.ref 114), some (.int s.1), some (.int v220), some (.int v224)]) (st2 := []) (fun hJ _ _ hX hY => ?_) ?_ ?_
                                                                · skip
                                                                  refine E_if_ne 1845 dL_law_1830 (by decide) (fun c_1830_0 => ?_) (fun c_1830_0 => ?_)
                                                                  · skip
                                                                    exact hX (by simp only [if_neg c_1830_0])
                                                                  · skip
                                                                    refine E_aload_n dL_law_1833 rfl ?_
                                                                    refine E_iconst (v := 0) dL_law_1834 (by decide) ?_
                                                                    refine E_lald dL_law_1835 (kd114 hJ.1.1) (inB_vp (by decide)) ?_
                                                                    refine E_iload dL_law_1836 rfl ?_
                                                                    refine E_i2l dL_law_1838 ?_
                                                                    refine E_lcmp dL_law_1839 ?_
                                                                    refine E_if_eq 1845 dL_law_1840 (by decide) (fun c_1840_1 => ?_) (fun c_1840_1 => ?_)
                                                                    · skip
                                                                      exact hX (by simp only [if_pos c_1830_0, if_pos c_1840_1])
                                                                    · skip
                                                                      exact hY (by simp only [if_pos c_1830_0, if_neg c_1840_1]; exact Bool.false_ne_true)
                                                                · skip
                                                                  refine P_l (fun hJ _ _ q => E_goto 2041 dL_law_1845 (by decide) (E_iinc (v := 6) (ls2 := [some (.ref 2), some (.ref 3), some (.ref 67), some (.ref 114), some (.int (s.1 + 6)), some (.int v220), some (.int v224)]) dL_law_2041 rfl (by decide) (by decide) rfl (E_goto 23 dL_law_2044 (by decide) q))) ?_
                                                                  refine P_less [some (.ref 2), some (.ref 3), some (.ref 67), some (.ref 114), some (.int (s.1 + 6)), none, none] (And.intro rfl (And.intro rfl (And.intro rfl (And.intro rfl (And.intro rfl trivial))))) ?_
                                                                  refine P_room (kc2 := kN) (ks2 := ksN) (by omega) (by omega) ?_
                                                                  exact P_back ((s.1 + 6, σ225))
                                                                · skip
                                                                  refine P_l (fun hJ _ _ q => E_iconst (v := 0) dL_law_1843 (by decide) q) ?_
                                                                  exact P_inl (P_ret (fun _ _ => E_zret01 rfl (by decide) dL_law_1844))
                                                              · skip
                                                                refine P_l (fun hJ _ _ q => E_iconst (v := 0) dL_law_1826 (by decide) q) ?_
                                                                exact P_inl (P_ret (fun _ _ => E_zret01 rfl (by decide) dL_law_1827))
                                                            · skip
                                                              refine P_case (fun h226 => ?_) (fun h226 => ?_)
                                                              · skip
                                                                refine P_l (fun hJ _ _ q => E_tableIn (off := 1808) 1848 dL_law_40 (by rw [h226]; decide) (by rw [h226]; decide) (by rw [h226]; rfl) (by decide) q) ?_
                                                                refine P_l (fun hJ _ _ q => E_aload_n dL_law_1848 rfl (E_aload_n dL_law_1849 rfl (E_iload dL_law_1850 rfl (E_iconst (v := 1) dL_law_1852 (by decide) (E_iadd dL_law_1853 q))))) ?_
                                                                refine P_g (fun g227 => ?_)
                                                                refine P_l (fun hJ _ _ q => E_iald dL_law_1854 (Sy_two hJ.1) (inB_vp g227) (E_aload_n dL_law_1855 rfl q)) ?_
                                                                refine P_callH (st2 := fun v => .int v :: []) (kc2 := kN + 3) (ks2 := ksN + 18) (fun hJ => (ok_L_team (σ := s.2) (p1 := rI s.2 2 (s.1 + 1 : Int32).toNatClampNeg))) (fun hJ _ _ _ _ v τ1 hM q => E_callSH (as := [.ref 3, .int (rI s.2 2 (s.1 + 1 : Int32).toNatClampNeg), .ref 114]) (st := []) hM (by decide) yfL_team mlL_219 stL_team rfl (Nat.le_of_ble_eq_true rfl) rfl dL_law_1856 q) (by omega) (by omega) (fun v228 σ229 => ?_)
                                                                refine P_l (fun hJ _ _ q => E_istore (ls2 := [some (.ref 2), some (.ref 3), some (.ref 67), some (.ref 114), some (.int s.1), some (.int v228), none]) dL_law_1859 (by decide) rfl (E_aload_n dL_law_1861 rfl (E_aload_n dL_law_1862 rfl (E_iload dL_law_1863 rfl (E_iconst (v := 1) dL_law_1865 (by decide) (E_iadd dL_law_1866 q)))))) ?_
                                                                refine P_g (fun g230 => ?_)
                                                                refine P_l (fun hJ _ _ q => E_iald dL_law_1867 (Sy_two hJ.1) (inB_vp g230) q) ?_
                                                                refine P_call (t := fun v => some (.int v)) (st2 := fun v => .int v :: []) (kc2 := kN + 3) (ks2 := ksN + 18) (fun hJ => (ok_X11_team (σ := σ229) (p1 := rI σ229 2 (s.1 + 1 : Int32).toNatClampNeg) )) (fun hJ _ _ _ _ v τ1 hM q => E_callV (as := [.int (rI σ229 2 (s.1 + 1 : Int32).toNatClampNeg)]) (b := 67) (st := []) hM (by decide) yfX11_team mlL_221 imX11_team seX11_team clX11 (kd67 hJ.1.1) rfl (Nat.le_of_ble_eq_true rfl) rfl dL_law_1868 q) (by omega) (by omega) (fun v231 σ232 => ?_)
                                                                refine P_l (fun hJ _ _ q => E_istore (ls2 := [some (.ref 2), some (.ref 3), some (.ref 67), some (.ref 114), some (.int s.1), some (.int v228), some (.int v231)]) dL_law_1871 (by decide) rfl (E_aload_n dL_law_1873 rfl (E_callV (as := []) (b := 67) (st := []) (ok_X11_thrown (σ := σ232)  hJ ) (by decide) yfX11_thrown mlL_121 imX11_thrown seX11_thrown clX11 (kd67 hJ.1.1) rfl (Nat.le_of_ble_eq_true rfl) rfl dL_law_1874 (E_iload dL_law_1877 rfl q)))) ?_
                                                                refine P_if (fun hJ _ _ h1 h2 => E_icmp_eq 1884 dL_law_1879 (by decide) h1 h2) ?_ ?_
                                                                · skip
                                                                  refine P_l (fun hJ _ _ q => E_iload dL_law_1884 rfl q) ?_
                                                                  refine P_if (c := (if v228 = 0 then (if (lg_cmp (rL σ232 114 (0 : Int32).toNatClampNeg) (((v231 : Int32)).toInt64)) = 0 then true else false) else true) = true) (pc1 := 1901) (ls1 := [some (.ref 2), some (.ref 3), some (.ref 67), some (.ref 114), some (.int s.1), some (.int v228), some (.int v231)]) (st1 := []) (pc2 := 1899) (ls2 := [some (.ref 2), some (.ref 3), some (.ref 67), some (.ref 114), some (.int s.1), some (.int v228), some (.int v231)]) (st2 := []) (fun hJ _ _ hX hY => ?_) ?_ ?_
                                                                  · skip
                                                                    refine E_if_ne 1901 dL_law_1886 (by decide) (fun c_1886_0 => ?_) (fun c_1886_0 => ?_)
                                                                    · skip
                                                                      exact hX (by simp only [if_neg c_1886_0])
                                                                    · skip
                                                                      refine E_aload_n dL_law_1889 rfl ?_
                                                                      refine E_iconst (v := 0) dL_law_1890 (by decide) ?_
                                                                      refine E_lald dL_law_1891 (kd114 hJ.1.1) (inB_vp (by decide)) ?_
                                                                      refine E_iload dL_law_1892 rfl ?_
                                                                      refine E_i2l dL_law_1894 ?_
                                                                      refine E_lcmp dL_law_1895 ?_
                                                                      refine E_if_eq 1901 dL_law_1896 (by decide) (fun c_1896_1 => ?_) (fun c_1896_1 => ?_)
                                                                      · skip
                                                                        exact hX (by simp only [if_pos c_1886_0, if_pos c_1896_1])
                                                                      · skip
                                                                        exact hY (by simp only [if_pos c_1886_0, if_neg c_1896_1]; exact Bool.false_ne_true)
                                                                  · skip
                                                                    refine P_l (fun hJ _ _ q => E_goto 2041 dL_law_1901 (by decide) (E_iinc (v := 6) (ls2 := [some (.ref 2), some (.ref 3), some (.ref 67), some (.ref 114), some (.int (s.1 + 6)), some (.int v228), some (.int v231)]) dL_law_2041 rfl (by decide) (by decide) rfl (E_goto 23 dL_law_2044 (by decide) q))) ?_
                                                                    refine P_less [some (.ref 2), some (.ref 3), some (.ref 67), some (.ref 114), some (.int (s.1 + 6)), none, none] (And.intro rfl (And.intro rfl (And.intro rfl (And.intro rfl (And.intro rfl trivial))))) ?_
                                                                    refine P_room (kc2 := kN) (ks2 := ksN) (by omega) (by omega) ?_
                                                                    exact P_back ((s.1 + 6, σ232))
                                                                  · skip
                                                                    refine P_l (fun hJ _ _ q => E_iconst (v := 0) dL_law_1899 (by decide) q) ?_
                                                                    exact P_inl (P_ret (fun _ _ => E_zret01 rfl (by decide) dL_law_1900))
                                                                · skip
                                                                  refine P_l (fun hJ _ _ q => E_iconst (v := 0) dL_law_1882 (by decide) q) ?_
                                                                  exact P_inl (P_ret (fun _ _ => E_zret01 rfl (by decide) dL_law_1883))
                                                              · skip
                                                                refine P_case (fun h233 => ?_) (fun h233 => ?_)
                                                                · skip
                                                                  refine P_l (fun hJ _ _ q => E_tableIn (off := 1864) 1904 dL_law_40 (by rw [h233]; decide) (by rw [h233]; decide) (by rw [h233]; rfl) (by decide) q) ?_
                                                                  refine P_l (fun hJ _ _ q => E_aload_n dL_law_1904 rfl (E_aload_n dL_law_1905 rfl (E_iload dL_law_1906 rfl (E_iconst (v := 1) dL_law_1908 (by decide) (E_iadd dL_law_1909 q))))) ?_
                                                                  refine P_g (fun g234 => ?_)
                                                                  refine P_l (fun hJ _ _ q => E_iald dL_law_1910 (Sy_two hJ.1) (inB_vp g234) (E_aload_n dL_law_1911 rfl (E_iload dL_law_1912 rfl (E_iconst (v := 2) dL_law_1914 (by decide) (E_iadd dL_law_1915 q))))) ?_
                                                                  refine P_g (fun g235 => ?_)
                                                                  refine P_l (fun hJ _ _ q => E_iald dL_law_1916 (Sy_two hJ.1) (inB_vp g235) (E_aload_n dL_law_1917 rfl q)) ?_
                                                                  refine P_callH (st2 := fun v => .int v :: []) (kc2 := kN + 3) (ks2 := ksN + 18) (fun hJ => (ok_L_entry (σ := s.2) (p1 := rI s.2 2 (s.1 + 1 : Int32).toNatClampNeg) (p2 := rI s.2 2 (s.1 + 2 : Int32).toNatClampNeg))) (fun hJ _ _ _ _ v τ1 hM q => E_callSH (as := [.ref 3, .int (rI s.2 2 (s.1 + 1 : Int32).toNatClampNeg), .int (rI s.2 2 (s.1 + 2 : Int32).toNatClampNeg), .ref 114]) (st := []) hM (by decide) yfL_entry mlL_222 stL_entry rfl (Nat.le_of_ble_eq_true rfl) rfl dL_law_1918 q) (by omega) (by omega) (fun v236 σ237 => ?_)
                                                                  refine P_l (fun hJ _ _ q => E_istore (ls2 := [some (.ref 2), some (.ref 3), some (.ref 67), some (.ref 114), some (.int s.1), some (.int v236), none]) dL_law_1921 (by decide) rfl (E_aload_n dL_law_1923 rfl (E_aload_n dL_law_1924 rfl (E_iload dL_law_1925 rfl (E_iconst (v := 1) dL_law_1927 (by decide) (E_iadd dL_law_1928 q)))))) ?_
                                                                  refine P_g (fun g238 => ?_)
                                                                  refine P_l (fun hJ _ _ q => E_iald dL_law_1929 (Sy_two hJ.1) (inB_vp g238) (E_aload_n dL_law_1930 rfl (E_iload dL_law_1931 rfl (E_iconst (v := 2) dL_law_1933 (by decide) (E_iadd dL_law_1934 q))))) ?_
                                                                  refine P_g (fun g239 => ?_)
                                                                  refine P_l (fun hJ _ _ q => E_iald dL_law_1935 (Sy_two hJ.1) (inB_vp g239) q) ?_
                                                                  refine P_call (t := fun v => some (.int v)) (st2 := fun v => .int v :: []) (kc2 := kN + 3) (ks2 := ksN + 18) (fun hJ => (ok_X11_entry (σ := σ237) (p1 := rI σ237 2 (s.1 + 1 : Int32).toNatClampNeg) (p2 := rI σ237 2 (s.1 + 2 : Int32).toNatClampNeg) )) (fun hJ _ _ _ _ v τ1 hM q => E_callV (as := [.int (rI σ237 2 (s.1 + 1 : Int32).toNatClampNeg), .int (rI σ237 2 (s.1 + 2 : Int32).toNatClampNeg)]) (b := 67) (st := []) hM (by decide) yfX11_entry mlL_224 imX11_entry seX11_entry clX11 (kd67 hJ.1.1) rfl (Nat.le_of_ble_eq_true rfl) rfl dL_law_1936 q) (by omega) (by omega) (fun v240 σ241 => ?_)
                                                                  refine P_l (fun hJ _ _ q => E_istore (ls2 := [some (.ref 2), some (.ref 3), some (.ref 67), some (.ref 114), some (.int s.1), some (.int v236), some (.int v240)]) dL_law_1939 (by decide) rfl (E_aload_n dL_law_1941 rfl (E_callV (as := []) (b := 67) (st := []) (ok_X11_thrown (σ := σ241)  hJ ) (by decide) yfX11_thrown mlL_121 imX11_thrown seX11_thrown clX11 (kd67 hJ.1.1) rfl (Nat.le_of_ble_eq_true rfl) rfl dL_law_1942 (E_iload dL_law_1945 rfl q)))) ?_
                                                                  refine P_if (fun hJ _ _ h1 h2 => E_icmp_eq 1952 dL_law_1947 (by decide) h1 h2) ?_ ?_
                                                                  · skip
                                                                    refine P_l (fun hJ _ _ q => E_iload dL_law_1952 rfl q) ?_
                                                                    refine P_if (c := (if v236 = 0 then (if (lg_cmp (rL σ241 114 (0 : Int32).toNatClampNeg) (((v240 : Int32)).toInt64)) = 0 then true else false) else true) = true) (pc1 := 1969) (ls1 := [some (.ref 2), some (.ref 3), some (.ref 67), some (.ref 114), some (.int s.1), some (.int v236), some (.int v240)]) (st1 := []) (pc2 := 1967) (ls2 := [some (.ref 2), some (.ref 3), some (.ref 67), some (.ref 114), some (.int s.1), some (.int v236), some (.int v240)]) (st2 := []) (fun hJ _ _ hX hY => ?_) ?_ ?_
                                                                    · skip
                                                                      refine E_if_ne 1969 dL_law_1954 (by decide) (fun c_1954_0 => ?_) (fun c_1954_0 => ?_)
                                                                      · skip
                                                                        exact hX (by simp only [if_neg c_1954_0])
                                                                      · skip
                                                                        refine E_aload_n dL_law_1957 rfl ?_
                                                                        refine E_iconst (v := 0) dL_law_1958 (by decide) ?_
                                                                        refine E_lald dL_law_1959 (kd114 hJ.1.1) (inB_vp (by decide)) ?_
                                                                        refine E_iload dL_law_1960 rfl ?_
                                                                        refine E_i2l dL_law_1962 ?_
                                                                        refine E_lcmp dL_law_1963 ?_
                                                                        refine E_if_eq 1969 dL_law_1964 (by decide) (fun c_1964_1 => ?_) (fun c_1964_1 => ?_)
                                                                        · skip
                                                                          exact hX (by simp only [if_pos c_1954_0, if_pos c_1964_1])
                                                                        · skip
                                                                          exact hY (by simp only [if_pos c_1954_0, if_neg c_1964_1]; exact Bool.false_ne_true)
                                                                    · skip
                                                                      refine P_l (fun hJ _ _ q => E_goto 2041 dL_law_1969 (by decide) (E_iinc (v := 6) (ls2 := [some (.ref 2), some (.ref 3), some (.ref 67), some (.ref 114), some (.int (s.1 + 6)), some (.int v236), some (.int v240)]) dL_law_2041 rfl (by decide) (by decide) rfl (E_goto 23 dL_law_2044 (by decide) q))) ?_
                                                                      refine P_less [some (.ref 2), some (.ref 3), some (.ref 67), some (.ref 114), some (.int (s.1 + 6)), none, none] (And.intro rfl (And.intro rfl (And.intro rfl (And.intro rfl (And.intro rfl trivial))))) ?_
                                                                      refine P_room (kc2 := kN) (ks2 := ksN) (by omega) (by omega) ?_
                                                                      exact P_back ((s.1 + 6, σ241))
                                                                    · skip
                                                                      refine P_l (fun hJ _ _ q => E_iconst (v := 0) dL_law_1967 (by decide) q) ?_
                                                                      exact P_inl (P_ret (fun _ _ => E_zret01 rfl (by decide) dL_law_1968))
                                                                  · skip
                                                                    refine P_l (fun hJ _ _ q => E_iconst (v := 0) dL_law_1950 (by decide) q) ?_
                                                                    exact P_inl (P_ret (fun _ _ => E_zret01 rfl (by decide) dL_law_1951))
                                                                · skip
                                                                  refine P_case (fun h242 => ?_) (fun h242 => ?_)
                                                                  · skip
                                                                    refine P_l (fun hJ _ _ q => E_tableIn (off := 1932) 1972 dL_law_40 (by rw [h242]; decide) (by rw [h242]; decide) (by rw [h242]; rfl) (by decide) q) ?_
                                                                    refine P_l (fun hJ _ _ q => E_aload_n dL_law_1972 rfl q) ?_
                                                                    refine P_call (t := fun v => some (.int v)) (st2 := fun v => .int v :: []) (kc2 := kN + 3) (ks2 := ksN + 18) (fun hJ => (ok_X10_isReplayed (σ := s.2)  )) (fun hJ _ _ _ _ v τ1 hM q => E_callV (as := []) (b := 3) (st := []) hM (by decide) yfX10_isReplayed mlL_225 imX10_isReplayed seX10_isReplayed clX10 (kd3 hJ.1.1) rfl (Nat.le_of_ble_eq_true rfl) rfl dL_law_1973 q) (by omega) (by omega) (fun v243 σ244 => ?_)
                                                                    refine P_l (fun hJ _ _ q => E_aload_n dL_law_1976 rfl q) ?_
                                                                    refine P_call (t := fun v => some (.int v)) (st2 := fun v => .int v :: [.int v243]) (kc2 := kN + 3) (ks2 := ksN + 18) (fun hJ => (ok_X11_isReplayed (σ := σ244)  )) (fun hJ _ _ _ _ v τ1 hM q => E_callV (as := []) (b := 67) (st := [.int v243]) hM (by decide) yfX11_isReplayed mlL_228 imX11_isReplayed seX11_isReplayed clX11 (kd67 hJ.1.1) rfl (Nat.le_of_ble_eq_true rfl) rfl dL_law_1977 q) (by omega) (by omega) (fun v245 σ246 => ?_)
                                                                    refine P_if (fun hJ _ _ h1 h2 => E_icmp_eq 2041 dL_law_1980 (by decide) h1 h2) ?_ ?_
                                                                    · skip
                                                                      refine P_l (fun hJ _ _ q => E_iinc (v := 6) (ls2 := [some (.ref 2), some (.ref 3), some (.ref 67), some (.ref 114), some (.int (s.1 + 6)), none, none]) dL_law_2041 rfl (by decide) (by decide) rfl (E_goto 23 dL_law_2044 (by decide) q)) ?_
                                                                      refine P_room (kc2 := kN) (ks2 := ksN) (by omega) (by omega) ?_
                                                                      exact P_back ((s.1 + 6, σ246))
                                                                    · skip
                                                                      refine P_l (fun hJ _ _ q => E_iconst (v := 0) dL_law_1983 (by decide) q) ?_
                                                                      exact P_inl (P_ret (fun _ _ => E_zret01 rfl (by decide) dL_law_1984))
                                                                  · skip
                                                                    refine P_case (fun h247 => ?_) (fun h247 => ?_)
                                                                    · skip
                                                                      refine P_l (fun hJ _ _ q => E_tableIn (off := 1945) 1985 dL_law_40 (by rw [h247]; decide) (by rw [h247]; decide) (by rw [h247]; rfl) (by decide) q) ?_
                                                                      refine P_l (fun hJ _ _ q => E_aload_n dL_law_1985 rfl (E_aload_n dL_law_1986 rfl (E_iload dL_law_1987 rfl (E_iconst (v := 1) dL_law_1989 (by decide) (E_iadd dL_law_1990 q))))) ?_
                                                                      refine P_g (fun g248 => ?_)
                                                                      refine P_l (fun hJ _ _ q => E_iald dL_law_1991 (Sy_two hJ.1) (inB_vp g248) (E_aload_n dL_law_1992 rfl q)) ?_
                                                                      refine P_callH (st2 := fun v => .int v :: []) (kc2 := kN + 3) (ks2 := ksN + 18) (fun hJ => (ok_L_sum (σ := s.2) (p1 := rI s.2 2 (s.1 + 1 : Int32).toNatClampNeg))) (fun hJ _ _ _ _ v τ1 hM q => E_callSH (as := [.ref 3, .int (rI s.2 2 (s.1 + 1 : Int32).toNatClampNeg), .ref 114]) (st := []) hM (by decide) yfL_sum mlL_229 stL_sum rfl (Nat.le_of_ble_eq_true rfl) rfl dL_law_1993 q) (by omega) (by omega) (fun v249 σ250 => ?_)
                                                                      refine P_l (fun hJ _ _ q => E_istore (ls2 := [some (.ref 2), some (.ref 3), some (.ref 67), some (.ref 114), some (.int s.1), some (.int v249), none]) dL_law_1996 (by decide) rfl (E_aload_n dL_law_1998 rfl (E_aload_n dL_law_1999 rfl (E_iload dL_law_2000 rfl (E_iconst (v := 1) dL_law_2002 (by decide) (E_iadd dL_law_2003 q)))))) ?_
                                                                      refine P_g (fun g251 => ?_)
                                                                      refine P_l (fun hJ _ _ q => E_iald dL_law_2004 (Sy_two hJ.1) (inB_vp g251) q) ?_
                                                                      refine P_call (t := fun v => some (.int v)) (st2 := fun v => .int v :: []) (kc2 := kN + 3) (ks2 := ksN + 18) (fun hJ => (ok_X11_sum (σ := σ250) (p1 := rI σ250 2 (s.1 + 1 : Int32).toNatClampNeg) )) (fun hJ _ _ _ _ v τ1 hM q => E_callV (as := [.int (rI σ250 2 (s.1 + 1 : Int32).toNatClampNeg)]) (b := 67) (st := []) hM (by decide) yfX11_sum mlL_231 imX11_sum seX11_sum clX11 (kd67 hJ.1.1) rfl (Nat.le_of_ble_eq_true rfl) rfl dL_law_2005 q) (by omega) (by omega) (fun v252 σ253 => ?_)
                                                                      refine P_l (fun hJ _ _ q => E_istore (ls2 := [some (.ref 2), some (.ref 3), some (.ref 67), some (.ref 114), some (.int s.1), some (.int v249), some (.int v252)]) dL_law_2008 (by decide) rfl (E_aload_n dL_law_2010 rfl (E_callV (as := []) (b := 67) (st := []) (ok_X11_thrown (σ := σ253)  hJ ) (by decide) yfX11_thrown mlL_121 imX11_thrown seX11_thrown clX11 (kd67 hJ.1.1) rfl (Nat.le_of_ble_eq_true rfl) rfl dL_law_2011 (E_iload dL_law_2014 rfl q)))) ?_
                                                                      refine P_if (fun hJ _ _ h1 h2 => E_icmp_eq 2021 dL_law_2016 (by decide) h1 h2) ?_ ?_
                                                                      · skip
                                                                        refine P_l (fun hJ _ _ q => E_iload dL_law_2021 rfl q) ?_
                                                                        refine P_if (c := (if v249 = 0 then (if (lg_cmp (rL σ253 114 (0 : Int32).toNatClampNeg) (((v252 : Int32)).toInt64)) = 0 then true else false) else true) = true) (pc1 := 2038) (ls1 := [some (.ref 2), some (.ref 3), some (.ref 67), some (.ref 114), some (.int s.1), some (.int v249), some (.int v252)]) (st1 := []) (pc2 := 2036) (ls2 := [some (.ref 2), some (.ref 3), some (.ref 67), some (.ref 114), some (.int s.1), some (.int v249), some (.int v252)]) (st2 := []) (fun hJ _ _ hX hY => ?_) ?_ ?_
                                                                        · skip
                                                                          refine E_if_ne 2038 dL_law_2023 (by decide) (fun c_2023_0 => ?_) (fun c_2023_0 => ?_)
                                                                          · skip
                                                                            exact hX (by simp only [if_neg c_2023_0])
                                                                          · skip
                                                                            refine E_aload_n dL_law_2026 rfl ?_
                                                                            refine E_iconst (v := 0) dL_law_2027 (by decide) ?_
                                                                            refine E_lald dL_law_2028 (kd114 hJ.1.1) (inB_vp (by decide)) ?_
                                                                            refine E_iload dL_law_2029 rfl ?_
                                                                            refine E_i2l dL_law_2031 ?_
                                                                            refine E_lcmp dL_law_2032 ?_
                                                                            refine E_if_eq 2038 dL_law_2033 (by decide) (fun c_2033_1 => ?_) (fun c_2033_1 => ?_)
                                                                            · skip
                                                                              exact hX (by simp only [if_pos c_2023_0, if_pos c_2033_1])
                                                                            · skip
                                                                              exact hY (by simp only [if_pos c_2023_0, if_neg c_2033_1]; exact Bool.false_ne_true)
                                                                        · skip
                                                                          refine P_l (fun hJ _ _ q => E_goto 2041 dL_law_2038 (by decide) (E_iinc (v := 6) (ls2 := [some (.ref 2), some (.ref 3), some (.ref 67), some (.ref 114), some (.int (s.1 + 6)), some (.int v249), some (.int v252)]) dL_law_2041 rfl (by decide) (by decide) rfl (E_goto 23 dL_law_2044 (by decide) q))) ?_
                                                                          refine P_less [some (.ref 2), some (.ref 3), some (.ref 67), some (.ref 114), some (.int (s.1 + 6)), none, none] (And.intro rfl (And.intro rfl (And.intro rfl (And.intro rfl (And.intro rfl trivial))))) ?_
                                                                          refine P_room (kc2 := kN) (ks2 := ksN) (by omega) (by omega) ?_
                                                                          exact P_back ((s.1 + 6, σ253))
                                                                        · skip
                                                                          refine P_l (fun hJ _ _ q => E_iconst (v := 0) dL_law_2036 (by decide) q) ?_
                                                                          exact P_inl (P_ret (fun _ _ => E_zret01 rfl (by decide) dL_law_2037))
                                                                      · skip
                                                                        refine P_l (fun hJ _ _ q => E_iconst (v := 0) dL_law_2019 (by decide) q) ?_
                                                                        exact P_inl (P_ret (fun _ _ => E_zret01 rfl (by decide) dL_law_2020))
                                                                    · skip
                                                                      refine P_l (fun hJ _ _ q => E_tableOut 2041 dL_law_40 (by have e0 := sw_ne h8; have e1 := sw_ne h23; have e2 := sw_ne h32; have e3 := sw_ne h43; have e4 := sw_ne h50; have e5 := sw_ne h57; have e6 := sw_ne h64; have e7 := sw_ne h69; have e8 := sw_ne h74; have e9 := sw_ne h79; have e10 := sw_ne h86; have e11 := sw_ne h91; have e12 := sw_ne h98; have e13 := sw_ne h103; have e14 := sw_ne h108; have e15 := sw_ne h113; have e16 := sw_ne h120; have e17 := sw_ne h125; have e18 := sw_ne h132; have e19 := sw_ne h141; have e20 := sw_ne h150; have e21 := sw_ne h157; have e22 := sw_ne h168; have e23 := sw_ne h177; have e24 := sw_ne h188; have e25 := sw_ne h192; have e26 := sw_ne h201; have e27 := sw_ne h210; have e28 := sw_ne h217; have e29 := sw_ne h226; have e30 := sw_ne h233; have e31 := sw_ne h242; have e32 := sw_ne h247; simp only [sw_l0, sw_l1, sw_l2, sw_l3, sw_l4, sw_l5, sw_l6, sw_l7, sw_l8, sw_l9, sw_l10, sw_l11, sw_l12, sw_l13, sw_l14, sw_l15, sw_l16, sw_l17, sw_l18, sw_l19, sw_l20, sw_l21, sw_l22, sw_l23, sw_l24, sw_l25, sw_l26, sw_l27, sw_l28, sw_l29, sw_l30, sw_l31, sw_l32] at *; omega) (by decide) q) ?_
                                                                      refine P_l (fun hJ _ _ q => E_iinc (v := 6) (ls2 := [some (.ref 2), some (.ref 3), some (.ref 67), some (.ref 114), some (.int (s.1 + 6)), none, none]) dL_law_2041 rfl (by decide) (by decide) rfl (E_goto 23 dL_law_2044 (by decide) q)) ?_
                                                                      refine P_room (kc2 := kN) (ks2 := ksN) (by omega) (by omega) ?_
                                                                      exact P_back ((s.1 + 6, s.2))
theorem ok_loop {o : Option Value ⊕ String} {τ : rS} (n kN ksN : Nat) (s : Int32 × rS) : rP Sy mL_law 25 (kN + 4 * n) (ksN + 24 * n) o τ Prod.snd (K0 tI o τ) 23 (lsL s) [] s.2 (oLoop b_L_law n s) := P_loopF (W := Prod.snd) (w := Prod.snd) okb_L_law n kN ksN s
