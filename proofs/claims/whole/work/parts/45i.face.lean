def f_X10_sum (σ : rS) (p1 : Int32) : Option ((Int32 ⊕ String) × rS) := if p1 = 0 then (some ((.inl (rI σ 3 8), σ))) else (if p1 = 1 then (some ((.inl (rI σ 5 7), σ))) else (if p1 = 2 then (some ((.inl (rI σ 5 8), σ))) else (if p1 = 3 then (some ((.inl (rI σ 5 9), σ))) else (if p1 = 4 then (some ((.inl (rI σ 5 10), σ))) else (if p1 = 5 then (some ((.inl (rI σ 5 6), σ))) else (if p1 = 6 then (some ((.inl (rI σ 3 9), σ))) else (if p1 = 7 then (some ((.inl (rI σ 35 1), σ))) else (if p1 = 8 then (some ((.inl (rI σ 3 10), σ))) else (if p1 = 9 then (some ((.inl (rI σ 3 11), σ))) else (if p1 = 10 then (some ((.inl (rI σ 31 1), σ))) else (if p1 = 11 then (some ((.inl (rI σ 5 11), σ))) else (some ((.inr "java/lang/IllegalArgumentException", σ))))))))))))))
set_option maxRecDepth 20000 in
set_option maxHeartbeats 2000000 in
theorem ok_X10_sum {σ : rS} {p1 : Int32}   : rFn Sy yX10_sum mX10_sum 6 [.ref 3, .int p1] σ 1 6 (tX (fun v => .inl (some (.int v)))) (f_X10_sum σ p1) := by
  refine rF_of (ls := [some (.ref 3), some (.int p1)]) yfX10_sum rfl (Nat.le_of_ble_eq_true rfl) (fun o τ => ?_)
  unfold f_X10_sum
  refine P_l (fun hJ _ _ q => E_iload_n dX10_sum_0 rfl q) ?_
  refine P_case (fun h1 => ?_) (fun h1 => ?_)
  · skip
    refine P_l (fun hJ _ _ q => E_tableIn (off := 63) 64 dX10_sum_1 (by rw [h1]; decide) (by rw [h1]; decide) (by rw [h1]; rfl) (by decide) q) ?_
    refine P_l (fun hJ _ _ q => E_aload_n dX10_sum_64 rfl (E_getI clX10 8 (by decide) flX10_61 (Or.inl rfl) dX10_sum_65 (kd3 hJ.1.1) q)) ?_
    exact P_ret (fun _ _ => E_iret rfl dX10_sum_68)
  · skip
    refine P_case (fun h2 => ?_) (fun h2 => ?_)
    · skip
      refine P_l (fun hJ _ _ q => E_tableIn (off := 68) 69 dX10_sum_1 (by rw [h2]; decide) (by rw [h2]; decide) (by rw [h2]; rfl) (by decide) q) ?_
      refine P_l (fun hJ _ _ q => E_aload_n dX10_sum_69 rfl (E_getR (b := 5) clX10 1 (by decide) flX10_19 (Or.inl ⟨_, rfl⟩) dX10_sum_70 (kd3 hJ.1.1) (rf3_1 hJ.1.1) (by decide) (E_getIN clX1 7 (by decide) flX10_133 (Or.inl rfl) dX10_sum_73 (kd5 hJ.1.1) q))) ?_
      exact P_ret (fun _ _ => E_iret rfl dX10_sum_76)
    · skip
      refine P_case (fun h3 => ?_) (fun h3 => ?_)
      · skip
        refine P_l (fun hJ _ _ q => E_tableIn (off := 76) 77 dX10_sum_1 (by rw [h3]; decide) (by rw [h3]; decide) (by rw [h3]; rfl) (by decide) q) ?_
        refine P_l (fun hJ _ _ q => E_aload_n dX10_sum_77 rfl (E_getR (b := 5) clX10 1 (by decide) flX10_19 (Or.inl ⟨_, rfl⟩) dX10_sum_78 (kd3 hJ.1.1) (rf3_1 hJ.1.1) (by decide) (E_getIN clX1 8 (by decide) flX10_261 (Or.inl rfl) dX10_sum_81 (kd5 hJ.1.1) q))) ?_
        exact P_ret (fun _ _ => E_iret rfl dX10_sum_84)
      · skip
        refine P_case (fun h4 => ?_) (fun h4 => ?_)
        · skip
          refine P_l (fun hJ _ _ q => E_tableIn (off := 84) 85 dX10_sum_1 (by rw [h4]; decide) (by rw [h4]; decide) (by rw [h4]; rfl) (by decide) q) ?_
          refine P_l (fun hJ _ _ q => E_aload_n dX10_sum_85 rfl (E_getR (b := 5) clX10 1 (by decide) flX10_19 (Or.inl ⟨_, rfl⟩) dX10_sum_86 (kd3 hJ.1.1) (rf3_1 hJ.1.1) (by decide) (E_getIN clX1 9 (by decide) flX10_156 (Or.inl rfl) dX10_sum_89 (kd5 hJ.1.1) q))) ?_
          exact P_ret (fun _ _ => E_iret rfl dX10_sum_92)
        · skip
          refine P_case (fun h5 => ?_) (fun h5 => ?_)
          · skip
            refine P_l (fun hJ _ _ q => E_tableIn (off := 92) 93 dX10_sum_1 (by rw [h5]; decide) (by rw [h5]; decide) (by rw [h5]; rfl) (by decide) q) ?_
            refine P_l (fun hJ _ _ q => E_aload_n dX10_sum_93 rfl (E_getR (b := 5) clX10 1 (by decide) flX10_19 (Or.inl ⟨_, rfl⟩) dX10_sum_94 (kd3 hJ.1.1) (rf3_1 hJ.1.1) (by decide) (E_getIN clX1 10 (by decide) flX10_165 (Or.inl rfl) dX10_sum_97 (kd5 hJ.1.1) q))) ?_
            exact P_ret (fun _ _ => E_iret rfl dX10_sum_100)
          · skip
            refine P_case (fun h6 => ?_) (fun h6 => ?_)
            · skip
              refine P_l (fun hJ _ _ q => E_tableIn (off := 100) 101 dX10_sum_1 (by rw [h6]; decide) (by rw [h6]; decide) (by rw [h6]; rfl) (by decide) q) ?_
              refine P_l (fun hJ _ _ q => E_aload_n dX10_sum_101 rfl (E_getR (b := 5) clX10 1 (by decide) flX10_19 (Or.inl ⟨_, rfl⟩) dX10_sum_102 (kd3 hJ.1.1) (rf3_1 hJ.1.1) (by decide) (E_getIN clX1 6 (by decide) flX10_174 (Or.inl rfl) dX10_sum_105 (kd5 hJ.1.1) q))) ?_
              exact P_ret (fun _ _ => E_iret rfl dX10_sum_108)
            · skip
              refine P_case (fun h7 => ?_) (fun h7 => ?_)
              · skip
                refine P_l (fun hJ _ _ q => E_tableIn (off := 108) 109 dX10_sum_1 (by rw [h7]; decide) (by rw [h7]; decide) (by rw [h7]; rfl) (by decide) q) ?_
                refine P_l (fun hJ _ _ q => E_aload_n dX10_sum_109 rfl (E_getI clX10 9 (by decide) flX10_130 (Or.inl rfl) dX10_sum_110 (kd3 hJ.1.1) q)) ?_
                exact P_ret (fun _ _ => E_iret rfl dX10_sum_113)
              · skip
                refine P_case (fun h8 => ?_) (fun h8 => ?_)
                · skip
                  refine P_l (fun hJ _ _ q => E_tableIn (off := 113) 114 dX10_sum_1 (by rw [h8]; decide) (by rw [h8]; decide) (by rw [h8]; rfl) (by decide) q) ?_
                  refine P_l (fun hJ _ _ q => E_aload_n dX10_sum_114 rfl (E_getR (b := 35) clX10 5 (by decide) flX10_43 (Or.inl ⟨_, rfl⟩) dX10_sum_115 (kd3 hJ.1.1) (rf3_5 hJ.1.1) (by decide) (E_getIN clX2 1 (by decide) flX10_359 (Or.inl rfl) dX10_sum_118 (kd35 hJ.1.1) q))) ?_
                  exact P_ret (fun _ _ => E_iret rfl dX10_sum_121)
                · skip
                  refine P_case (fun h9 => ?_) (fun h9 => ?_)
                  · skip
                    refine P_l (fun hJ _ _ q => E_tableIn (off := 121) 122 dX10_sum_1 (by rw [h9]; decide) (by rw [h9]; decide) (by rw [h9]; rfl) (by decide) q) ?_
                    refine P_l (fun hJ _ _ q => E_aload_n dX10_sum_122 rfl (E_getI clX10 10 (by decide) flX10_394 (Or.inl rfl) dX10_sum_123 (kd3 hJ.1.1) q)) ?_
                    exact P_ret (fun _ _ => E_iret rfl dX10_sum_126)
                  · skip
                    refine P_case (fun h10 => ?_) (fun h10 => ?_)
                    · skip
                      refine P_l (fun hJ _ _ q => E_tableIn (off := 126) 127 dX10_sum_1 (by rw [h10]; decide) (by rw [h10]; decide) (by rw [h10]; rfl) (by decide) q) ?_
                      refine P_l (fun hJ _ _ q => E_aload_n dX10_sum_127 rfl (E_getI clX10 11 (by decide) flX10_65 (Or.inl rfl) dX10_sum_128 (kd3 hJ.1.1) q)) ?_
                      exact P_ret (fun _ _ => E_iret rfl dX10_sum_131)
                    · skip
                      refine P_case (fun h11 => ?_) (fun h11 => ?_)
                      · skip
                        refine P_l (fun hJ _ _ q => E_tableIn (off := 131) 132 dX10_sum_1 (by rw [h11]; decide) (by rw [h11]; decide) (by rw [h11]; rfl) (by decide) q) ?_
                        refine P_l (fun hJ _ _ q => E_aload_n dX10_sum_132 rfl (E_getR (b := 31) clX10 4 (by decide) flX10_36 (Or.inl ⟨_, rfl⟩) dX10_sum_133 (kd3 hJ.1.1) (rf3_4 hJ.1.1) (by decide) (E_getIN clX7 1 (by decide) flX10_222 (Or.inl rfl) dX10_sum_136 (kd31 hJ.1.1) q))) ?_
                        exact P_ret (fun _ _ => E_iret rfl dX10_sum_139)
                      · skip
                        refine P_case (fun h12 => ?_) (fun h12 => ?_)
                        · skip
                          refine P_l (fun hJ _ _ q => E_tableIn (off := 139) 140 dX10_sum_1 (by rw [h12]; decide) (by rw [h12]; decide) (by rw [h12]; rfl) (by decide) q) ?_
                          refine P_l (fun hJ _ _ q => E_aload_n dX10_sum_140 rfl (E_getR (b := 5) clX10 1 (by decide) flX10_19 (Or.inl ⟨_, rfl⟩) dX10_sum_141 (kd3 hJ.1.1) (rf3_1 hJ.1.1) (by decide) (E_getIN clX1 11 (by decide) flX10_397 (Or.inl rfl) dX10_sum_144 (kd5 hJ.1.1) q))) ?_
                          exact P_ret (fun _ _ => E_iret rfl dX10_sum_147)
                        · skip
                          refine P_l (fun hJ _ _ q => E_tableOut 148 dX10_sum_1 (by have e0 := sw_ne h1; have e1 := sw_ne h2; have e2 := sw_ne h3; have e3 := sw_ne h4; have e4 := sw_ne h5; have e5 := sw_ne h6; have e6 := sw_ne h7; have e7 := sw_ne h8; have e8 := sw_ne h9; have e9 := sw_ne h10; have e10 := sw_ne h11; have e11 := sw_ne h12; simp only [sw_l0, sw_l1, sw_l2, sw_l3, sw_l4, sw_l5, sw_l6, sw_l7, sw_l8, sw_l9, sw_l10, sw_l11] at *; omega) (by decide) q) ?_
                          exact P_thr (fun kc ks => xt_IllegalArgumentException (M := mX10_sum) (pc := 148) rfl rfl (by decide) (Nat.le_of_ble_eq_true rfl) dX10_sum_148 dX10_sum_151 dX10_sum_152 dX10_sum_155 kc ks) (by decide) (by decide)

