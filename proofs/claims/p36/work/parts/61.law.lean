/-! the law's methods -/
theorem P_room {M : rM} {k kc ks kc2 ks2 : Nat} {o : Option Value ⊕ String} {τ : rS} {I : rS → Prop} {R : Type} {W : R → rS} {K : R → Prop} {pc : Nat} {ls : List (Option Value)} {st : List Value} {σ : rS} {p : Option R} (h1 : kc2 ≤ kc) (h2 : ks2 ≤ ks) (kk : rP I M k kc2 ks2 o τ W K pc ls st σ p) : rP I M k kc ks o τ W K pc ls st σ p := fun hJ r hr =>
  ⟨(kk hJ r hr).1, fun a b c => E_room ((kk hJ r hr).2 a b c) (by omega) (by omega)⟩
theorem P_joinF {M : rM} {k kc ks kr sr : Nat} {o : Option Value ⊕ String} {τ : rS} {I : rS → Prop} {R : Type} {W : R → rS} {K : R → Prop} {S : Type} {pc pc2 : Nat} {ls : List (Option Value)} {st : List Value} {σ : rS} (ls2 : S → List (Option Value)) (st2 : S → List Value) (w : S → rS) {m : Option (R ⊕ S)} {rest : S → Option R} (hm : rP I M k kc ks o τ (W2 W w) (K2 K (QL M k kr sr o τ pc2 ls2 st2 w)) pc ls st σ m) (hr : ∀ s, rP I M k kr sr o τ W K pc2 (ls2 s) (st2 s) (w s) (rest s)) : rP I M k kc ks o τ W K pc ls st σ (oJoin m rest) := by
  intro hJ r hq
  rcases m with _ | (r' | s')
  · cases hq
  · cases hq
    exact hm hJ _ rfl
  · obtain ⟨⟨h1, h2, h3⟩, h4⟩ := hm hJ _ rfl
    have hq : rest s' = some r := hq
    obtain ⟨⟨g1, g2, g3⟩, g4⟩ := hr s' h1 r hq
    have e2 : uC σ ≤ uC (w s') := h2
    have e3 : uS σ ≤ uS (w s') := h3
    exact ⟨⟨g1, Nat.le_trans e2 g2, Nat.le_trans e3 g3⟩, fun a b c => h4 (Nat.le_trans g2 a) (Nat.le_trans g3 b) (g4 a b c)⟩
theorem P_loopG {M : rM} {k c d r q kc ks : Nat} {o : Option Value ⊕ String} {τ : rS} {I : rS → Prop} {R : Type} {W : R → rS} {K : R → Prop} {S : Type} {pc : Nat} {ls : S → List (Option Value)} {w : S → rS} {body : S → Option (R ⊕ S)} {n : Nat} {s : S} (hkc : r + c * n ≤ kc) (hks : q + d * n ≤ ks) (hb : ∀ kN ksN s, rP I M k (kN + (r + c)) (ksN + (q + d)) o τ (W2 W w) (K2 K (QL M k (kN + r) (ksN + q) o τ pc ls (fun _ => []) w)) pc (ls s) [] (w s) (body s)) : rP I M k kc ks o τ W K pc (ls s) [] (w s) (oLoop body n s) := by
  refine P_room hkc hks ?_
  clear hkc hks
  induction n generalizing s with
  | zero => intro _ r hr; cases hr
  | succ n ih =>
    intro hJ r' hr
    simp only [oLoop] at hr
    have hs := hb (c * n) (d * n) s hJ
    have ec : r + c * (n + 1) = c * n + (r + c) := by rw [Nat.mul_succ]; omega
    have ed : q + d * (n + 1) = d * n + (q + d) := by rw [Nat.mul_succ]; omega
    have ec2 : r + c * n = c * n + r := Nat.add_comm _ _
    have ed2 : q + d * n = d * n + q := Nat.add_comm _ _
    rw [ec2, ed2] at ih
    rw [ec, ed]
    split at hr
    · cases hr
    · rename_i r' hbs
      cases hr
      exact hs _ hbs
    · rename_i s' hbs
      obtain ⟨⟨h1, h2, h3⟩, h4⟩ := hs _ hbs
      obtain ⟨⟨g1, g2, g3⟩, g4⟩ := ih h1 r' hr
      have e2 : uC (w s) ≤ uC (w s') := h2
      have e3 : uS (w s) ≤ uS (w s') := h3
      exact ⟨⟨g1, Nat.le_trans e2 g2, Nat.le_trans e3 g3⟩, fun a b c => h4 (Nat.le_trans g2 a) (Nat.le_trans g3 b) (g4 a b c)⟩
def f_L_cell (σ : rS) (p1 : Int32) : Option Int32 := if (nI (rK σ 2).2) ≤ p1 then (some ((2754401 * p1) + 16123)) else (if inB p1 ((rK σ 2).2) then (some (rI σ 2 (p1 : Int32).toNatClampNeg)) else none)
set_option maxRecDepth 20000 in
set_option maxHeartbeats 2000000 in
theorem ok_L_cell {σ : rS} {p1 : Int32}   : rFr Sy yL_cell mL_cell 0 [.ref 2, .int p1] σ (fun v => some (.int v)) (f_L_cell σ p1) := by
  refine rFr_of (ls := [some (.ref 2), some (.int p1)]) yfL_cell rfl (Nat.le_of_ble_eq_true rfl) (fun o τ => ?_)
  unfold f_L_cell
  refine P_l (fun hJ _ _ q => E_iload_n dL_cell_0 rfl (E_aload_n dL_cell_1 rfl (E_alen (v := nI (rK σ 2).2) dL_cell_2 (Sy_two hJ.1) (by decide) rfl q))) ?_
  refine P_if (fun hJ _ _ h1 h2 => E_icmp_ge 12 dL_cell_3 (by decide) h1 h2) ?_ ?_
  · skip
    refine P_l (fun hJ _ _ q => E_ldc dL_cell_12 kcL_7 (E_iload_n dL_cell_14 rfl (E_imul dL_cell_15 (E_sipush (v := 16123) dL_cell_16 (by decide) (E_iadd dL_cell_19 q))))) ?_
    exact P_retr (fun _ _ => E_iret rfl dL_cell_20)
  · skip
    refine P_l (fun hJ _ _ q => E_aload_n dL_cell_6 rfl (E_iload_n dL_cell_7 rfl q)) ?_
    refine P_g (fun g1 => ?_)
    refine P_l (fun hJ _ _ q => E_iald dL_cell_8 (Sy_two hJ.1) (inB_vp g1) (E_goto 20 dL_cell_9 (by decide) q)) ?_
    exact P_retr (fun _ _ => E_iret rfl dL_cell_20)

def f_L_low (σ : rS) (p1 : Int32) (p2 : Int32) : Option Int32 := if ¬ p2 = 0 then (some (iRem (p1 &&& 2147483647) p2)) else none
set_option maxRecDepth 20000 in
set_option maxHeartbeats 2000000 in
theorem ok_L_low {σ : rS} {p1 : Int32} {p2 : Int32}   : rFr Sy yL_low mL_low 0 [.int p1, .int p2] σ (fun v => some (.int v)) (f_L_low σ p1 p2) := by
  refine rFr_of (ls := [some (.int p1), some (.int p2)]) yfL_low rfl (Nat.le_of_ble_eq_true rfl) (fun o τ => ?_)
  unfold f_L_low
  refine P_l (fun hJ _ _ q => E_iload_n dL_low_0 rfl (E_ldc dL_low_1 kcL_8 (E_iand dL_low_3 (E_iload_n dL_low_4 rfl q)))) ?_
  refine P_g (fun g1 => ?_)
  refine P_l (fun hJ _ _ q => E_irem dL_low_5 g1 q) ?_
  exact P_retr (fun _ _ => E_iret rfl dL_low_6)

def f_L_ask (σ : rS) (p1 : Int32) (p2 : Int32) (p3 : Int32) : Option (Int64 × rS) := oB (f_L_does σ p1 p2 p3 0 0 0) fun v1 σ2 => some ((v1, σ2))
set_option maxRecDepth 20000 in
set_option maxHeartbeats 8000000 in
theorem ok_L_ask {σ : rS} {p1 : Int32} {p2 : Int32} {p3 : Int32} : rFn Sy yL_ask mL_ask 25 [.ref 3, .int p1, .int p2, .int p3] σ 4 24 (fun v => .inl (some (.long v))) (f_L_ask σ p1 p2 p3) := by
  refine rF_of (ls := [some (.ref 3), some (.int p1), some (.int p2), some (.int p3)]) yfL_ask rfl (Nat.le_of_ble_eq_true rfl) (fun o τ => ?_)
  unfold f_L_ask
  refine P_l (fun hJ _ _ q => E_aload_n dL_ask_0 rfl (E_iload_n dL_ask_1 rfl (E_iload_n dL_ask_2 rfl (E_iload_n dL_ask_3 rfl (E_iconst (v := 0) dL_ask_4 (by decide) (E_iconst (v := 0) dL_ask_5 (by decide) (E_iconst (v := 0) dL_ask_6 (by decide) q))))))) ?_
  refine P_callH (st2 := fun v => .long v :: []) (kc2 := 0) (ks2 := 0) (fun hJ => (ok_L_does (σ := σ) (p1 := p1) (p2 := p2) (p3 := p3) (p4 := 0) (p5 := 0) (p6 := 0))) (fun hJ _ _ _ _ v τ1 hM q => E_callSH (as := [.ref 3, .int p1, .int p2, .int p3, .int 0, .int 0, .int 0]) (st := []) hM (by decide) yfL_does mlL_133 stL_does rfl (Nat.le_of_ble_eq_true rfl) rfl dL_ask_7 q) (by omega) (by omega) (fun v1 σ2 => ?_)
  exact P_ret (fun _ _ => E_lret rfl dL_ask_10)
def f_L_acts (σ : rS) (p1 : Int32) (p2 : Int32) (p3 : Int32) (p4 : Int32) : Option (Int64 × rS) := (f_L_low σ p2 4).bind fun v1 => (f_L_low σ (p2 >>> ((8 : Int32) &&& 31)) 40).bind fun v2 => (f_L_low σ (p2 >>> ((3 : Int32) &&& 31)) (p4 + ((if v2 = 0 then 1 else 0 : Int32)))).bind fun v3 => if p3 = 0 then (oB (f_L_ask σ 3 ((13 * v1) + v3) 0) fun v5 σ6 => some ((v5, σ6))) else (if p3 = 1 then (oB (f_L_ask σ 3 ((13 * v1) + v3) 0) fun v8 σ9 => some ((v8, σ9))) else (if p3 = 2 then (oB (f_L_ask σ 3 ((13 * v1) + v3) 0) fun v11 σ12 => some ((v11, σ12))) else (if p3 = 3 then (oB (f_L_ask σ 3 ((13 * v1) + v3) 0) fun v14 σ15 => some ((v14, σ15))) else (if p3 = 4 then (oB (f_L_ask σ 4 ((13 * v1) + v3) 0) fun v17 σ18 => some ((v17, σ18))) else (if p3 = 5 then (oB (f_L_ask σ 5 ((13 * v1) + v3) 0) fun v20 σ21 => some ((v20, σ21))) else (if p3 = 6 then (oB (f_L_ask σ 6 0 0) fun v23 σ24 => some ((v23, σ24))) else (if p3 = 7 then (oB (f_L_ask σ 7 0 0) fun v26 σ27 => some ((v26, σ27))) else (if p3 = 8 then (oB (f_L_ask σ 8 0 0) fun v29 σ30 => some ((v29, σ30))) else (if p3 = 9 then ((f_L_low σ p2 30).bind fun v32 => if v32 = 0 then (oB (f_L_ask σ 9 0 0) fun v33 σ34 => some ((v33, σ34))) else ((f_L_low σ p2 20).bind fun v35 => oB (f_L_ask σ 9 (1 + v35) 0) fun v36 σ37 => some ((v36, σ37)))) else (if p3 = 10 then (oB (f_L_ask σ 10 0 0) fun v39 σ40 => some ((v39, σ40))) else (if p3 = 11 then (oB (f_L_ask σ 10 0 0) fun v42 σ43 => some ((v42, σ43))) else (if p3 = 12 then (oB (f_L_ask σ 10 0 0) fun v45 σ46 => some ((v45, σ46))) else (if p3 = 13 then (oB (f_L_ask σ 10 0 0) fun v48 σ49 => some ((v48, σ49))) else (if p3 = 14 then (oB (f_L_ask σ 10 0 0) fun v51 σ52 => some ((v51, σ52))) else (if p3 = 15 then ((f_L_low σ p2 3).bind fun v54 => if v54 = 0 then (oB (f_L_ask σ 11 119 0) fun v55 σ56 => some ((v55, σ56))) else ((f_L_low σ p2 3).bind fun v57 => if v57 = 1 then (oB (f_L_ask σ 11 108 0) fun v58 σ59 => some ((v58, σ59))) else ((f_L_low σ (p2 >>> ((2 : Int32) &&& 31)) 60).bind fun v60 => oB (f_L_ask σ 11 (48 + v60) 0) fun v61 σ62 => some ((v61, σ62))))) else (if p3 = 16 then (oB (f_L_ask σ 13 0 0) fun v64 σ65 => some ((v64, σ65))) else (if p3 = 17 then (oB (f_L_ask σ 12 0 0) fun v67 σ68 => some ((v67, σ68))) else (if p3 = 18 then ((f_L_low σ p1 4).bind fun v70 => (f_L_low σ (p2 >>> ((5 : Int32) &&& 31)) 4).bind fun v71 => oB (f_L_does σ 23 v70 ((13 * v1) + v3) v71 0 0) fun v72 σ73 => some ((v72, σ73))) else (if p3 = 19 then ((f_L_low σ p2 65536).bind fun v75 => (f_L_low σ (p2 >>> ((4 : Int32) &&& 31)) 15).bind fun v76 => (f_L_low σ p1 200).bind fun v77 => oB (f_L_does σ 2 v75 (1 + v76) (1 + v77) 0 0) fun v78 σ79 => some ((v78, σ79))) else ((f_L_low σ p2 3).bind fun v80 => (f_L_low σ (p2 >>> ((2 : Int32) &&& 31)) 5).bind fun v81 => oB (f_L_ask σ 1 v80 v81) fun v82 σ83 => some ((v82, σ83))))))))))))))))))))))
set_option maxRecDepth 20000 in
set_option maxHeartbeats 8000000 in
theorem ok_L_acts {σ : rS} {p1 : Int32} {p2 : Int32} {p3 : Int32} {p4 : Int32} : rFn Sy yL_acts mL_acts 26 [.ref 3, .int p1, .int p2, .int p3, .int p4] σ 56 336 (fun v => .inl (some (.long v))) (f_L_acts σ p1 p2 p3 p4) := by
  refine rF_of (ls := [some (.ref 3), some (.int p1), some (.int p2), some (.int p3), some (.int p4), none]) yfL_acts rfl (Nat.le_of_ble_eq_true rfl) (fun o τ => ?_)
  unfold f_L_acts
  refine P_l (fun hJ _ _ q => E_bipush (v := 13) dL_acts_0 (by decide) (E_iload_n dL_acts_2 rfl (E_iconst (v := 4) dL_acts_3 (by decide) q))) ?_
  refine P_callr (t := fun v => some (.int v)) (st2 := fun v => .int v :: [.int 13]) (fun hJ => (ok_L_low (σ := σ) (p1 := p2) (p2 := 4) )) (fun hJ _ _ v hM q => E_callS (as := [.int p2, .int 4]) (st := [.int 13]) hM (by decide) yfL_low mlL_153 stL_low rfl (Nat.le_of_ble_eq_true rfl) rfl dL_acts_4 q) (fun v1 => ?_)
  refine P_l (fun hJ _ _ q => E_imul dL_acts_7 (E_iload_n dL_acts_8 rfl (E_iconst (v := 3) dL_acts_9 (by decide) (E_ishr dL_acts_10 (E_iload dL_acts_11 rfl (E_iload_n dL_acts_13 rfl (E_bipush (v := 8) dL_acts_14 (by decide) (E_ishr dL_acts_16 (E_bipush (v := 40) dL_acts_17 (by decide) q))))))))) ?_
  refine P_callr (t := fun v => some (.int v)) (st2 := fun v => .int v :: [.int p4, .int (p2 >>> ((3 : Int32) &&& 31)), .int (13 * v1)]) (fun hJ => (ok_L_low (σ := σ) (p1 := p2 >>> ((8 : Int32) &&& 31)) (p2 := 40) )) (fun hJ _ _ v hM q => E_callS (as := [.int (p2 >>> ((8 : Int32) &&& 31)), .int 40]) (st := [.int p4, .int (p2 >>> ((3 : Int32) &&& 31)), .int (13 * v1)]) hM (by decide) yfL_low mlL_153 stL_low rfl (Nat.le_of_ble_eq_true rfl) rfl dL_acts_19 q) (fun v2 => ?_)
  refine P_l (pc2 := 30) (ls2 := [some (.ref 3), some (.int p1), some (.int p2), some (.int p3), none, none]) (st2 := [.int ((if v2 = 0 then 1 else 0 : Int32)), .int p4, .int (p2 >>> ((3 : Int32) &&& 31)), .int (13 * v1)]) (fun hJ _ _ hq => ?_) ?_
  · skip
    refine E_if_ne 29 dL_acts_22 (by decide) (fun c_22_0 => ?_) (fun c_22_0 => ?_)
    · skip
      refine E_iconst (v := 0) dL_acts_29 (by decide) ?_
      simp only [if_neg c_22_0] at hq
      exact E_less (ls2 := [some (.ref 3), some (.int p1), some (.int p2), some (.int p3), none, none]) hq (rLe_at [some (.ref 3), some (.int p1), some (.int p2), some (.int p3), none, none] [some (.ref 3), some (.int p1), some (.int p2), some (.int p3), some (.int p4), none] (And.intro rfl (And.intro rfl (And.intro rfl (And.intro rfl trivial)))))
    · skip
      refine E_iconst (v := 1) dL_acts_25 (by decide) ?_
      refine E_goto 30 dL_acts_26 (by decide) ?_
      simp only [if_pos c_22_0] at hq
      exact E_less (ls2 := [some (.ref 3), some (.int p1), some (.int p2), some (.int p3), none, none]) hq (rLe_at [some (.ref 3), some (.int p1), some (.int p2), some (.int p3), none, none] [some (.ref 3), some (.int p1), some (.int p2), some (.int p3), some (.int p4), none] (And.intro rfl (And.intro rfl (And.intro rfl (And.intro rfl trivial)))))
  · skip
    refine P_l (fun hJ _ _ q => E_iadd dL_acts_30 q) ?_
    refine P_callr (t := fun v => some (.int v)) (st2 := fun v => .int v :: [.int (13 * v1)]) (fun hJ => (ok_L_low (σ := σ) (p1 := p2 >>> ((3 : Int32) &&& 31)) (p2 := p4 + ((if v2 = 0 then 1 else 0 : Int32))) )) (fun hJ _ _ v hM q => E_callS (as := [.int (p2 >>> ((3 : Int32) &&& 31)), .int (p4 + ((if v2 = 0 then 1 else 0 : Int32)))]) (st := [.int (13 * v1)]) hM (by decide) yfL_low mlL_153 stL_low rfl (Nat.le_of_ble_eq_true rfl) rfl dL_acts_31 q) (fun v3 => ?_)
    refine P_l (fun hJ _ _ q => E_iadd dL_acts_34 (E_istore (ls2 := [some (.ref 3), some (.int p1), some (.int p2), some (.int p3), none, some (.int ((13 * v1) + v3))]) dL_acts_35 (by decide) rfl (E_iload_n dL_acts_37 rfl q))) ?_
    refine P_case (fun h4 => ?_) (fun h4 => ?_)
    · skip
      refine P_l (fun hJ _ _ q => E_tableIn (off := 94) 132 dL_acts_38 (by rw [h4]; decide) (by rw [h4]; decide) (by rw [h4]; rfl) (by decide) q) ?_
      refine P_l (fun hJ _ _ q => E_aload_n dL_acts_132 rfl (E_iconst (v := 3) dL_acts_133 (by decide) (E_iload dL_acts_134 rfl (E_iconst (v := 0) dL_acts_136 (by decide) q)))) ?_
      refine P_call (t := fun v => some (.long v)) (st2 := fun v => .long v :: []) (kc2 := 52) (ks2 := 312) (fun hJ => (ok_L_ask (σ := σ) (p1 := 3) (p2 := (13 * v1) + v3) (p3 := 0))) (fun hJ _ _ _ _ v τ1 hM q => E_callS (as := [.ref 3, .int 3, .int ((13 * v1) + v3), .int 0]) (st := []) hM (by decide) yfL_ask mlL_139 stL_ask rfl (Nat.le_of_ble_eq_true rfl) rfl dL_acts_137 q) (by omega) (by omega) (fun v5 σ6 => ?_)
      exact P_ret (fun _ _ => E_lret rfl dL_acts_140)
    · skip
      refine P_case (fun h7 => ?_) (fun h7 => ?_)
      · skip
        refine P_l (fun hJ _ _ q => E_tableIn (off := 94) 132 dL_acts_38 (by rw [h7]; decide) (by rw [h7]; decide) (by rw [h7]; rfl) (by decide) q) ?_
        refine P_l (fun hJ _ _ q => E_aload_n dL_acts_132 rfl (E_iconst (v := 3) dL_acts_133 (by decide) (E_iload dL_acts_134 rfl (E_iconst (v := 0) dL_acts_136 (by decide) q)))) ?_
        refine P_call (t := fun v => some (.long v)) (st2 := fun v => .long v :: []) (kc2 := 52) (ks2 := 312) (fun hJ => (ok_L_ask (σ := σ) (p1 := 3) (p2 := (13 * v1) + v3) (p3 := 0))) (fun hJ _ _ _ _ v τ1 hM q => E_callS (as := [.ref 3, .int 3, .int ((13 * v1) + v3), .int 0]) (st := []) hM (by decide) yfL_ask mlL_139 stL_ask rfl (Nat.le_of_ble_eq_true rfl) rfl dL_acts_137 q) (by omega) (by omega) (fun v8 σ9 => ?_)
        exact P_ret (fun _ _ => E_lret rfl dL_acts_140)
      · skip
        refine P_case (fun h10 => ?_) (fun h10 => ?_)
        · skip
          refine P_l (fun hJ _ _ q => E_tableIn (off := 94) 132 dL_acts_38 (by rw [h10]; decide) (by rw [h10]; decide) (by rw [h10]; rfl) (by decide) q) ?_
          refine P_l (fun hJ _ _ q => E_aload_n dL_acts_132 rfl (E_iconst (v := 3) dL_acts_133 (by decide) (E_iload dL_acts_134 rfl (E_iconst (v := 0) dL_acts_136 (by decide) q)))) ?_
          refine P_call (t := fun v => some (.long v)) (st2 := fun v => .long v :: []) (kc2 := 52) (ks2 := 312) (fun hJ => (ok_L_ask (σ := σ) (p1 := 3) (p2 := (13 * v1) + v3) (p3 := 0))) (fun hJ _ _ _ _ v τ1 hM q => E_callS (as := [.ref 3, .int 3, .int ((13 * v1) + v3), .int 0]) (st := []) hM (by decide) yfL_ask mlL_139 stL_ask rfl (Nat.le_of_ble_eq_true rfl) rfl dL_acts_137 q) (by omega) (by omega) (fun v11 σ12 => ?_)
          exact P_ret (fun _ _ => E_lret rfl dL_acts_140)
        · skip
          refine P_case (fun h13 => ?_) (fun h13 => ?_)
          · skip
            refine P_l (fun hJ _ _ q => E_tableIn (off := 94) 132 dL_acts_38 (by rw [h13]; decide) (by rw [h13]; decide) (by rw [h13]; rfl) (by decide) q) ?_
            refine P_l (fun hJ _ _ q => E_aload_n dL_acts_132 rfl (E_iconst (v := 3) dL_acts_133 (by decide) (E_iload dL_acts_134 rfl (E_iconst (v := 0) dL_acts_136 (by decide) q)))) ?_
            refine P_call (t := fun v => some (.long v)) (st2 := fun v => .long v :: []) (kc2 := 52) (ks2 := 312) (fun hJ => (ok_L_ask (σ := σ) (p1 := 3) (p2 := (13 * v1) + v3) (p3 := 0))) (fun hJ _ _ _ _ v τ1 hM q => E_callS (as := [.ref 3, .int 3, .int ((13 * v1) + v3), .int 0]) (st := []) hM (by decide) yfL_ask mlL_139 stL_ask rfl (Nat.le_of_ble_eq_true rfl) rfl dL_acts_137 q) (by omega) (by omega) (fun v14 σ15 => ?_)
            exact P_ret (fun _ _ => E_lret rfl dL_acts_140)
          · skip
            refine P_case (fun h16 => ?_) (fun h16 => ?_)
            · skip
              refine P_l (fun hJ _ _ q => E_tableIn (off := 103) 141 dL_acts_38 (by rw [h16]; decide) (by rw [h16]; decide) (by rw [h16]; rfl) (by decide) q) ?_
              refine P_l (fun hJ _ _ q => E_aload_n dL_acts_141 rfl (E_iconst (v := 4) dL_acts_142 (by decide) (E_iload dL_acts_143 rfl (E_iconst (v := 0) dL_acts_145 (by decide) q)))) ?_
              refine P_call (t := fun v => some (.long v)) (st2 := fun v => .long v :: []) (kc2 := 52) (ks2 := 312) (fun hJ => (ok_L_ask (σ := σ) (p1 := 4) (p2 := (13 * v1) + v3) (p3 := 0))) (fun hJ _ _ _ _ v τ1 hM q => E_callS (as := [.ref 3, .int 4, .int ((13 * v1) + v3), .int 0]) (st := []) hM (by decide) yfL_ask mlL_139 stL_ask rfl (Nat.le_of_ble_eq_true rfl) rfl dL_acts_146 q) (by omega) (by omega) (fun v17 σ18 => ?_)
              exact P_ret (fun _ _ => E_lret rfl dL_acts_149)
            · skip
              refine P_case (fun h19 => ?_) (fun h19 => ?_)
              · skip
                refine P_l (fun hJ _ _ q => E_tableIn (off := 112) 150 dL_acts_38 (by rw [h19]; decide) (by rw [h19]; decide) (by rw [h19]; rfl) (by decide) q) ?_
                refine P_l (fun hJ _ _ q => E_aload_n dL_acts_150 rfl (E_iconst (v := 5) dL_acts_151 (by decide) (E_iload dL_acts_152 rfl (E_iconst (v := 0) dL_acts_154 (by decide) q)))) ?_
                refine P_call (t := fun v => some (.long v)) (st2 := fun v => .long v :: []) (kc2 := 52) (ks2 := 312) (fun hJ => (ok_L_ask (σ := σ) (p1 := 5) (p2 := (13 * v1) + v3) (p3 := 0))) (fun hJ _ _ _ _ v τ1 hM q => E_callS (as := [.ref 3, .int 5, .int ((13 * v1) + v3), .int 0]) (st := []) hM (by decide) yfL_ask mlL_139 stL_ask rfl (Nat.le_of_ble_eq_true rfl) rfl dL_acts_155 q) (by omega) (by omega) (fun v20 σ21 => ?_)
                exact P_ret (fun _ _ => E_lret rfl dL_acts_158)
              · skip
                refine P_case (fun h22 => ?_) (fun h22 => ?_)
                · skip
                  refine P_l (fun hJ _ _ q => E_tableIn (off := 121) 159 dL_acts_38 (by rw [h22]; decide) (by rw [h22]; decide) (by rw [h22]; rfl) (by decide) q) ?_
                  refine P_l (fun hJ _ _ q => E_aload_n dL_acts_159 rfl (E_bipush (v := 6) dL_acts_160 (by decide) (E_iconst (v := 0) dL_acts_162 (by decide) (E_iconst (v := 0) dL_acts_163 (by decide) q)))) ?_
                  refine P_call (t := fun v => some (.long v)) (st2 := fun v => .long v :: []) (kc2 := 52) (ks2 := 312) (fun hJ => (ok_L_ask (σ := σ) (p1 := 6) (p2 := 0) (p3 := 0))) (fun hJ _ _ _ _ v τ1 hM q => E_callS (as := [.ref 3, .int 6, .int 0, .int 0]) (st := []) hM (by decide) yfL_ask mlL_139 stL_ask rfl (Nat.le_of_ble_eq_true rfl) rfl dL_acts_164 q) (by omega) (by omega) (fun v23 σ24 => ?_)
                  exact P_ret (fun _ _ => E_lret rfl dL_acts_167)
                · skip
                  refine P_case (fun h25 => ?_) (fun h25 => ?_)
                  · skip
                    refine P_l (fun hJ _ _ q => E_tableIn (off := 130) 168 dL_acts_38 (by rw [h25]; decide) (by rw [h25]; decide) (by rw [h25]; rfl) (by decide) q) ?_
                    refine P_l (fun hJ _ _ q => E_aload_n dL_acts_168 rfl (E_bipush (v := 7) dL_acts_169 (by decide) (E_iconst (v := 0) dL_acts_171 (by decide) (E_iconst (v := 0) dL_acts_172 (by decide) q)))) ?_
                    refine P_call (t := fun v => some (.long v)) (st2 := fun v => .long v :: []) (kc2 := 52) (ks2 := 312) (fun hJ => (ok_L_ask (σ := σ) (p1 := 7) (p2 := 0) (p3 := 0))) (fun hJ _ _ _ _ v τ1 hM q => E_callS (as := [.ref 3, .int 7, .int 0, .int 0]) (st := []) hM (by decide) yfL_ask mlL_139 stL_ask rfl (Nat.le_of_ble_eq_true rfl) rfl dL_acts_173 q) (by omega) (by omega) (fun v26 σ27 => ?_)
                    exact P_ret (fun _ _ => E_lret rfl dL_acts_176)
                  · skip
                    refine P_case (fun h28 => ?_) (fun h28 => ?_)
                    · skip
                      refine P_l (fun hJ _ _ q => E_tableIn (off := 139) 177 dL_acts_38 (by rw [h28]; decide) (by rw [h28]; decide) (by rw [h28]; rfl) (by decide) q) ?_
                      refine P_l (fun hJ _ _ q => E_aload_n dL_acts_177 rfl (E_bipush (v := 8) dL_acts_178 (by decide) (E_iconst (v := 0) dL_acts_180 (by decide) (E_iconst (v := 0) dL_acts_181 (by decide) q)))) ?_
                      refine P_call (t := fun v => some (.long v)) (st2 := fun v => .long v :: []) (kc2 := 52) (ks2 := 312) (fun hJ => (ok_L_ask (σ := σ) (p1 := 8) (p2 := 0) (p3 := 0))) (fun hJ _ _ _ _ v τ1 hM q => E_callS (as := [.ref 3, .int 8, .int 0, .int 0]) (st := []) hM (by decide) yfL_ask mlL_139 stL_ask rfl (Nat.le_of_ble_eq_true rfl) rfl dL_acts_182 q) (by omega) (by omega) (fun v29 σ30 => ?_)
                      exact P_ret (fun _ _ => E_lret rfl dL_acts_185)
                    · skip
                      refine P_case (fun h31 => ?_) (fun h31 => ?_)
                      · skip
                        refine P_l (fun hJ _ _ q => E_tableIn (off := 148) 186 dL_acts_38 (by rw [h31]; decide) (by rw [h31]; decide) (by rw [h31]; rfl) (by decide) q) ?_
                        refine P_l (fun hJ _ _ q => E_aload_n dL_acts_186 rfl (E_bipush (v := 9) dL_acts_187 (by decide) (E_iload_n dL_acts_189 rfl (E_bipush (v := 30) dL_acts_190 (by decide) q)))) ?_
                        refine P_callr (t := fun v => some (.int v)) (st2 := fun v => .int v :: [.int 9, .ref 3]) (fun hJ => (ok_L_low (σ := σ) (p1 := p2) (p2 := 30) )) (fun hJ _ _ v hM q => E_callS (as := [.int p2, .int 30]) (st := [.int 9, .ref 3]) hM (by decide) yfL_low mlL_153 stL_low rfl (Nat.le_of_ble_eq_true rfl) rfl dL_acts_192 q) (fun v32 => ?_)
                        refine P_if (fun hJ _ _ h1 h2 => E_if_ne 202 dL_acts_195 (by decide) h2 h1) ?_ ?_
                        · skip
                          refine P_l (fun hJ _ _ q => E_iconst (v := 0) dL_acts_198 (by decide) (E_goto 210 dL_acts_199 (by decide) (E_iconst (v := 0) dL_acts_210 (by decide) q))) ?_
                          refine P_call (t := fun v => some (.long v)) (st2 := fun v => .long v :: []) (kc2 := 52) (ks2 := 312) (fun hJ => (ok_L_ask (σ := σ) (p1 := 9) (p2 := 0) (p3 := 0))) (fun hJ _ _ _ _ v τ1 hM q => E_callS (as := [.ref 3, .int 9, .int 0, .int 0]) (st := []) hM (by decide) yfL_ask mlL_139 stL_ask rfl (Nat.le_of_ble_eq_true rfl) rfl dL_acts_211 q) (by omega) (by omega) (fun v33 σ34 => ?_)
                          exact P_ret (fun _ _ => E_lret rfl dL_acts_214)
                        · skip
                          refine P_l (fun hJ _ _ q => E_iconst (v := 1) dL_acts_202 (by decide) (E_iload_n dL_acts_203 rfl (E_bipush (v := 20) dL_acts_204 (by decide) q))) ?_
                          refine P_callr (t := fun v => some (.int v)) (st2 := fun v => .int v :: [.int 1, .int 9, .ref 3]) (fun hJ => (ok_L_low (σ := σ) (p1 := p2) (p2 := 20) )) (fun hJ _ _ v hM q => E_callS (as := [.int p2, .int 20]) (st := [.int 1, .int 9, .ref 3]) hM (by decide) yfL_low mlL_153 stL_low rfl (Nat.le_of_ble_eq_true rfl) rfl dL_acts_206 q) (fun v35 => ?_)
                          refine P_l (fun hJ _ _ q => E_iadd dL_acts_209 (E_iconst (v := 0) dL_acts_210 (by decide) q)) ?_
                          refine P_call (t := fun v => some (.long v)) (st2 := fun v => .long v :: []) (kc2 := 52) (ks2 := 312) (fun hJ => (ok_L_ask (σ := σ) (p1 := 9) (p2 := 1 + v35) (p3 := 0))) (fun hJ _ _ _ _ v τ1 hM q => E_callS (as := [.ref 3, .int 9, .int (1 + v35), .int 0]) (st := []) hM (by decide) yfL_ask mlL_139 stL_ask rfl (Nat.le_of_ble_eq_true rfl) rfl dL_acts_211 q) (by omega) (by omega) (fun v36 σ37 => ?_)
                          exact P_ret (fun _ _ => E_lret rfl dL_acts_214)
                      · skip
                        refine P_case (fun h38 => ?_) (fun h38 => ?_)
                        · skip
                          refine P_l (fun hJ _ _ q => E_tableIn (off := 177) 215 dL_acts_38 (by rw [h38]; decide) (by rw [h38]; decide) (by rw [h38]; rfl) (by decide) q) ?_
                          refine P_l (fun hJ _ _ q => E_aload_n dL_acts_215 rfl (E_bipush (v := 10) dL_acts_216 (by decide) (E_iconst (v := 0) dL_acts_218 (by decide) (E_iconst (v := 0) dL_acts_219 (by decide) q)))) ?_
                          refine P_call (t := fun v => some (.long v)) (st2 := fun v => .long v :: []) (kc2 := 52) (ks2 := 312) (fun hJ => (ok_L_ask (σ := σ) (p1 := 10) (p2 := 0) (p3 := 0))) (fun hJ _ _ _ _ v τ1 hM q => E_callS (as := [.ref 3, .int 10, .int 0, .int 0]) (st := []) hM (by decide) yfL_ask mlL_139 stL_ask rfl (Nat.le_of_ble_eq_true rfl) rfl dL_acts_220 q) (by omega) (by omega) (fun v39 σ40 => ?_)
                          exact P_ret (fun _ _ => E_lret rfl dL_acts_223)
                        · skip
                          refine P_case (fun h41 => ?_) (fun h41 => ?_)
                          · skip
                            refine P_l (fun hJ _ _ q => E_tableIn (off := 177) 215 dL_acts_38 (by rw [h41]; decide) (by rw [h41]; decide) (by rw [h41]; rfl) (by decide) q) ?_
                            refine P_l (fun hJ _ _ q => E_aload_n dL_acts_215 rfl (E_bipush (v := 10) dL_acts_216 (by decide) (E_iconst (v := 0) dL_acts_218 (by decide) (E_iconst (v := 0) dL_acts_219 (by decide) q)))) ?_
                            refine P_call (t := fun v => some (.long v)) (st2 := fun v => .long v :: []) (kc2 := 52) (ks2 := 312) (fun hJ => (ok_L_ask (σ := σ) (p1 := 10) (p2 := 0) (p3 := 0))) (fun hJ _ _ _ _ v τ1 hM q => E_callS (as := [.ref 3, .int 10, .int 0, .int 0]) (st := []) hM (by decide) yfL_ask mlL_139 stL_ask rfl (Nat.le_of_ble_eq_true rfl) rfl dL_acts_220 q) (by omega) (by omega) (fun v42 σ43 => ?_)
                            exact P_ret (fun _ _ => E_lret rfl dL_acts_223)
                          · skip
                            refine P_case (fun h44 => ?_) (fun h44 => ?_)
                            · skip
                              refine P_l (fun hJ _ _ q => E_tableIn (off := 177) 215 dL_acts_38 (by rw [h44]; decide) (by rw [h44]; decide) (by rw [h44]; rfl) (by decide) q) ?_
                              refine P_l (fun hJ _ _ q => E_aload_n dL_acts_215 rfl (E_bipush (v := 10) dL_acts_216 (by decide) (E_iconst (v := 0) dL_acts_218 (by decide) (E_iconst (v := 0) dL_acts_219 (by decide) q)))) ?_
                              refine P_call (t := fun v => some (.long v)) (st2 := fun v => .long v :: []) (kc2 := 52) (ks2 := 312) (fun hJ => (ok_L_ask (σ := σ) (p1 := 10) (p2 := 0) (p3 := 0))) (fun hJ _ _ _ _ v τ1 hM q => E_callS (as := [.ref 3, .int 10, .int 0, .int 0]) (st := []) hM (by decide) yfL_ask mlL_139 stL_ask rfl (Nat.le_of_ble_eq_true rfl) rfl dL_acts_220 q) (by omega) (by omega) (fun v45 σ46 => ?_)
                              exact P_ret (fun _ _ => E_lret rfl dL_acts_223)
                            · skip
                              refine P_case (fun h47 => ?_) (fun h47 => ?_)
                              · skip
                                refine P_l (fun hJ _ _ q => E_tableIn (off := 177) 215 dL_acts_38 (by rw [h47]; decide) (by rw [h47]; decide) (by rw [h47]; rfl) (by decide) q) ?_
                                refine P_l (fun hJ _ _ q => E_aload_n dL_acts_215 rfl (E_bipush (v := 10) dL_acts_216 (by decide) (E_iconst (v := 0) dL_acts_218 (by decide) (E_iconst (v := 0) dL_acts_219 (by decide) q)))) ?_
                                refine P_call (t := fun v => some (.long v)) (st2 := fun v => .long v :: []) (kc2 := 52) (ks2 := 312) (fun hJ => (ok_L_ask (σ := σ) (p1 := 10) (p2 := 0) (p3 := 0))) (fun hJ _ _ _ _ v τ1 hM q => E_callS (as := [.ref 3, .int 10, .int 0, .int 0]) (st := []) hM (by decide) yfL_ask mlL_139 stL_ask rfl (Nat.le_of_ble_eq_true rfl) rfl dL_acts_220 q) (by omega) (by omega) (fun v48 σ49 => ?_)
                                exact P_ret (fun _ _ => E_lret rfl dL_acts_223)
                              · skip
                                refine P_case (fun h50 => ?_) (fun h50 => ?_)
                                · skip
                                  refine P_l (fun hJ _ _ q => E_tableIn (off := 177) 215 dL_acts_38 (by rw [h50]; decide) (by rw [h50]; decide) (by rw [h50]; rfl) (by decide) q) ?_
                                  refine P_l (fun hJ _ _ q => E_aload_n dL_acts_215 rfl (E_bipush (v := 10) dL_acts_216 (by decide) (E_iconst (v := 0) dL_acts_218 (by decide) (E_iconst (v := 0) dL_acts_219 (by decide) q)))) ?_
                                  refine P_call (t := fun v => some (.long v)) (st2 := fun v => .long v :: []) (kc2 := 52) (ks2 := 312) (fun hJ => (ok_L_ask (σ := σ) (p1 := 10) (p2 := 0) (p3 := 0))) (fun hJ _ _ _ _ v τ1 hM q => E_callS (as := [.ref 3, .int 10, .int 0, .int 0]) (st := []) hM (by decide) yfL_ask mlL_139 stL_ask rfl (Nat.le_of_ble_eq_true rfl) rfl dL_acts_220 q) (by omega) (by omega) (fun v51 σ52 => ?_)
                                  exact P_ret (fun _ _ => E_lret rfl dL_acts_223)
                                · skip
                                  refine P_case (fun h53 => ?_) (fun h53 => ?_)
                                  · skip
                                    refine P_l (fun hJ _ _ q => E_tableIn (off := 186) 224 dL_acts_38 (by rw [h53]; decide) (by rw [h53]; decide) (by rw [h53]; rfl) (by decide) q) ?_
                                    refine P_l (fun hJ _ _ q => E_aload_n dL_acts_224 rfl (E_bipush (v := 11) dL_acts_225 (by decide) (E_iload_n dL_acts_227 rfl (E_iconst (v := 3) dL_acts_228 (by decide) q)))) ?_
                                    refine P_callr (t := fun v => some (.int v)) (st2 := fun v => .int v :: [.int 11, .ref 3]) (fun hJ => (ok_L_low (σ := σ) (p1 := p2) (p2 := 3) )) (fun hJ _ _ v hM q => E_callS (as := [.int p2, .int 3]) (st := [.int 11, .ref 3]) hM (by decide) yfL_low mlL_153 stL_low rfl (Nat.le_of_ble_eq_true rfl) rfl dL_acts_229 q) (fun v54 => ?_)
                                    refine P_if (fun hJ _ _ h1 h2 => E_if_ne 240 dL_acts_232 (by decide) h2 h1) ?_ ?_
                                    · skip
                                      refine P_l (fun hJ _ _ q => E_bipush (v := 119) dL_acts_235 (by decide) (E_goto 265 dL_acts_237 (by decide) (E_iconst (v := 0) dL_acts_265 (by decide) q))) ?_
                                      refine P_call (t := fun v => some (.long v)) (st2 := fun v => .long v :: []) (kc2 := 52) (ks2 := 312) (fun hJ => (ok_L_ask (σ := σ) (p1 := 11) (p2 := 119) (p3 := 0))) (fun hJ _ _ _ _ v τ1 hM q => E_callS (as := [.ref 3, .int 11, .int 119, .int 0]) (st := []) hM (by decide) yfL_ask mlL_139 stL_ask rfl (Nat.le_of_ble_eq_true rfl) rfl dL_acts_266 q) (by omega) (by omega) (fun v55 σ56 => ?_)
                                      exact P_ret (fun _ _ => E_lret rfl dL_acts_269)
                                    · skip
                                      refine P_l (fun hJ _ _ q => E_iload_n dL_acts_240 rfl (E_iconst (v := 3) dL_acts_241 (by decide) q)) ?_
                                      refine P_callr (t := fun v => some (.int v)) (st2 := fun v => .int v :: [.int 11, .ref 3]) (fun hJ => (ok_L_low (σ := σ) (p1 := p2) (p2 := 3) )) (fun hJ _ _ v hM q => E_callS (as := [.int p2, .int 3]) (st := [.int 11, .ref 3]) hM (by decide) yfL_low mlL_153 stL_low rfl (Nat.le_of_ble_eq_true rfl) rfl dL_acts_242 q) (fun v57 => ?_)
                                      refine P_l (fun hJ _ _ q => E_iconst (v := 1) dL_acts_245 (by decide) q) ?_
                                      refine P_if (fun hJ _ _ h1 h2 => E_icmp_ne 254 dL_acts_246 (by decide) h2 h1) ?_ ?_
                                      · skip
                                        refine P_l (fun hJ _ _ q => E_bipush (v := 108) dL_acts_249 (by decide) (E_goto 265 dL_acts_251 (by decide) (E_iconst (v := 0) dL_acts_265 (by decide) q))) ?_
                                        refine P_call (t := fun v => some (.long v)) (st2 := fun v => .long v :: []) (kc2 := 52) (ks2 := 312) (fun hJ => (ok_L_ask (σ := σ) (p1 := 11) (p2 := 108) (p3 := 0))) (fun hJ _ _ _ _ v τ1 hM q => E_callS (as := [.ref 3, .int 11, .int 108, .int 0]) (st := []) hM (by decide) yfL_ask mlL_139 stL_ask rfl (Nat.le_of_ble_eq_true rfl) rfl dL_acts_266 q) (by omega) (by omega) (fun v58 σ59 => ?_)
                                        exact P_ret (fun _ _ => E_lret rfl dL_acts_269)
                                      · skip
                                        refine P_l (fun hJ _ _ q => E_bipush (v := 48) dL_acts_254 (by decide) (E_iload_n dL_acts_256 rfl (E_iconst (v := 2) dL_acts_257 (by decide) (E_ishr dL_acts_258 (E_bipush (v := 60) dL_acts_259 (by decide) q))))) ?_
                                        refine P_callr (t := fun v => some (.int v)) (st2 := fun v => .int v :: [.int 48, .int 11, .ref 3]) (fun hJ => (ok_L_low (σ := σ) (p1 := p2 >>> ((2 : Int32) &&& 31)) (p2 := 60) )) (fun hJ _ _ v hM q => E_callS (as := [.int (p2 >>> ((2 : Int32) &&& 31)), .int 60]) (st := [.int 48, .int 11, .ref 3]) hM (by decide) yfL_low mlL_153 stL_low rfl (Nat.le_of_ble_eq_true rfl) rfl dL_acts_261 q) (fun v60 => ?_)
                                        refine P_l (fun hJ _ _ q => E_iadd dL_acts_264 (E_iconst (v := 0) dL_acts_265 (by decide) q)) ?_
                                        refine P_call (t := fun v => some (.long v)) (st2 := fun v => .long v :: []) (kc2 := 52) (ks2 := 312) (fun hJ => (ok_L_ask (σ := σ) (p1 := 11) (p2 := 48 + v60) (p3 := 0))) (fun hJ _ _ _ _ v τ1 hM q => E_callS (as := [.ref 3, .int 11, .int (48 + v60), .int 0]) (st := []) hM (by decide) yfL_ask mlL_139 stL_ask rfl (Nat.le_of_ble_eq_true rfl) rfl dL_acts_266 q) (by omega) (by omega) (fun v61 σ62 => ?_)
                                        exact P_ret (fun _ _ => E_lret rfl dL_acts_269)
                                  · skip
                                    refine P_case (fun h63 => ?_) (fun h63 => ?_)
                                    · skip
                                      refine P_l (fun hJ _ _ q => E_tableIn (off := 232) 270 dL_acts_38 (by rw [h63]; decide) (by rw [h63]; decide) (by rw [h63]; rfl) (by decide) q) ?_
                                      refine P_l (fun hJ _ _ q => E_aload_n dL_acts_270 rfl (E_bipush (v := 13) dL_acts_271 (by decide) (E_iconst (v := 0) dL_acts_273 (by decide) (E_iconst (v := 0) dL_acts_274 (by decide) q)))) ?_
                                      refine P_call (t := fun v => some (.long v)) (st2 := fun v => .long v :: []) (kc2 := 52) (ks2 := 312) (fun hJ => (ok_L_ask (σ := σ) (p1 := 13) (p2 := 0) (p3 := 0))) (fun hJ _ _ _ _ v τ1 hM q => E_callS (as := [.ref 3, .int 13, .int 0, .int 0]) (st := []) hM (by decide) yfL_ask mlL_139 stL_ask rfl (Nat.le_of_ble_eq_true rfl) rfl dL_acts_275 q) (by omega) (by omega) (fun v64 σ65 => ?_)
                                      exact P_ret (fun _ _ => E_lret rfl dL_acts_278)
                                    · skip
                                      refine P_case (fun h66 => ?_) (fun h66 => ?_)
                                      · skip
                                        refine P_l (fun hJ _ _ q => E_tableIn (off := 241) 279 dL_acts_38 (by rw [h66]; decide) (by rw [h66]; decide) (by rw [h66]; rfl) (by decide) q) ?_
                                        refine P_l (fun hJ _ _ q => E_aload_n dL_acts_279 rfl (E_bipush (v := 12) dL_acts_280 (by decide) (E_iconst (v := 0) dL_acts_282 (by decide) (E_iconst (v := 0) dL_acts_283 (by decide) q)))) ?_
                                        refine P_call (t := fun v => some (.long v)) (st2 := fun v => .long v :: []) (kc2 := 52) (ks2 := 312) (fun hJ => (ok_L_ask (σ := σ) (p1 := 12) (p2 := 0) (p3 := 0))) (fun hJ _ _ _ _ v τ1 hM q => E_callS (as := [.ref 3, .int 12, .int 0, .int 0]) (st := []) hM (by decide) yfL_ask mlL_139 stL_ask rfl (Nat.le_of_ble_eq_true rfl) rfl dL_acts_284 q) (by omega) (by omega) (fun v67 σ68 => ?_)
                                        exact P_ret (fun _ _ => E_lret rfl dL_acts_287)
                                      · skip
                                        refine P_case (fun h69 => ?_) (fun h69 => ?_)
                                        · skip
                                          refine P_l (fun hJ _ _ q => E_tableIn (off := 250) 288 dL_acts_38 (by rw [h69]; decide) (by rw [h69]; decide) (by rw [h69]; rfl) (by decide) q) ?_
                                          refine P_l (fun hJ _ _ q => E_aload_n dL_acts_288 rfl (E_bipush (v := 23) dL_acts_289 (by decide) (E_iload_n dL_acts_291 rfl (E_iconst (v := 4) dL_acts_292 (by decide) q)))) ?_
                                          refine P_callr (t := fun v => some (.int v)) (st2 := fun v => .int v :: [.int 23, .ref 3]) (fun hJ => (ok_L_low (σ := σ) (p1 := p1) (p2 := 4) )) (fun hJ _ _ v hM q => E_callS (as := [.int p1, .int 4]) (st := [.int 23, .ref 3]) hM (by decide) yfL_low mlL_153 stL_low rfl (Nat.le_of_ble_eq_true rfl) rfl dL_acts_293 q) (fun v70 => ?_)
                                          refine P_l (fun hJ _ _ q => E_iload dL_acts_296 rfl (E_iload_n dL_acts_298 rfl (E_iconst (v := 5) dL_acts_299 (by decide) (E_ishr dL_acts_300 (E_iconst (v := 4) dL_acts_301 (by decide) q))))) ?_
                                          refine P_callr (t := fun v => some (.int v)) (st2 := fun v => .int v :: [.int ((13 * v1) + v3), .int v70, .int 23, .ref 3]) (fun hJ => (ok_L_low (σ := σ) (p1 := p2 >>> ((5 : Int32) &&& 31)) (p2 := 4) )) (fun hJ _ _ v hM q => E_callS (as := [.int (p2 >>> ((5 : Int32) &&& 31)), .int 4]) (st := [.int ((13 * v1) + v3), .int v70, .int 23, .ref 3]) hM (by decide) yfL_low mlL_153 stL_low rfl (Nat.le_of_ble_eq_true rfl) rfl dL_acts_302 q) (fun v71 => ?_)
                                          refine P_l (fun hJ _ _ q => E_iconst (v := 0) dL_acts_305 (by decide) (E_iconst (v := 0) dL_acts_306 (by decide) q)) ?_
                                          refine P_callH (st2 := fun v => .long v :: []) (kc2 := 52) (ks2 := 312) (fun hJ => (ok_L_does (σ := σ) (p1 := 23) (p2 := v70) (p3 := (13 * v1) + v3) (p4 := v71) (p5 := 0) (p6 := 0))) (fun hJ _ _ _ _ v τ1 hM q => E_callSH (as := [.ref 3, .int 23, .int v70, .int ((13 * v1) + v3), .int v71, .int 0, .int 0]) (st := []) hM (by decide) yfL_does mlL_133 stL_does rfl (Nat.le_of_ble_eq_true rfl) rfl dL_acts_307 q) (by omega) (by omega) (fun v72 σ73 => ?_)
                                          exact P_ret (fun _ _ => E_lret rfl dL_acts_310)
                                        · skip
                                          refine P_case (fun h74 => ?_) (fun h74 => ?_)
                                          · skip
                                            refine P_l (fun hJ _ _ q => E_tableIn (off := 273) 311 dL_acts_38 (by rw [h74]; decide) (by rw [h74]; decide) (by rw [h74]; rfl) (by decide) q) ?_
                                            refine P_l (fun hJ _ _ q => E_aload_n dL_acts_311 rfl (E_iconst (v := 2) dL_acts_312 (by decide) (E_iload_n dL_acts_313 rfl (E_ldc dL_acts_314 kcL_160 q)))) ?_
                                            refine P_callr (t := fun v => some (.int v)) (st2 := fun v => .int v :: [.int 2, .ref 3]) (fun hJ => (ok_L_low (σ := σ) (p1 := p2) (p2 := 65536) )) (fun hJ _ _ v hM q => E_callS (as := [.int p2, .int 65536]) (st := [.int 2, .ref 3]) hM (by decide) yfL_low mlL_153 stL_low rfl (Nat.le_of_ble_eq_true rfl) rfl dL_acts_316 q) (fun v75 => ?_)
                                            refine P_l (fun hJ _ _ q => E_iconst (v := 1) dL_acts_319 (by decide) (E_iload_n dL_acts_320 rfl (E_iconst (v := 4) dL_acts_321 (by decide) (E_ishr dL_acts_322 (E_bipush (v := 15) dL_acts_323 (by decide) q))))) ?_
                                            refine P_callr (t := fun v => some (.int v)) (st2 := fun v => .int v :: [.int 1, .int v75, .int 2, .ref 3]) (fun hJ => (ok_L_low (σ := σ) (p1 := p2 >>> ((4 : Int32) &&& 31)) (p2 := 15) )) (fun hJ _ _ v hM q => E_callS (as := [.int (p2 >>> ((4 : Int32) &&& 31)), .int 15]) (st := [.int 1, .int v75, .int 2, .ref 3]) hM (by decide) yfL_low mlL_153 stL_low rfl (Nat.le_of_ble_eq_true rfl) rfl dL_acts_325 q) (fun v76 => ?_)
                                            refine P_l (fun hJ _ _ q => E_iadd dL_acts_328 (E_iconst (v := 1) dL_acts_329 (by decide) (E_iload_n dL_acts_330 rfl (E_sipush (v := 200) dL_acts_331 (by decide) q)))) ?_
                                            refine P_callr (t := fun v => some (.int v)) (st2 := fun v => .int v :: [.int 1, .int (1 + v76), .int v75, .int 2, .ref 3]) (fun hJ => (ok_L_low (σ := σ) (p1 := p1) (p2 := 200) )) (fun hJ _ _ v hM q => E_callS (as := [.int p1, .int 200]) (st := [.int 1, .int (1 + v76), .int v75, .int 2, .ref 3]) hM (by decide) yfL_low mlL_153 stL_low rfl (Nat.le_of_ble_eq_true rfl) rfl dL_acts_334 q) (fun v77 => ?_)
                                            refine P_l (fun hJ _ _ q => E_iadd dL_acts_337 (E_iconst (v := 0) dL_acts_338 (by decide) (E_iconst (v := 0) dL_acts_339 (by decide) q))) ?_
                                            refine P_callH (st2 := fun v => .long v :: []) (kc2 := 52) (ks2 := 312) (fun hJ => (ok_L_does (σ := σ) (p1 := 2) (p2 := v75) (p3 := 1 + v76) (p4 := 1 + v77) (p5 := 0) (p6 := 0))) (fun hJ _ _ _ _ v τ1 hM q => E_callSH (as := [.ref 3, .int 2, .int v75, .int (1 + v76), .int (1 + v77), .int 0, .int 0]) (st := []) hM (by decide) yfL_does mlL_133 stL_does rfl (Nat.le_of_ble_eq_true rfl) rfl dL_acts_340 q) (by omega) (by omega) (fun v78 σ79 => ?_)
                                            exact P_ret (fun _ _ => E_lret rfl dL_acts_343)
                                          · skip
                                            refine P_l (fun hJ _ _ q => E_tableOut 344 dL_acts_38 (by have e0 := sw_ne h4; have e1 := sw_ne h7; have e2 := sw_ne h10; have e3 := sw_ne h13; have e4 := sw_ne h16; have e5 := sw_ne h19; have e6 := sw_ne h22; have e7 := sw_ne h25; have e8 := sw_ne h28; have e9 := sw_ne h31; have e10 := sw_ne h38; have e11 := sw_ne h41; have e12 := sw_ne h44; have e13 := sw_ne h47; have e14 := sw_ne h50; have e15 := sw_ne h53; have e16 := sw_ne h63; have e17 := sw_ne h66; have e18 := sw_ne h69; have e19 := sw_ne h74; simp only [sw_l0, sw_l1, sw_l2, sw_l3, sw_l4, sw_l5, sw_l6, sw_l7, sw_l8, sw_l9, sw_l10, sw_l11, sw_l12, sw_l13, sw_l14, sw_l15, sw_l16, sw_l17, sw_l18, sw_l19] at *; omega) (by decide) q) ?_
                                            refine P_l (fun hJ _ _ q => E_aload_n dL_acts_344 rfl (E_iconst (v := 1) dL_acts_345 (by decide) (E_iload_n dL_acts_346 rfl (E_iconst (v := 3) dL_acts_347 (by decide) q)))) ?_
                                            refine P_callr (t := fun v => some (.int v)) (st2 := fun v => .int v :: [.int 1, .ref 3]) (fun hJ => (ok_L_low (σ := σ) (p1 := p2) (p2 := 3) )) (fun hJ _ _ v hM q => E_callS (as := [.int p2, .int 3]) (st := [.int 1, .ref 3]) hM (by decide) yfL_low mlL_153 stL_low rfl (Nat.le_of_ble_eq_true rfl) rfl dL_acts_348 q) (fun v80 => ?_)
                                            refine P_l (fun hJ _ _ q => E_iload_n dL_acts_351 rfl (E_iconst (v := 2) dL_acts_352 (by decide) (E_ishr dL_acts_353 (E_iconst (v := 5) dL_acts_354 (by decide) q)))) ?_
                                            refine P_callr (t := fun v => some (.int v)) (st2 := fun v => .int v :: [.int v80, .int 1, .ref 3]) (fun hJ => (ok_L_low (σ := σ) (p1 := p2 >>> ((2 : Int32) &&& 31)) (p2 := 5) )) (fun hJ _ _ v hM q => E_callS (as := [.int (p2 >>> ((2 : Int32) &&& 31)), .int 5]) (st := [.int v80, .int 1, .ref 3]) hM (by decide) yfL_low mlL_153 stL_low rfl (Nat.le_of_ble_eq_true rfl) rfl dL_acts_355 q) (fun v81 => ?_)
                                            refine P_call (t := fun v => some (.long v)) (st2 := fun v => .long v :: []) (kc2 := 52) (ks2 := 312) (fun hJ => (ok_L_ask (σ := σ) (p1 := 1) (p2 := v80) (p3 := v81))) (fun hJ _ _ _ _ v τ1 hM q => E_callS (as := [.ref 3, .int 1, .int v80, .int v81]) (st := []) hM (by decide) yfL_ask mlL_139 stL_ask rfl (Nat.le_of_ble_eq_true rfl) rfl dL_acts_358 q) (by omega) (by omega) (fun v82 σ83 => ?_)
                                            exact P_ret (fun _ _ => E_lret rfl dL_acts_361)
def b_L_balances_41 (s9 : Int64 × Int64 × Int64 × Int64 × Int32 × rS) : Option (((Int32 × rS) ⊕ (Int64 × Int64 × Int64 × Int64 × rS)) ⊕ (Int64 × Int64 × Int64 × Int64 × Int32 × rS)) := if 3 ≤ s9.2.2.2.2.1 then (some (.inl (.inr ((s9.1, s9.2.1, s9.2.2.1, s9.2.2.2.1, s9.2.2.2.2.2))))) else (oB (f_L_ask s9.2.2.2.2.2 28 s9.2.2.2.2.1 5) fun v10 σ11 => oB (f_L_ask σ11 28 s9.2.2.2.2.1 2) fun v12 σ13 => oB (f_L_ask σ13 28 s9.2.2.2.2.1 9) fun v14 σ15 => oB (f_L_ask σ15 28 s9.2.2.2.2.1 7) fun v16 σ17 => oLet (s9.2.2.2.1 ||| ((1 : Int64) <<< (((((v16 : Int64)).toInt32 : Int32)).toInt64 &&& 63)) : Int64) fun x18 => some (.inr ((s9.1 + v10, s9.2.1 + v12, s9.2.2.1 + v14, x18, s9.2.2.2.2.1 + 1, σ17))))
def f_L_balances (σ : rS) (p1 : Int32) : Option (Int32 × rS) := oB (f_L_ask σ 32 1 0) fun v1 σ2 => oB (f_L_ask σ2 32 2 0) fun v3 σ4 => oB (f_L_ask σ4 32 4 0) fun v5 σ6 => oJoin (oLoop (b_L_balances_41) 4 (((v1 + v3) + v5, (0 : Int64), (0 : Int64), (0 : Int64), 0, σ6))) fun j8 => oJoin (if (if (lg_cmp j8.1 (((p1 : Int32)).toInt64)) = 0 then (if (lg_cmp j8.2.1 (0 : Int64)) = 0 then (if (lg_cmp j8.2.2.2.1 (7 : Int64)) = 0 then false else true) else true) else (if (lg_cmp j8.1 (0 : Int64)) = 0 then (if (lg_cmp j8.2.1 (0 : Int64)) = 0 then (if (lg_cmp j8.2.2.2.1 (7 : Int64)) = 0 then false else true) else true) else true)) = true then (some (.inr (((0 : Int32), j8.2.2.2.2)))) else (oB (f_L_ask j8.2.2.2.2 32 8 0) fun v20 σ21 => if (lg_cmp j8.2.2.1 v20) = 0 then (oB (f_L_ask σ21 29 0 0) fun v22 σ23 => oB (f_L_ask σ23 29 1 0) fun v24 σ25 => if (lg_cmp (v22 + v24) (0 : Int64)) = 0 then (oB (f_L_ask σ25 31 0 0) fun v26 σ27 => if (lg_cmp v26 (1 : Int64)) = 0 then (some (.inr (((1 : Int32), σ27)))) else (some (.inr (((0 : Int32), σ27))))) else (some (.inr (((0 : Int32), σ25))))) else (some (.inr (((0 : Int32), σ21)))))) fun j19 => oB (f_L_ask j19.2 32 5 0) fun v28 σ29 => oJoin (if 0 < (lg_cmp v28 (0 : Int64)) then (some (.inr (((1 : Int32), σ29)))) else (oB (f_L_ask σ29 14 0 0) fun v31 σ32 => if (lg_cmp v31 (1 : Int64)) = 0 then (oB (f_L_ask σ32 32 4 0) fun v33 σ34 => if (lg_cmp v33 (0 : Int64)) = 0 then (some (.inr (((1 : Int32), σ34)))) else (some (.inr (((0 : Int32), σ34))))) else (some (.inr (((0 : Int32), σ32)))))) fun j30 => if (j19.1 &&& j30.1) = 0 then (some ((0, j30.2))) else (oB (f_L_ask j30.2 14 0 0) fun v35 σ36 => oB (f_L_ask σ36 15 1 0) fun v37 σ38 => if ((if (lg_cmp v35 (1 : Int64)) = 0 then 1 else 0 : Int32)) = ((if (lg_cmp v37 (0 : Int64)) < 0 then 0 else 1 : Int32)) then (oB (f_L_ask σ38 15 1 0) fun v39 σ40 => oB (f_L_ask σ40 15 2 0) fun v41 σ42 => if 0 < (lg_cmp v39 v41) then (some ((0, σ42))) else (oB (f_L_ask σ42 15 2 0) fun v43 σ44 => oB (f_L_ask σ44 32 2 0) fun v45 σ46 => some (((if 0 < (lg_cmp ((3 : Int64) * v43) v45) then 0 else 1 : Int32), σ46)))) else (some ((0, σ38))))
set_option maxRecDepth 20000 in
set_option maxHeartbeats 8000000 in
theorem ok_L_balances {σ : rS} {p1 : Int32} : rFn Sy yL_balances mL_balances 26 [.ref 3, .int p1] σ 128 768 (fun v => .inl (some (.int v))) (f_L_balances σ p1) := by
  refine rF_of (ls := [some (.ref 3), some (.int p1), none, none, none, none, none, none, none, none, none, none]) yfL_balances rfl (Nat.le_of_ble_eq_true rfl) (fun o τ => ?_)
  unfold f_L_balances
  refine P_l (fun hJ _ _ q => E_iconst (v := 3) dL_balances_0 (by decide) (E_istore_n (ls2 := [some (.ref 3), some (.int p1), some (.int 3), none, none, none, none, none, none, none, none, none]) dL_balances_1 (by decide) rfl (E_aload_n dL_balances_2 rfl (E_bipush (v := 32) dL_balances_3 (by decide) (E_iconst (v := 1) dL_balances_5 (by decide) (E_iconst (v := 0) dL_balances_6 (by decide) q)))))) ?_
  refine P_call (t := fun v => some (.long v)) (st2 := fun v => .long v :: []) (kc2 := 124) (ks2 := 744) (fun hJ => (ok_L_ask (σ := σ) (p1 := 32) (p2 := 1) (p3 := 0))) (fun hJ _ _ _ _ v τ1 hM q => E_callS (as := [.ref 3, .int 32, .int 1, .int 0]) (st := []) hM (by decide) yfL_ask mlL_139 stL_ask rfl (Nat.le_of_ble_eq_true rfl) rfl dL_balances_7 q) (by omega) (by omega) (fun v1 σ2 => ?_)
  refine P_l (fun hJ _ _ q => E_aload_n dL_balances_10 rfl (E_bipush (v := 32) dL_balances_11 (by decide) (E_iconst (v := 2) dL_balances_13 (by decide) (E_iconst (v := 0) dL_balances_14 (by decide) q)))) ?_
  refine P_call (t := fun v => some (.long v)) (st2 := fun v => .long v :: [.long v1]) (kc2 := 120) (ks2 := 720) (fun hJ => (ok_L_ask (σ := σ2) (p1 := 32) (p2 := 2) (p3 := 0))) (fun hJ _ _ _ _ v τ1 hM q => E_callS (as := [.ref 3, .int 32, .int 2, .int 0]) (st := [.long v1]) hM (by decide) yfL_ask mlL_139 stL_ask rfl (Nat.le_of_ble_eq_true rfl) rfl dL_balances_15 q) (by omega) (by omega) (fun v3 σ4 => ?_)
  refine P_l (fun hJ _ _ q => E_ladd dL_balances_18 (E_aload_n dL_balances_19 rfl (E_bipush (v := 32) dL_balances_20 (by decide) (E_iconst (v := 4) dL_balances_22 (by decide) (E_iconst (v := 0) dL_balances_23 (by decide) q))))) ?_
  refine P_call (t := fun v => some (.long v)) (st2 := fun v => .long v :: [.long (v1 + v3)]) (kc2 := 116) (ks2 := 696) (fun hJ => (ok_L_ask (σ := σ4) (p1 := 32) (p2 := 4) (p3 := 0))) (fun hJ _ _ _ _ v τ1 hM q => E_callS (as := [.ref 3, .int 32, .int 4, .int 0]) (st := [.long (v1 + v3)]) hM (by decide) yfL_ask mlL_139 stL_ask rfl (Nat.le_of_ble_eq_true rfl) rfl dL_balances_24 q) (by omega) (by omega) (fun v5 σ6 => ?_)
  refine P_l (fun hJ _ _ q => E_ladd dL_balances_27 (E_lstore_n (ls2 := [some (.ref 3), some (.int p1), some (.int 3), some (.long ((v1 + v3) + v5)), none, none, none, none, none, none, none, none]) dL_balances_28 (by decide) rfl (E_lconst (v := 0) dL_balances_29 (by decide) (E_lstore (ls2 := [some (.ref 3), some (.int p1), some (.int 3), some (.long ((v1 + v3) + v5)), none, some (.long (0 : Int64)), none, none, none, none, none, none]) dL_balances_30 (by decide) rfl (E_lconst (v := 0) dL_balances_32 (by decide) (E_lstore (ls2 := [some (.ref 3), some (.int p1), some (.int 3), some (.long ((v1 + v3) + v5)), none, some (.long (0 : Int64)), none, some (.long (0 : Int64)), none, none, none, none]) dL_balances_33 (by decide) rfl (E_lconst (v := 0) dL_balances_35 (by decide) (E_lstore (ls2 := [some (.ref 3), some (.int p1), some (.int 3), some (.long ((v1 + v3) + v5)), none, some (.long (0 : Int64)), none, some (.long (0 : Int64)), none, some (.long (0 : Int64)), none, none]) dL_balances_36 (by decide) rfl (E_iconst (v := 0) dL_balances_38 (by decide) (E_istore (ls2 := [some (.ref 3), some (.int p1), some (.int 3), some (.long ((v1 + v3) + v5)), none, some (.long (0 : Int64)), none, some (.long (0 : Int64)), none, some (.long (0 : Int64)), none, some (.int 0)]) dL_balances_39 (by decide) rfl q)))))))))) ?_
  refine P_joinF (kr := 52) (sr := 312) (pc2 := 112) (fun j8 => [some (.ref 3), some (.int p1), none, some (.long j8.1), none, some (.long j8.2.1), none, some (.long j8.2.2.1), none, some (.long j8.2.2.2.1), none, none]) (fun j8 => []) (fun j8 => j8.2.2.2.2) ?_ (fun j8 => ?_)
  · skip
    refine P_loopG (r := 52) (q := 312) (c := 16) (d := 96) (n := 4) (s := (((v1 + v3) + v5, (0 : Int64), (0 : Int64), (0 : Int64), 0, σ6))) (ls := fun (s9 : Int64 × Int64 × Int64 × Int64 × Int32 × rS) => [some (.ref 3), some (.int p1), some (.int 3), some (.long s9.1), none, some (.long s9.2.1), none, some (.long s9.2.2.1), none, some (.long s9.2.2.2.1), none, some (.int s9.2.2.2.2.1)]) (w := fun (s9 : Int64 × Int64 × Int64 × Int64 × Int32 × rS) => s9.2.2.2.2.2) (by omega) (by omega) (fun kN ksN s9 => ?_)
    unfold b_L_balances_41
    refine P_l (fun hJ _ _ q => E_iload dL_balances_41 rfl (E_iload_n dL_balances_43 rfl q)) ?_
    refine P_if (fun hJ _ _ h1 h2 => E_icmp_ge 112 dL_balances_44 (by decide) h1 h2) ?_ ?_
    · skip
      refine P_less [some (.ref 3), some (.int p1), none, some (.long s9.1), none, some (.long s9.2.1), none, some (.long s9.2.2.1), none, some (.long s9.2.2.2.1), none, none] (And.intro rfl (And.intro rfl (And.intro rfl (And.intro rfl (And.intro rfl (And.intro rfl trivial)))))) ?_
      refine P_room (kc2 := 52) (ks2 := 312) (by omega) (by omega) ?_
      exact P_inl (P_back ((s9.1, s9.2.1, s9.2.2.1, s9.2.2.2.1, s9.2.2.2.2.2)))
    · skip
      refine P_l (fun hJ _ _ q => E_lload_n dL_balances_47 rfl (E_aload_n dL_balances_48 rfl (E_bipush (v := 28) dL_balances_49 (by decide) (E_iload dL_balances_51 rfl (E_iconst (v := 5) dL_balances_53 (by decide) q))))) ?_
      refine P_call (t := fun v => some (.long v)) (st2 := fun v => .long v :: [.long s9.1]) (kc2 := kN + 64) (ks2 := ksN + 384) (fun hJ => (ok_L_ask (σ := s9.2.2.2.2.2) (p1 := 28) (p2 := s9.2.2.2.2.1) (p3 := 5))) (fun hJ _ _ _ _ v τ1 hM q => E_callS (as := [.ref 3, .int 28, .int s9.2.2.2.2.1, .int 5]) (st := [.long s9.1]) hM (by decide) yfL_ask mlL_139 stL_ask rfl (Nat.le_of_ble_eq_true rfl) rfl dL_balances_54 q) (by omega) (by omega) (fun v10 σ11 => ?_)
      refine P_l (fun hJ _ _ q => E_ladd dL_balances_57 (E_lstore_n (ls2 := [some (.ref 3), some (.int p1), some (.int 3), some (.long (s9.1 + v10)), none, some (.long s9.2.1), none, some (.long s9.2.2.1), none, some (.long s9.2.2.2.1), none, some (.int s9.2.2.2.2.1)]) dL_balances_58 (by decide) rfl (E_lload dL_balances_59 rfl (E_aload_n dL_balances_61 rfl (E_bipush (v := 28) dL_balances_62 (by decide) (E_iload dL_balances_64 rfl (E_iconst (v := 2) dL_balances_66 (by decide) q))))))) ?_
      refine P_call (t := fun v => some (.long v)) (st2 := fun v => .long v :: [.long s9.2.1]) (kc2 := kN + 60) (ks2 := ksN + 360) (fun hJ => (ok_L_ask (σ := σ11) (p1 := 28) (p2 := s9.2.2.2.2.1) (p3 := 2))) (fun hJ _ _ _ _ v τ1 hM q => E_callS (as := [.ref 3, .int 28, .int s9.2.2.2.2.1, .int 2]) (st := [.long s9.2.1]) hM (by decide) yfL_ask mlL_139 stL_ask rfl (Nat.le_of_ble_eq_true rfl) rfl dL_balances_67 q) (by omega) (by omega) (fun v12 σ13 => ?_)
      refine P_l (fun hJ _ _ q => E_ladd dL_balances_70 (E_lstore (ls2 := [some (.ref 3), some (.int p1), some (.int 3), some (.long (s9.1 + v10)), none, some (.long (s9.2.1 + v12)), none, some (.long s9.2.2.1), none, some (.long s9.2.2.2.1), none, some (.int s9.2.2.2.2.1)]) dL_balances_71 (by decide) rfl (E_lload dL_balances_73 rfl (E_aload_n dL_balances_75 rfl (E_bipush (v := 28) dL_balances_76 (by decide) (E_iload dL_balances_78 rfl (E_bipush (v := 9) dL_balances_80 (by decide) q))))))) ?_
      refine P_call (t := fun v => some (.long v)) (st2 := fun v => .long v :: [.long s9.2.2.1]) (kc2 := kN + 56) (ks2 := ksN + 336) (fun hJ => (ok_L_ask (σ := σ13) (p1 := 28) (p2 := s9.2.2.2.2.1) (p3 := 9))) (fun hJ _ _ _ _ v τ1 hM q => E_callS (as := [.ref 3, .int 28, .int s9.2.2.2.2.1, .int 9]) (st := [.long s9.2.2.1]) hM (by decide) yfL_ask mlL_139 stL_ask rfl (Nat.le_of_ble_eq_true rfl) rfl dL_balances_82 q) (by omega) (by omega) (fun v14 σ15 => ?_)
      refine P_l (fun hJ _ _ q => E_ladd dL_balances_85 (E_lstore (ls2 := [some (.ref 3), some (.int p1), some (.int 3), some (.long (s9.1 + v10)), none, some (.long (s9.2.1 + v12)), none, some (.long (s9.2.2.1 + v14)), none, some (.long s9.2.2.2.1), none, some (.int s9.2.2.2.2.1)]) dL_balances_86 (by decide) rfl (E_lload dL_balances_88 rfl (E_lconst (v := 1) dL_balances_90 (by decide) (E_aload_n dL_balances_91 rfl (E_bipush (v := 28) dL_balances_92 (by decide) (E_iload dL_balances_94 rfl (E_bipush (v := 7) dL_balances_96 (by decide) q)))))))) ?_
      refine P_call (t := fun v => some (.long v)) (st2 := fun v => .long v :: [.long (1 : Int64), .long s9.2.2.2.1]) (kc2 := kN + 52) (ks2 := ksN + 312) (fun hJ => (ok_L_ask (σ := σ15) (p1 := 28) (p2 := s9.2.2.2.2.1) (p3 := 7))) (fun hJ _ _ _ _ v τ1 hM q => E_callS (as := [.ref 3, .int 28, .int s9.2.2.2.2.1, .int 7]) (st := [.long (1 : Int64), .long s9.2.2.2.1]) hM (by decide) yfL_ask mlL_139 stL_ask rfl (Nat.le_of_ble_eq_true rfl) rfl dL_balances_98 q) (by omega) (by omega) (fun v16 σ17 => ?_)
      refine P_l (fun hJ _ _ q => E_l2i dL_balances_101 (E_lshl dL_balances_102 (E_lor dL_balances_103 (E_lstore (ls2 := [some (.ref 3), some (.int p1), some (.int 3), some (.long (s9.1 + v10)), none, some (.long (s9.2.1 + v12)), none, some (.long (s9.2.2.1 + v14)), none, some (.long (s9.2.2.2.1 ||| ((1 : Int64) <<< (((((v16 : Int64)).toInt32 : Int32)).toInt64 &&& 63)))), none, some (.int s9.2.2.2.2.1)]) dL_balances_104 (by decide) rfl q)))) ?_
      refine P_v (s9.2.2.2.1 ||| ((1 : Int64) <<< (((((v16 : Int64)).toInt32 : Int32)).toInt64 &&& 63))) (fun x => [some (.ref 3), some (.int p1), some (.int 3), some (.long (s9.1 + v10)), none, some (.long (s9.2.1 + v12)), none, some (.long (s9.2.2.1 + v14)), none, some (.long x), none, some (.int s9.2.2.2.2.1)]) (fun x18 => ?_)
      refine P_l (fun hJ _ _ q => E_iinc (v := 1) (ls2 := [some (.ref 3), some (.int p1), some (.int 3), some (.long (s9.1 + v10)), none, some (.long (s9.2.1 + v12)), none, some (.long (s9.2.2.1 + v14)), none, some (.long x18), none, some (.int (s9.2.2.2.2.1 + 1))]) dL_balances_106 rfl (by decide) (by decide) rfl (E_goto 41 dL_balances_109 (by decide) q)) ?_
      refine P_room (kc2 := kN + 52) (ks2 := ksN + 312) (by omega) (by omega) ?_
      exact P_back ((s9.1 + v10, s9.2.1 + v12, s9.2.2.1 + v14, x18, s9.2.2.2.2.1 + 1, σ17))
  · skip
    refine P_l (fun hJ _ _ q => E_lload_n dL_balances_112 rfl (E_iload_n dL_balances_113 rfl (E_i2l dL_balances_114 (E_lcmp dL_balances_115 q)))) ?_
    refine P_joinF (kr := 36) (sr := 216) (pc2 := 196) (fun j19 => [some (.ref 3), none, none, none, none, none, none, none, none, none, none, none]) (fun j19 => [.int j19.1]) (fun j19 => j19.2) ?_ (fun j19 => ?_)
    · skip
      refine P_if (c := (if (lg_cmp j8.1 (((p1 : Int32)).toInt64)) = 0 then (if (lg_cmp j8.2.1 (0 : Int64)) = 0 then (if (lg_cmp j8.2.2.2.1 (7 : Int64)) = 0 then false else true) else true) else (if (lg_cmp j8.1 (0 : Int64)) = 0 then (if (lg_cmp j8.2.1 (0 : Int64)) = 0 then (if (lg_cmp j8.2.2.2.1 (7 : Int64)) = 0 then false else true) else true) else true)) = true) (pc1 := 195) (ls1 := [some (.ref 3), some (.int p1), none, some (.long j8.1), none, some (.long j8.2.1), none, some (.long j8.2.2.1), none, some (.long j8.2.2.2.1), none, none]) (st1 := []) (pc2 := 141) (ls2 := [some (.ref 3), some (.int p1), none, some (.long j8.1), none, some (.long j8.2.1), none, some (.long j8.2.2.1), none, some (.long j8.2.2.2.1), none, none]) (st2 := []) (fun hJ _ _ hX hY => ?_) ?_ ?_
      · skip
        refine E_if_eq 125 dL_balances_116 (by decide) (fun c_116_0 => ?_) (fun c_116_0 => ?_)
        · skip
          refine E_lload dL_balances_125 rfl ?_
          refine E_lconst (v := 0) dL_balances_127 (by decide) ?_
          refine E_lcmp dL_balances_128 ?_
          refine E_if_ne 195 dL_balances_129 (by decide) (fun c_129_1 => ?_) (fun c_129_1 => ?_)
          · skip
            exact hX (by simp only [if_pos c_116_0, if_neg c_129_1])
          · skip
            refine E_lload dL_balances_132 rfl ?_
            refine E_ldc2 dL_balances_134 kcL_143 ?_
            refine E_lcmp dL_balances_137 ?_
            refine E_if_ne 195 dL_balances_138 (by decide) (fun c_138_2 => ?_) (fun c_138_2 => ?_)
            · skip
              exact hX (by simp only [if_pos c_116_0, if_pos c_129_1, if_neg c_138_2])
            · skip
              exact hY (by simp only [if_pos c_116_0, if_pos c_129_1, if_pos c_138_2]; exact Bool.false_ne_true)
        · skip
          refine E_lload_n dL_balances_119 rfl ?_
          refine E_lconst (v := 0) dL_balances_120 (by decide) ?_
          refine E_lcmp dL_balances_121 ?_
          refine E_if_ne 195 dL_balances_122 (by decide) (fun c_122_1 => ?_) (fun c_122_1 => ?_)
          · skip
            exact hX (by simp only [if_neg c_116_0, if_neg c_122_1])
          · skip
            refine E_lload dL_balances_125 rfl ?_
            refine E_lconst (v := 0) dL_balances_127 (by decide) ?_
            refine E_lcmp dL_balances_128 ?_
            refine E_if_ne 195 dL_balances_129 (by decide) (fun c_129_2 => ?_) (fun c_129_2 => ?_)
            · skip
              exact hX (by simp only [if_neg c_116_0, if_pos c_122_1, if_neg c_129_2])
            · skip
              refine E_lload dL_balances_132 rfl ?_
              refine E_ldc2 dL_balances_134 kcL_143 ?_
              refine E_lcmp dL_balances_137 ?_
              refine E_if_ne 195 dL_balances_138 (by decide) (fun c_138_3 => ?_) (fun c_138_3 => ?_)
              · skip
                exact hX (by simp only [if_neg c_116_0, if_pos c_122_1, if_pos c_129_2, if_neg c_138_3])
              · skip
                exact hY (by simp only [if_neg c_116_0, if_pos c_122_1, if_pos c_129_2, if_pos c_138_3]; exact Bool.false_ne_true)
      · skip
        refine P_l (fun hJ _ _ q => E_iconst (v := 0) dL_balances_195 (by decide) q) ?_
        refine P_less [some (.ref 3), none, none, none, none, none, none, none, none, none, none, none] (And.intro rfl trivial) ?_
        refine P_room (kc2 := 36) (ks2 := 216) (by omega) (by omega) ?_
        exact P_back (((0 : Int32), j8.2.2.2.2))
      · skip
        refine P_l (fun hJ _ _ q => E_lload dL_balances_141 rfl (E_aload_n dL_balances_143 rfl (E_bipush (v := 32) dL_balances_144 (by decide) (E_bipush (v := 8) dL_balances_146 (by decide) (E_iconst (v := 0) dL_balances_148 (by decide) q))))) ?_
        refine P_call (t := fun v => some (.long v)) (st2 := fun v => .long v :: [.long j8.2.2.1]) (kc2 := 48) (ks2 := 288) (fun hJ => (ok_L_ask (σ := j8.2.2.2.2) (p1 := 32) (p2 := 8) (p3 := 0))) (fun hJ _ _ _ _ v τ1 hM q => E_callS (as := [.ref 3, .int 32, .int 8, .int 0]) (st := [.long j8.2.2.1]) hM (by decide) yfL_ask mlL_139 stL_ask rfl (Nat.le_of_ble_eq_true rfl) rfl dL_balances_149 q) (by omega) (by omega) (fun v20 σ21 => ?_)
        refine P_l (fun hJ _ _ q => E_lcmp dL_balances_152 q) ?_
        refine P_if (fun hJ _ _ h1 h2 => E_if_ne 195 dL_balances_153 (by decide) h2 h1) ?_ ?_
        · skip
          refine P_l (fun hJ _ _ q => E_aload_n dL_balances_156 rfl (E_bipush (v := 29) dL_balances_157 (by decide) (E_iconst (v := 0) dL_balances_159 (by decide) (E_iconst (v := 0) dL_balances_160 (by decide) q)))) ?_
          refine P_call (t := fun v => some (.long v)) (st2 := fun v => .long v :: []) (kc2 := 44) (ks2 := 264) (fun hJ => (ok_L_ask (σ := σ21) (p1 := 29) (p2 := 0) (p3 := 0))) (fun hJ _ _ _ _ v τ1 hM q => E_callS (as := [.ref 3, .int 29, .int 0, .int 0]) (st := []) hM (by decide) yfL_ask mlL_139 stL_ask rfl (Nat.le_of_ble_eq_true rfl) rfl dL_balances_161 q) (by omega) (by omega) (fun v22 σ23 => ?_)
          refine P_l (fun hJ _ _ q => E_aload_n dL_balances_164 rfl (E_bipush (v := 29) dL_balances_165 (by decide) (E_iconst (v := 1) dL_balances_167 (by decide) (E_iconst (v := 0) dL_balances_168 (by decide) q)))) ?_
          refine P_call (t := fun v => some (.long v)) (st2 := fun v => .long v :: [.long v22]) (kc2 := 40) (ks2 := 240) (fun hJ => (ok_L_ask (σ := σ23) (p1 := 29) (p2 := 1) (p3 := 0))) (fun hJ _ _ _ _ v τ1 hM q => E_callS (as := [.ref 3, .int 29, .int 1, .int 0]) (st := [.long v22]) hM (by decide) yfL_ask mlL_139 stL_ask rfl (Nat.le_of_ble_eq_true rfl) rfl dL_balances_169 q) (by omega) (by omega) (fun v24 σ25 => ?_)
          refine P_l (fun hJ _ _ q => E_ladd dL_balances_172 (E_lconst (v := 0) dL_balances_173 (by decide) (E_lcmp dL_balances_174 q))) ?_
          refine P_if (fun hJ _ _ h1 h2 => E_if_ne 195 dL_balances_175 (by decide) h2 h1) ?_ ?_
          · skip
            refine P_l (fun hJ _ _ q => E_aload_n dL_balances_178 rfl (E_bipush (v := 31) dL_balances_179 (by decide) (E_iconst (v := 0) dL_balances_181 (by decide) (E_iconst (v := 0) dL_balances_182 (by decide) q)))) ?_
            refine P_call (t := fun v => some (.long v)) (st2 := fun v => .long v :: []) (kc2 := 36) (ks2 := 216) (fun hJ => (ok_L_ask (σ := σ25) (p1 := 31) (p2 := 0) (p3 := 0))) (fun hJ _ _ _ _ v τ1 hM q => E_callS (as := [.ref 3, .int 31, .int 0, .int 0]) (st := []) hM (by decide) yfL_ask mlL_139 stL_ask rfl (Nat.le_of_ble_eq_true rfl) rfl dL_balances_183 q) (by omega) (by omega) (fun v26 σ27 => ?_)
            refine P_l (fun hJ _ _ q => E_lconst (v := 1) dL_balances_186 (by decide) (E_lcmp dL_balances_187 q)) ?_
            refine P_if (fun hJ _ _ h1 h2 => E_if_ne 195 dL_balances_188 (by decide) h2 h1) ?_ ?_
            · skip
              refine P_l (fun hJ _ _ q => E_iconst (v := 1) dL_balances_191 (by decide) (E_goto 196 dL_balances_192 (by decide) q)) ?_
              refine P_less [some (.ref 3), none, none, none, none, none, none, none, none, none, none, none] (And.intro rfl trivial) ?_
              refine P_room (kc2 := 36) (ks2 := 216) (by omega) (by omega) ?_
              exact P_back (((1 : Int32), σ27))
            · skip
              refine P_l (fun hJ _ _ q => E_iconst (v := 0) dL_balances_195 (by decide) q) ?_
              refine P_less [some (.ref 3), none, none, none, none, none, none, none, none, none, none, none] (And.intro rfl trivial) ?_
              refine P_room (kc2 := 36) (ks2 := 216) (by omega) (by omega) ?_
              exact P_back (((0 : Int32), σ27))
          · skip
            refine P_l (fun hJ _ _ q => E_iconst (v := 0) dL_balances_195 (by decide) q) ?_
            refine P_less [some (.ref 3), none, none, none, none, none, none, none, none, none, none, none] (And.intro rfl trivial) ?_
            refine P_room (kc2 := 36) (ks2 := 216) (by omega) (by omega) ?_
            exact P_back (((0 : Int32), σ25))
        · skip
          refine P_l (fun hJ _ _ q => E_iconst (v := 0) dL_balances_195 (by decide) q) ?_
          refine P_less [some (.ref 3), none, none, none, none, none, none, none, none, none, none, none] (And.intro rfl trivial) ?_
          refine P_room (kc2 := 36) (ks2 := 216) (by omega) (by omega) ?_
          exact P_back (((0 : Int32), σ21))
    · skip
      refine P_l (fun hJ _ _ q => E_istore (ls2 := [some (.ref 3), none, none, none, none, none, none, none, none, none, none, some (.int j19.1)]) dL_balances_196 (by decide) rfl (E_iload dL_balances_198 rfl (E_aload_n dL_balances_200 rfl (E_bipush (v := 32) dL_balances_201 (by decide) (E_iconst (v := 5) dL_balances_203 (by decide) (E_iconst (v := 0) dL_balances_204 (by decide) q)))))) ?_
      refine P_call (t := fun v => some (.long v)) (st2 := fun v => .long v :: [.int j19.1]) (kc2 := 32) (ks2 := 192) (fun hJ => (ok_L_ask (σ := j19.2) (p1 := 32) (p2 := 5) (p3 := 0))) (fun hJ _ _ _ _ v τ1 hM q => E_callS (as := [.ref 3, .int 32, .int 5, .int 0]) (st := [.int j19.1]) hM (by decide) yfL_ask mlL_139 stL_ask rfl (Nat.le_of_ble_eq_true rfl) rfl dL_balances_205 q) (by omega) (by omega) (fun v28 σ29 => ?_)
      refine P_l (fun hJ _ _ q => E_lconst (v := 0) dL_balances_208 (by decide) (E_lcmp dL_balances_209 q)) ?_
      refine P_joinF (kr := 24) (sr := 144) (pc2 := 244) (fun j30 => [some (.ref 3), none, none, none, none, none, none, none, none, none, none, none]) (fun j30 => [.int j30.1, .int j19.1]) (fun j30 => j30.2) ?_ (fun j30 => ?_)
      · skip
        refine P_if (fun hJ _ _ h1 h2 => E_if_gt 239 dL_balances_210 (by decide) h1 h2) ?_ ?_
        · skip
          refine P_l (fun hJ _ _ q => E_iconst (v := 1) dL_balances_239 (by decide) (E_goto 244 dL_balances_240 (by decide) q)) ?_
          refine P_less [some (.ref 3), none, none, none, none, none, none, none, none, none, none, none] (And.intro rfl trivial) ?_
          refine P_room (kc2 := 24) (ks2 := 144) (by omega) (by omega) ?_
          exact P_back (((1 : Int32), σ29))
        · skip
          refine P_l (fun hJ _ _ q => E_aload_n dL_balances_213 rfl (E_bipush (v := 14) dL_balances_214 (by decide) (E_iconst (v := 0) dL_balances_216 (by decide) (E_iconst (v := 0) dL_balances_217 (by decide) q)))) ?_
          refine P_call (t := fun v => some (.long v)) (st2 := fun v => .long v :: [.int j19.1]) (kc2 := 28) (ks2 := 168) (fun hJ => (ok_L_ask (σ := σ29) (p1 := 14) (p2 := 0) (p3 := 0))) (fun hJ _ _ _ _ v τ1 hM q => E_callS (as := [.ref 3, .int 14, .int 0, .int 0]) (st := [.int j19.1]) hM (by decide) yfL_ask mlL_139 stL_ask rfl (Nat.le_of_ble_eq_true rfl) rfl dL_balances_218 q) (by omega) (by omega) (fun v31 σ32 => ?_)
          refine P_l (fun hJ _ _ q => E_lconst (v := 1) dL_balances_221 (by decide) (E_lcmp dL_balances_222 q)) ?_
          refine P_if (fun hJ _ _ h1 h2 => E_if_ne 243 dL_balances_223 (by decide) h2 h1) ?_ ?_
          · skip
            refine P_l (fun hJ _ _ q => E_aload_n dL_balances_226 rfl (E_bipush (v := 32) dL_balances_227 (by decide) (E_iconst (v := 4) dL_balances_229 (by decide) (E_iconst (v := 0) dL_balances_230 (by decide) q)))) ?_
            refine P_call (t := fun v => some (.long v)) (st2 := fun v => .long v :: [.int j19.1]) (kc2 := 24) (ks2 := 144) (fun hJ => (ok_L_ask (σ := σ32) (p1 := 32) (p2 := 4) (p3 := 0))) (fun hJ _ _ _ _ v τ1 hM q => E_callS (as := [.ref 3, .int 32, .int 4, .int 0]) (st := [.int j19.1]) hM (by decide) yfL_ask mlL_139 stL_ask rfl (Nat.le_of_ble_eq_true rfl) rfl dL_balances_231 q) (by omega) (by omega) (fun v33 σ34 => ?_)
            refine P_l (fun hJ _ _ q => E_lconst (v := 0) dL_balances_234 (by decide) (E_lcmp dL_balances_235 q)) ?_
            refine P_if (fun hJ _ _ h1 h2 => E_if_ne 243 dL_balances_236 (by decide) h2 h1) ?_ ?_
            · skip
              refine P_l (fun hJ _ _ q => E_iconst (v := 1) dL_balances_239 (by decide) (E_goto 244 dL_balances_240 (by decide) q)) ?_
              refine P_less [some (.ref 3), none, none, none, none, none, none, none, none, none, none, none] (And.intro rfl trivial) ?_
              refine P_room (kc2 := 24) (ks2 := 144) (by omega) (by omega) ?_
              exact P_back (((1 : Int32), σ34))
            · skip
              refine P_l (fun hJ _ _ q => E_iconst (v := 0) dL_balances_243 (by decide) q) ?_
              refine P_less [some (.ref 3), none, none, none, none, none, none, none, none, none, none, none] (And.intro rfl trivial) ?_
              refine P_room (kc2 := 24) (ks2 := 144) (by omega) (by omega) ?_
              exact P_back (((0 : Int32), σ34))
          · skip
            refine P_l (fun hJ _ _ q => E_iconst (v := 0) dL_balances_243 (by decide) q) ?_
            refine P_less [some (.ref 3), none, none, none, none, none, none, none, none, none, none, none] (And.intro rfl trivial) ?_
            refine P_room (kc2 := 24) (ks2 := 144) (by omega) (by omega) ?_
            exact P_back (((0 : Int32), σ32))
      · skip
        refine P_l (fun hJ _ _ q => E_iand dL_balances_244 (E_istore (ls2 := [some (.ref 3), none, none, none, none, none, none, none, none, none, none, some (.int (j19.1 &&& j30.1))]) dL_balances_245 (by decide) rfl (E_iload dL_balances_247 rfl q))) ?_
        refine P_if (fun hJ _ _ h1 h2 => E_if_eq 339 dL_balances_249 (by decide) h1 h2) ?_ ?_
        · skip
          refine P_l (fun hJ _ _ q => E_iconst (v := 0) dL_balances_339 (by decide) q) ?_
          exact P_ret (fun _ _ => E_zret01 rfl (by decide) dL_balances_340)
        · skip
          refine P_l (fun hJ _ _ q => E_aload_n dL_balances_252 rfl (E_bipush (v := 14) dL_balances_253 (by decide) (E_iconst (v := 0) dL_balances_255 (by decide) (E_iconst (v := 0) dL_balances_256 (by decide) q)))) ?_
          refine P_call (t := fun v => some (.long v)) (st2 := fun v => .long v :: []) (kc2 := 20) (ks2 := 120) (fun hJ => (ok_L_ask (σ := j30.2) (p1 := 14) (p2 := 0) (p3 := 0))) (fun hJ _ _ _ _ v τ1 hM q => E_callS (as := [.ref 3, .int 14, .int 0, .int 0]) (st := []) hM (by decide) yfL_ask mlL_139 stL_ask rfl (Nat.le_of_ble_eq_true rfl) rfl dL_balances_257 q) (by omega) (by omega) (fun v35 σ36 => ?_)
          refine P_l (fun hJ _ _ q => E_lconst (v := 1) dL_balances_260 (by decide) (E_lcmp dL_balances_261 q)) ?_
          refine P_l (pc2 := 270) (ls2 := [some (.ref 3), none, none, none, none, none, none, none, none, none, none, none]) (st2 := [.int ((if (lg_cmp v35 (1 : Int64)) = 0 then 1 else 0 : Int32))]) (fun hJ _ _ hq => ?_) ?_
          · skip
            refine E_if_ne 269 dL_balances_262 (by decide) (fun c_262_0 => ?_) (fun c_262_0 => ?_)
            · skip
              refine E_iconst (v := 0) dL_balances_269 (by decide) ?_
              simp only [if_neg c_262_0] at hq
              exact E_less (ls2 := [some (.ref 3), none, none, none, none, none, none, none, none, none, none, none]) hq (rLe_at [some (.ref 3), none, none, none, none, none, none, none, none, none, none, none] [some (.ref 3), none, none, none, none, none, none, none, none, none, none, some (.int (j19.1 &&& j30.1))] (And.intro rfl trivial))
            · skip
              refine E_iconst (v := 1) dL_balances_265 (by decide) ?_
              refine E_goto 270 dL_balances_266 (by decide) ?_
              simp only [if_pos c_262_0] at hq
              exact E_less (ls2 := [some (.ref 3), none, none, none, none, none, none, none, none, none, none, none]) hq (rLe_at [some (.ref 3), none, none, none, none, none, none, none, none, none, none, none] [some (.ref 3), none, none, none, none, none, none, none, none, none, none, some (.int (j19.1 &&& j30.1))] (And.intro rfl trivial))
          · skip
            refine P_l (fun hJ _ _ q => E_aload_n dL_balances_270 rfl (E_bipush (v := 15) dL_balances_271 (by decide) (E_iconst (v := 1) dL_balances_273 (by decide) (E_iconst (v := 0) dL_balances_274 (by decide) q)))) ?_
            refine P_call (t := fun v => some (.long v)) (st2 := fun v => .long v :: [.int ((if (lg_cmp v35 (1 : Int64)) = 0 then 1 else 0 : Int32))]) (kc2 := 16) (ks2 := 96) (fun hJ => (ok_L_ask (σ := σ36) (p1 := 15) (p2 := 1) (p3 := 0))) (fun hJ _ _ _ _ v τ1 hM q => E_callS (as := [.ref 3, .int 15, .int 1, .int 0]) (st := [.int ((if (lg_cmp v35 (1 : Int64)) = 0 then 1 else 0 : Int32))]) hM (by decide) yfL_ask mlL_139 stL_ask rfl (Nat.le_of_ble_eq_true rfl) rfl dL_balances_275 q) (by omega) (by omega) (fun v37 σ38 => ?_)
            refine P_l (fun hJ _ _ q => E_lconst (v := 0) dL_balances_278 (by decide) (E_lcmp dL_balances_279 q)) ?_
            refine P_l (pc2 := 288) (ls2 := [some (.ref 3), none, none, none, none, none, none, none, none, none, none, none]) (st2 := [.int ((if (lg_cmp v37 (0 : Int64)) < 0 then 0 else 1 : Int32)), .int ((if (lg_cmp v35 (1 : Int64)) = 0 then 1 else 0 : Int32))]) (fun hJ _ _ hq => ?_) ?_
            · skip
              refine E_if_lt 287 dL_balances_280 (by decide) (fun c_280_0 => ?_) (fun c_280_0 => ?_)
              · skip
                refine E_iconst (v := 0) dL_balances_287 (by decide) ?_
                simp only [if_pos c_280_0] at hq
                exact hq
              · skip
                refine E_iconst (v := 1) dL_balances_283 (by decide) ?_
                refine E_goto 288 dL_balances_284 (by decide) ?_
                simp only [if_neg c_280_0] at hq
                exact hq
            · skip
              refine P_if (fun hJ _ _ h1 h2 => E_icmp_ne 339 dL_balances_288 (by decide) h2 h1) ?_ ?_
              · skip
                refine P_l (fun hJ _ _ q => E_aload_n dL_balances_291 rfl (E_bipush (v := 15) dL_balances_292 (by decide) (E_iconst (v := 1) dL_balances_294 (by decide) (E_iconst (v := 0) dL_balances_295 (by decide) q)))) ?_
                refine P_call (t := fun v => some (.long v)) (st2 := fun v => .long v :: []) (kc2 := 12) (ks2 := 72) (fun hJ => (ok_L_ask (σ := σ38) (p1 := 15) (p2 := 1) (p3 := 0))) (fun hJ _ _ _ _ v τ1 hM q => E_callS (as := [.ref 3, .int 15, .int 1, .int 0]) (st := []) hM (by decide) yfL_ask mlL_139 stL_ask rfl (Nat.le_of_ble_eq_true rfl) rfl dL_balances_296 q) (by omega) (by omega) (fun v39 σ40 => ?_)
                refine P_l (fun hJ _ _ q => E_aload_n dL_balances_299 rfl (E_bipush (v := 15) dL_balances_300 (by decide) (E_iconst (v := 2) dL_balances_302 (by decide) (E_iconst (v := 0) dL_balances_303 (by decide) q)))) ?_
                refine P_call (t := fun v => some (.long v)) (st2 := fun v => .long v :: [.long v39]) (kc2 := 8) (ks2 := 48) (fun hJ => (ok_L_ask (σ := σ40) (p1 := 15) (p2 := 2) (p3 := 0))) (fun hJ _ _ _ _ v τ1 hM q => E_callS (as := [.ref 3, .int 15, .int 2, .int 0]) (st := [.long v39]) hM (by decide) yfL_ask mlL_139 stL_ask rfl (Nat.le_of_ble_eq_true rfl) rfl dL_balances_304 q) (by omega) (by omega) (fun v41 σ42 => ?_)
                refine P_l (fun hJ _ _ q => E_lcmp dL_balances_307 q) ?_
                refine P_if (fun hJ _ _ h1 h2 => E_if_gt 339 dL_balances_308 (by decide) h1 h2) ?_ ?_
                · skip
                  refine P_l (fun hJ _ _ q => E_iconst (v := 0) dL_balances_339 (by decide) q) ?_
                  exact P_ret (fun _ _ => E_zret01 rfl (by decide) dL_balances_340)
                · skip
                  refine P_l (fun hJ _ _ q => E_ldc2 dL_balances_311 kcL_145 (E_aload_n dL_balances_314 rfl (E_bipush (v := 15) dL_balances_315 (by decide) (E_iconst (v := 2) dL_balances_317 (by decide) (E_iconst (v := 0) dL_balances_318 (by decide) q))))) ?_
                  refine P_call (t := fun v => some (.long v)) (st2 := fun v => .long v :: [.long (3 : Int64)]) (kc2 := 4) (ks2 := 24) (fun hJ => (ok_L_ask (σ := σ42) (p1 := 15) (p2 := 2) (p3 := 0))) (fun hJ _ _ _ _ v τ1 hM q => E_callS (as := [.ref 3, .int 15, .int 2, .int 0]) (st := [.long (3 : Int64)]) hM (by decide) yfL_ask mlL_139 stL_ask rfl (Nat.le_of_ble_eq_true rfl) rfl dL_balances_319 q) (by omega) (by omega) (fun v43 σ44 => ?_)
                  refine P_l (fun hJ _ _ q => E_lmul dL_balances_322 (E_aload_n dL_balances_323 rfl (E_bipush (v := 32) dL_balances_324 (by decide) (E_iconst (v := 2) dL_balances_326 (by decide) (E_iconst (v := 0) dL_balances_327 (by decide) q))))) ?_
                  refine P_call (t := fun v => some (.long v)) (st2 := fun v => .long v :: [.long ((3 : Int64) * v43)]) (kc2 := 0) (ks2 := 0) (fun hJ => (ok_L_ask (σ := σ44) (p1 := 32) (p2 := 2) (p3 := 0))) (fun hJ _ _ _ _ v τ1 hM q => E_callS (as := [.ref 3, .int 32, .int 2, .int 0]) (st := [.long ((3 : Int64) * v43)]) hM (by decide) yfL_ask mlL_139 stL_ask rfl (Nat.le_of_ble_eq_true rfl) rfl dL_balances_328 q) (by omega) (by omega) (fun v45 σ46 => ?_)
                  refine P_l (fun hJ _ _ q => E_lcmp dL_balances_331 q) ?_
                  refine P_l (pc2 := 340) (ls2 := [none, none, none, none, none, none, none, none, none, none, none, none]) (st2 := [.int ((if 0 < (lg_cmp ((3 : Int64) * v43) v45) then 0 else 1 : Int32))]) (fun hJ _ _ hq => ?_) ?_
                  · skip
                    refine E_if_gt 339 dL_balances_332 (by decide) (fun c_332_0 => ?_) (fun c_332_0 => ?_)
                    · skip
                      refine E_iconst (v := 0) dL_balances_339 (by decide) ?_
                      simp only [if_pos c_332_0] at hq
                      exact E_less (ls2 := [none, none, none, none, none, none, none, none, none, none, none, none]) hq (rLe_at [none, none, none, none, none, none, none, none, none, none, none, none] [some (.ref 3), none, none, none, none, none, none, none, none, none, none, none] trivial)
                    · skip
                      refine E_iconst (v := 1) dL_balances_335 (by decide) ?_
                      refine E_goto 340 dL_balances_336 (by decide) ?_
                      simp only [if_neg c_332_0] at hq
                      exact E_less (ls2 := [none, none, none, none, none, none, none, none, none, none, none, none]) hq (rLe_at [none, none, none, none, none, none, none, none, none, none, none, none] [some (.ref 3), none, none, none, none, none, none, none, none, none, none, none] trivial)
                  · skip
                    exact P_ret (fun _ _ => E_zret01 rfl (by split <;> decide) dL_balances_340)
              · skip
                refine P_l (fun hJ _ _ q => E_iconst (v := 0) dL_balances_339 (by decide) q) ?_
                exact P_ret (fun _ _ => E_zret01 rfl (by decide) dL_balances_340)
def b_L_plans_63 (p1 : Int32) (v1 : Int64) (s8 : Int64 × Int32 × Int64 × Int64 × Int32 × rS) : Option (((Int32 × rS) ⊕ (Int64 × Int32 × rS)) ⊕ (Int64 × Int32 × Int64 × Int64 × Int32 × rS)) := if (((v1 : Int64)).toInt32) ≤ s8.2.2.2.2.1 then (some (.inl (.inr ((s8.1, s8.2.1, s8.2.2.2.2.2))))) else (oB (f_L_ask s8.2.2.2.2.2 19 p1 s8.2.2.2.2.1) fun v9 σ10 => oLet ((if (lg_cmp v9 s8.2.2.1) = 0 then (s8.2.2.2.1 + (1 : Int64)) else (1 : Int64) : Int64) : Int64) fun x11 => oJoin (if (lg_cmp v9 s8.2.2.1) < 0 then (some (.inr (((0 : Int32), σ10)))) else (oB (f_L_ask σ10 25 p1 (((v9 : Int64)).toInt32)) fun v13 σ14 => if 0 < (lg_cmp x11 v13) then (some (.inr (((0 : Int32), σ14)))) else (oB (f_L_ask σ14 26 (((v9 : Int64)).toInt32) 0) fun v15 σ16 => oB (f_L_ask σ16 26 (((v9 : Int64)).toInt32) 1) fun v17 σ18 => if 0 < (lg_cmp ((x11 + v15) + v17) (2 : Int64)) then (some (.inr (((0 : Int32), σ18)))) else (some (.inr (((1 : Int32), σ18))))))) fun j12 => if ¬ (13 : Int64) = 0 then (oLet (s8.1 - ((lRem v9 (13 : Int64)) + (1 : Int64)) : Int64) fun x20 => some (.inr ((x20, s8.2.1 &&& j12.1, v9, x11, s8.2.2.2.2.1 + 1, j12.2)))) else none)
def f_L_plans (σ : rS) (p1 : Int32) : Option (Int32 × rS) := oB (f_L_ask σ 18 p1 0) fun v1 σ2 => oB (f_L_ask σ2 18 p1 1) fun v3 σ4 => oLet ((if ((if 0 ≤ (lg_cmp v1 (0 : Int64)) then 0 else 1 : Int32)) = ((if 0 ≤ (lg_cmp v3 (0 : Int64)) then 0 else 1 : Int32)) then 1 else 0 : Int32) : Int32) fun x5 => oJoin (oLoop (b_L_plans_63 p1 v1) 60 ((v3, x5, ((-1) : Int64), (0 : Int64), 0, σ4))) fun j7 => if j7.2.1 = 0 then (some ((0, j7.2.2))) else (if (if (lg_cmp v1 (0 : Int64)) < 0 then true else (if (lg_cmp j7.1 (0 : Int64)) = 0 then true else false)) = true then (oB (f_L_ask j7.2.2 19 p1 ((if 0 ≤ (lg_cmp v1 (0 : Int64)) then (((v1 : Int64)).toInt32) else 0 : Int32))) fun v21 σ22 => some (((if (lg_cmp v21 (((-1) : Int64))) = 0 then 1 else 0 : Int32), σ22))) else (some ((0, j7.2.2))))
set_option maxRecDepth 20000 in
set_option maxHeartbeats 8000000 in
theorem ok_L_plans {σ : rS} {p1 : Int32} : rFn Sy yL_plans mL_plans 26 [.ref 3, .int p1] σ 972 5832 (fun v => .inl (some (.int v))) (f_L_plans σ p1) := by
  refine rF_of (ls := [some (.ref 3), some (.int p1), none, none, none, none, none, none, none, none, none, none, none, none]) yfL_plans rfl (Nat.le_of_ble_eq_true rfl) (fun o τ => ?_)
  unfold f_L_plans
  refine P_l (fun hJ _ _ q => E_aload_n dL_plans_0 rfl (E_bipush (v := 18) dL_plans_1 (by decide) (E_iload_n dL_plans_3 rfl (E_iconst (v := 0) dL_plans_4 (by decide) q)))) ?_
  refine P_call (t := fun v => some (.long v)) (st2 := fun v => .long v :: []) (kc2 := 968) (ks2 := 5808) (fun hJ => (ok_L_ask (σ := σ) (p1 := 18) (p2 := p1) (p3 := 0))) (fun hJ _ _ _ _ v τ1 hM q => E_callS (as := [.ref 3, .int 18, .int p1, .int 0]) (st := []) hM (by decide) yfL_ask mlL_139 stL_ask rfl (Nat.le_of_ble_eq_true rfl) rfl dL_plans_5 q) (by omega) (by omega) (fun v1 σ2 => ?_)
  refine P_l (fun hJ _ _ q => E_lstore_n (ls2 := [some (.ref 3), some (.int p1), some (.long v1), none, none, none, none, none, none, none, none, none, none, none]) dL_plans_8 (by decide) rfl (E_aload_n dL_plans_9 rfl (E_bipush (v := 18) dL_plans_10 (by decide) (E_iload_n dL_plans_12 rfl (E_iconst (v := 1) dL_plans_13 (by decide) q))))) ?_
  refine P_call (t := fun v => some (.long v)) (st2 := fun v => .long v :: []) (kc2 := 964) (ks2 := 5784) (fun hJ => (ok_L_ask (σ := σ2) (p1 := 18) (p2 := p1) (p3 := 1))) (fun hJ _ _ _ _ v τ1 hM q => E_callS (as := [.ref 3, .int 18, .int p1, .int 1]) (st := []) hM (by decide) yfL_ask mlL_139 stL_ask rfl (Nat.le_of_ble_eq_true rfl) rfl dL_plans_14 q) (by omega) (by omega) (fun v3 σ4 => ?_)
  refine P_l (fun hJ _ _ q => E_lstore (ls2 := [some (.ref 3), some (.int p1), some (.long v1), none, some (.long v3), none, none, none, none, none, none, none, none, none]) dL_plans_17 (by decide) rfl (E_lload_n dL_plans_19 rfl (E_lconst (v := 0) dL_plans_20 (by decide) (E_lcmp dL_plans_21 q)))) ?_
  refine P_l (pc2 := 30) (ls2 := [some (.ref 3), some (.int p1), some (.long v1), none, some (.long v3), none, none, none, none, none, none, none, none, none]) (st2 := [.int ((if 0 ≤ (lg_cmp v1 (0 : Int64)) then 0 else 1 : Int32))]) (fun hJ _ _ hq => ?_) ?_
  · skip
    refine E_if_ge 29 dL_plans_22 (by decide) (fun c_22_0 => ?_) (fun c_22_0 => ?_)
    · skip
      refine E_iconst (v := 0) dL_plans_29 (by decide) ?_
      simp only [if_pos c_22_0] at hq
      exact hq
    · skip
      refine E_iconst (v := 1) dL_plans_25 (by decide) ?_
      refine E_goto 30 dL_plans_26 (by decide) ?_
      simp only [if_neg c_22_0] at hq
      exact hq
  · skip
    refine P_l (fun hJ _ _ q => E_lload dL_plans_30 rfl (E_lconst (v := 0) dL_plans_32 (by decide) (E_lcmp dL_plans_33 q))) ?_
    refine P_l (pc2 := 42) (ls2 := [some (.ref 3), some (.int p1), some (.long v1), none, some (.long v3), none, none, none, none, none, none, none, none, none]) (st2 := [.int ((if 0 ≤ (lg_cmp v3 (0 : Int64)) then 0 else 1 : Int32)), .int ((if 0 ≤ (lg_cmp v1 (0 : Int64)) then 0 else 1 : Int32))]) (fun hJ _ _ hq => ?_) ?_
    · skip
      refine E_if_ge 41 dL_plans_34 (by decide) (fun c_34_0 => ?_) (fun c_34_0 => ?_)
      · skip
        refine E_iconst (v := 0) dL_plans_41 (by decide) ?_
        simp only [if_pos c_34_0] at hq
        exact hq
      · skip
        refine E_iconst (v := 1) dL_plans_37 (by decide) ?_
        refine E_goto 42 dL_plans_38 (by decide) ?_
        simp only [if_neg c_34_0] at hq
        exact hq
    · skip
      refine P_l (pc2 := 50) (ls2 := [some (.ref 3), some (.int p1), some (.long v1), none, some (.long v3), none, none, none, none, none, none, none, none, none]) (st2 := [.int ((if ((if 0 ≤ (lg_cmp v1 (0 : Int64)) then 0 else 1 : Int32)) = ((if 0 ≤ (lg_cmp v3 (0 : Int64)) then 0 else 1 : Int32)) then 1 else 0 : Int32))]) (fun hJ _ _ hq => ?_) ?_
      · skip
        refine E_icmp_ne 49 dL_plans_42 (by decide) (fun c_42_0 => ?_) (fun c_42_0 => ?_)
        · skip
          refine E_iconst (v := 0) dL_plans_49 (by decide) ?_
          simp only [if_neg c_42_0] at hq
          exact hq
        · skip
          refine E_iconst (v := 1) dL_plans_45 (by decide) ?_
          refine E_goto 50 dL_plans_46 (by decide) ?_
          simp only [if_pos c_42_0] at hq
          exact hq
      · skip
        refine P_l (fun hJ _ _ q => E_istore (ls2 := [some (.ref 3), some (.int p1), some (.long v1), none, some (.long v3), none, some (.int ((if ((if 0 ≤ (lg_cmp v1 (0 : Int64)) then 0 else 1 : Int32)) = ((if 0 ≤ (lg_cmp v3 (0 : Int64)) then 0 else 1 : Int32)) then 1 else 0 : Int32))), none, none, none, none, none, none, none]) dL_plans_50 (by decide) rfl q) ?_
        refine P_v ((if ((if 0 ≤ (lg_cmp v1 (0 : Int64)) then 0 else 1 : Int32)) = ((if 0 ≤ (lg_cmp v3 (0 : Int64)) then 0 else 1 : Int32)) then 1 else 0 : Int32)) (fun x => [some (.ref 3), some (.int p1), some (.long v1), none, some (.long v3), none, some (.int x), none, none, none, none, none, none, none]) (fun x5 => ?_)
        refine P_l (fun hJ _ _ q => E_ldc2 dL_plans_52 kcL_147 (E_lstore (ls2 := [some (.ref 3), some (.int p1), some (.long v1), none, some (.long v3), none, some (.int x5), some (.long (((-1) : Int64))), none, none, none, none, none, none]) dL_plans_55 (by decide) rfl (E_lconst (v := 0) dL_plans_57 (by decide) (E_lstore (ls2 := [some (.ref 3), some (.int p1), some (.long v1), none, some (.long v3), none, some (.int x5), some (.long (((-1) : Int64))), none, some (.long (0 : Int64)), none, none, none, none]) dL_plans_58 (by decide) rfl (E_iconst (v := 0) dL_plans_60 (by decide) (E_istore (ls2 := [some (.ref 3), some (.int p1), some (.long v1), none, some (.long v3), none, some (.int x5), some (.long (((-1) : Int64))), none, some (.long (0 : Int64)), none, some (.int 0), none, none]) dL_plans_61 (by decide) rfl q)))))) ?_
        refine P_joinF (kr := 4) (sr := 24) (pc2 := 187) (fun j7 => [some (.ref 3), some (.int p1), some (.long v1), none, some (.long j7.1), none, some (.int j7.2.1), none, none, none, none, none, none, none]) (fun j7 => []) (fun j7 => j7.2.2) ?_ (fun j7 => ?_)
        · skip
          refine P_loopG (r := 4) (q := 24) (c := 16) (d := 96) (n := 60) (s := ((v3, x5, ((-1) : Int64), (0 : Int64), 0, σ4))) (ls := fun (s8 : Int64 × Int32 × Int64 × Int64 × Int32 × rS) => [some (.ref 3), some (.int p1), some (.long v1), none, some (.long s8.1), none, some (.int s8.2.1), some (.long s8.2.2.1), none, some (.long s8.2.2.2.1), none, some (.int s8.2.2.2.2.1), none, none]) (w := fun (s8 : Int64 × Int32 × Int64 × Int64 × Int32 × rS) => s8.2.2.2.2.2) (by omega) (by omega) (fun kN ksN s8 => ?_)
          unfold b_L_plans_63
          refine P_l (fun hJ _ _ q => E_iload dL_plans_63 rfl (E_lload_n dL_plans_65 rfl (E_l2i dL_plans_66 q))) ?_
          refine P_if (fun hJ _ _ h1 h2 => E_icmp_ge 187 dL_plans_67 (by decide) h1 h2) ?_ ?_
          · skip
            refine P_less [some (.ref 3), some (.int p1), some (.long v1), none, some (.long s8.1), none, some (.int s8.2.1), none, none, none, none, none, none, none] (And.intro rfl (And.intro rfl (And.intro rfl (And.intro rfl (And.intro rfl trivial))))) ?_
            refine P_room (kc2 := 4) (ks2 := 24) (by omega) (by omega) ?_
            exact P_inl (P_back ((s8.1, s8.2.1, s8.2.2.2.2.2)))
          · skip
            refine P_l (fun hJ _ _ q => E_aload_n dL_plans_70 rfl (E_bipush (v := 19) dL_plans_71 (by decide) (E_iload_n dL_plans_73 rfl (E_iload dL_plans_74 rfl q)))) ?_
            refine P_call (t := fun v => some (.long v)) (st2 := fun v => .long v :: []) (kc2 := kN + 16) (ks2 := ksN + 96) (fun hJ => (ok_L_ask (σ := s8.2.2.2.2.2) (p1 := 19) (p2 := p1) (p3 := s8.2.2.2.2.1))) (fun hJ _ _ _ _ v τ1 hM q => E_callS (as := [.ref 3, .int 19, .int p1, .int s8.2.2.2.2.1]) (st := []) hM (by decide) yfL_ask mlL_139 stL_ask rfl (Nat.le_of_ble_eq_true rfl) rfl dL_plans_76 q) (by omega) (by omega) (fun v9 σ10 => ?_)
            refine P_l (fun hJ _ _ q => E_lstore (ls2 := [some (.ref 3), some (.int p1), some (.long v1), none, some (.long s8.1), none, some (.int s8.2.1), some (.long s8.2.2.1), none, some (.long s8.2.2.2.1), none, some (.int s8.2.2.2.2.1), some (.long v9), none]) dL_plans_79 (by decide) rfl (E_lload dL_plans_81 rfl (E_lload dL_plans_83 rfl (E_lcmp dL_plans_85 q)))) ?_
            refine P_l (pc2 := 97) (ls2 := [some (.ref 3), some (.int p1), some (.long v1), none, some (.long s8.1), none, some (.int s8.2.1), some (.long s8.2.2.1), none, none, none, some (.int s8.2.2.2.2.1), some (.long v9), none]) (st2 := [.long ((if (lg_cmp v9 s8.2.2.1) = 0 then (s8.2.2.2.1 + (1 : Int64)) else (1 : Int64) : Int64))]) (fun hJ _ _ hq => ?_) ?_
            · skip
              refine E_if_ne 96 dL_plans_86 (by decide) (fun c_86_0 => ?_) (fun c_86_0 => ?_)
              · skip
                refine E_lconst (v := 1) dL_plans_96 (by decide) ?_
                simp only [if_neg c_86_0] at hq
                exact E_less (ls2 := [some (.ref 3), some (.int p1), some (.long v1), none, some (.long s8.1), none, some (.int s8.2.1), some (.long s8.2.2.1), none, none, none, some (.int s8.2.2.2.2.1), some (.long v9), none]) hq (rLe_at [some (.ref 3), some (.int p1), some (.long v1), none, some (.long s8.1), none, some (.int s8.2.1), some (.long s8.2.2.1), none, none, none, some (.int s8.2.2.2.2.1), some (.long v9), none] [some (.ref 3), some (.int p1), some (.long v1), none, some (.long s8.1), none, some (.int s8.2.1), some (.long s8.2.2.1), none, some (.long s8.2.2.2.1), none, some (.int s8.2.2.2.2.1), some (.long v9), none] (And.intro rfl (And.intro rfl (And.intro rfl (And.intro rfl (And.intro rfl (And.intro rfl (And.intro rfl (And.intro rfl trivial)))))))))
              · skip
                refine E_lload dL_plans_89 rfl ?_
                refine E_lconst (v := 1) dL_plans_91 (by decide) ?_
                refine E_ladd dL_plans_92 ?_
                refine E_goto 97 dL_plans_93 (by decide) ?_
                simp only [if_pos c_86_0] at hq
                exact E_less (ls2 := [some (.ref 3), some (.int p1), some (.long v1), none, some (.long s8.1), none, some (.int s8.2.1), some (.long s8.2.2.1), none, none, none, some (.int s8.2.2.2.2.1), some (.long v9), none]) hq (rLe_at [some (.ref 3), some (.int p1), some (.long v1), none, some (.long s8.1), none, some (.int s8.2.1), some (.long s8.2.2.1), none, none, none, some (.int s8.2.2.2.2.1), some (.long v9), none] [some (.ref 3), some (.int p1), some (.long v1), none, some (.long s8.1), none, some (.int s8.2.1), some (.long s8.2.2.1), none, some (.long s8.2.2.2.1), none, some (.int s8.2.2.2.2.1), some (.long v9), none] (And.intro rfl (And.intro rfl (And.intro rfl (And.intro rfl (And.intro rfl (And.intro rfl (And.intro rfl (And.intro rfl trivial)))))))))
            · skip
              refine P_l (fun hJ _ _ q => E_lstore (ls2 := [some (.ref 3), some (.int p1), some (.long v1), none, some (.long s8.1), none, some (.int s8.2.1), some (.long s8.2.2.1), none, some (.long ((if (lg_cmp v9 s8.2.2.1) = 0 then (s8.2.2.2.1 + (1 : Int64)) else (1 : Int64) : Int64))), none, some (.int s8.2.2.2.2.1), some (.long v9), none]) dL_plans_97 (by decide) rfl q) ?_
              refine P_v ((if (lg_cmp v9 s8.2.2.1) = 0 then (s8.2.2.2.1 + (1 : Int64)) else (1 : Int64) : Int64)) (fun x => [some (.ref 3), some (.int p1), some (.long v1), none, some (.long s8.1), none, some (.int s8.2.1), some (.long s8.2.2.1), none, some (.long x), none, some (.int s8.2.2.2.2.1), some (.long v9), none]) (fun x11 => ?_)
              refine P_l (fun hJ _ _ q => E_iload dL_plans_99 rfl (E_lload dL_plans_101 rfl (E_lload dL_plans_103 rfl (E_lcmp dL_plans_105 q)))) ?_
              refine P_joinF (kr := kN + 4) (sr := ksN + 24) (pc2 := 161) (fun j12 => [some (.ref 3), some (.int p1), some (.long v1), none, some (.long s8.1), none, none, none, none, some (.long x11), none, some (.int s8.2.2.2.2.1), some (.long v9), none]) (fun j12 => [.int j12.1, .int s8.2.1]) (fun j12 => j12.2) ?_ (fun j12 => ?_)
              · skip
                refine P_if (fun hJ _ _ h1 h2 => E_if_lt 160 dL_plans_106 (by decide) h1 h2) ?_ ?_
                · skip
                  refine P_l (fun hJ _ _ q => E_iconst (v := 0) dL_plans_160 (by decide) q) ?_
                  refine P_less [some (.ref 3), some (.int p1), some (.long v1), none, some (.long s8.1), none, none, none, none, some (.long x11), none, some (.int s8.2.2.2.2.1), some (.long v9), none] (And.intro rfl (And.intro rfl (And.intro rfl (And.intro rfl (And.intro rfl (And.intro rfl (And.intro rfl trivial))))))) ?_
                  refine P_room (kc2 := kN + 4) (ks2 := ksN + 24) (by omega) (by omega) ?_
                  exact P_back (((0 : Int32), σ10))
                · skip
                  refine P_l (fun hJ _ _ q => E_lload dL_plans_109 rfl (E_aload_n dL_plans_111 rfl (E_bipush (v := 25) dL_plans_112 (by decide) (E_iload_n dL_plans_114 rfl (E_lload dL_plans_115 rfl (E_l2i dL_plans_117 q)))))) ?_
                  refine P_call (t := fun v => some (.long v)) (st2 := fun v => .long v :: [.long x11, .int s8.2.1]) (kc2 := kN + 12) (ks2 := ksN + 72) (fun hJ => (ok_L_ask (σ := σ10) (p1 := 25) (p2 := p1) (p3 := ((v9 : Int64)).toInt32))) (fun hJ _ _ _ _ v τ1 hM q => E_callS (as := [.ref 3, .int 25, .int p1, .int (((v9 : Int64)).toInt32)]) (st := [.long x11, .int s8.2.1]) hM (by decide) yfL_ask mlL_139 stL_ask rfl (Nat.le_of_ble_eq_true rfl) rfl dL_plans_118 q) (by omega) (by omega) (fun v13 σ14 => ?_)
                  refine P_l (fun hJ _ _ q => E_lcmp dL_plans_121 q) ?_
                  refine P_if (fun hJ _ _ h1 h2 => E_if_gt 160 dL_plans_122 (by decide) h1 h2) ?_ ?_
                  · skip
                    refine P_l (fun hJ _ _ q => E_iconst (v := 0) dL_plans_160 (by decide) q) ?_
                    refine P_less [some (.ref 3), some (.int p1), some (.long v1), none, some (.long s8.1), none, none, none, none, some (.long x11), none, some (.int s8.2.2.2.2.1), some (.long v9), none] (And.intro rfl (And.intro rfl (And.intro rfl (And.intro rfl (And.intro rfl (And.intro rfl (And.intro rfl trivial))))))) ?_
                    refine P_room (kc2 := kN + 4) (ks2 := ksN + 24) (by omega) (by omega) ?_
                    exact P_back (((0 : Int32), σ14))
                  · skip
                    refine P_l (fun hJ _ _ q => E_lload dL_plans_125 rfl (E_aload_n dL_plans_127 rfl (E_bipush (v := 26) dL_plans_128 (by decide) (E_lload dL_plans_130 rfl (E_l2i dL_plans_132 (E_iconst (v := 0) dL_plans_133 (by decide) q)))))) ?_
                    refine P_call (t := fun v => some (.long v)) (st2 := fun v => .long v :: [.long x11, .int s8.2.1]) (kc2 := kN + 8) (ks2 := ksN + 48) (fun hJ => (ok_L_ask (σ := σ14) (p1 := 26) (p2 := ((v9 : Int64)).toInt32) (p3 := 0))) (fun hJ _ _ _ _ v τ1 hM q => E_callS (as := [.ref 3, .int 26, .int (((v9 : Int64)).toInt32), .int 0]) (st := [.long x11, .int s8.2.1]) hM (by decide) yfL_ask mlL_139 stL_ask rfl (Nat.le_of_ble_eq_true rfl) rfl dL_plans_134 q) (by omega) (by omega) (fun v15 σ16 => ?_)
                    refine P_l (fun hJ _ _ q => E_ladd dL_plans_137 (E_aload_n dL_plans_138 rfl (E_bipush (v := 26) dL_plans_139 (by decide) (E_lload dL_plans_141 rfl (E_l2i dL_plans_143 (E_iconst (v := 1) dL_plans_144 (by decide) q)))))) ?_
                    refine P_call (t := fun v => some (.long v)) (st2 := fun v => .long v :: [.long (x11 + v15), .int s8.2.1]) (kc2 := kN + 4) (ks2 := ksN + 24) (fun hJ => (ok_L_ask (σ := σ16) (p1 := 26) (p2 := ((v9 : Int64)).toInt32) (p3 := 1))) (fun hJ _ _ _ _ v τ1 hM q => E_callS (as := [.ref 3, .int 26, .int (((v9 : Int64)).toInt32), .int 1]) (st := [.long (x11 + v15), .int s8.2.1]) hM (by decide) yfL_ask mlL_139 stL_ask rfl (Nat.le_of_ble_eq_true rfl) rfl dL_plans_145 q) (by omega) (by omega) (fun v17 σ18 => ?_)
                    refine P_l (fun hJ _ _ q => E_ladd dL_plans_148 (E_ldc2 dL_plans_149 kcL_149 (E_lcmp dL_plans_152 q))) ?_
                    refine P_if (fun hJ _ _ h1 h2 => E_if_gt 160 dL_plans_153 (by decide) h1 h2) ?_ ?_
                    · skip
                      refine P_l (fun hJ _ _ q => E_iconst (v := 0) dL_plans_160 (by decide) q) ?_
                      refine P_less [some (.ref 3), some (.int p1), some (.long v1), none, some (.long s8.1), none, none, none, none, some (.long x11), none, some (.int s8.2.2.2.2.1), some (.long v9), none] (And.intro rfl (And.intro rfl (And.intro rfl (And.intro rfl (And.intro rfl (And.intro rfl (And.intro rfl trivial))))))) ?_
                      refine P_room (kc2 := kN + 4) (ks2 := ksN + 24) (by omega) (by omega) ?_
                      exact P_back (((0 : Int32), σ18))
                    · skip
                      refine P_l (fun hJ _ _ q => E_iconst (v := 1) dL_plans_156 (by decide) (E_goto 161 dL_plans_157 (by decide) q)) ?_
                      refine P_less [some (.ref 3), some (.int p1), some (.long v1), none, some (.long s8.1), none, none, none, none, some (.long x11), none, some (.int s8.2.2.2.2.1), some (.long v9), none] (And.intro rfl (And.intro rfl (And.intro rfl (And.intro rfl (And.intro rfl (And.intro rfl (And.intro rfl trivial))))))) ?_
                      refine P_room (kc2 := kN + 4) (ks2 := ksN + 24) (by omega) (by omega) ?_
                      exact P_back (((1 : Int32), σ18))
              · skip
                refine P_l (fun hJ _ _ q => E_iand dL_plans_161 (E_istore (ls2 := [some (.ref 3), some (.int p1), some (.long v1), none, some (.long s8.1), none, some (.int (s8.2.1 &&& j12.1)), none, none, some (.long x11), none, some (.int s8.2.2.2.2.1), some (.long v9), none]) dL_plans_162 (by decide) rfl (E_lload dL_plans_164 rfl (E_lload dL_plans_166 rfl (E_ldc2 dL_plans_168 kcL_151 q))))) ?_
                refine P_g (fun g19 => ?_)
                refine P_l (fun hJ _ _ q => E_lrem dL_plans_171 g19 (E_lconst (v := 1) dL_plans_172 (by decide) (E_ladd dL_plans_173 (E_lsub dL_plans_174 (E_lstore (ls2 := [some (.ref 3), some (.int p1), some (.long v1), none, some (.long (s8.1 - ((lRem v9 (13 : Int64)) + (1 : Int64)))), none, some (.int (s8.2.1 &&& j12.1)), none, none, some (.long x11), none, some (.int s8.2.2.2.2.1), some (.long v9), none]) dL_plans_175 (by decide) rfl q))))) ?_
                refine P_v (s8.1 - ((lRem v9 (13 : Int64)) + (1 : Int64))) (fun x => [some (.ref 3), some (.int p1), some (.long v1), none, some (.long x), none, some (.int (s8.2.1 &&& j12.1)), none, none, some (.long x11), none, some (.int s8.2.2.2.2.1), some (.long v9), none]) (fun x20 => ?_)
                refine P_l (fun hJ _ _ q => E_lload dL_plans_177 rfl (E_lstore (ls2 := [some (.ref 3), some (.int p1), some (.long v1), none, some (.long x20), none, some (.int (s8.2.1 &&& j12.1)), some (.long v9), none, some (.long x11), none, some (.int s8.2.2.2.2.1), some (.long v9), none]) dL_plans_179 (by decide) rfl (E_iinc (v := 1) (ls2 := [some (.ref 3), some (.int p1), some (.long v1), none, some (.long x20), none, some (.int (s8.2.1 &&& j12.1)), some (.long v9), none, some (.long x11), none, some (.int (s8.2.2.2.2.1 + 1)), some (.long v9), none]) dL_plans_181 rfl (by decide) (by decide) rfl (E_goto 63 dL_plans_184 (by decide) q)))) ?_
                refine P_less [some (.ref 3), some (.int p1), some (.long v1), none, some (.long x20), none, some (.int (s8.2.1 &&& j12.1)), some (.long v9), none, some (.long x11), none, some (.int (s8.2.2.2.2.1 + 1)), none, none] (And.intro rfl (And.intro rfl (And.intro rfl (And.intro rfl (And.intro rfl (And.intro rfl (And.intro rfl (And.intro rfl trivial)))))))) ?_
                refine P_room (kc2 := kN + 4) (ks2 := ksN + 24) (by omega) (by omega) ?_
                exact P_back ((x20, s8.2.1 &&& j12.1, v9, x11, s8.2.2.2.2.1 + 1, j12.2))
        · skip
          refine P_l (fun hJ _ _ q => E_iload dL_plans_187 rfl q) ?_
          refine P_if (fun hJ _ _ h1 h2 => E_if_eq 235 dL_plans_189 (by decide) h1 h2) ?_ ?_
          · skip
            refine P_l (fun hJ _ _ q => E_iconst (v := 0) dL_plans_235 (by decide) q) ?_
            exact P_ret (fun _ _ => E_zret01 rfl (by decide) dL_plans_236)
          · skip
            refine P_l (fun hJ _ _ q => E_lload_n dL_plans_192 rfl (E_lconst (v := 0) dL_plans_193 (by decide) (E_lcmp dL_plans_194 q))) ?_
            refine P_if (c := (if (lg_cmp v1 (0 : Int64)) < 0 then true else (if (lg_cmp j7.1 (0 : Int64)) = 0 then true else false)) = true) (pc1 := 205) (ls1 := [some (.ref 3), some (.int p1), some (.long v1), none, some (.long j7.1), none, some (.int j7.2.1), none, none, none, none, none, none, none]) (st1 := []) (pc2 := 235) (ls2 := [some (.ref 3), some (.int p1), some (.long v1), none, some (.long j7.1), none, some (.int j7.2.1), none, none, none, none, none, none, none]) (st2 := []) (fun hJ _ _ hX hY => ?_) ?_ ?_
            · skip
              refine E_if_lt 205 dL_plans_195 (by decide) (fun c_195_0 => ?_) (fun c_195_0 => ?_)
              · skip
                exact hX (by simp only [if_pos c_195_0])
              · skip
                refine E_lload dL_plans_198 rfl ?_
                refine E_lconst (v := 0) dL_plans_200 (by decide) ?_
                refine E_lcmp dL_plans_201 ?_
                refine E_if_ne 235 dL_plans_202 (by decide) (fun c_202_1 => ?_) (fun c_202_1 => ?_)
                · skip
                  exact hY (by simp only [if_neg c_195_0, if_neg c_202_1]; exact Bool.false_ne_true)
                · skip
                  exact hX (by simp only [if_neg c_195_0, if_pos c_202_1])
            · skip
              refine P_l (fun hJ _ _ q => E_aload_n dL_plans_205 rfl (E_bipush (v := 19) dL_plans_206 (by decide) (E_iload_n dL_plans_208 rfl (E_lload_n dL_plans_209 rfl (E_lconst (v := 0) dL_plans_210 (by decide) (E_lcmp dL_plans_211 q)))))) ?_
              refine P_l (pc2 := 221) (ls2 := [none, none, none, none, none, none, none, none, none, none, none, none, none, none]) (st2 := [.int ((if 0 ≤ (lg_cmp v1 (0 : Int64)) then (((v1 : Int64)).toInt32) else 0 : Int32)), .int p1, .int 19, .ref 3]) (fun hJ _ _ hq => ?_) ?_
              · skip
                refine E_if_ge 219 dL_plans_212 (by decide) (fun c_212_0 => ?_) (fun c_212_0 => ?_)
                · skip
                  refine E_lload_n dL_plans_219 rfl ?_
                  refine E_l2i dL_plans_220 ?_
                  simp only [if_pos c_212_0] at hq
                  exact E_less (ls2 := [none, none, none, none, none, none, none, none, none, none, none, none, none, none]) hq (rLe_at [none, none, none, none, none, none, none, none, none, none, none, none, none, none] [some (.ref 3), some (.int p1), some (.long v1), none, some (.long j7.1), none, some (.int j7.2.1), none, none, none, none, none, none, none] trivial)
                · skip
                  refine E_iconst (v := 0) dL_plans_215 (by decide) ?_
                  refine E_goto 221 dL_plans_216 (by decide) ?_
                  simp only [if_neg c_212_0] at hq
                  exact E_less (ls2 := [none, none, none, none, none, none, none, none, none, none, none, none, none, none]) hq (rLe_at [none, none, none, none, none, none, none, none, none, none, none, none, none, none] [some (.ref 3), some (.int p1), some (.long v1), none, some (.long j7.1), none, some (.int j7.2.1), none, none, none, none, none, none, none] trivial)
              · skip
                refine P_call (t := fun v => some (.long v)) (st2 := fun v => .long v :: []) (kc2 := 0) (ks2 := 0) (fun hJ => (ok_L_ask (σ := j7.2.2) (p1 := 19) (p2 := p1) (p3 := (if 0 ≤ (lg_cmp v1 (0 : Int64)) then (((v1 : Int64)).toInt32) else 0 : Int32)))) (fun hJ _ _ _ _ v τ1 hM q => E_callS (as := [.ref 3, .int 19, .int p1, .int ((if 0 ≤ (lg_cmp v1 (0 : Int64)) then (((v1 : Int64)).toInt32) else 0 : Int32))]) (st := []) hM (by decide) yfL_ask mlL_139 stL_ask rfl (Nat.le_of_ble_eq_true rfl) rfl dL_plans_221 q) (by omega) (by omega) (fun v21 σ22 => ?_)
                refine P_l (fun hJ _ _ q => E_ldc2 dL_plans_224 kcL_147 (E_lcmp dL_plans_227 q)) ?_
                refine P_l (pc2 := 236) (ls2 := [none, none, none, none, none, none, none, none, none, none, none, none, none, none]) (st2 := [.int ((if (lg_cmp v21 (((-1) : Int64))) = 0 then 1 else 0 : Int32))]) (fun hJ _ _ hq => ?_) ?_
                · skip
                  refine E_if_ne 235 dL_plans_228 (by decide) (fun c_228_0 => ?_) (fun c_228_0 => ?_)
                  · skip
                    refine E_iconst (v := 0) dL_plans_235 (by decide) ?_
                    simp only [if_neg c_228_0] at hq
                    exact hq
                  · skip
                    refine E_iconst (v := 1) dL_plans_231 (by decide) ?_
                    refine E_goto 236 dL_plans_232 (by decide) ?_
                    simp only [if_pos c_228_0] at hq
                    exact hq
                · skip
                  exact P_ret (fun _ _ => E_zret01 rfl (by split <;> decide) dL_plans_236)
            · skip
              refine P_l (fun hJ _ _ q => E_iconst (v := 0) dL_plans_235 (by decide) q) ?_
              exact P_ret (fun _ _ => E_zret01 rfl (by decide) dL_plans_236)
def b_L_looks_136 (v1 : Int32) (v2 : Int32) (s21 : Int32 × Int32 × rS) : Option (((Int32 × rS) ⊕ (Int32 × rS)) ⊕ (Int32 × Int32 × rS)) := if 3 ≤ s21.2.1 then (some (.inl (.inr ((s21.1, s21.2.2))))) else (oB (f_L_does s21.2.2 21 s21.2.1 (iRem (s21.2.1 + 1) 3) ((13 * v1) + v2) 0 0) fun v22 σ23 => oB (f_L_ask σ23 27 ((13 * v1) + v2) 0) fun v24 σ25 => oB (f_L_ask σ25 25 (iRem (s21.2.1 + 1) 3) ((13 * v1) + v2)) fun v26 σ27 => oB (f_L_ask σ27 25 (iRem (s21.2.1 + 2) 3) ((13 * v1) + v2)) fun v28 σ29 => if (if (lg_cmp v22 (0 : Int64)) < 0 then true else (if 0 < (lg_cmp v22 (1000 : Int64)) then true else false)) = true then (some (.inr ((s21.1 &&& 0, s21.2.1 + 1, σ29)))) else (if (if 0 < (lg_cmp ((v24 + v26) + v28) (0 : Int64)) then true else (if (lg_cmp v22 (0 : Int64)) = 0 then true else false)) = true then (oB (f_L_ask σ29 28 (iRem (s21.2.1 + 1) 3) 5) fun v30 σ31 => oLet (s21.1 &&& ((if 0 < (lg_cmp v30 (0 : Int64)) then 1 else (if (lg_cmp v22 (0 : Int64)) = 0 then 1 else 0) : Int32)) : Int32) fun x32 => some (.inr ((x32, s21.2.1 + 1, σ31)))) else (some (.inr ((s21.1 &&& 0, s21.2.1 + 1, σ29))))))
def f_L_looks (σ : rS) (p1 : Int32) (p2 : Int32) : Option (Int32 × rS) := (f_L_low σ p1 4).bind fun v1 => (f_L_low σ (p1 >>> ((3 : Int32) &&& 31)) p2).bind fun v2 => oB (f_L_ask σ 32 2 0) fun v3 σ4 => oJoin (if (lg_cmp v3 (14 : Int64)) ≤ 0 then (oB (f_L_ask σ4 16 0 0) fun v6 σ7 => oB (f_L_ask σ7 15 0 0) fun v8 σ9 => if (lg_cmp v6 v8) = 0 then (some (.inr (((1 : Int32), σ9)))) else (some (.inr (((0 : Int32), σ9))))) else (oB (f_L_ask σ4 16 0 0) fun v10 σ11 => if (lg_cmp v10 (((-10004) : Int64))) = 0 then (some (.inr (((1 : Int32), σ11)))) else (some (.inr (((0 : Int32), σ11)))))) fun j5 => oB (f_L_ask j5.2 26 ((13 * v1) + v2) 0) fun v12 σ13 => oB (f_L_ask σ13 26 ((13 * v1) + v2) 1) fun v14 σ15 => oJoin (if (lg_cmp (v12 + v14) (2 : Int64)) < 0 then (some (.inr (((1 : Int32), σ15)))) else (oB (f_L_ask σ15 20 ((13 * v1) + v2) 0) fun v17 σ18 => if (lg_cmp v17 (0 : Int64)) = 0 then (some (.inr (((1 : Int32), σ18)))) else (some (.inr (((0 : Int32), σ18)))))) fun j16 => oJoin (oLoop (b_L_looks_136 v1 v2) 4 ((j5.1 &&& j16.1, 0, j16.2))) fun j20 => (f_L_low j20.2 (p1 >>> ((7 : Int32) &&& 31)) p2).bind fun v33 => oB (f_L_ask j20.2 17 (1 + v33) 0) fun v34 σ35 => if (if j20.1 = 0 then true else (if (lg_cmp v34 (0 : Int64)) < 0 then true else false)) = true then (some ((0, σ35))) else (oB (f_L_ask σ35 14 0 0) fun v36 σ37 => if (if (lg_cmp v36 (0 : Int64)) = 0 then true else (if (lg_cmp v34 (0 : Int64)) ≤ 0 then false else true)) = true then (oB (f_L_ask σ37 17 (p2 + 1) 0) fun v38 σ39 => some (((if (lg_cmp v38 (((-10003) : Int64))) = 0 then 1 else 0 : Int32), σ39))) else (some ((0, σ37))))
set_option maxRecDepth 20000 in
set_option maxHeartbeats 8000000 in
theorem ok_L_looks {σ : rS} {p1 : Int32} {p2 : Int32} : rFn Sy yL_looks mL_looks 26 [.ref 3, .int p1, .int p2] σ 120 720 (fun v => .inl (some (.int v))) (f_L_looks σ p1 p2) := by
  refine rF_of (ls := [some (.ref 3), some (.int p1), some (.int p2), none, none, none, none, none, none, none, none, none]) yfL_looks rfl (Nat.le_of_ble_eq_true rfl) (fun o τ => ?_)
  unfold f_L_looks
  refine P_l (fun hJ _ _ q => E_bipush (v := 13) dL_looks_0 (by decide) (E_iload_n dL_looks_2 rfl (E_iconst (v := 4) dL_looks_3 (by decide) q))) ?_
  refine P_callr (t := fun v => some (.int v)) (st2 := fun v => .int v :: [.int 13]) (fun hJ => (ok_L_low (σ := σ) (p1 := p1) (p2 := 4) )) (fun hJ _ _ v hM q => E_callS (as := [.int p1, .int 4]) (st := [.int 13]) hM (by decide) yfL_low mlL_153 stL_low rfl (Nat.le_of_ble_eq_true rfl) rfl dL_looks_4 q) (fun v1 => ?_)
  refine P_l (fun hJ _ _ q => E_imul dL_looks_7 (E_iload_n dL_looks_8 rfl (E_iconst (v := 3) dL_looks_9 (by decide) (E_ishr dL_looks_10 (E_iload_n dL_looks_11 rfl q))))) ?_
  refine P_callr (t := fun v => some (.int v)) (st2 := fun v => .int v :: [.int (13 * v1)]) (fun hJ => (ok_L_low (σ := σ) (p1 := p1 >>> ((3 : Int32) &&& 31)) (p2 := p2) )) (fun hJ _ _ v hM q => E_callS (as := [.int (p1 >>> ((3 : Int32) &&& 31)), .int p2]) (st := [.int (13 * v1)]) hM (by decide) yfL_low mlL_153 stL_low rfl (Nat.le_of_ble_eq_true rfl) rfl dL_looks_12 q) (fun v2 => ?_)
  refine P_l (fun hJ _ _ q => E_iadd dL_looks_15 (E_istore_n (ls2 := [some (.ref 3), some (.int p1), some (.int p2), some (.int ((13 * v1) + v2)), none, none, none, none, none, none, none, none]) dL_looks_16 (by decide) rfl (E_aload_n dL_looks_17 rfl (E_bipush (v := 32) dL_looks_18 (by decide) (E_iconst (v := 2) dL_looks_20 (by decide) (E_iconst (v := 0) dL_looks_21 (by decide) q)))))) ?_
  refine P_call (t := fun v => some (.long v)) (st2 := fun v => .long v :: []) (kc2 := 116) (ks2 := 696) (fun hJ => (ok_L_ask (σ := σ) (p1 := 32) (p2 := 2) (p3 := 0))) (fun hJ _ _ _ _ v τ1 hM q => E_callS (as := [.ref 3, .int 32, .int 2, .int 0]) (st := []) hM (by decide) yfL_ask mlL_139 stL_ask rfl (Nat.le_of_ble_eq_true rfl) rfl dL_looks_22 q) (by omega) (by omega) (fun v3 σ4 => ?_)
  refine P_l (fun hJ _ _ q => E_ldc2 dL_looks_25 kcL_156 (E_lcmp dL_looks_28 q)) ?_
  refine P_joinF (kr := 104) (sr := 624) (pc2 := 80) (fun j5 => [some (.ref 3), some (.int p1), some (.int p2), some (.int ((13 * v1) + v2)), none, none, none, none, none, none, none, none]) (fun j5 => [.int j5.1]) (fun j5 => j5.2) ?_ (fun j5 => ?_)
  · skip
    refine P_if (fun hJ _ _ h1 h2 => E_if_le 55 dL_looks_29 (by decide) h1 h2) ?_ ?_
    · skip
      refine P_l (fun hJ _ _ q => E_aload_n dL_looks_55 rfl (E_bipush (v := 16) dL_looks_56 (by decide) (E_iconst (v := 0) dL_looks_58 (by decide) (E_iconst (v := 0) dL_looks_59 (by decide) q)))) ?_
      refine P_call (t := fun v => some (.long v)) (st2 := fun v => .long v :: []) (kc2 := 112) (ks2 := 672) (fun hJ => (ok_L_ask (σ := σ4) (p1 := 16) (p2 := 0) (p3 := 0))) (fun hJ _ _ _ _ v τ1 hM q => E_callS (as := [.ref 3, .int 16, .int 0, .int 0]) (st := []) hM (by decide) yfL_ask mlL_139 stL_ask rfl (Nat.le_of_ble_eq_true rfl) rfl dL_looks_60 q) (by omega) (by omega) (fun v6 σ7 => ?_)
      refine P_l (fun hJ _ _ q => E_aload_n dL_looks_63 rfl (E_bipush (v := 15) dL_looks_64 (by decide) (E_iconst (v := 0) dL_looks_66 (by decide) (E_iconst (v := 0) dL_looks_67 (by decide) q)))) ?_
      refine P_call (t := fun v => some (.long v)) (st2 := fun v => .long v :: [.long v6]) (kc2 := 108) (ks2 := 648) (fun hJ => (ok_L_ask (σ := σ7) (p1 := 15) (p2 := 0) (p3 := 0))) (fun hJ _ _ _ _ v τ1 hM q => E_callS (as := [.ref 3, .int 15, .int 0, .int 0]) (st := [.long v6]) hM (by decide) yfL_ask mlL_139 stL_ask rfl (Nat.le_of_ble_eq_true rfl) rfl dL_looks_68 q) (by omega) (by omega) (fun v8 σ9 => ?_)
      refine P_l (fun hJ _ _ q => E_lcmp dL_looks_71 q) ?_
      refine P_if (fun hJ _ _ h1 h2 => E_if_ne 79 dL_looks_72 (by decide) h2 h1) ?_ ?_
      · skip
        refine P_l (fun hJ _ _ q => E_iconst (v := 1) dL_looks_75 (by decide) (E_goto 80 dL_looks_76 (by decide) q)) ?_
        refine P_room (kc2 := 104) (ks2 := 624) (by omega) (by omega) ?_
        exact P_back (((1 : Int32), σ9))
      · skip
        refine P_l (fun hJ _ _ q => E_iconst (v := 0) dL_looks_79 (by decide) q) ?_
        refine P_room (kc2 := 104) (ks2 := 624) (by omega) (by omega) ?_
        exact P_back (((0 : Int32), σ9))
    · skip
      refine P_l (fun hJ _ _ q => E_aload_n dL_looks_32 rfl (E_bipush (v := 16) dL_looks_33 (by decide) (E_iconst (v := 0) dL_looks_35 (by decide) (E_iconst (v := 0) dL_looks_36 (by decide) q)))) ?_
      refine P_call (t := fun v => some (.long v)) (st2 := fun v => .long v :: []) (kc2 := 112) (ks2 := 672) (fun hJ => (ok_L_ask (σ := σ4) (p1 := 16) (p2 := 0) (p3 := 0))) (fun hJ _ _ _ _ v τ1 hM q => E_callS (as := [.ref 3, .int 16, .int 0, .int 0]) (st := []) hM (by decide) yfL_ask mlL_139 stL_ask rfl (Nat.le_of_ble_eq_true rfl) rfl dL_looks_37 q) (by omega) (by omega) (fun v10 σ11 => ?_)
      refine P_l (fun hJ _ _ q => E_ldc2 dL_looks_40 kcL_131 (E_lcmp dL_looks_43 q)) ?_
      refine P_if (fun hJ _ _ h1 h2 => E_if_ne 51 dL_looks_44 (by decide) h2 h1) ?_ ?_
      · skip
        refine P_l (fun hJ _ _ q => E_iconst (v := 1) dL_looks_47 (by decide) (E_goto 80 dL_looks_48 (by decide) q)) ?_
        refine P_room (kc2 := 104) (ks2 := 624) (by omega) (by omega) ?_
        exact P_back (((1 : Int32), σ11))
      · skip
        refine P_l (fun hJ _ _ q => E_iconst (v := 0) dL_looks_51 (by decide) (E_goto 80 dL_looks_52 (by decide) q)) ?_
        refine P_room (kc2 := 104) (ks2 := 624) (by omega) (by omega) ?_
        exact P_back (((0 : Int32), σ11))
  · skip
    refine P_l (fun hJ _ _ q => E_istore (ls2 := [some (.ref 3), some (.int p1), some (.int p2), some (.int ((13 * v1) + v2)), some (.int j5.1), none, none, none, none, none, none, none]) dL_looks_80 (by decide) rfl (E_aload_n dL_looks_82 rfl (E_bipush (v := 26) dL_looks_83 (by decide) (E_iload_n dL_looks_85 rfl (E_iconst (v := 0) dL_looks_86 (by decide) q))))) ?_
    refine P_call (t := fun v => some (.long v)) (st2 := fun v => .long v :: []) (kc2 := 100) (ks2 := 600) (fun hJ => (ok_L_ask (σ := j5.2) (p1 := 26) (p2 := (13 * v1) + v2) (p3 := 0))) (fun hJ _ _ _ _ v τ1 hM q => E_callS (as := [.ref 3, .int 26, .int ((13 * v1) + v2), .int 0]) (st := []) hM (by decide) yfL_ask mlL_139 stL_ask rfl (Nat.le_of_ble_eq_true rfl) rfl dL_looks_87 q) (by omega) (by omega) (fun v12 σ13 => ?_)
    refine P_l (fun hJ _ _ q => E_aload_n dL_looks_90 rfl (E_bipush (v := 26) dL_looks_91 (by decide) (E_iload_n dL_looks_93 rfl (E_iconst (v := 1) dL_looks_94 (by decide) q)))) ?_
    refine P_call (t := fun v => some (.long v)) (st2 := fun v => .long v :: [.long v12]) (kc2 := 96) (ks2 := 576) (fun hJ => (ok_L_ask (σ := σ13) (p1 := 26) (p2 := (13 * v1) + v2) (p3 := 1))) (fun hJ _ _ _ _ v τ1 hM q => E_callS (as := [.ref 3, .int 26, .int ((13 * v1) + v2), .int 1]) (st := [.long v12]) hM (by decide) yfL_ask mlL_139 stL_ask rfl (Nat.le_of_ble_eq_true rfl) rfl dL_looks_95 q) (by omega) (by omega) (fun v14 σ15 => ?_)
    refine P_l (fun hJ _ _ q => E_ladd dL_looks_98 (E_lstore (ls2 := [some (.ref 3), some (.int p1), some (.int p2), some (.int ((13 * v1) + v2)), some (.int j5.1), some (.long (v12 + v14)), none, none, none, none, none, none]) dL_looks_99 (by decide) rfl (E_iload dL_looks_101 rfl (E_lload dL_looks_103 rfl (E_ldc2 dL_looks_105 kcL_149 (E_lcmp dL_looks_108 q)))))) ?_
    refine P_joinF (kr := 92) (sr := 552) (pc2 := 130) (fun j16 => [some (.ref 3), some (.int p1), some (.int p2), some (.int ((13 * v1) + v2)), none, none, none, none, none, none, none, none]) (fun j16 => [.int j16.1, .int j5.1]) (fun j16 => j16.2) ?_ (fun j16 => ?_)
    · skip
      refine P_if (fun hJ _ _ h1 h2 => E_if_lt 125 dL_looks_109 (by decide) h1 h2) ?_ ?_
      · skip
        refine P_l (fun hJ _ _ q => E_iconst (v := 1) dL_looks_125 (by decide) (E_goto 130 dL_looks_126 (by decide) q)) ?_
        refine P_less [some (.ref 3), some (.int p1), some (.int p2), some (.int ((13 * v1) + v2)), none, none, none, none, none, none, none, none] (And.intro rfl (And.intro rfl (And.intro rfl (And.intro rfl trivial)))) ?_
        refine P_room (kc2 := 92) (ks2 := 552) (by omega) (by omega) ?_
        exact P_back (((1 : Int32), σ15))
      · skip
        refine P_l (fun hJ _ _ q => E_aload_n dL_looks_112 rfl (E_bipush (v := 20) dL_looks_113 (by decide) (E_iload_n dL_looks_115 rfl (E_iconst (v := 0) dL_looks_116 (by decide) q)))) ?_
        refine P_call (t := fun v => some (.long v)) (st2 := fun v => .long v :: [.int j5.1]) (kc2 := 92) (ks2 := 552) (fun hJ => (ok_L_ask (σ := σ15) (p1 := 20) (p2 := (13 * v1) + v2) (p3 := 0))) (fun hJ _ _ _ _ v τ1 hM q => E_callS (as := [.ref 3, .int 20, .int ((13 * v1) + v2), .int 0]) (st := [.int j5.1]) hM (by decide) yfL_ask mlL_139 stL_ask rfl (Nat.le_of_ble_eq_true rfl) rfl dL_looks_117 q) (by omega) (by omega) (fun v17 σ18 => ?_)
        refine P_l (fun hJ _ _ q => E_lconst (v := 0) dL_looks_120 (by decide) (E_lcmp dL_looks_121 q)) ?_
        refine P_if (fun hJ _ _ h1 h2 => E_if_ne 129 dL_looks_122 (by decide) h2 h1) ?_ ?_
        · skip
          refine P_l (fun hJ _ _ q => E_iconst (v := 1) dL_looks_125 (by decide) (E_goto 130 dL_looks_126 (by decide) q)) ?_
          refine P_less [some (.ref 3), some (.int p1), some (.int p2), some (.int ((13 * v1) + v2)), none, none, none, none, none, none, none, none] (And.intro rfl (And.intro rfl (And.intro rfl (And.intro rfl trivial)))) ?_
          refine P_room (kc2 := 92) (ks2 := 552) (by omega) (by omega) ?_
          exact P_back (((1 : Int32), σ18))
        · skip
          refine P_l (fun hJ _ _ q => E_iconst (v := 0) dL_looks_129 (by decide) q) ?_
          refine P_less [some (.ref 3), some (.int p1), some (.int p2), some (.int ((13 * v1) + v2)), none, none, none, none, none, none, none, none] (And.intro rfl (And.intro rfl (And.intro rfl (And.intro rfl trivial)))) ?_
          refine P_room (kc2 := 92) (ks2 := 552) (by omega) (by omega) ?_
          exact P_back (((0 : Int32), σ18))
    · skip
      refine P_l (fun hJ _ _ q => E_iand dL_looks_130 (E_istore (ls2 := [some (.ref 3), some (.int p1), some (.int p2), some (.int ((13 * v1) + v2)), some (.int (j5.1 &&& j16.1)), none, none, none, none, none, none, none]) dL_looks_131 (by decide) rfl (E_iconst (v := 0) dL_looks_133 (by decide) (E_istore (ls2 := [some (.ref 3), some (.int p1), some (.int p2), some (.int ((13 * v1) + v2)), some (.int (j5.1 &&& j16.1)), none, none, some (.int 0), none, none, none, none]) dL_looks_134 (by decide) rfl q)))) ?_
      refine P_joinF (kr := 12) (sr := 72) (pc2 := 270) (fun j20 => [some (.ref 3), some (.int p1), some (.int p2), none, some (.int j20.1), none, none, none, none, none, none, none]) (fun j20 => []) (fun j20 => j20.2) ?_ (fun j20 => ?_)
      · skip
        refine P_loopG (r := 12) (q := 72) (c := 20) (d := 120) (n := 4) (s := ((j5.1 &&& j16.1, 0, j16.2))) (ls := fun (s21 : Int32 × Int32 × rS) => [some (.ref 3), some (.int p1), some (.int p2), some (.int ((13 * v1) + v2)), some (.int s21.1), none, none, some (.int s21.2.1), none, none, none, none]) (w := fun (s21 : Int32 × Int32 × rS) => s21.2.2) (by omega) (by omega) (fun kN ksN s21 => ?_)
        unfold b_L_looks_136
        refine P_l (fun hJ _ _ q => E_iload dL_looks_136 rfl (E_iconst (v := 3) dL_looks_138 (by decide) q)) ?_
        refine P_if (fun hJ _ _ h1 h2 => E_icmp_ge 270 dL_looks_139 (by decide) h1 h2) ?_ ?_
        · skip
          refine P_less [some (.ref 3), some (.int p1), some (.int p2), none, some (.int s21.1), none, none, none, none, none, none, none] (And.intro rfl (And.intro rfl (And.intro rfl (And.intro rfl trivial)))) ?_
          refine P_room (kc2 := 12) (ks2 := 72) (by omega) (by omega) ?_
          exact P_inl (P_back ((s21.1, s21.2.2)))
        · skip
          refine P_l (fun hJ _ _ q => E_aload_n dL_looks_142 rfl (E_bipush (v := 21) dL_looks_143 (by decide) (E_iload dL_looks_145 rfl (E_iload dL_looks_147 rfl (E_iconst (v := 1) dL_looks_149 (by decide) (E_iadd dL_looks_150 (E_iconst (v := 3) dL_looks_151 (by decide) (E_irem dL_looks_152 (by decide) (E_iload_n dL_looks_153 rfl (E_iconst (v := 0) dL_looks_154 (by decide) (E_iconst (v := 0) dL_looks_155 (by decide) q))))))))))) ?_
          refine P_callH (st2 := fun v => .long v :: []) (kc2 := kN + 28) (ks2 := ksN + 168) (fun hJ => (ok_L_does (σ := s21.2.2) (p1 := 21) (p2 := s21.2.1) (p3 := iRem (s21.2.1 + 1) 3) (p4 := (13 * v1) + v2) (p5 := 0) (p6 := 0))) (fun hJ _ _ _ _ v τ1 hM q => E_callSH (as := [.ref 3, .int 21, .int s21.2.1, .int (iRem (s21.2.1 + 1) 3), .int ((13 * v1) + v2), .int 0, .int 0]) (st := []) hM (by decide) yfL_does mlL_133 stL_does rfl (Nat.le_of_ble_eq_true rfl) rfl dL_looks_156 q) (by omega) (by omega) (fun v22 σ23 => ?_)
          refine P_l (fun hJ _ _ q => E_lstore (ls2 := [some (.ref 3), some (.int p1), some (.int p2), some (.int ((13 * v1) + v2)), some (.int s21.1), none, none, some (.int s21.2.1), some (.long v22), none, none, none]) dL_looks_159 (by decide) rfl (E_aload_n dL_looks_161 rfl (E_bipush (v := 27) dL_looks_162 (by decide) (E_iload_n dL_looks_164 rfl (E_iconst (v := 0) dL_looks_165 (by decide) q))))) ?_
          refine P_call (t := fun v => some (.long v)) (st2 := fun v => .long v :: []) (kc2 := kN + 24) (ks2 := ksN + 144) (fun hJ => (ok_L_ask (σ := σ23) (p1 := 27) (p2 := (13 * v1) + v2) (p3 := 0))) (fun hJ _ _ _ _ v τ1 hM q => E_callS (as := [.ref 3, .int 27, .int ((13 * v1) + v2), .int 0]) (st := []) hM (by decide) yfL_ask mlL_139 stL_ask rfl (Nat.le_of_ble_eq_true rfl) rfl dL_looks_166 q) (by omega) (by omega) (fun v24 σ25 => ?_)
          refine P_l (fun hJ _ _ q => E_aload_n dL_looks_169 rfl (E_bipush (v := 25) dL_looks_170 (by decide) (E_iload dL_looks_172 rfl (E_iconst (v := 1) dL_looks_174 (by decide) (E_iadd dL_looks_175 (E_iconst (v := 3) dL_looks_176 (by decide) (E_irem dL_looks_177 (by decide) (E_iload_n dL_looks_178 rfl q)))))))) ?_
          refine P_call (t := fun v => some (.long v)) (st2 := fun v => .long v :: [.long v24]) (kc2 := kN + 20) (ks2 := ksN + 120) (fun hJ => (ok_L_ask (σ := σ25) (p1 := 25) (p2 := iRem (s21.2.1 + 1) 3) (p3 := (13 * v1) + v2))) (fun hJ _ _ _ _ v τ1 hM q => E_callS (as := [.ref 3, .int 25, .int (iRem (s21.2.1 + 1) 3), .int ((13 * v1) + v2)]) (st := [.long v24]) hM (by decide) yfL_ask mlL_139 stL_ask rfl (Nat.le_of_ble_eq_true rfl) rfl dL_looks_179 q) (by omega) (by omega) (fun v26 σ27 => ?_)
          refine P_l (fun hJ _ _ q => E_ladd dL_looks_182 (E_aload_n dL_looks_183 rfl (E_bipush (v := 25) dL_looks_184 (by decide) (E_iload dL_looks_186 rfl (E_iconst (v := 2) dL_looks_188 (by decide) (E_iadd dL_looks_189 (E_iconst (v := 3) dL_looks_190 (by decide) (E_irem dL_looks_191 (by decide) (E_iload_n dL_looks_192 rfl q))))))))) ?_
          refine P_call (t := fun v => some (.long v)) (st2 := fun v => .long v :: [.long (v24 + v26)]) (kc2 := kN + 16) (ks2 := ksN + 96) (fun hJ => (ok_L_ask (σ := σ27) (p1 := 25) (p2 := iRem (s21.2.1 + 2) 3) (p3 := (13 * v1) + v2))) (fun hJ _ _ _ _ v τ1 hM q => E_callS (as := [.ref 3, .int 25, .int (iRem (s21.2.1 + 2) 3), .int ((13 * v1) + v2)]) (st := [.long (v24 + v26)]) hM (by decide) yfL_ask mlL_139 stL_ask rfl (Nat.le_of_ble_eq_true rfl) rfl dL_looks_193 q) (by omega) (by omega) (fun v28 σ29 => ?_)
          refine P_l (fun hJ _ _ q => E_ladd dL_looks_196 (E_lstore (ls2 := [some (.ref 3), some (.int p1), some (.int p2), some (.int ((13 * v1) + v2)), some (.int s21.1), none, none, some (.int s21.2.1), some (.long v22), none, some (.long ((v24 + v26) + v28)), none]) dL_looks_197 (by decide) rfl (E_iload dL_looks_199 rfl (E_lload dL_looks_201 rfl (E_lconst (v := 0) dL_looks_203 (by decide) (E_lcmp dL_looks_204 q)))))) ?_
          refine P_if (c := (if (lg_cmp v22 (0 : Int64)) < 0 then true else (if 0 < (lg_cmp v22 (1000 : Int64)) then true else false)) = true) (pc1 := 260) (ls1 := [some (.ref 3), some (.int p1), some (.int p2), some (.int ((13 * v1) + v2)), some (.int s21.1), none, none, some (.int s21.2.1), some (.long v22), none, some (.long ((v24 + v26) + v28)), none]) (st1 := [.int s21.1]) (pc2 := 217) (ls2 := [some (.ref 3), some (.int p1), some (.int p2), some (.int ((13 * v1) + v2)), some (.int s21.1), none, none, some (.int s21.2.1), some (.long v22), none, some (.long ((v24 + v26) + v28)), none]) (st2 := [.int s21.1]) (fun hJ _ _ hX hY => ?_) ?_ ?_
          · skip
            refine E_if_lt 260 dL_looks_205 (by decide) (fun c_205_0 => ?_) (fun c_205_0 => ?_)
            · skip
              exact hX (by simp only [if_pos c_205_0])
            · skip
              refine E_lload dL_looks_208 rfl ?_
              refine E_ldc2 dL_looks_210 kcL_158 ?_
              refine E_lcmp dL_looks_213 ?_
              refine E_if_gt 260 dL_looks_214 (by decide) (fun c_214_1 => ?_) (fun c_214_1 => ?_)
              · skip
                exact hX (by simp only [if_neg c_205_0, if_pos c_214_1])
              · skip
                exact hY (by simp only [if_neg c_205_0, if_neg c_214_1]; exact Bool.false_ne_true)
          · skip
            refine P_l (fun hJ _ _ q => E_iconst (v := 0) dL_looks_260 (by decide) (E_iand dL_looks_261 (E_istore (ls2 := [some (.ref 3), some (.int p1), some (.int p2), some (.int ((13 * v1) + v2)), some (.int (s21.1 &&& 0)), none, none, some (.int s21.2.1), some (.long v22), none, some (.long ((v24 + v26) + v28)), none]) dL_looks_262 (by decide) rfl (E_iinc (v := 1) (ls2 := [some (.ref 3), some (.int p1), some (.int p2), some (.int ((13 * v1) + v2)), some (.int (s21.1 &&& 0)), none, none, some (.int (s21.2.1 + 1)), some (.long v22), none, some (.long ((v24 + v26) + v28)), none]) dL_looks_264 rfl (by decide) (by decide) rfl (E_goto 136 dL_looks_267 (by decide) q))))) ?_
            refine P_less [some (.ref 3), some (.int p1), some (.int p2), some (.int ((13 * v1) + v2)), some (.int (s21.1 &&& 0)), none, none, some (.int (s21.2.1 + 1)), none, none, none, none] (And.intro rfl (And.intro rfl (And.intro rfl (And.intro rfl (And.intro rfl (And.intro rfl trivial)))))) ?_
            refine P_room (kc2 := kN + 12) (ks2 := ksN + 72) (by omega) (by omega) ?_
            exact P_back ((s21.1 &&& 0, s21.2.1 + 1, σ29))
          · skip
            refine P_l (fun hJ _ _ q => E_lload dL_looks_217 rfl (E_lconst (v := 0) dL_looks_219 (by decide) (E_lcmp dL_looks_220 q))) ?_
            refine P_if (c := (if 0 < (lg_cmp ((v24 + v26) + v28) (0 : Int64)) then true else (if (lg_cmp v22 (0 : Int64)) = 0 then true else false)) = true) (pc1 := 231) (ls1 := [some (.ref 3), some (.int p1), some (.int p2), some (.int ((13 * v1) + v2)), some (.int s21.1), none, none, some (.int s21.2.1), some (.long v22), none, some (.long ((v24 + v26) + v28)), none]) (st1 := [.int s21.1]) (pc2 := 260) (ls2 := [some (.ref 3), some (.int p1), some (.int p2), some (.int ((13 * v1) + v2)), some (.int s21.1), none, none, some (.int s21.2.1), some (.long v22), none, some (.long ((v24 + v26) + v28)), none]) (st2 := [.int s21.1]) (fun hJ _ _ hX hY => ?_) ?_ ?_
            · skip
              refine E_if_gt 231 dL_looks_221 (by decide) (fun c_221_0 => ?_) (fun c_221_0 => ?_)
              · skip
                exact hX (by simp only [if_pos c_221_0])
              · skip
                refine E_lload dL_looks_224 rfl ?_
                refine E_lconst (v := 0) dL_looks_226 (by decide) ?_
                refine E_lcmp dL_looks_227 ?_
                refine E_if_ne 260 dL_looks_228 (by decide) (fun c_228_1 => ?_) (fun c_228_1 => ?_)
                · skip
                  exact hY (by simp only [if_neg c_221_0, if_neg c_228_1]; exact Bool.false_ne_true)
                · skip
                  exact hX (by simp only [if_neg c_221_0, if_pos c_228_1])
            · skip
              refine P_l (fun hJ _ _ q => E_aload_n dL_looks_231 rfl (E_bipush (v := 28) dL_looks_232 (by decide) (E_iload dL_looks_234 rfl (E_iconst (v := 1) dL_looks_236 (by decide) (E_iadd dL_looks_237 (E_iconst (v := 3) dL_looks_238 (by decide) (E_irem dL_looks_239 (by decide) (E_iconst (v := 5) dL_looks_240 (by decide) q)))))))) ?_
              refine P_call (t := fun v => some (.long v)) (st2 := fun v => .long v :: [.int s21.1]) (kc2 := kN + 12) (ks2 := ksN + 72) (fun hJ => (ok_L_ask (σ := σ29) (p1 := 28) (p2 := iRem (s21.2.1 + 1) 3) (p3 := 5))) (fun hJ _ _ _ _ v τ1 hM q => E_callS (as := [.ref 3, .int 28, .int (iRem (s21.2.1 + 1) 3), .int 5]) (st := [.int s21.1]) hM (by decide) yfL_ask mlL_139 stL_ask rfl (Nat.le_of_ble_eq_true rfl) rfl dL_looks_241 q) (by omega) (by omega) (fun v30 σ31 => ?_)
              refine P_l (fun hJ _ _ q => E_lconst (v := 0) dL_looks_244 (by decide) (E_lcmp dL_looks_245 q)) ?_
              refine P_l (pc2 := 261) (ls2 := [some (.ref 3), some (.int p1), some (.int p2), some (.int ((13 * v1) + v2)), none, none, none, some (.int s21.2.1), none, none, none, none]) (st2 := [.int ((if 0 < (lg_cmp v30 (0 : Int64)) then 1 else (if (lg_cmp v22 (0 : Int64)) = 0 then 1 else 0) : Int32)), .int s21.1]) (fun hJ _ _ hq => ?_) ?_
              · skip
                refine E_if_gt 256 dL_looks_246 (by decide) (fun c_246_0 => ?_) (fun c_246_0 => ?_)
                · skip
                  refine E_iconst (v := 1) dL_looks_256 (by decide) ?_
                  refine E_goto 261 dL_looks_257 (by decide) ?_
                  simp only [if_pos c_246_0] at hq
                  exact E_less (ls2 := [some (.ref 3), some (.int p1), some (.int p2), some (.int ((13 * v1) + v2)), none, none, none, some (.int s21.2.1), none, none, none, none]) hq (rLe_at [some (.ref 3), some (.int p1), some (.int p2), some (.int ((13 * v1) + v2)), none, none, none, some (.int s21.2.1), none, none, none, none] [some (.ref 3), some (.int p1), some (.int p2), some (.int ((13 * v1) + v2)), some (.int s21.1), none, none, some (.int s21.2.1), some (.long v22), none, some (.long ((v24 + v26) + v28)), none] (And.intro rfl (And.intro rfl (And.intro rfl (And.intro rfl (And.intro rfl trivial))))))
                · skip
                  refine E_lload dL_looks_249 rfl ?_
                  refine E_lconst (v := 0) dL_looks_251 (by decide) ?_
                  refine E_lcmp dL_looks_252 ?_
                  refine E_if_ne 260 dL_looks_253 (by decide) (fun c_253_1 => ?_) (fun c_253_1 => ?_)
                  · skip
                    refine E_iconst (v := 0) dL_looks_260 (by decide) ?_
                    simp only [if_neg c_246_0, if_neg c_253_1] at hq
                    exact E_less (ls2 := [some (.ref 3), some (.int p1), some (.int p2), some (.int ((13 * v1) + v2)), none, none, none, some (.int s21.2.1), none, none, none, none]) hq (rLe_at [some (.ref 3), some (.int p1), some (.int p2), some (.int ((13 * v1) + v2)), none, none, none, some (.int s21.2.1), none, none, none, none] [some (.ref 3), some (.int p1), some (.int p2), some (.int ((13 * v1) + v2)), some (.int s21.1), none, none, some (.int s21.2.1), some (.long v22), none, some (.long ((v24 + v26) + v28)), none] (And.intro rfl (And.intro rfl (And.intro rfl (And.intro rfl (And.intro rfl trivial))))))
                  · skip
                    refine E_iconst (v := 1) dL_looks_256 (by decide) ?_
                    refine E_goto 261 dL_looks_257 (by decide) ?_
                    simp only [if_neg c_246_0, if_pos c_253_1] at hq
                    exact E_less (ls2 := [some (.ref 3), some (.int p1), some (.int p2), some (.int ((13 * v1) + v2)), none, none, none, some (.int s21.2.1), none, none, none, none]) hq (rLe_at [some (.ref 3), some (.int p1), some (.int p2), some (.int ((13 * v1) + v2)), none, none, none, some (.int s21.2.1), none, none, none, none] [some (.ref 3), some (.int p1), some (.int p2), some (.int ((13 * v1) + v2)), some (.int s21.1), none, none, some (.int s21.2.1), some (.long v22), none, some (.long ((v24 + v26) + v28)), none] (And.intro rfl (And.intro rfl (And.intro rfl (And.intro rfl (And.intro rfl trivial))))))
              · skip
                refine P_l (fun hJ _ _ q => E_iand dL_looks_261 (E_istore (ls2 := [some (.ref 3), some (.int p1), some (.int p2), some (.int ((13 * v1) + v2)), some (.int (s21.1 &&& ((if 0 < (lg_cmp v30 (0 : Int64)) then 1 else (if (lg_cmp v22 (0 : Int64)) = 0 then 1 else 0) : Int32)))), none, none, some (.int s21.2.1), none, none, none, none]) dL_looks_262 (by decide) rfl q)) ?_
                refine P_v (s21.1 &&& ((if 0 < (lg_cmp v30 (0 : Int64)) then 1 else (if (lg_cmp v22 (0 : Int64)) = 0 then 1 else 0) : Int32))) (fun x => [some (.ref 3), some (.int p1), some (.int p2), some (.int ((13 * v1) + v2)), some (.int x), none, none, some (.int s21.2.1), none, none, none, none]) (fun x32 => ?_)
                refine P_l (fun hJ _ _ q => E_iinc (v := 1) (ls2 := [some (.ref 3), some (.int p1), some (.int p2), some (.int ((13 * v1) + v2)), some (.int x32), none, none, some (.int (s21.2.1 + 1)), none, none, none, none]) dL_looks_264 rfl (by decide) (by decide) rfl (E_goto 136 dL_looks_267 (by decide) q)) ?_
                refine P_room (kc2 := kN + 12) (ks2 := ksN + 72) (by omega) (by omega) ?_
                exact P_back ((x32, s21.2.1 + 1, σ31))
            · skip
              refine P_l (fun hJ _ _ q => E_iconst (v := 0) dL_looks_260 (by decide) (E_iand dL_looks_261 (E_istore (ls2 := [some (.ref 3), some (.int p1), some (.int p2), some (.int ((13 * v1) + v2)), some (.int (s21.1 &&& 0)), none, none, some (.int s21.2.1), some (.long v22), none, some (.long ((v24 + v26) + v28)), none]) dL_looks_262 (by decide) rfl (E_iinc (v := 1) (ls2 := [some (.ref 3), some (.int p1), some (.int p2), some (.int ((13 * v1) + v2)), some (.int (s21.1 &&& 0)), none, none, some (.int (s21.2.1 + 1)), some (.long v22), none, some (.long ((v24 + v26) + v28)), none]) dL_looks_264 rfl (by decide) (by decide) rfl (E_goto 136 dL_looks_267 (by decide) q))))) ?_
              refine P_less [some (.ref 3), some (.int p1), some (.int p2), some (.int ((13 * v1) + v2)), some (.int (s21.1 &&& 0)), none, none, some (.int (s21.2.1 + 1)), none, none, none, none] (And.intro rfl (And.intro rfl (And.intro rfl (And.intro rfl (And.intro rfl (And.intro rfl trivial)))))) ?_
              refine P_room (kc2 := kN + 12) (ks2 := ksN + 72) (by omega) (by omega) ?_
              exact P_back ((s21.1 &&& 0, s21.2.1 + 1, σ29))
      · skip
        refine P_l (fun hJ _ _ q => E_aload_n dL_looks_270 rfl (E_bipush (v := 17) dL_looks_271 (by decide) (E_iconst (v := 1) dL_looks_273 (by decide) (E_iload_n dL_looks_274 rfl (E_bipush (v := 7) dL_looks_275 (by decide) (E_ishr dL_looks_277 (E_iload_n dL_looks_278 rfl q))))))) ?_
        refine P_callr (t := fun v => some (.int v)) (st2 := fun v => .int v :: [.int 1, .int 17, .ref 3]) (fun hJ => (ok_L_low (σ := j20.2) (p1 := p1 >>> ((7 : Int32) &&& 31)) (p2 := p2) )) (fun hJ _ _ v hM q => E_callS (as := [.int (p1 >>> ((7 : Int32) &&& 31)), .int p2]) (st := [.int 1, .int 17, .ref 3]) hM (by decide) yfL_low mlL_153 stL_low rfl (Nat.le_of_ble_eq_true rfl) rfl dL_looks_279 q) (fun v33 => ?_)
        refine P_l (fun hJ _ _ q => E_iadd dL_looks_282 (E_iconst (v := 0) dL_looks_283 (by decide) q)) ?_
        refine P_call (t := fun v => some (.long v)) (st2 := fun v => .long v :: []) (kc2 := 8) (ks2 := 48) (fun hJ => (ok_L_ask (σ := j20.2) (p1 := 17) (p2 := 1 + v33) (p3 := 0))) (fun hJ _ _ _ _ v τ1 hM q => E_callS (as := [.ref 3, .int 17, .int (1 + v33), .int 0]) (st := []) hM (by decide) yfL_ask mlL_139 stL_ask rfl (Nat.le_of_ble_eq_true rfl) rfl dL_looks_284 q) (by omega) (by omega) (fun v34 σ35 => ?_)
        refine P_l (fun hJ _ _ q => E_lstore (ls2 := [some (.ref 3), some (.int p1), some (.int p2), none, some (.int j20.1), none, none, some (.long v34), none, none, none, none]) dL_looks_287 (by decide) rfl (E_iload dL_looks_289 rfl q)) ?_
        refine P_if (c := (if j20.1 = 0 then true else (if (lg_cmp v34 (0 : Int64)) < 0 then true else false)) = true) (pc1 := 342) (ls1 := [some (.ref 3), some (.int p1), some (.int p2), none, some (.int j20.1), none, none, some (.long v34), none, none, none, none]) (st1 := []) (pc2 := 301) (ls2 := [some (.ref 3), some (.int p1), some (.int p2), none, some (.int j20.1), none, none, some (.long v34), none, none, none, none]) (st2 := []) (fun hJ _ _ hX hY => ?_) ?_ ?_
        · skip
          refine E_if_eq 342 dL_looks_291 (by decide) (fun c_291_0 => ?_) (fun c_291_0 => ?_)
          · skip
            exact hX (by simp only [if_pos c_291_0])
          · skip
            refine E_lload dL_looks_294 rfl ?_
            refine E_lconst (v := 0) dL_looks_296 (by decide) ?_
            refine E_lcmp dL_looks_297 ?_
            refine E_if_lt 342 dL_looks_298 (by decide) (fun c_298_1 => ?_) (fun c_298_1 => ?_)
            · skip
              exact hX (by simp only [if_neg c_291_0, if_pos c_298_1])
            · skip
              exact hY (by simp only [if_neg c_291_0, if_neg c_298_1]; exact Bool.false_ne_true)
        · skip
          refine P_l (fun hJ _ _ q => E_iconst (v := 0) dL_looks_342 (by decide) q) ?_
          exact P_ret (fun _ _ => E_zret01 rfl (by decide) dL_looks_343)
        · skip
          refine P_l (fun hJ _ _ q => E_aload_n dL_looks_301 rfl (E_bipush (v := 14) dL_looks_302 (by decide) (E_iconst (v := 0) dL_looks_304 (by decide) (E_iconst (v := 0) dL_looks_305 (by decide) q)))) ?_
          refine P_call (t := fun v => some (.long v)) (st2 := fun v => .long v :: []) (kc2 := 4) (ks2 := 24) (fun hJ => (ok_L_ask (σ := σ35) (p1 := 14) (p2 := 0) (p3 := 0))) (fun hJ _ _ _ _ v τ1 hM q => E_callS (as := [.ref 3, .int 14, .int 0, .int 0]) (st := []) hM (by decide) yfL_ask mlL_139 stL_ask rfl (Nat.le_of_ble_eq_true rfl) rfl dL_looks_306 q) (by omega) (by omega) (fun v36 σ37 => ?_)
          refine P_l (fun hJ _ _ q => E_lconst (v := 0) dL_looks_309 (by decide) (E_lcmp dL_looks_310 q)) ?_
          refine P_if (c := (if (lg_cmp v36 (0 : Int64)) = 0 then true else (if (lg_cmp v34 (0 : Int64)) ≤ 0 then false else true)) = true) (pc1 := 321) (ls1 := [some (.ref 3), some (.int p1), some (.int p2), none, some (.int j20.1), none, none, some (.long v34), none, none, none, none]) (st1 := []) (pc2 := 342) (ls2 := [some (.ref 3), some (.int p1), some (.int p2), none, some (.int j20.1), none, none, some (.long v34), none, none, none, none]) (st2 := []) (fun hJ _ _ hX hY => ?_) ?_ ?_
          · skip
            refine E_if_eq 321 dL_looks_311 (by decide) (fun c_311_0 => ?_) (fun c_311_0 => ?_)
            · skip
              exact hX (by simp only [if_pos c_311_0])
            · skip
              refine E_lload dL_looks_314 rfl ?_
              refine E_lconst (v := 0) dL_looks_316 (by decide) ?_
              refine E_lcmp dL_looks_317 ?_
              refine E_if_le 342 dL_looks_318 (by decide) (fun c_318_1 => ?_) (fun c_318_1 => ?_)
              · skip
                exact hY (by simp only [if_neg c_311_0, if_pos c_318_1]; exact Bool.false_ne_true)
              · skip
                exact hX (by simp only [if_neg c_311_0, if_neg c_318_1])
          · skip
            refine P_l (fun hJ _ _ q => E_aload_n dL_looks_321 rfl (E_bipush (v := 17) dL_looks_322 (by decide) (E_iload_n dL_looks_324 rfl (E_iconst (v := 1) dL_looks_325 (by decide) (E_iadd dL_looks_326 (E_iconst (v := 0) dL_looks_327 (by decide) q)))))) ?_
            refine P_call (t := fun v => some (.long v)) (st2 := fun v => .long v :: []) (kc2 := 0) (ks2 := 0) (fun hJ => (ok_L_ask (σ := σ37) (p1 := 17) (p2 := p2 + 1) (p3 := 0))) (fun hJ _ _ _ _ v τ1 hM q => E_callS (as := [.ref 3, .int 17, .int (p2 + 1), .int 0]) (st := []) hM (by decide) yfL_ask mlL_139 stL_ask rfl (Nat.le_of_ble_eq_true rfl) rfl dL_looks_328 q) (by omega) (by omega) (fun v38 σ39 => ?_)
            refine P_l (fun hJ _ _ q => E_ldc2 dL_looks_331 kcL_127 (E_lcmp dL_looks_334 q)) ?_
            refine P_l (pc2 := 343) (ls2 := [none, none, none, none, none, none, none, none, none, none, none, none]) (st2 := [.int ((if (lg_cmp v38 (((-10003) : Int64))) = 0 then 1 else 0 : Int32))]) (fun hJ _ _ hq => ?_) ?_
            · skip
              refine E_if_ne 342 dL_looks_335 (by decide) (fun c_335_0 => ?_) (fun c_335_0 => ?_)
              · skip
                refine E_iconst (v := 0) dL_looks_342 (by decide) ?_
                simp only [if_neg c_335_0] at hq
                exact E_less (ls2 := [none, none, none, none, none, none, none, none, none, none, none, none]) hq (rLe_at [none, none, none, none, none, none, none, none, none, none, none, none] [some (.ref 3), some (.int p1), some (.int p2), none, some (.int j20.1), none, none, some (.long v34), none, none, none, none] trivial)
              · skip
                refine E_iconst (v := 1) dL_looks_338 (by decide) ?_
                refine E_goto 343 dL_looks_339 (by decide) ?_
                simp only [if_pos c_335_0] at hq
                exact E_less (ls2 := [none, none, none, none, none, none, none, none, none, none, none, none]) hq (rLe_at [none, none, none, none, none, none, none, none, none, none, none, none] [some (.ref 3), some (.int p1), some (.int p2), none, some (.int j20.1), none, none, some (.long v34), none, none, none, none] trivial)
            · skip
              exact P_ret (fun _ _ => E_zret01 rfl (by split <;> decide) dL_looks_343)
          · skip
            refine P_l (fun hJ _ _ q => E_iconst (v := 0) dL_looks_342 (by decide) q) ?_
            exact P_ret (fun _ _ => E_zret01 rfl (by decide) dL_looks_343)
