/-! what holds of the world behind the constructors -/
def layOk (σ : rS) (l : Nat) : Prop := ∃ n c f s, 3 ≤ l ∧ rR σ l 0 = c ∧ rR σ l 1 = f ∧ rR σ l 2 = s ∧ rK σ c = (0, n) ∧ rK σ f = (1, n) ∧ rK σ s = (1, n) ∧ 1024 ≤ n ∧ n ≤ 65536 ∧ (c = l + 1 ∨ 67 ≤ c) ∧ (f = l + 2 ∨ 67 ≤ f) ∧ (s = l + 3 ∨ 67 ≤ s) ∧ f ≠ s ∧ c < rN σ ∧ f < rN σ ∧ s < rN σ
def Dy (σ : rS) : Prop := (rK σ 1 = (0, 21) ∧ (rK σ 2).1 = 0) ∧ isT (rR σ 37 14) ∧ (∃ t j, isT t ∧ (j = 1 ∨ j = 2 ∨ j = 3) ∧ rR σ 37 15 = t + j) ∧ ((rR σ 37 5 = 51 ∧ rR σ 37 6 = 55) ∨ (rR σ 37 5 = 55 ∧ rR σ 37 6 = 51)) ∧ layOk σ 51 ∧ layOk σ 55 ∧ rR σ 51 0 ≠ rR σ 55 0 ∧ rR σ 51 1 ≠ rR σ 55 1 ∧ rR σ 51 1 ≠ rR σ 55 2 ∧ rR σ 51 2 ≠ rR σ 55 1 ∧ rR σ 51 2 ≠ rR σ 55 2
def Sy (σ : rS) : Prop := Sh σ ∧ Dy σ
theorem Sy_one {σ : rS} (h : Sy σ) : rK σ 1 = (0, 21) := h.2.1.1
theorem Sy_two {σ : rS} (h : Sy σ) : rK σ 2 = (0, (rK σ 2).2) := Prod.ext h.2.1.2 rfl
theorem Sy_wI {σ : rS} {a k : Nat} {v : Int32} (h : Sy σ) : Sy (wI σ a k v) := h
theorem Sy_wL {σ : rS} {a k : Nat} {v : Int64} (h : Sy σ) : Sy (wL σ a k v) := h
theorem Sy_rowI {σ : rS} {a : Nat} {f : Nat → Int32} (h : Sy σ) : Sy (rowI σ a f) := h
theorem Sy_rowL {σ : rS} {a : Nat} {f : Nat → Int64} (h : Sy σ) : Sy (rowL σ a f) := h
theorem isT_38 : isT 38 := Or.inl rfl
theorem isT_43 : isT 43 := Or.inr rfl
theorem Sy_steps {σ : rS} (h : Sy σ) : rK σ (rR σ 37 14) = (10, 0) ∧ 3 ≤ rR σ 37 14 ∧ isT (rR σ 37 14) := ⟨kdT h.1 h.2.2.1, by have := isT3 (j := 0) h.2.2.1; omega, h.2.2.1⟩
theorem Sy_table {σ : rS} (h : Sy σ) : rK σ (rR σ 37 15) = (0, 256) ∧ 3 ≤ rR σ 37 15 := by
  obtain ⟨h0, -, -, ⟨t, j, ht, hj, e⟩, -⟩ := h
  rw [e]
  rcases hj with rfl | rfl | rfl
  · exact ⟨kdT1 h0 ht, isT3 ht⟩
  · exact ⟨kdT2 h0 ht, isT3 ht⟩
  · exact ⟨kdT3 h0 ht, isT3 ht⟩
theorem Sy_here {σ : rS} (h : Sy σ) : rK σ (rR σ 37 5) = (5, 0) ∧ 3 ≤ rR σ 37 5 := by
  obtain ⟨h0, -, -, -, h1, -⟩ := h
  rcases h1 with ⟨e, -⟩ | ⟨e, -⟩ <;> rw [e]
  · exact ⟨kd51 h0, by decide⟩
  · exact ⟨kd55 h0, by decide⟩
theorem Sy_there {σ : rS} (h : Sy σ) : rK σ (rR σ 37 6) = (5, 0) ∧ 3 ≤ rR σ 37 6 := by
  obtain ⟨h0, -, -, -, h1, -⟩ := h
  rcases h1 with ⟨-, e⟩ | ⟨-, e⟩ <;> rw [e]
  · exact ⟨kd55 h0, by decide⟩
  · exact ⟨kd51 h0, by decide⟩
theorem layOk_0 {σ : rS} {l : Nat} (h : layOk σ l) : rK σ (rR σ l 0) = (0, (rK σ (rR σ l 0)).2) ∧ 3 ≤ rR σ l 0 := by
  obtain ⟨n, c, f, s, h9, rfl, rfl, rfl, h1, h2, h3, h4, h5, h6, h7, h8, -⟩ := h
  exact ⟨by rw [h1], by rcases h6 with e | e <;> omega⟩
theorem layOk_1 {σ : rS} {l : Nat} (h : layOk σ l) : rK σ (rR σ l 1) = (1, (rK σ (rR σ l 0)).2) ∧ 3 ≤ rR σ l 1 := by
  obtain ⟨n, c, f, s, h9, rfl, rfl, rfl, h1, h2, h3, h4, h5, h6, h7, h8, -⟩ := h
  exact ⟨by rw [h1, h2], by rcases h7 with e | e <;> omega⟩
theorem layOk_2 {σ : rS} {l : Nat} (h : layOk σ l) : rK σ (rR σ l 2) = (1, (rK σ (rR σ l 0)).2) ∧ 3 ≤ rR σ l 2 := by
  obtain ⟨n, c, f, s, h9, rfl, rfl, rfl, h1, h2, h3, h4, h5, h6, h7, h8, -⟩ := h
  exact ⟨by rw [h1, h3], by rcases h8 with e | e <;> omega⟩
theorem Sy_hereL {σ : rS} (h : Sy σ) : layOk σ (rR σ 37 5) := by
  obtain ⟨h0, -, -, -, h1, h2, h3, -⟩ := h
  rcases h1 with ⟨e, -⟩ | ⟨e, -⟩ <;> rw [e] <;> assumption
theorem Sy_thereL {σ : rS} (h : Sy σ) : layOk σ (rR σ 37 6) := by
  obtain ⟨h0, -, -, -, h1, h2, h3, -⟩ := h
  rcases h1 with ⟨-, e⟩ | ⟨-, e⟩ <;> rw [e] <;> assumption
theorem Sy_here0 {σ : rS} (h : Sy σ) : rK σ (rR σ (rR σ 37 5) 0) = (0, (rK σ (rR σ (rR σ 37 5) 0)).2) ∧ 3 ≤ rR σ (rR σ 37 5) 0 := layOk_0 (Sy_hereL h)
theorem Sy_here1 {σ : rS} (h : Sy σ) : rK σ (rR σ (rR σ 37 5) 1) = (1, (rK σ (rR σ (rR σ 37 5) 0)).2) ∧ 3 ≤ rR σ (rR σ 37 5) 1 := layOk_1 (Sy_hereL h)
theorem Sy_here2 {σ : rS} (h : Sy σ) : rK σ (rR σ (rR σ 37 5) 2) = (1, (rK σ (rR σ (rR σ 37 5) 0)).2) ∧ 3 ≤ rR σ (rR σ 37 5) 2 := layOk_2 (Sy_hereL h)
theorem Sy_there0 {σ : rS} (h : Sy σ) : rK σ (rR σ (rR σ 37 6) 0) = (0, (rK σ (rR σ (rR σ 37 6) 0)).2) ∧ 3 ≤ rR σ (rR σ 37 6) 0 := layOk_0 (Sy_thereL h)
theorem Sy_there1 {σ : rS} (h : Sy σ) : rK σ (rR σ (rR σ 37 6) 1) = (1, (rK σ (rR σ (rR σ 37 6) 0)).2) ∧ 3 ≤ rR σ (rR σ 37 6) 1 := layOk_1 (Sy_thereL h)
theorem Sy_there2 {σ : rS} (h : Sy σ) : rK σ (rR σ (rR σ 37 6) 2) = (1, (rK σ (rR σ (rR σ 37 6) 0)).2) ∧ 3 ≤ rR σ (rR σ 37 6) 2 := layOk_2 (Sy_thereL h)
theorem xi_IllegalArgumentException : Cond.initialized "java/lang/IllegalArgumentException" ∈ rWd := by decide +kernel
theorem xa_IllegalArgumentException : ∀ w ∈ vx_at0 RX10 80 "java/lang/IllegalArgumentException" ["java/lang/RuntimeException", "java/lang/Exception"], w ∈ rWd ∨ w ∈ rNw := by decide +kernel
theorem xt_IllegalArgumentException {M : rM} {k pc : Nat} {ls : List (Option Value)} {st : List Value} {σ : rS} (hM : M.1 = RX10) (htab : M.2.2.2.2.2 = []) (hk : 6 ≤ k) (hst : (st.map fun v => v.category).sum ≤ 8)
    (d0 : decode M.2.1 pc = .ok (.new 78, 3)) (d3 : decode M.2.1 (pc + 3) = .ok (.dup, 1)) (d4 : decode M.2.1 (pc + 4) = .ok (.invokespecial 80, 3)) (d7 : decode M.2.1 (pc + 7) = .ok (.athrow, 1)) (kc ks : Nat) : rE M k pc ls st σ (kc + 1) (ks + 6) (.inr "java/lang/IllegalArgumentException") σ :=
  xt_ok hM (by decide +kernel) (by decide +kernel) ckX10_78 xi_IllegalArgumentException xa_IllegalArgumentException (by decide +kernel) (by decide) htab hk hst d0 d3 d4 d7 kc ks
theorem xi_IllegalStateException : Cond.initialized "java/lang/IllegalStateException" ∈ rWd := by decide +kernel
theorem xa_IllegalStateException : ∀ w ∈ vx_at0 RX10 87 "java/lang/IllegalStateException" ["java/lang/RuntimeException", "java/lang/Exception"], w ∈ rWd ∨ w ∈ rNw := by decide +kernel
theorem xt_IllegalStateException {M : rM} {k pc : Nat} {ls : List (Option Value)} {st : List Value} {σ : rS} (hM : M.1 = RX10) (htab : M.2.2.2.2.2 = []) (hk : 6 ≤ k) (hst : (st.map fun v => v.category).sum ≤ 8)
    (d0 : decode M.2.1 pc = .ok (.new 85, 3)) (d3 : decode M.2.1 (pc + 3) = .ok (.dup, 1)) (d4 : decode M.2.1 (pc + 4) = .ok (.invokespecial 87, 3)) (d7 : decode M.2.1 (pc + 7) = .ok (.athrow, 1)) (kc ks : Nat) : rE M k pc ls st σ (kc + 1) (ks + 6) (.inr "java/lang/IllegalStateException") σ :=
  xt_ok hM (by decide +kernel) (by decide +kernel) ckX10_85 xi_IllegalStateException xa_IllegalStateException (by decide +kernel) (by decide) htab hk hst d0 d3 d4 d7 kc ks
theorem xi_IndexOutOfBoundsException : Cond.initialized "java/lang/IndexOutOfBoundsException" ∈ rWd := by decide +kernel
theorem xa_IndexOutOfBoundsException : ∀ w ∈ vx_at0 RX10 362 "java/lang/IndexOutOfBoundsException" ["java/lang/RuntimeException", "java/lang/Exception"], w ∈ rWd ∨ w ∈ rNw := by decide +kernel
theorem xt_IndexOutOfBoundsException {M : rM} {k pc : Nat} {ls : List (Option Value)} {st : List Value} {σ : rS} (hM : M.1 = RX10) (htab : M.2.2.2.2.2 = []) (hk : 6 ≤ k) (hst : (st.map fun v => v.category).sum ≤ 8)
    (d0 : decode M.2.1 pc = .ok (.new 360, 3)) (d3 : decode M.2.1 (pc + 3) = .ok (.dup, 1)) (d4 : decode M.2.1 (pc + 4) = .ok (.invokespecial 362, 3)) (d7 : decode M.2.1 (pc + 7) = .ok (.athrow, 1)) (kc ks : Nat) : rE M k pc ls st σ (kc + 1) (ks + 6) (.inr "java/lang/IndexOutOfBoundsException") σ :=
  xt_ok hM (by decide +kernel) (by decide +kernel) ckX10_360 xi_IndexOutOfBoundsException xa_IndexOutOfBoundsException (by decide +kernel) (by decide) htab hk hst d0 d3 d4 d7 kc ks
theorem sw_l0 : (0 : Int32).toInt = 0 := rfl
theorem sw_l1 : (1 : Int32).toInt = 1 := rfl
theorem sw_l2 : (2 : Int32).toInt = 2 := rfl
theorem sw_l3 : (3 : Int32).toInt = 3 := rfl
theorem sw_l4 : (4 : Int32).toInt = 4 := rfl
theorem sw_l5 : (5 : Int32).toInt = 5 := rfl
theorem sw_l6 : (6 : Int32).toInt = 6 := rfl
theorem sw_l7 : (7 : Int32).toInt = 7 := rfl
theorem sw_l8 : (8 : Int32).toInt = 8 := rfl
theorem sw_l9 : (9 : Int32).toInt = 9 := rfl
theorem sw_l10 : (10 : Int32).toInt = 10 := rfl
theorem sw_l11 : (11 : Int32).toInt = 11 := rfl
theorem sw_l12 : (12 : Int32).toInt = 12 := rfl
theorem sw_l13 : (13 : Int32).toInt = 13 := rfl
theorem sw_l14 : (14 : Int32).toInt = 14 := rfl
theorem sw_l15 : (15 : Int32).toInt = 15 := rfl
theorem sw_l16 : (16 : Int32).toInt = 16 := rfl
theorem sw_l17 : (17 : Int32).toInt = 17 := rfl
theorem sw_l18 : (18 : Int32).toInt = 18 := rfl
theorem sw_l19 : (19 : Int32).toInt = 19 := rfl
theorem sw_l20 : (20 : Int32).toInt = 20 := rfl
theorem sw_l21 : (21 : Int32).toInt = 21 := rfl
theorem sw_l22 : (22 : Int32).toInt = 22 := rfl
theorem sw_l23 : (23 : Int32).toInt = 23 := rfl
theorem sw_l24 : (24 : Int32).toInt = 24 := rfl
theorem sw_l25 : (25 : Int32).toInt = 25 := rfl
theorem sw_l26 : (26 : Int32).toInt = 26 := rfl
theorem sw_l27 : (27 : Int32).toInt = 27 := rfl
theorem sw_l28 : (28 : Int32).toInt = 28 := rfl
theorem sw_l29 : (29 : Int32).toInt = 29 := rfl
theorem sw_l30 : (30 : Int32).toInt = 30 := rfl
theorem sw_l31 : (31 : Int32).toInt = 31 := rfl
theorem sw_l32 : (32 : Int32).toInt = 32 := rfl
theorem sw_l33 : (33 : Int32).toInt = 33 := rfl
theorem sw_l34 : (34 : Int32).toInt = 34 := rfl
theorem sw_l35 : (35 : Int32).toInt = 35 := rfl
theorem sw_l36 : (36 : Int32).toInt = 36 := rfl
theorem sw_l37 : (37 : Int32).toInt = 37 := rfl
theorem sw_l38 : (38 : Int32).toInt = 38 := rfl
theorem sw_l39 : (39 : Int32).toInt = 39 := rfl
theorem sw_l40 : (40 : Int32).toInt = 40 := rfl
theorem sw_l41 : (41 : Int32).toInt = 41 := rfl
theorem sw_l42 : (42 : Int32).toInt = 42 := rfl
theorem sw_l43 : (43 : Int32).toInt = 43 := rfl
theorem sw_l44 : (44 : Int32).toInt = 44 := rfl
theorem sw_l45 : (45 : Int32).toInt = 45 := rfl
theorem sw_l46 : (46 : Int32).toInt = 46 := rfl
theorem sw_l47 : (47 : Int32).toInt = 47 := rfl
theorem sw_l48 : (48 : Int32).toInt = 48 := rfl
theorem sw_l49 : (49 : Int32).toInt = 49 := rfl
theorem sw_l50 : (50 : Int32).toInt = 50 := rfl
theorem sw_l51 : (51 : Int32).toInt = 51 := rfl
theorem sw_l52 : (52 : Int32).toInt = 52 := rfl
theorem sw_l53 : (53 : Int32).toInt = 53 := rfl
theorem sw_l54 : (54 : Int32).toInt = 54 := rfl
theorem sw_l55 : (55 : Int32).toInt = 55 := rfl
theorem sw_l56 : (56 : Int32).toInt = 56 := rfl
theorem sw_l57 : (57 : Int32).toInt = 57 := rfl
theorem sw_l58 : (58 : Int32).toInt = 58 := rfl
theorem sw_l59 : (59 : Int32).toInt = 59 := rfl
theorem sw_l60 : (60 : Int32).toInt = 60 := rfl
theorem sw_l61 : (61 : Int32).toInt = 61 := rfl
theorem sw_l62 : (62 : Int32).toInt = 62 := rfl
theorem sw_l63 : (63 : Int32).toInt = 63 := rfl
theorem sw_l64 : (64 : Int32).toInt = 64 := rfl
theorem sw_l65 : (65 : Int32).toInt = 65 := rfl
theorem sw_l66 : (66 : Int32).toInt = 66 := rfl
theorem sw_l67 : (67 : Int32).toInt = 67 := rfl
theorem sw_l68 : (68 : Int32).toInt = 68 := rfl
theorem sw_l69 : (69 : Int32).toInt = 69 := rfl
theorem sw_l70 : (70 : Int32).toInt = 70 := rfl
theorem sw_l71 : (71 : Int32).toInt = 71 := rfl
theorem sw_l72 : (72 : Int32).toInt = 72 := rfl
theorem sw_l73 : (73 : Int32).toInt = 73 := rfl
theorem sw_l74 : (74 : Int32).toInt = 74 := rfl
theorem sw_l75 : (75 : Int32).toInt = 75 := rfl
theorem sw_l76 : (76 : Int32).toInt = 76 := rfl
theorem sw_l77 : (77 : Int32).toInt = 77 := rfl
theorem sw_l78 : (78 : Int32).toInt = 78 := rfl
theorem sw_l79 : (79 : Int32).toInt = 79 := rfl
theorem sw_l80 : (80 : Int32).toInt = 80 := rfl
theorem sw_l81 : (81 : Int32).toInt = 81 := rfl
theorem sw_l82 : (82 : Int32).toInt = 82 := rfl
theorem sw_l83 : (83 : Int32).toInt = 83 := rfl
theorem sw_l84 : (84 : Int32).toInt = 84 := rfl
theorem sw_l85 : (85 : Int32).toInt = 85 := rfl
theorem sw_l86 : (86 : Int32).toInt = 86 := rfl
theorem sw_l87 : (87 : Int32).toInt = 87 := rfl
theorem sw_l88 : (88 : Int32).toInt = 88 := rfl
theorem sw_l89 : (89 : Int32).toInt = 89 := rfl
theorem sw_l90 : (90 : Int32).toInt = 90 := rfl
theorem sw_l91 : (91 : Int32).toInt = 91 := rfl
theorem sw_l92 : (92 : Int32).toInt = 92 := rfl
theorem sw_l93 : (93 : Int32).toInt = 93 := rfl
theorem sw_l94 : (94 : Int32).toInt = 94 := rfl
theorem sw_l95 : (95 : Int32).toInt = 95 := rfl
theorem sw_l96 : (96 : Int32).toInt = 96 := rfl
theorem sw_l97 : (97 : Int32).toInt = 97 := rfl
theorem sw_l98 : (98 : Int32).toInt = 98 := rfl
theorem sw_l99 : (99 : Int32).toInt = 99 := rfl
theorem sw_l100 : (100 : Int32).toInt = 100 := rfl
theorem sw_l101 : (101 : Int32).toInt = 101 := rfl
theorem sw_l102 : (102 : Int32).toInt = 102 := rfl
theorem sw_l103 : (103 : Int32).toInt = 103 := rfl
theorem sw_l104 : (104 : Int32).toInt = 104 := rfl
theorem sw_l105 : (105 : Int32).toInt = 105 := rfl
theorem sw_l106 : (106 : Int32).toInt = 106 := rfl
theorem sw_l107 : (107 : Int32).toInt = 107 := rfl
theorem sw_l108 : (108 : Int32).toInt = 108 := rfl
theorem sw_l109 : (109 : Int32).toInt = 109 := rfl
theorem sw_l110 : (110 : Int32).toInt = 110 := rfl
theorem sw_l111 : (111 : Int32).toInt = 111 := rfl
theorem sw_l112 : (112 : Int32).toInt = 112 := rfl
theorem sw_l113 : (113 : Int32).toInt = 113 := rfl
theorem sw_l114 : (114 : Int32).toInt = 114 := rfl
theorem sw_l115 : (115 : Int32).toInt = 115 := rfl
theorem sw_l116 : (116 : Int32).toInt = 116 := rfl
theorem sw_l117 : (117 : Int32).toInt = 117 := rfl
theorem sw_l118 : (118 : Int32).toInt = 118 := rfl
theorem sw_l119 : (119 : Int32).toInt = 119 := rfl
theorem sw_l120 : (120 : Int32).toInt = 120 := rfl
theorem sw_l121 : (121 : Int32).toInt = 121 := rfl
theorem sw_l122 : (122 : Int32).toInt = 122 := rfl
theorem sw_l123 : (123 : Int32).toInt = 123 := rfl
theorem sw_l124 : (124 : Int32).toInt = 124 := rfl
theorem sw_l125 : (125 : Int32).toInt = 125 := rfl
theorem sw_l126 : (126 : Int32).toInt = 126 := rfl
theorem sw_l127 : (127 : Int32).toInt = 127 := rfl
theorem sw_l128 : (128 : Int32).toInt = 128 := rfl
theorem sw_l129 : (129 : Int32).toInt = 129 := rfl
theorem E_zret01 {M : rM} {k pc : Nat} {ls : List (Option Value)} {σ : rS} {kc ks : Nat} {v : Int32} (hr : M.2.2.2.1 = some .boolean) (h01 : v = 0 ∨ v = 1) (d : decode M.2.1 pc = .ok (.ireturn, 1)) : rE M k pc ls [.int v] σ kc ks (.inl (some (.int v))) σ := E_zretE hr d h01 rfl rfl
