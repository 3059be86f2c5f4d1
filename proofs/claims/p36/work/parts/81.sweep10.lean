/-! spread: the nest of loops -/
theorem sp_2 {σ : rS} {t a b c n h a' b' c' n' md i j : Nat} {tb op su : Nat → Int32} {v w : Int64 × Int64} (S : SpF σ t a b c n h a' b' c' n' md i j tb op su v w) {x2 x3 : Nat} (hx2 : x2 + 2 < 256) (hx3 : x3 + 2 < 256) {s0 s1 : Int32} {s3 s20 : Int32 × rS} (e3 : s3.1 = nI j) {l : List (Nat × Int64 × Int64)} (hl : l.length + 9 ≤ n) {τ : rS} (H : InP σ t a b c l τ) : ∃ υ, oLoop (b_X9_spread_289 (nI i) s3 (nI x2) (nI x3) s0 s20 s1) oFuel (nI x2, τ) = some (.inr (s20.1 + 1, υ)) ∧ InP σ t a b c (puts md su v w (em2 tb op x2 x3 s0 s1) l) υ := by
  refine oL_opts (tb := tb) (fun es τ => InP σ t a b c (puts md su v w ((es.filter (opB (op 2))).flatMap (fun s => em3 tb op x3 s0 s1 s)) l) τ) (fun υ => Sum.inr (s20.1 + 1, υ)) (fun es τ hP => ?_) (fun k es τ hk hP hz => ?_) (fun k es τ hk hlen hP hz => ?_) (by decide) H
  · unfold b_X9_spread_289
    dsimp only
    rw [if_pos (pl_le3 (by omega))]
  · have S2 := SpF_P S hP.2
    unfold b_X9_spread_289
    dsimp only
    rw [if_neg (pl_le (by omega) hk), if_pos (inB_nI (by decide) (by omega)), nI_clamp (by omega), S2.2.2.2.1.2 _ (by omega), if_pos hz]
  · have S2 := SpF_P S hP.2
    have ho := (S2.2.2.1 2 (by decide)).1
    unfold b_X9_spread_289
    dsimp only
    rw [if_neg (pl_le (by omega) hk), if_pos (inB_nI (by decide) (by omega)), nI_clamp (by omega), S2.2.2.2.1.2 _ (by omega), if_neg hz, oLet_eq, show ((2 : Int32).toNatClampNeg) = 2 from rfl, ho]
    rw [fl_snoc, List.flatMap_append]
    have e1 : nI (x2 + k) + 1 = nI (x2 + (k + 1)) := nI_1 _
    by_cases hop : ((op 2 >>> ((tb (x2 + k) &&& 15) &&& 31)) &&& 1) = 1
    · have hopb : opB (op 2) (tb (x2 + k)) = true := decide_eq_true hop
      have hop0 : ¬ ((op 2 >>> ((tb (x2 + k) &&& 15) &&& 31)) &&& 1) = 0 := fun q => by rw [q] at hop; exact absurd hop (by decide)
      rw [if_neg hop0, if_pos hopb, puts_app, List.flatMap_cons, List.flatMap_nil, List.append_nil]
      have hcl := puts_len md su v w ((es.filter (opB (op 2))).flatMap (fun s => em3 tb op x3 s0 s1 s)) l
      have hf2 := fl_len (f := (fun s => em3 tb op x3 s0 s1 s)) (fun s => em3_len tb op x3 s0 s1 s) (es.filter (opB (op 2)))
      have hfl : (es.filter (opB (op 2))).length ≤ es.length := fil_len
      rw [← e1]
      exact sp_3 S (by omega) (s0 := s0) (s1 := s1) (s2 := tb (x2 + k)) e3 (by omega) hP
    · have hopb : ¬ opB (op 2) (tb (x2 + k)) = true := fun q => hop (of_decide_eq_true q)
      have hop0 : ((op 2 >>> ((tb (x2 + k) &&& 15) &&& 31)) &&& 1) = 0 := (bit_01 _).resolve_right hop
      rw [if_pos hop0, if_neg hopb, e1, List.flatMap_nil, List.append_nil]
      exact ⟨τ, rfl, hP⟩
theorem sp_1 {σ : rS} {t a b c n h a' b' c' n' md i j : Nat} {tb op su : Nat → Int32} {v w : Int64 × Int64} (S : SpF σ t a b c n h a' b' c' n' md i j tb op su v w) {x1 x2 x3 : Nat} (hx1 : x1 + 2 < 256) (hx2 : x2 + 2 < 256) (hx3 : x3 + 2 < 256) {s0 : Int32} {s3 s17 : Int32 × rS} (e3 : s3.1 = nI j) {l : List (Nat × Int64 × Int64)} (hl : l.length + 27 ≤ n) {τ : rS} (H : InP σ t a b c l τ) : ∃ υ, oLoop (b_X9_spread_237 (nI i) s3 (nI x1) (nI x2) (nI x3) s17 s0) oFuel (nI x1, τ) = some (.inr (s17.1 + 1, υ)) ∧ InP σ t a b c (puts md su v w (em1 tb op x1 x2 x3 s0) l) υ := by
  refine oL_opts (tb := tb) (fun es τ => InP σ t a b c (puts md su v w ((es.filter (opB (op 1))).flatMap (fun s => em2 tb op x2 x3 s0 s)) l) τ) (fun υ => Sum.inr (s17.1 + 1, υ)) (fun es τ hP => ?_) (fun k es τ hk hP hz => ?_) (fun k es τ hk hlen hP hz => ?_) (by decide) H
  · unfold b_X9_spread_237
    dsimp only
    rw [if_pos (pl_le3 (by omega))]
  · have S2 := SpF_P S hP.2
    unfold b_X9_spread_237
    dsimp only
    rw [if_neg (pl_le (by omega) hk), if_pos (inB_nI (by decide) (by omega)), nI_clamp (by omega), S2.2.2.2.1.2 _ (by omega), if_pos hz]
  · have S2 := SpF_P S hP.2
    have ho := (S2.2.2.1 1 (by decide)).1
    unfold b_X9_spread_237
    dsimp only
    rw [if_neg (pl_le (by omega) hk), if_pos (inB_nI (by decide) (by omega)), nI_clamp (by omega), S2.2.2.2.1.2 _ (by omega), if_neg hz, oLet_eq, show ((1 : Int32).toNatClampNeg) = 1 from rfl, ho]
    rw [fl_snoc, List.flatMap_append]
    have e1 : nI (x1 + k) + 1 = nI (x1 + (k + 1)) := nI_1 _
    by_cases hop : ((op 1 >>> ((tb (x1 + k) &&& 15) &&& 31)) &&& 1) = 1
    · have hopb : opB (op 1) (tb (x1 + k)) = true := decide_eq_true hop
      have hop0 : ¬ ((op 1 >>> ((tb (x1 + k) &&& 15) &&& 31)) &&& 1) = 0 := fun q => by rw [q] at hop; exact absurd hop (by decide)
      rw [if_neg hop0, if_pos hopb, puts_app, List.flatMap_cons, List.flatMap_nil, List.append_nil]
      have hcl := puts_len md su v w ((es.filter (opB (op 1))).flatMap (fun s => em2 tb op x2 x3 s0 s)) l
      have hf2 := fl_len (f := (fun s => em2 tb op x2 x3 s0 s)) (fun s => em2_len tb op x2 x3 s0 s) (es.filter (opB (op 1)))
      have hfl : (es.filter (opB (op 1))).length ≤ es.length := fil_len
      rw [← e1]
      exact sp_2 S (by omega) (by omega) (s0 := s0) (s1 := tb (x1 + k)) e3 (by omega) hP
    · have hopb : ¬ opB (op 1) (tb (x1 + k)) = true := fun q => hop (of_decide_eq_true q)
      have hop0 : ((op 1 >>> ((tb (x1 + k) &&& 15) &&& 31)) &&& 1) = 0 := (bit_01 _).resolve_right hop
      rw [if_pos hop0, if_neg hopb, e1, List.flatMap_nil, List.append_nil]
      exact ⟨τ, rfl, hP⟩
theorem sp_0 {σ : rS} {t a b c n h a' b' c' n' md i j : Nat} {tb op su : Nat → Int32} {v w : Int64 × Int64} (S : SpF σ t a b c n h a' b' c' n' md i j tb op su v w) {x0 x1 x2 x3 : Nat} (hx0 : x0 + 2 < 256) (hx1 : x1 + 2 < 256) (hx2 : x2 + 2 < 256) (hx3 : x3 + 2 < 256) {s3 : Int32 × rS} (e3 : s3.1 = nI j) {l : List (Nat × Int64 × Int64)} (hl : l.length + 81 ≤ n) {τ : rS} (H : InP σ t a b c l τ) : ∃ υ, oLoop (b_X9_spread_185 (nI i) s3 (nI x0) (nI x1) (nI x2) (nI x3)) oFuel (nI x0, τ) = some (.inr (s3.1 + 1, υ)) ∧ InP σ t a b c (puts md su v w (em0 tb op x0 x1 x2 x3) l) υ := by
  refine oL_opts (tb := tb) (fun es τ => InP σ t a b c (puts md su v w ((es.filter (opB (op 0))).flatMap (fun s => em1 tb op x1 x2 x3 s)) l) τ) (fun υ => Sum.inr (s3.1 + 1, υ)) (fun es τ hP => ?_) (fun k es τ hk hP hz => ?_) (fun k es τ hk hlen hP hz => ?_) (by decide) H
  · unfold b_X9_spread_185
    dsimp only
    rw [if_pos (pl_le3 (by omega))]
  · have S2 := SpF_P S hP.2
    unfold b_X9_spread_185
    dsimp only
    rw [if_neg (pl_le (by omega) hk), if_pos (inB_nI (by decide) (by omega)), nI_clamp (by omega), S2.2.2.2.1.2 _ (by omega), if_pos hz]
  · have S2 := SpF_P S hP.2
    have ho := (S2.2.2.1 0 (by decide)).1
    unfold b_X9_spread_185
    dsimp only
    rw [if_neg (pl_le (by omega) hk), if_pos (inB_nI (by decide) (by omega)), nI_clamp (by omega), S2.2.2.2.1.2 _ (by omega), if_neg hz, oLet_eq, show ((0 : Int32).toNatClampNeg) = 0 from rfl, ho]
    rw [fl_snoc, List.flatMap_append]
    have e1 : nI (x0 + k) + 1 = nI (x0 + (k + 1)) := nI_1 _
    by_cases hop : ((op 0 >>> ((tb (x0 + k) &&& 15) &&& 31)) &&& 1) = 1
    · have hopb : opB (op 0) (tb (x0 + k)) = true := decide_eq_true hop
      have hop0 : ¬ ((op 0 >>> ((tb (x0 + k) &&& 15) &&& 31)) &&& 1) = 0 := fun q => by rw [q] at hop; exact absurd hop (by decide)
      rw [if_neg hop0, if_pos hopb, puts_app, List.flatMap_cons, List.flatMap_nil, List.append_nil]
      have hcl := puts_len md su v w ((es.filter (opB (op 0))).flatMap (fun s => em1 tb op x1 x2 x3 s)) l
      have hf2 := fl_len (f := (fun s => em1 tb op x1 x2 x3 s)) (fun s => em1_len tb op x1 x2 x3 s) (es.filter (opB (op 0)))
      have hfl : (es.filter (opB (op 0))).length ≤ es.length := fil_len
      rw [← e1]
      exact sp_1 S (by omega) (by omega) (by omega) (s0 := tb (x0 + k)) e3 (by omega) hP
    · have hopb : ¬ opB (op 0) (tb (x0 + k)) = true := fun q => hop (of_decide_eq_true q)
      have hop0 : ((op 0 >>> ((tb (x0 + k) &&& 15) &&& 31)) &&& 1) = 0 := (bit_01 _).resolve_right hop
      rw [if_pos hop0, if_neg hopb, e1, List.flatMap_nil, List.append_nil]
      exact ⟨τ, rfl, hP⟩
