/-! the script's length stays -/
def KL (L : Nat) (σ : rS) : Prop := 3 ≤ rN σ ∧ (rK σ 2).2 = L
def Hk (L : Nat) {R : Type} (W : R → rS) (p : Option R) : Prop := ∀ r, p = some r → KL L (W r)
theorem KL_N {L : Nat} {σ : rS} {q : Nat × Nat} (h : KL L σ) : KL L (wN σ q) := by
  refine ⟨Nat.le_succ_of_le h.1, ?_⟩
  show (va_up (rK σ) (rN σ) q 2).2 = L
  rw [up_at, if_neg (by have := h.1; omega)]
  exact h.2
theorem KL_I {L : Nat} {σ : rS} {a k : Nat} {v : Int32} (h : KL L σ) : KL L (wI σ a k v) := h
theorem KL_R {L : Nat} {σ : rS} {a k : Nat} {v : Nat} (h : KL L σ) : KL L (wR σ a k v) := h
theorem Hk_none {L : Nat} {R : Type} {W : R → rS} : Hk L W none := fun _ h => by cases h
theorem Hk_some {L : Nat} {R : Type} {W : R → rS} {r : R} (h : KL L (W r)) : Hk L W (some r) := fun _ e => by cases e; exact h
theorem Hk_ite {L : Nat} {R : Type} {W : R → rS} {c : Prop} [Decidable c] {A B : Option R} (h1 : c → Hk L W A) (h2 : ¬ c → Hk L W B) : Hk L W (if c then A else B) := by
  by_cases h : c
  · rw [if_pos h]; exact h1 h
  · rw [if_neg h]; exact h2 h
theorem Hk_letW {L : Nat} {R : Type} {W : R → rS} {v : rS} {f : rS → Option R} (h : KL L v) (g : ∀ σ, KL L σ → Hk L W (f σ)) : Hk L W (oLet v f) := g v h
theorem Hk_let {L : Nat} {R α : Type} {W : R → rS} {v : α} {f : α → Option R} (g : ∀ x, Hk L W (f x)) : Hk L W (oLet v f) := g v
theorem Hk_oB {L : Nat} {R T : Type} {W : R → rS} {f : Option (T × rS)} {g : T → rS → Option R} (h : Hk L Prod.snd f) (k : ∀ v σ, KL L σ → Hk L W (g v σ)) : Hk L W (oB f g) := fun r e => by
  cases f with
  | none => cases e
  | some q => exact k q.1 q.2 (h q rfl) r e
theorem Hk_bind {L : Nat} {R α : Type} {W : R → rS} {x : Option α} {g : α → Option R} (k : ∀ v, Hk L W (g v)) : Hk L W (x.bind g) := fun r e => by
  cases x with
  | none => cases e
  | some q => exact k q r e
theorem Hk_joinW {L : Nat} {R : Type} {W : R → rS} {m : Option (R ⊕ rS)} {g : rS → Option R} (h : Hk L (Sum.elim W id) m) (k : ∀ σ, KL L σ → Hk L W (g σ)) : Hk L W (oJoin m g) := fun r e => by
  cases m with
  | none => cases e
  | some q =>
    cases q with
    | inl x => cases e; exact h _ rfl
    | inr s => exact k s (h _ rfl) r e
theorem Hk_loop {L : Nat} {R S : Type} {W : R → rS} {Ws : S → rS} {body : S → Option (R ⊕ S)} (h : ∀ s, KL L (Ws s) → Hk L (Sum.elim W Ws) (body s)) : ∀ {n : Nat} {s : S}, KL L (Ws s) → Hk L W (oLoop body n s) := by
  intro n
  induction n with
  | zero => exact fun _ r e => by cases e
  | succ n ih =>
    intro s h0 r e
    have hb := h s h0
    cases hx : body s with
    | none => rw [oLoop, hx] at e; cases e
    | some q =>
      cases q with
      | inl x => rw [oLoop_l hx] at e; cases e; exact hb _ hx
      | inr s' => rw [oLoop_r hx] at e; exact ih (hb _ hx) r e
theorem k_a18 {L : Nat} {σ : rS} {t : Nat} {p3 p4 p5 x1 s : Int32} (h : KL L σ) : Hk L (Sum.elim Prod.snd (fun _ => σ)) (b_X8_addStep_18 σ t p3 p4 p5 x1 s) := by
  unfold b_X8_addStep_18
  with_reducible repeat' (first | assumption | refine Hk_ite (fun _ => ?_) (fun _ => ?_) | exact Hk_none | refine Hk_joinW ?_ (fun _ _ => ?_) | refine Hk_oB ?_ (fun _ _ _ => ?_) | refine Hk_bind (fun _ => ?_) | (refine Hk_some ?_; dsimp only [Sum.elim_inl, Sum.elim_inr, id_eq]) | refine Hk_some ?_ | refine KL_N ?_ | refine KL_I ?_ | refine KL_R ?_)
theorem k_a {L : Nat} {σ : rS} {t : Nat} {p1 p2 p3 p4 p5 : Int32} (h : KL L σ) : Hk L Prod.snd (f_X8_addStep σ t p1 p2 p3 p4 p5) := by
  unfold f_X8_addStep
  exact Hk_loop (Ws := fun _ => σ) (fun _ _ => k_a18 h) h
theorem k_fs {L : Nat} {σ : rS} {t : Nat} {p1 p2 p3 p4 : Int32} (h : KL L σ) : Hk L Prod.snd (f_X8_fillSteps σ t p1 p2 p3 p4) := by
  unfold f_X8_fillSteps
  with_reducible repeat' (first | assumption | refine Hk_ite (fun _ => ?_) (fun _ => ?_) | exact Hk_none | refine k_a ?_ | refine Hk_joinW ?_ (fun _ _ => ?_) | refine Hk_oB ?_ (fun _ _ _ => ?_) | refine Hk_bind (fun _ => ?_) | (refine Hk_some ?_; dsimp only [Sum.elim_inl, Sum.elim_inr, id_eq]) | refine Hk_some ?_ | refine KL_N ?_ | refine KL_I ?_ | refine KL_R ?_)
theorem k_53 {L : Nat} {t : Nat} {s12 s : Int32 × rS} (h : KL L s.2) : Hk L (Sum.elim (Sum.elim (Sum.elim Prod.snd id) Prod.snd) Prod.snd) (b_X8_init_53 t s12 s) := by
  unfold b_X8_init_53
  with_reducible repeat' (first | assumption | refine Hk_ite (fun _ => ?_) (fun _ => ?_) | exact Hk_none | refine k_fs ?_ | refine Hk_joinW ?_ (fun _ _ => ?_) | refine Hk_oB ?_ (fun _ _ _ => ?_) | refine Hk_bind (fun _ => ?_) | (refine Hk_some ?_; dsimp only [Sum.elim_inl, Sum.elim_inr, id_eq]) | refine Hk_some ?_ | refine KL_N ?_ | refine KL_I ?_ | refine KL_R ?_)
theorem k_46 {L : Nat} {t : Nat} {p1 : Int32} {s : Int32 × rS} (h : KL L s.2) : Hk L (Sum.elim (Sum.elim Prod.snd id) Prod.snd) (b_X8_init_46 t p1 s) := by
  unfold b_X8_init_46
  with_reducible repeat' (first | assumption | refine Hk_ite (fun _ => ?_) (fun _ => ?_) | exact Hk_none | refine Hk_loop (Ws := Prod.snd) (fun _ h => k_53 h) ?_ | refine Hk_joinW ?_ (fun _ _ => ?_) | refine Hk_oB ?_ (fun _ _ _ => ?_) | refine Hk_bind (fun _ => ?_) | (refine Hk_some ?_; dsimp only [Sum.elim_inl, Sum.elim_inr, id_eq]) | refine Hk_some ?_ | refine KL_N ?_ | refine KL_I ?_ | refine KL_R ?_)
theorem k_93 {L : Nat} {t : Nat} {p1 : Int32} {s : Int32 × rS} (h : KL L s.2) : Hk L (Sum.elim (Sum.elim Prod.snd id) Prod.snd) (b_X8_init_93 t p1 s) := by
  unfold b_X8_init_93
  with_reducible repeat' (first | assumption | refine Hk_ite (fun _ => ?_) (fun _ => ?_) | exact Hk_none | refine Hk_joinW ?_ (fun _ _ => ?_) | refine Hk_oB ?_ (fun _ _ _ => ?_) | refine Hk_bind (fun _ => ?_) | (refine Hk_some ?_; dsimp only [Sum.elim_inl, Sum.elim_inr, id_eq]) | refine Hk_some ?_ | refine KL_N ?_ | refine KL_I ?_ | refine KL_R ?_)
theorem k_146 {L : Nat} {t : Nat} {s : Int32 × rS} (h : KL L s.2) : Hk L (Sum.elim (Sum.elim Prod.snd id) Prod.snd) (b_X8_init_146 t s) := by
  unfold b_X8_init_146
  with_reducible repeat' (first | assumption | refine Hk_ite (fun _ => ?_) (fun _ => ?_) | exact Hk_none | refine Hk_joinW ?_ (fun _ _ => ?_) | refine Hk_oB ?_ (fun _ _ _ => ?_) | refine Hk_bind (fun _ => ?_) | (refine Hk_some ?_; dsimp only [Sum.elim_inl, Sum.elim_inr, id_eq]) | refine Hk_some ?_ | refine KL_N ?_ | refine KL_I ?_ | refine KL_R ?_)
theorem k_197 {L : Nat} {t : Nat} {s : Int32 × rS} (h : KL L s.2) : Hk L (Sum.elim Prod.snd Prod.snd) (b_X8_init_197 t s) := by
  unfold b_X8_init_197
  with_reducible repeat' (first | assumption | refine Hk_ite (fun _ => ?_) (fun _ => ?_) | exact Hk_none | refine Hk_joinW ?_ (fun _ _ => ?_) | refine Hk_oB ?_ (fun _ _ _ => ?_) | refine Hk_bind (fun _ => ?_) | (refine Hk_some ?_; dsimp only [Sum.elim_inl, Sum.elim_inr, id_eq]) | refine Hk_some ?_ | refine KL_N ?_ | refine KL_I ?_ | refine KL_R ?_)
theorem k_X8 {L : Nat} {σ : rS} {t : Nat} {p1 : Int32} (h : KL L σ) : Hk L Prod.snd (f_X8_init σ t p1) := by
  unfold f_X8_init
  with_reducible repeat' (first | assumption | refine Hk_ite (fun _ => ?_) (fun _ => ?_) | exact Hk_none | refine k_fs ?_ | refine Hk_loop (Ws := Prod.snd) (fun _ h => k_46 h) ?_ | refine Hk_loop (Ws := Prod.snd) (fun _ h => k_93 h) ?_ | refine Hk_loop (Ws := Prod.snd) (fun _ h => k_146 h) ?_ | refine Hk_loop (Ws := Prod.snd) (fun _ h => k_197 h) ?_ | refine Hk_joinW ?_ (fun _ _ => ?_) | refine Hk_oB ?_ (fun _ _ _ => ?_) | refine Hk_bind (fun _ => ?_) | (refine Hk_some ?_; dsimp only [Sum.elim_inl, Sum.elim_inr, id_eq]) | refine Hk_some ?_ | refine KL_N ?_ | refine KL_I ?_ | refine KL_R ?_)
theorem k_X5_init {L : Nat} {σ : rS} (h : KL L σ) : Hk L Prod.snd (f_X5_init σ) := by
  unfold f_X5_init
  with_reducible repeat' (first | assumption | refine Hk_ite (fun _ => ?_) (fun _ => ?_) | exact Hk_none | refine Hk_joinW ?_ (fun _ _ => ?_) | refine Hk_oB ?_ (fun _ _ _ => ?_) | refine Hk_bind (fun _ => ?_) | (refine Hk_some ?_; dsimp only [Sum.elim_inl, Sum.elim_inr, id_eq]) | refine Hk_some ?_ | refine KL_N ?_ | refine KL_I ?_ | refine KL_R ?_)
theorem k_X1_init_5 {L : Nat} {σ : rS} (h : KL L σ) : Hk L Prod.snd (f_X1_init_5 σ) := by
  unfold f_X1_init_5
  with_reducible repeat' (first | assumption | refine Hk_ite (fun _ => ?_) (fun _ => ?_) | exact Hk_none | refine Hk_joinW ?_ (fun _ _ => ?_) | refine Hk_oB ?_ (fun _ _ _ => ?_) | refine Hk_bind (fun _ => ?_) | (refine Hk_some ?_; dsimp only [Sum.elim_inl, Sum.elim_inr, id_eq]) | refine Hk_some ?_ | refine KL_N ?_ | refine KL_I ?_ | refine KL_R ?_)
theorem k_X1_init_12 {L : Nat} {σ : rS} (h : KL L σ) : Hk L Prod.snd (f_X1_init_12 σ) := by
  unfold f_X1_init_12
  with_reducible repeat' (first | assumption | refine Hk_ite (fun _ => ?_) (fun _ => ?_) | exact Hk_none | refine Hk_joinW ?_ (fun _ _ => ?_) | refine Hk_oB ?_ (fun _ _ _ => ?_) | refine Hk_bind (fun _ => ?_) | (refine Hk_some ?_; dsimp only [Sum.elim_inl, Sum.elim_inr, id_eq]) | refine Hk_some ?_ | refine KL_N ?_ | refine KL_I ?_ | refine KL_R ?_)
theorem k_X6_init {L : Nat} {σ : rS} (h : KL L σ) : Hk L Prod.snd (f_X6_init σ) := by
  unfold f_X6_init
  with_reducible repeat' (first | assumption | refine Hk_ite (fun _ => ?_) (fun _ => ?_) | exact Hk_none | refine Hk_joinW ?_ (fun _ _ => ?_) | refine Hk_oB ?_ (fun _ _ _ => ?_) | refine Hk_bind (fun _ => ?_) | (refine Hk_some ?_; dsimp only [Sum.elim_inl, Sum.elim_inr, id_eq]) | refine Hk_some ?_ | refine KL_N ?_ | refine KL_I ?_ | refine KL_R ?_)
theorem k_X7_init {L : Nat} {σ : rS} (h : KL L σ) : Hk L Prod.snd (f_X7_init σ) := by
  unfold f_X7_init
  with_reducible repeat' (first | assumption | refine Hk_ite (fun _ => ?_) (fun _ => ?_) | exact Hk_none | refine Hk_joinW ?_ (fun _ _ => ?_) | refine Hk_oB ?_ (fun _ _ _ => ?_) | refine Hk_bind (fun _ => ?_) | (refine Hk_some ?_; dsimp only [Sum.elim_inl, Sum.elim_inr, id_eq]) | refine Hk_some ?_ | refine KL_N ?_ | refine KL_I ?_ | refine KL_R ?_)
theorem k_X2_init {L : Nat} {σ : rS} (h : KL L σ) : Hk L Prod.snd (f_X2_init σ) := by
  unfold f_X2_init
  with_reducible repeat' (first | assumption | refine Hk_ite (fun _ => ?_) (fun _ => ?_) | exact Hk_none | refine Hk_joinW ?_ (fun _ _ => ?_) | refine Hk_oB ?_ (fun _ _ _ => ?_) | refine Hk_bind (fun _ => ?_) | (refine Hk_some ?_; dsimp only [Sum.elim_inl, Sum.elim_inr, id_eq]) | refine Hk_some ?_ | refine KL_N ?_ | refine KL_I ?_ | refine KL_R ?_)
theorem k_X3_init_51 {L : Nat} {σ : rS} (h : KL L σ) : Hk L Prod.snd (f_X3_init_51 σ) := by
  unfold f_X3_init_51
  with_reducible repeat' (first | assumption | refine Hk_ite (fun _ => ?_) (fun _ => ?_) | exact Hk_none | refine Hk_joinW ?_ (fun _ _ => ?_) | refine Hk_oB ?_ (fun _ _ _ => ?_) | refine Hk_bind (fun _ => ?_) | (refine Hk_some ?_; dsimp only [Sum.elim_inl, Sum.elim_inr, id_eq]) | refine Hk_some ?_ | refine KL_N ?_ | refine KL_I ?_ | refine KL_R ?_)
theorem k_X3_init_55 {L : Nat} {σ : rS} (h : KL L σ) : Hk L Prod.snd (f_X3_init_55 σ) := by
  unfold f_X3_init_55
  with_reducible repeat' (first | assumption | refine Hk_ite (fun _ => ?_) (fun _ => ?_) | exact Hk_none | refine Hk_joinW ?_ (fun _ _ => ?_) | refine Hk_oB ?_ (fun _ _ _ => ?_) | refine Hk_bind (fun _ => ?_) | (refine Hk_some ?_; dsimp only [Sum.elim_inl, Sum.elim_inr, id_eq]) | refine Hk_some ?_ | refine KL_N ?_ | refine KL_I ?_ | refine KL_R ?_)
theorem k_X4_init {L : Nat} {σ : rS} (h : KL L σ) : Hk L Prod.snd (f_X4_init σ) := by
  unfold f_X4_init
  with_reducible repeat' (first | assumption | refine Hk_ite (fun _ => ?_) (fun _ => ?_) | exact Hk_none | refine Hk_joinW ?_ (fun _ _ => ?_) | refine Hk_oB ?_ (fun _ _ _ => ?_) | refine Hk_bind (fun _ => ?_) | (refine Hk_some ?_; dsimp only [Sum.elim_inl, Sum.elim_inr, id_eq]) | refine Hk_some ?_ | refine KL_N ?_ | refine KL_I ?_ | refine KL_R ?_)
theorem k_X9_init {L : Nat} {σ : rS} (h : KL L σ) : Hk L Prod.snd (f_X9_init σ) := by
  unfold f_X9_init
  with_reducible repeat' (first | assumption | refine Hk_ite (fun _ => ?_) (fun _ => ?_) | exact Hk_none | refine k_X8 ?_ | refine k_X3_init_51 ?_ | refine k_X3_init_55 ?_ | refine Hk_joinW ?_ (fun _ _ => ?_) | refine Hk_oB ?_ (fun _ _ _ => ?_) | refine Hk_bind (fun _ => ?_) | (refine Hk_some ?_; dsimp only [Sum.elim_inl, Sum.elim_inr, id_eq]) | refine Hk_some ?_ | refine KL_N ?_ | refine KL_I ?_ | refine KL_R ?_)
theorem k_X10_init {L : Nat} {σ : rS} (h : KL L σ) : Hk L Prod.snd (f_X10_init σ) := by
  unfold f_X10_init
  with_reducible repeat' (first | assumption | refine Hk_ite (fun _ => ?_) (fun _ => ?_) | exact Hk_none | refine k_X5_init ?_ | refine k_X1_init_5 ?_ | refine k_X1_init_12 ?_ | refine k_X6_init ?_ | refine k_X7_init ?_ | refine k_X2_init ?_ | refine k_X9_init ?_ | refine k_X4_init ?_ | refine Hk_joinW ?_ (fun _ _ => ?_) | refine Hk_oB ?_ (fun _ _ _ => ?_) | refine Hk_bind (fun _ => ?_) | (refine Hk_some ?_; dsimp only [Sum.elim_inl, Sum.elim_inr, id_eq]) | refine Hk_some ?_ | refine KL_N ?_ | refine KL_I ?_ | refine KL_R ?_)
theorem k_u22 {L : Nat} {s2 s4 s : Int32 × rS} (h : KL L s.2) : Hk L (Sum.elim (Sum.elim (Sum.elim (Sum.elim Prod.snd Prod.snd) Prod.snd) id) Prod.snd) (b_X11_laysUses_c_22 s2 s4 s) := by
  unfold b_X11_laysUses_c_22
  with_reducible repeat' (first | assumption | refine Hk_ite (fun _ => ?_) (fun _ => ?_) | exact Hk_none | refine Hk_joinW ?_ (fun _ _ => ?_) | refine Hk_oB ?_ (fun _ _ _ => ?_) | refine Hk_bind (fun _ => ?_) | (refine Hk_some ?_; dsimp only [Sum.elim_inl, Sum.elim_inr, id_eq]) | refine Hk_some ?_ | refine KL_N ?_ | refine KL_I ?_ | refine KL_R ?_)
theorem k_u15 {L : Nat} {s2 s : Int32 × rS} (h : KL L s.2) : Hk L (Sum.elim (Sum.elim Prod.snd Prod.snd) Prod.snd) (b_X11_laysUses_c_15 s2 s) := by
  unfold b_X11_laysUses_c_15
  with_reducible repeat' (first | assumption | refine Hk_ite (fun _ => ?_) (fun _ => ?_) | exact Hk_none | refine Hk_loop (Ws := Prod.snd) (fun _ h => k_u22 h) ?_ | refine Hk_joinW ?_ (fun _ _ => ?_) | refine Hk_oB ?_ (fun _ _ _ => ?_) | refine Hk_bind (fun _ => ?_) | (refine Hk_some ?_; dsimp only [Sum.elim_inl, Sum.elim_inr, id_eq]) | refine Hk_some ?_ | refine KL_N ?_ | refine KL_I ?_ | refine KL_R ?_)
theorem k_u7 {L : Nat} {s : Int32 × rS} (h : KL L s.2) : Hk L (Sum.elim Prod.snd Prod.snd) (b_X11_laysUses_c_7 s) := by
  unfold b_X11_laysUses_c_7
  with_reducible repeat' (first | assumption | refine Hk_ite (fun _ => ?_) (fun _ => ?_) | exact Hk_none | refine Hk_loop (Ws := Prod.snd) (fun _ h => k_u15 h) ?_ | refine Hk_joinW ?_ (fun _ _ => ?_) | refine Hk_oB ?_ (fun _ _ _ => ?_) | refine Hk_bind (fun _ => ?_) | (refine Hk_some ?_; dsimp only [Sum.elim_inl, Sum.elim_inr, id_eq]) | refine Hk_some ?_ | refine KL_N ?_ | refine KL_I ?_ | refine KL_R ?_)
theorem k_u {L : Nat} {σ : rS} (h : KL L σ) : Hk L Prod.snd (f_X11_laysUses_c σ) := by
  unfold f_X11_laysUses_c
  with_reducible repeat' (first | assumption | refine Hk_ite (fun _ => ?_) (fun _ => ?_) | exact Hk_none | refine Hk_loop (Ws := Prod.snd) (fun _ h => k_u7 h) ?_ | refine Hk_joinW ?_ (fun _ _ => ?_) | refine Hk_oB ?_ (fun _ _ _ => ?_) | refine Hk_bind (fun _ => ?_) | (refine Hk_some ?_; dsimp only [Sum.elim_inl, Sum.elim_inr, id_eq]) | refine Hk_some ?_ | refine KL_N ?_ | refine KL_I ?_ | refine KL_R ?_)
theorem k_r415 {L : Nat} {s100 s : Int32 × Int32 × rS} (h : KL L s.2.2) : Hk L (Sum.elim (Sum.elim Prod.snd (fun s : Int32 × Int32 × rS => s.2.2)) (fun s : Int32 × Int32 × rS => s.2.2)) (b_X11_init_415 s100 s) := by
  unfold b_X11_init_415
  with_reducible repeat' (first | assumption | refine Hk_ite (fun _ => ?_) (fun _ => ?_) | exact Hk_none | refine Hk_joinW ?_ (fun _ _ => ?_) | refine Hk_oB ?_ (fun _ _ _ => ?_) | refine Hk_bind (fun _ => ?_) | (refine Hk_some ?_; dsimp only [Sum.elim_inl, Sum.elim_inr, id_eq]) | refine Hk_some ?_ | refine KL_N ?_ | refine KL_I ?_ | refine KL_R ?_)
theorem k_r401 {L : Nat} {s : Int32 × Int32 × rS} (h : KL L s.2.2) : Hk L (Sum.elim Prod.snd (fun s : Int32 × Int32 × rS => s.2.2)) (b_X11_init_401 s) := by
  unfold b_X11_init_401
  with_reducible repeat' (first | assumption | refine Hk_ite (fun _ => ?_) (fun _ => ?_) | exact Hk_none | refine k_u ?_ | refine Hk_loop (Ws := (fun s : Int32 × Int32 × rS => s.2.2)) (fun _ h => k_r415 h) ?_ | refine Hk_joinW ?_ (fun _ _ => ?_) | refine Hk_oB ?_ (fun _ _ _ => ?_) | refine Hk_bind (fun _ => ?_) | (refine Hk_some ?_; dsimp only [Sum.elim_inl, Sum.elim_inr, id_eq]) | refine Hk_some ?_ | refine KL_N ?_ | refine KL_I ?_ | refine KL_R ?_)
theorem k_X11_init {L : Nat} {σ : rS} (h : KL L σ) : Hk L Prod.snd (f_X11_init σ) := by
  unfold f_X11_init
  with_reducible repeat' (first | assumption | refine Hk_ite (fun _ => ?_) (fun _ => ?_) | exact Hk_none | refine Hk_loop (Ws := (fun s : Int32 × Int32 × rS => s.2.2)) (fun _ h => k_r401 h) ?_ | refine Hk_joinW ?_ (fun _ _ => ?_) | refine Hk_oB ?_ (fun _ _ _ => ?_) | refine Hk_bind (fun _ => ?_) | (refine Hk_some ?_; dsimp only [Sum.elim_inl, Sum.elim_inr, id_eq]) | refine Hk_some ?_ | refine KL_N ?_ | refine KL_I ?_ | refine KL_R ?_)
theorem zt_len {L : Nat} {xs : Nat → Int32} {τ : rS} (h : zt (σ00 L xs) = some τ) : (rK τ 2).2 = L := by
  have h0 : KL L (σ00 L xs) := ⟨Nat.le_refl _, rfl⟩
  unfold zt at h
  cases e1 : f_X10_init (wN (σ00 L xs) (12, 0)) with
  | none => rw [e1] at h; cases h
  | some r1 =>
    have h1 : KL L r1.2 := k_X10_init (KL_N h0) r1 e1
    rw [e1, Option.bind_some] at h
    split at h
    · cases e2 : f_X11_init (wN r1.2 (13, 0)) with
      | none => rw [e2] at h; cases h
      | some r2 =>
        have h2 : KL L r2.2 := k_X11_init (KL_N h1) r2 e2
        rw [e2, Option.bind_some] at h
        split at h
        · cases h; exact (KL_N h2).2
        · cases h
    · cases h
