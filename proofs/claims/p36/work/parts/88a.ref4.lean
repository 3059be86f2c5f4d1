/-! the reference: goesOn's loops over options -/
theorem oL_rng {R : Type} {body : Int32 × rS → Option (R ⊕ (Int32 × rS))} (P : Nat → rS → Prop) {f N : Nat} (r : rS → R) (hs : ∀ k τ, k < N → P k τ → ∃ υ, body (nI (f + k), τ) = some (.inr (nI (f + (k + 1)), υ)) ∧ P (k + 1) υ) (he : ∀ τ, P N τ → body (nI (f + N), τ) = some (.inl (r τ))) {n : Nat} (hn : N < n) {σ : rS} (h0 : P 0 σ) : ∃ τ, oLoop body n (nI f, σ) = some (r τ) ∧ P N τ := by
  have key : ∀ d k n τ, k + d = N → d < n → P k τ → ∃ υ, oLoop body n (nI (f + k), τ) = some (r υ) ∧ P N υ := by
    intro d
    induction d with
    | zero =>
      intro k n τ hk hn hP
      obtain ⟨n, rfl⟩ : ∃ m, n = m + 1 := ⟨n - 1, by omega⟩
      have e : k = N := by omega
      subst e
      exact ⟨τ, oLoop_l (he τ hP), hP⟩
    | succ d ih =>
      intro k n τ hk hn hP
      obtain ⟨n, rfl⟩ : ∃ m, n = m + 1 := ⟨n - 1, by omega⟩
      obtain ⟨υ, h1, h2⟩ := hs k τ (by omega) hP
      rw [oLoop_r h1]
      exact ih (k + 1) n υ (by omega) (by omega) h2
  exact key N 0 n σ (by omega) hn h0
theorem or4_eq {a b c d : Nat} (ha : a < 16) (hb : b < 16) (hc : c < 16) (hd : d < 16) : (((nI a ||| (nI b <<< ((4 : Int32) &&& 31))) ||| (nI c <<< ((8 : Int32) &&& 31))) ||| (nI d <<< ((12 : Int32) &&& 31))) = nI (a + 16 * b + 256 * c + 4096 * d) := by
  rw [(nI_sh4 hb).1, (nI_sh4 hc).2.1, (nI_sh4 hd).2.2.1, nI_orp 4 (by omega), nI_orp 8 (by omega), nI_orp 12 (by omega)]
  congr 1
  omega
/-- a value goes on by so many sets -/
def vM (pl : Bool) (v : V3) (s : Nat) : V3 := (v.1, (if pl then v.2.1 else v.2.1 + (nI s).toInt64), (if pl then v.2.2 else v.2.2 + (nI s).toInt64))
def putsM (pl : Bool) (v : V3) (es : List (Nat × Nat)) (l : List (Nat × V3)) : List (Nat × V3) := es.foldl (fun l e => ins (mgM pl) l e.1 (vM pl v e.2)) l
theorem putsM_app (pl : Bool) (v : V3) (es es2 : List (Nat × Nat)) (l : List (Nat × V3)) : putsM pl v (es ++ es2) l = putsM pl v es2 (putsM pl v es l) := List.foldl_append
def e3M (g : Nat) (s3 : List (Nat × Nat)) (o0 o1 o2 : Nat × Nat) : List (Nat × Nat) := s3.map fun o3 => (o0.1 + 16 * o1.1 + 256 * o2.1 + 4096 * o3.1, g + o0.2 + o1.2 + o2.2 + o3.2)
def e2M (g : Nat) (s2 s3 : List (Nat × Nat)) (o0 o1 : Nat × Nat) : List (Nat × Nat) := s2.flatMap fun o2 => e3M g s3 o0 o1 o2
def e1M (g : Nat) (s1 s2 s3 : List (Nat × Nat)) (o0 : Nat × Nat) : List (Nat × Nat) := s1.flatMap fun o1 => e2M g s2 s3 o0 o1
def e0M (g : Nat) (s0 s1 s2 s3 : List (Nat × Nat)) : List (Nat × Nat) := s0.flatMap fun o0 => e1M g s1 s2 s3 o0
/-- the options of a colour stand from f on -/
def SgM (σ : rS) (c f : Nat) (s : List (Nat × Nat)) : Prop := (rI σ 112 c = nI f ∧ rI σ 113 c = nI (f + s.length) ∧ f + s.length ≤ 64) ∧ ∀ k o, s[k]? = some o → rI σ 110 (f + k) = nI o.1 ∧ rI σ 111 (f + k) = nI o.2 ∧ o.1 < 16
theorem SgM.fr {σ τ : rS} {c f : Nat} {s : List (Nat × Nat)} (H : SgM σ c f s) (F : FrM σ τ) : SgM τ c f s := by
  have q : ∀ x j, x ≠ 103 → x ≠ 104 → x ≠ 67 → rI τ x j = rI σ x j := fun x j a b d => F.2.2.2.1 x j a b (fun e => absurd e d)
  exact ⟨⟨(q 112 c (by decide) (by decide) (by decide)).trans H.1.1, (q 113 c (by decide) (by decide) (by decide)).trans H.1.2.1, H.1.2.2⟩, fun k o hk => ⟨(q 110 _ (by decide) (by decide) (by decide)).trans (H.2 k o hk).1, (q 111 _ (by decide) (by decide) (by decide)).trans (H.2 k o hk).2.1, (H.2 k o hk).2.2⟩⟩
theorem rg_le {f n k : Nat} (h : f + n ≤ 64) (hk : k < n) : ¬ nI (f + n) ≤ nI (f + k) := fun q => by
  have := (nI_leI (by omega) (by omega)).mp q
  omega
theorem rg_le2 {f n : Nat} (h : f + n ≤ 64) : nI (f + n) ≤ nI (f + n) := (nI_leI (by omega) (by omega)).mpr (Nat.le_refl _)
