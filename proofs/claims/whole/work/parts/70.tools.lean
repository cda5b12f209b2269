-- PURE TOOLS: loops with fuel, small numbers
/-- a counted loop, state and early end: by an invariant -/
theorem lpI {σ ρ : Type} {L : Nat → Nat → σ → Option ρ} {n : Nat} (I : Nat → σ → Prop) (R : ρ → Prop)
    (hs : ∀ f j s, j < n → I j s → (∃ r, L (f + 1) j s = some r ∧ R r) ∨ (∃ s', L (f + 1) j s = L f (j + 1) s' ∧ I (j + 1) s'))
    (he : ∀ f s, I n s → ∃ r, L (f + 1) n s = some r ∧ R r) : ∀ (d f j : Nat) (s : σ), j + d = n → d < f → I j s → ∃ r, L f j s = some r ∧ R r
  | 0, 0, _, _, _, h, _ => absurd h (Nat.not_lt_zero _)
  | 0, f + 1, j, s, hj, _, hi => by
    have : j = n := by omega
    subst this
    exact he f s hi
  | d + 1, 0, _, _, _, h, _ => absurd h (Nat.not_lt_zero _)
  | d + 1, f + 1, j, s, hj, hf, hi => by
    rcases hs f j s (by omega) hi with h | ⟨s', h1, h2⟩
    · exact h
    · rw [h1]
      exact lpI I R hs he d f (j + 1) s' (by omega) (by omega) h2
/-- a counted loop whose states are known -/
theorem lpE {ρ : Type} {L : Nat → Nat → Option ρ} {n : Nat} {r : ρ} (hs : ∀ f j, j < n → L (f + 1) j = L f (j + 1)) (he : ∀ f, L (f + 1) n = some r) : ∀ (d f j : Nat), j + d = n → d < f → L f j = some r
  | 0, 0, _, _, h => absurd h (Nat.not_lt_zero _)
  | 0, f + 1, j, hj, _ => by
    have : j = n := by omega
    subst this
    exact he f
  | d + 1, 0, _, _, h => absurd h (Nat.not_lt_zero _)
  | d + 1, f + 1, j, hj, hf => by
    rw [hs f j (by omega)]
    exact lpE hs he d f (j + 1) (by omega) (by omega)
theorem ix_ok {j n : Nat} (h : j < n) (hn : n < 2 ^ 31) : ixb (nI j) n = true := by
  simp only [ixb, Bool.and_eq_true, decide_eq_true_eq]
  exact ⟨nI_pos' (by omega), by rw [nI_clamp (by omega)]; exact h⟩
theorem gd_t {α : Type} {k : Option α} : gd true k = k := rfl
theorem gd_ix {α : Type} {j n : Nat} {k : Option α} (h : j < n) (hn : n < 2 ^ 31) : gd (ixb (nI j) n) k = k := by rw [ix_ok h hn]; rfl
theorem bO_s {α β : Type} {a : α} {k : α → Option β} : bO (some a) k = k a := rfl
theorem bT_l {α γ : Type} {a : γ} {k : α → Option γ} : bT (some (.inl a)) k = some a := rfl
theorem bT_r {α γ : Type} {a : α} {k : α → Option γ} : bT (some (.inr a)) k = k a := rfl
theorem bL_l {α γ δ : Type} {a : γ} {k : α → Option (γ ⊕ δ)} : bL (some (.inl a)) k = some (.inl a) := rfl
theorem bL_r {α γ δ : Type} {a : α} {k : α → Option (γ ⊕ δ)} : bL (some (.inr a)) k = k a := rfl
/-- within a range, or not -/
theorem sw_in {p : Int32} {a b : Nat} (ha : a < 2 ^ 31) (hb : b < 2 ^ 31) : (F_S_within p (nI a) (nI b) = 0 ∧ ¬ ∃ j, a ≤ j ∧ j ≤ b ∧ p = nI j) ∨ (F_S_within p (nI a) (nI b) = 1 ∧ ∃ j, a ≤ j ∧ j ≤ b ∧ p = nI j) := by
  unfold F_S_within
  have e1 := nI_toInt ha
  have e2 := nI_toInt hb
  by_cases h1 : p < nI a
  · rw [if_pos h1]
    refine Or.inl ⟨rfl, fun ⟨j, h2, h3, h4⟩ => ?_⟩
    subst h4
    rw [nI_ltI (by omega) ha] at h1
    omega
  · rw [if_neg h1]
    by_cases h2 : nI b < p
    · rw [if_pos h2]
      refine Or.inl ⟨rfl, fun ⟨j, h3, h4, h5⟩ => ?_⟩
      subst h5
      rw [nI_ltI hb (by omega)] at h2
      omega
    · rw [if_neg h2]
      rw [Int32.lt_iff_toInt_lt, e1] at h1
      rw [Int32.lt_iff_toInt_lt, e2] at h2
      refine Or.inr ⟨rfl, p.toInt.toNat, by omega, by omega, ?_⟩
      apply Int32.toInt_inj.mp
      rw [nI_toInt (by omega)]
      omega
