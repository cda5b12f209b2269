-- THE CLASS'S NUMBERS
theorem z0 : (0 : Int32) = nI 0 := rfl
theorem CN.bound {limb : Nat → Int32} {l : Int32} {v : Nat} (h : CN limb l v) : l = nI (nL v) := h.1
theorem CN.dgs {limb : Nat → Int32} {l : Int32} {v : Nat} (h : CN limb l v) {i : Nat} (hi : i < nL v) : limb i = nI (dg v i) := h.2 i hi
theorem trimL_ok {limb : Nat → Int32} {v : Nat} : ∀ (k f : Nat), k ≤ 40 → k < f → v < Bp k → (∀ i, i < k → limb i = nI (dg v i)) → Natural_trim_L7 limb f (nI k - 1) (nI k) = some (nI (nL v)) := by
  intro k
  induction k with
  | zero =>
    intro f _ hf hv _
    obtain ⟨f, rfl⟩ : ∃ z, f = z + 1 := ⟨f - 1, by omega⟩
    rw [Natural_trim_L7, if_pos m1_lt0]
    have : v = 0 := by rw [Bp_0] at hv; omega
    rw [this, nL_0]
  | succ k ih =>
    intro f hk hf hv hd
    obtain ⟨f, rfl⟩ : ∃ z, f = z + 1 := ⟨f - 1, by omega⟩
    rw [Natural_trim_L7, nI_pred, if_neg (by simp (disch := omega) only [z0, nI_leI, nI_ltI, nI_eq, nI_1, nI_add, pk_mul, nI_clamp]; omega), gd_ix (by omega) (by omega), nI_clamp (by omega), hd k (by omega)]
    have hb := dg_lt v k
    by_cases h : dg v k = 0
    · rw [if_pos (by rw [h]; rfl), dec1]
      refine ih f (by omega) (by omega) ?_ (fun i hi => hd i (by omega))
      have := Nat.mod_eq_of_lt hv
      rw [dg_S, h, Nat.mul_zero, Nat.add_zero] at this
      rw [← this]
      exact Nat.mod_lt _ (Bp_pos k)
    · rw [if_neg (by simp (disch := omega) only [z0, nI_leI, nI_ltI, nI_eq, nI_1, nI_add, pk_mul, nI_clamp]; omega)]
      have h1 : nL v ≤ k + 1 := nL_le.mpr hv
      have h2 : ¬ nL v ≤ k := fun q => h (dg_ge q)
      rw [show nL v = k + 1 by omega]
theorem trim_ok {limb : Nat → Int32} {v k N : Nat} (hN : 100 ≤ N) (hk : k ≤ 40) (hv : v < Bp k) (hd : ∀ i, i < k → limb i = nI (dg v i)) : F_Natural_trim N (nI k) limb = some (nI (nL v)) := by
  unfold F_Natural_trim
  rw [trimL_ok k N hk (by omega) hv hd]
  rfl
theorem put_ok {limb : Nat → Int32} {v : Nat} (hv : v < 2 ^ 30) : ∃ (l : Int32) (b : Nat → Int32), F_Natural_put (nI v) limb = some (l, b) ∧ CN b l v := by
  unfold F_Natural_put
  by_cases h : v = 0
  · rw [if_pos (by rw [h]; rfl)]
    exact ⟨_, _, rfl, by rw [h, nL_0]; rfl, fun i hi => by rw [h, nL_0] at hi; omega⟩
  · rw [if_neg (by simp (disch := omega) only [z0, nI_leI, nI_ltI, nI_eq, nI_1, nI_add, pk_mul, nI_clamp]; omega)]
    have e : nL v = 1 := by
      have h1 : nL v ≤ 1 := nL_le.mpr hv
      have h2 : nL v ≠ 0 := fun q => h (nL_eq0.mp q)
      omega
    refine ⟨_, _, rfl, by rw [e]; rfl, fun i hi => ?_⟩
    rw [show i = 0 by omega, pk_us, dg_small hv]
theorem copy_ok {limb limb2 : Nat → Int32} {l : Int32} {v : Nat} (h : CN limb2 l v) (hv : nL v ≤ 40) : ∃ (l' : Int32) (b : Nat → Int32), F_Natural_copyFrom limb l limb2 = some (l', b) ∧ CN b l' v := by
  unfold F_Natural_copyFrom
  have e : cpb (0 : Int32) (0 : Int32) l 40 40 = true := by
    unfold cpb
    rw [h.1, show (0 : Int32) = nI 0 from rfl]
    simp (disch := omega) only [nI_leI, nI_ltI, nI_eq, nI_1, nI_add, pk_mul, nI_clamp, nI_clamp]
    simp
    omega
  rw [e, gd_t]
  refine ⟨_, _, rfl, h.1, fun i hi => ?_⟩
  rw [h.1, nI_clamp (by omega), sb_cpy0 hi]
  exact h.2 i hi
theorem mulL_ok {limb : Nat → Int32} {v n c : Nat} (hn : n ≤ 40) (hc : c < 2 ^ 30) (hd : ∀ i, i < n → limb i = nI (dg v i)) : ∀ N, n < N → ∃ (r : Int64 × (Nat → Int32)), Natural_multiply_L5 (nI n) (nI c) N 0 0 limb = some r ∧ r.1 = lN (cy c v 0 0 n) ∧ (∀ i, i < n → r.2 i = nI (dg (c * v) i)) := by
  intro N hN
  have := lpI (L := fun f j (s : Nat → Int32) => Natural_multiply_L5 (nI n) (nI c) f (lN (cy c v 0 0 j)) (nI j) s) (n := n)
    (fun j s => (∀ i, i < j → s i = nI (dg (c * v) i)) ∧ (∀ i, j ≤ i → s i = limb i))
    (fun r => r.1 = lN (cy c v 0 0 n) ∧ (∀ i, i < n → r.2 i = nI (dg (c * v) i))) ?_ ?_ n N 0 limb (by omega) hN ⟨fun i hi => by omega, fun i _ => rfl⟩
  · rw [cy_0] at this
    exact this
  · intro f j s hj hi
    right
    have hb := dg_lt v j
    have hy := cy_le c v 0 0 j
    have hm : c * dg v j ≤ 2 ^ 30 * 2 ^ 30 := Nat.mul_le_mul (by omega) (by omega)
    have e1 : lN (cy c v 0 0 j) + (nI (dg v j)).toInt64 * (nI c).toInt64 = lN (c * dg v j + 0 * dg 0 j + cy c v 0 0 j) := by
      rw [nIL (by omega), nIL (by omega), lN_mul, lN_add, Nat.mul_comm (dg v j), Nat.zero_mul, Nat.add_zero, Nat.add_comm]
    refine ⟨upd s j (nI (dg (c * v) j)), ?_, ?_, ?_⟩
    · show Natural_multiply_L5 (nI n) (nI c) (f + 1) (lN (cy c v 0 0 j)) (nI j) s = Natural_multiply_L5 (nI n) (nI c) f (lN (cy c v 0 0 (j + 1))) (nI (j + 1)) _
      rw [Natural_multiply_L5, if_neg (by simp (disch := omega) only [nI_leI, nI_ltI, nI_eq, nI_1, nI_add, pk_mul, nI_clamp]; omega), gd_ix (by omega) (by omega), nI_clamp (by omega), hi.2 j (by omega), hd j hj, e1, jshr30 (by omega), cy_S, msk30 (by omega), cy_D, lN_i, nI_1, Nat.zero_mul, Nat.add_zero (c * v)]
    · intro i hij
      by_cases h : i = j
      · rw [h, pk_us]
      · rw [pk_un h]; exact hi.1 i (by omega)
    · intro i hij
      rw [pk_un (by omega)]; exact hi.2 i (by omega)
  · intro f s hi
    refine ⟨(lN (cy c v 0 0 n), s), ?_, rfl, hi.1⟩
    show Natural_multiply_L5 (nI n) (nI c) (f + 1) (lN (cy c v 0 0 n)) (nI n) s = _
    rw [Natural_multiply_L5, if_pos (by simp (disch := omega) only [nI_leI, nI_ltI, nI_eq, nI_1, nI_add, pk_mul, nI_clamp]; omega)]
theorem multiply_ok {limb : Nat → Int32} {l : Int32} {v c N : Nat} (hN : 100 ≤ N) (h : CN limb l v) (h1 : 1 ≤ c) (hc : c < 2 ^ 30) (hb : c * v < Bp 40) : ∃ (l' : Int32) (b : Nat → Int32), F_Natural_multiply N (nI c) l limb = some (l', b) ∧ CN b l' (c * v) := by
  have hv : v ≤ c * v := Nat.le_mul_of_pos_left _ h1
  have hn : nL v ≤ 40 := nL_le.mpr (by omega)
  unfold F_Natural_multiply
  rw [h.1]
  obtain ⟨⟨x, b⟩, e, e1, e2⟩ := mulL_ok hn hc h.2 N (by omega)
  dsimp only at e1 e2
  rw [e, bO_s, e1]
  have hs := nL_self v
  have et : cy c v 0 0 (nL v) = c * v / Bp (nL v) := by rw [cy_T hs (Bp_pos _), Nat.zero_mul, Nat.add_zero]
  have hy := cy_le c v 0 0 (nL v)
  show ∃ l' b', (if lg_cmp (lN (cy c v 0 0 (nL v))) 0 ≤ 0 then _ else _) = _ ∧ _
  by_cases h0 : cy c v 0 0 (nL v) = 0
  · rw [if_pos ((lN_le0 (by omega)).mpr h0)]
    have hl : c * v < Bp (nL v) := by
      rw [et] at h0
      exact (Nat.div_eq_zero_iff_lt (Bp_pos _)).mp h0
    have e3 : nL (c * v) = nL v := Nat.le_antisymm (nL_le.mpr hl) (nL_mono hv)
    exact ⟨_, _, rfl, by rw [e3], fun i hi => e2 i (by omega)⟩
  · rw [if_neg (fun q => h0 ((lN_le0 (by omega)).mp q))]
    have hl : ¬ c * v < Bp (nL v) := fun q => h0 (by rw [et]; exact Nat.div_eq_of_lt q)
    have h4 : nL v < 40 := by
      apply Nat.lt_of_not_le
      intro q
      have := Bp_mono q
      omega
    rw [if_neg (by simp (disch := omega) only [k40, nI_leI, nI_ltI, nI_eq, nI_1, nI_add, pk_mul, nI_clamp]; omega), gd_ix (by omega) (by omega), nI_clamp (by omega), nI_1, lN_i]
    have e5 : cy c v 0 0 (nL v) = dg (c * v) (nL v) := by
      have := cy_D c v 0 0 (nL v)
      rw [dg_ge (Nat.le_refl _), Nat.mul_zero, Nat.zero_mul, Nat.zero_mul, Nat.add_zero, Nat.zero_add, Nat.add_zero (c * v)] at this
      rw [← this, Nat.mod_eq_of_lt (by omega)]
    have e3 : nL (c * v) = nL v + 1 := by
      apply Nat.le_antisymm
      · apply nL_le.mpr
        rw [Bp_S]
        rw [et] at hy
        have : c * v / Bp (nL v) < 2 ^ 30 := by omega
        rw [Nat.div_lt_iff_lt_mul (Bp_pos _)] at this
        rw [Nat.mul_comm (Bp (nL v))]; exact this
      · apply Nat.lt_of_not_le
        intro q
        exact hl (nL_le.mp q)
    refine ⟨_, _, rfl, by rw [e3], fun i hi => ?_⟩
    by_cases hin : i = nL v
    · rw [hin, pk_us, e5]
    · rw [pk_un hin]; exact e2 i (by omega)
