-- SUMS, DIFFERENCES, HALVES OF REGISTERS
theorem and30 {n : Nat} (h : n < 2 ^ 32) : nI n &&& 1073741823 = nI (n % 2 ^ 30) := pk_andN h 30 (by decide)
theorem nI_mod (n : Nat) : nI (n + 2 ^ 32) = nI n := by
  apply Int32.toBitVec_inj.mp
  show BitVec.ofNat 32 _ = BitVec.ofNat 32 _
  apply BitVec.eq_of_toNat_eq
  rw [BitVec.toNat_ofNat, BitVec.toNat_ofNat, Nat.add_mod_right]
theorem nI_subw {a b : Nat} (h : b ≤ 2 ^ 32) : nI a - nI b = nI (a + (2 ^ 32 - b)) := by
  have e : nI (a + (2 ^ 32 - b)) + nI b = nI a := by
    rw [nI_add, show a + (2 ^ 32 - b) + b = a + 2 ^ 32 by omega, nI_mod]
  rw [← e]
  grind
theorem Radds_ok {lm wd : Nat → Int32} {V : Nat → Option Nat} {r q u v N : Nat} (hN : 100 ≤ N) (h : RG lm wd V) (hu : V r = some u) (hv : V q = some v) (hne : r ≠ q) (hT : u + v < Bp 50) : ∃ lm' wd', F_R_adds N (nI r) (nI q) lm wd = some (lm', wd') ∧ RG lm' wd' (ru V r (u + v)) := by
  obtain ⟨hr, hru, hr3, hr4⟩ := h r u hu
  obtain ⟨hq, hqv, hq3, hq4⟩ := h q v hv
  obtain ⟨y, hy⟩ : ∃ y, y = max (nL u) (nL v) := ⟨_, rfl⟩
  have hyu : u < Bp y := nL_le.mp (by omega)
  have hyv : v < Bp y := nL_le.mp (by omega)
  unfold F_R_adds
  rw [gd_ix hr (by omega), gd_ix hq (by omega), nI_clamp (by omega), nI_clamp (by omega), hr3, hq3]
  have ey : (if nI (nL u) ≤ nI (nL v) then some (nI (nL v)) else some (nI (nL u))) = some (nI y) := by
    by_cases z : nL u ≤ nL v
    · rw [if_pos (by simp (disch := omega) only [nI_leI, nI_ltI, nI_eq, nI_1, nI_add, pk_mul, nI_clamp]; omega), show y = nL v by omega]
    · rw [if_neg (by simp (disch := omega) only [nI_leI, nI_ltI, nI_eq, nI_1, nI_add, pk_mul, nI_clamp]; omega), show y = nL u by omega]
  rw [ey, bO_s]
  have := lpI (L := fun f j (s : Nat → Int32) => R_adds_L37 (nI y) (nI r) (nI q) f (nI (cy 1 u 1 v j)) (nI j) s) (n := y)
    (fun j s => (∀ i, i < j → s (60 * r + i) = nI (dg (1 * u + 1 * v) i)) ∧ (∀ i, (i < 60 * r ∨ 60 * r + j ≤ i) → s i = lm i))
    (fun t => t.1 = nI (cy 1 u 1 v y) ∧ (∀ i, i < y → t.2 (60 * r + i) = nI (dg (1 * u + 1 * v) i)) ∧ (∀ i, (i < 60 * r ∨ 60 * r + y ≤ i) → t.2 i = lm i)) ?_ ?_ y N 0 lm (by omega) (by omega) ⟨fun i hi => by omega, fun i _ => rfl⟩
  · rw [cy_0] at this
    obtain ⟨⟨x, s⟩, e, e1, e2, e3⟩ := this
    dsimp only at e1 e2 e3
    rw [Nat.one_mul, Nat.one_mul] at e2
    rw [show R_adds_L37 (nI y) (nI r) (nI q) N 0 0 lm = _ from e, bO_s, e1]
    have hc := cy_le 1 u 1 v y
    have et : cy 1 u 1 v y = (u + v) / Bp y := by rw [cy_T hyu hyv, Nat.one_mul, Nat.one_mul]
    have h2B : u + v < 2 * Bp y := by omega
    have hc1 : cy 1 u 1 v y < 2 := by rw [et]; exact (Nat.div_lt_iff_lt_mul (Bp_pos y)).mpr h2B
    have h5 : ∀ i, i < 60 → upd s (60 * r + y) (nI (cy 1 u 1 v y)) (60 * r + i) = nI (dg (u + v) i) := by
      intro i hi
      by_cases z : i = y
      · rw [z, pk_us]
        have := cy_D 1 u 1 v y
        rw [dg_ge (v := u) (by omega), dg_ge (v := v) (by omega), Nat.mul_zero, Nat.zero_add, Nat.one_mul, Nat.one_mul] at this
        rw [← this, Nat.mod_eq_of_lt (by omega)]
      · rw [pk_un (by omega)]
        by_cases z2 : i < y
        · exact e2 i z2
        · rw [e3 _ (by omega), hr4 i hi, dg_ge (by omega), dg_ge]
          apply nL_le.mpr
          have := Bp_mono (show y + 1 ≤ i by omega)
          rw [Bp_S] at this
          omega
    have h6 : u + v < Bp (y + cy 1 u 1 v y) := by
      by_cases z : cy 1 u 1 v y = 0
      · rw [z, Nat.add_zero]
        rw [z] at et
        exact (Nat.div_eq_zero_iff_lt (Bp_pos _)).mp et.symm
      · rw [show cy 1 u 1 v y = 1 by omega, Bp_S]
        omega
    show ∃ lm' wd', gd (ixb (60 * nI r + nI y) 1680) (bO (F_R_trims N (nI r) (upd s (60 * nI r + nI y).toNatClampNeg (nI (cy 1 u 1 v y))) (upd wd r (nI y + nI (cy 1 u 1 v y)))) _) = _ ∧ _
    rw [ixR, gd_ix (by omega) (by omega), nI_clamp (by omega), nI_add]
    obtain ⟨wd', t, t1, t2⟩ := RtrimsF_ok (lm := upd s (60 * r + y) (nI (cy 1 u 1 v y))) (wd := upd wd r (nI (y + cy 1 u 1 v y))) hN hr (show y + cy 1 u 1 v y ≤ 60 by omega) h6 pk_us h5
    rw [t, bO_s]
    exact ⟨_, wd', rfl, RG_put h hr (nL_le.mpr hT) t1 (fun k hk => (pk_un (by omega)).trans (e3 k (by omega))) (fun k hk => (t2 k hk).trans (pk_un hk))⟩
  · intro f j s hj hi
    right
    have hb := dg_lt u j
    have hb2 := dg_lt v j
    have hc := cy_le 1 u 1 v j
    have hc1 : 1 * dg u j + 1 * dg v j + cy 1 u 1 v j < 2 ^ 32 := by omega
    have e1 : nI (dg u j) + nI (dg v j) + nI (cy 1 u 1 v j) = nI (1 * dg u j + 1 * dg v j + cy 1 u 1 v j) := by
      rw [nI_add, nI_add, Nat.one_mul, Nat.one_mul]
    refine ⟨upd s (60 * r + j) (nI (dg (1 * u + 1 * v) j)), ?_, fun i hij => ?_, fun i hio => ?_⟩
    · show R_adds_L37 (nI y) (nI r) (nI q) (f + 1) (nI (cy 1 u 1 v j)) (nI j) s = R_adds_L37 (nI y) (nI r) (nI q) f (nI (cy 1 u 1 v (j + 1))) (nI (j + 1)) _
      rw [R_adds_L37, if_neg (by simp (disch := omega) only [nI_leI, nI_ltI, nI_eq, nI_1, nI_add, pk_mul, nI_clamp]; omega), ixR, ixR, gd_ix (by omega) (by omega), gd_ix (by omega) (by omega), nI_clamp (by omega), nI_clamp (by omega), hi.2 (60 * r + j) (by omega), hi.2 (60 * q + j) (by omega), hr4 j (by omega), hq4 j (by omega), e1, show jushr (nI (1 * dg u j + 1 * dg v j + cy 1 u 1 v j)) 30 = nI ((1 * dg u j + 1 * dg v j + cy 1 u 1 v j) / 2 ^ 30) from jushrN (j := 30) hc1 (by decide), cy_S, and30 hc1, cy_D, nI_1]
    · by_cases z : i = j
      · rw [z, pk_us]
      · rw [pk_un (by omega)]; exact hi.1 i (by omega)
    · rw [pk_un (by omega)]; exact hi.2 i (by omega)
  · intro f s hi
    refine ⟨(nI (cy 1 u 1 v y), s), ?_, rfl, hi.1, hi.2⟩
    show R_adds_L37 (nI y) (nI r) (nI q) (f + 1) (nI (cy 1 u 1 v y)) (nI y) s = _
    rw [R_adds_L37, if_pos (by simp (disch := omega) only [nI_leI, nI_ltI, nI_eq, nI_1, nI_add, pk_mul, nI_clamp]; omega)]
/-- what stands at a limb of 'w + c * d', and what is carried -/
theorem cy_eq (w c d j : Nat) : dg w j + c * dg d j + cy 1 w c d j = dg (w + c * d) j + 2 ^ 30 * cy 1 w c d (j + 1) := by
  have h1 := cy_D 1 w c d j
  have h2 := cy_S 1 w c d j
  rw [Nat.one_mul, Nat.one_mul] at h1
  rw [Nat.one_mul] at h2
  rw [← h1, ← h2]
  exact (Nat.mod_add_div _ _).symm
theorem cy_lt1 (w v j : Nat) : cy 1 w 1 v j < 2 := by
  unfold cy
  apply (Nat.div_lt_iff_lt_mul (Bp_pos j)).mpr
  have h1 := Nat.mod_lt w (Bp_pos j)
  have h2 := Nat.mod_lt v (Bp_pos j)
  omega
theorem Rlessens_ok {lm wd : Nat → Int32} {V : Nat → Option Nat} {r q w v N : Nat} (hN : 100 ≤ N) (h : RG lm wd V) (hu : V r = some (w + v)) (hv : V q = some v) (hne : r ≠ q) : ∃ lm' wd', F_R_lessens N (nI r) (nI q) lm wd = some (lm', wd') ∧ RG lm' wd' (ru V r w) := by
  obtain ⟨hr, hru, hr3, hr4⟩ := h r _ hu
  obtain ⟨hq, hqv, hq3, hq4⟩ := h q v hv
  have hwu : w < Bp (nL (w + v)) := Nat.lt_of_le_of_lt (Nat.le_add_right w v) (nL_self (w + v))
  unfold F_R_lessens
  have := lpI (L := fun f j (s : Nat → Int32) => R_lessens_L5 (nI r) wd (nI q) f (nI (cy 1 w 1 v j)) (nI j) s) (n := nL (w + v))
    (fun j s => (∀ i, i < j → s (60 * r + i) = nI (dg w i)) ∧ (∀ i, (i < 60 * r ∨ 60 * r + j ≤ i) → s i = lm i))
    (fun t => (∀ i, i < nL (w + v) → t (60 * r + i) = nI (dg w i)) ∧ (∀ i, (i < 60 * r ∨ 60 * r + nL (w + v) ≤ i) → t i = lm i)) ?_ ?_ (nL (w + v)) N 0 lm (by omega) (by omega) ⟨fun i hi => by omega, fun i _ => rfl⟩
  · rw [cy_0] at this
    obtain ⟨s, e, e2, e3⟩ := this
    rw [show R_lessens_L5 (nI r) wd (nI q) N 0 0 lm = _ from e, bO_s]
    obtain ⟨wd', t, t1, t2⟩ := RtrimsF_ok (lm := s) (wd := wd) hN hr (show nL (w + v) ≤ 60 by omega) hwu hr3 (fun i hi => by
      by_cases z : i < nL (w + v)
      · exact e2 i z
      · rw [e3 _ (by omega), hr4 i hi, dg_ge (by omega), dg_ge (by have := nL_le.mpr hwu; omega)])
    rw [t, bO_s]
    exact ⟨s, wd', rfl, RG_put h hr (Nat.le_trans (nL_le.mpr hwu) hru) t1 (fun k hk => e3 k (by omega)) t2⟩
  · intro f j s hj hi
    right
    have hb := dg_lt (w + v) j
    have hb1 := dg_lt w j
    have hb2 := dg_lt v j
    have hc := cy_lt1 w v j
    have hc1 := cy_lt1 w v (j + 1)
    have he := cy_eq w 1 v j
    rw [Nat.one_mul, Nat.one_mul] at he
    have hI : (∀ i, i < j + 1 → upd s (60 * r + j) (nI (dg w j)) (60 * r + i) = nI (dg w i)) ∧ (∀ i, (i < 60 * r ∨ 60 * r + (j + 1) ≤ i) → upd s (60 * r + j) (nI (dg w j)) i = lm i) := by
      refine ⟨fun i hij => ?_, fun i hio => ?_⟩
      · by_cases z : i = j
        · rw [z, pk_us]
        · rw [pk_un (by omega)]; exact hi.1 i (by omega)
      · rw [pk_un (by omega)]; exact hi.2 i (by omega)
    refine ⟨_, ?_, hI⟩
    show R_lessens_L5 (nI r) wd (nI q) (f + 1) (nI (cy 1 w 1 v j)) (nI j) s = R_lessens_L5 (nI r) wd (nI q) f (nI (cy 1 w 1 v (j + 1))) (nI (j + 1)) _
    rw [R_lessens_L5, gd_ix hr (by omega), nI_clamp (by omega), hr3, if_neg (by simp (disch := omega) only [nI_leI, nI_ltI, nI_eq, nI_1, nI_add, pk_mul, nI_clamp]; omega), ixR, ixR, gd_ix (by omega) (by omega), gd_ix (by omega) (by omega), nI_clamp (by omega), nI_clamp (by omega), hi.2 (60 * r + j) (by omega), hi.2 (60 * q + j) (by omega), hr4 j (by omega), hq4 j (by omega), nI_1]
    by_cases z : cy 1 w 1 v (j + 1) = 0
    · rw [z, Nat.mul_zero, Nat.add_zero] at he
      rw [pk_sub (by omega), pk_sub (by omega), show dg (w + v) j - dg v j - cy 1 w 1 v j = dg w j by omega, if_pos (by simp (disch := omega) only [z0, nI_leI, nI_ltI, nI_eq, nI_1, nI_add, pk_mul, nI_clamp]; omega), and30 (by omega), Nat.mod_eq_of_lt hb1, z]
      rfl
    · rw [show cy 1 w 1 v (j + 1) = 1 by omega, Nat.mul_one] at he
      have e5 : nI (dg (w + v) j) - nI (dg v j) - nI (cy 1 w 1 v j) = nI (dg w j + 3 * 2 ^ 30) := by
        have e6 : nI (dg (w + v) j) - nI (dg v j) - nI (cy 1 w 1 v j) = nI (dg (w + v) j) - nI (dg v j + cy 1 w 1 v j) := by
          rw [← nI_add]; grind
        rw [e6, nI_subw (by omega)]
        congr 1
        omega
      have e7 : ¬ (0 : Int32) ≤ nI (dg w j + 3 * 2 ^ 30) := by
        have e8 : nI (dg w j + 3 * 2 ^ 30) = nI (dg w j) - nI (2 ^ 30) := by
          rw [nI_subw (by decide)]
        rw [e8, fa_le, fb_subI (by rw [nI_toInt (by omega), nI_toInt (by omega)]; omega) (by rw [nI_toInt (by omega), nI_toInt (by omega)]; omega), nI_toInt (by omega), nI_toInt (by omega)]
        show ¬ (0 : Int) ≤ _
        omega
      rw [e5, if_neg e7, and30 (by omega), show (dg w j + 3 * 2 ^ 30) % 2 ^ 30 = dg w j by omega, show cy 1 w 1 v (j + 1) = 1 by omega]
      rfl
  · intro f s hi
    refine ⟨s, ?_, hi.1, hi.2⟩
    show R_lessens_L5 (nI r) wd (nI q) (f + 1) (nI (cy 1 w 1 v (nL (w + v)))) (nI (nL (w + v))) s = _
    rw [R_lessens_L5, gd_ix hr (by omega), nI_clamp (by omega), hr3, if_pos (by simp (disch := omega) only [nI_leI, nI_ltI, nI_eq, nI_1, nI_add, pk_mul, nI_clamp]; omega)]
theorem agL_ok {lm wd : Nat → Int32} {r q x y : Nat} (hr : r < 28) (hq : q < 28) (ha : RN lm wd r x) (hb : RN lm wd q y) : ∀ (k f : Nat), k ≤ 60 → k < f → x / Bp k = y / Bp k → ∃ t, R_against_L45 (nI r) (nI q) lm f (nI k - 1) = some t ∧ (t = .inr () ∧ x = y ∨ x ≠ y ∧ t = .inl (if x < y then -1 else 1)) := by
  intro k
  induction k with
  | zero =>
    intro f _ hf he
    obtain ⟨f, rfl⟩ : ∃ z, f = z + 1 := ⟨f - 1, by omega⟩
    rw [R_against_L45, if_pos m1_lt0]
    rw [Bp_0, Nat.div_one, Nat.div_one] at he
    exact ⟨_, rfl, Or.inl ⟨rfl, he⟩⟩
  | succ k ih =>
    intro f hk hf he
    obtain ⟨f, rfl⟩ : ∃ z, f = z + 1 := ⟨f - 1, by omega⟩
    have hx := dg_lt x k
    have hy := dg_lt y k
    rw [R_against_L45, nI_pred, if_neg (by simp (disch := omega) only [z0, nI_leI, nI_ltI, nI_eq, nI_1, nI_add, pk_mul, nI_clamp]; omega), ixR, ixR, gd_ix (by omega) (by omega), gd_ix (by omega) (by omega), nI_clamp (by omega), nI_clamp (by omega), ha.2 k (by omega), hb.2 k (by omega)]
    by_cases h : dg x k = dg y k
    · rw [if_pos (by rw [h]), dec1]
      exact ih f (by omega) (by omega) (by rw [dv_S x, dv_S y, he, h])
    · rw [if_neg (by simp (disch := omega) only [nI_leI, nI_ltI, nI_eq, nI_1, nI_add, pk_mul, nI_clamp]; omega)]
      by_cases h2 : dg y k ≤ dg x k
      · rw [if_pos (by simp (disch := omega) only [nI_leI, nI_ltI, nI_eq, nI_1, nI_add, pk_mul, nI_clamp]; omega)]
        have := lt_dg he.symm (show dg y k < dg x k by omega)
        exact ⟨_, rfl, Or.inr ⟨by omega, by rw [if_neg (by omega)]⟩⟩
      · rw [if_neg (by simp (disch := omega) only [nI_leI, nI_ltI, nI_eq, nI_1, nI_add, pk_mul, nI_clamp]; omega)]
        have := lt_dg he (show dg x k < dg y k by omega)
        exact ⟨_, rfl, Or.inr ⟨by omega, by rw [if_pos (by omega)]⟩⟩
theorem Ragainst_ok {lm wd : Nat → Int32} {V : Nat → Option Nat} {r q x y N : Nat} (hN : 100 ≤ N) (h : RG lm wd V) (hx : V r = some x) (hy : V q = some y) : F_R_against N (nI r) (nI q) lm wd = some (if x < y then -1 else if x = y then 0 else 1) := by
  obtain ⟨hr, hru, hr3⟩ := h r x hx
  obtain ⟨hq, hqv, hq3⟩ := h q y hy
  unfold F_R_against
  rw [gd_ix hr (by omega), gd_ix hq (by omega), nI_clamp (by omega), nI_clamp (by omega), hr3.1, hq3.1]
  by_cases z : nL x = nL y
  · rw [if_pos (by rw [z])]
    obtain ⟨t, e, h2⟩ := agL_ok hr hq hr3 hq3 (nL x) N (by omega) (by omega) (by rw [Nat.div_eq_of_lt (nL_self x), z, Nat.div_eq_of_lt (nL_self y)])
    rw [e]
    rcases h2 with ⟨h2, h3⟩ | ⟨h3, h2⟩
    · rw [h2, bT_r, if_neg (by omega), if_pos h3]
      rfl
    · rw [h2, bT_l]
      by_cases z2 : x < y
      · rw [if_pos z2, if_pos z2]
      · rw [if_neg z2, if_neg z2, if_neg h3]
  · rw [if_neg (by simp (disch := omega) only [nI_leI, nI_ltI, nI_eq, nI_1, nI_add, pk_mul, nI_clamp]; omega)]
    by_cases h2 : nL y ≤ nL x
    · have : ¬ x ≤ y := fun q => by have := nL_mono q; omega
      rw [if_pos (by simp (disch := omega) only [nI_leI, nI_ltI, nI_eq, nI_1, nI_add, pk_mul, nI_clamp]; omega), if_neg (by omega), if_neg (by omega)]
    · have : ¬ y ≤ x := fun q => by have := nL_mono q; omega
      rw [if_neg (by simp (disch := omega) only [nI_leI, nI_ltI, nI_eq, nI_1, nI_add, pk_mul, nI_clamp]; omega), if_pos (by omega)]
theorem dg0_mod2 (u : Nat) : dg u 0 % 2 = u % 2 := by
  unfold dg
  rw [Nat.mul_zero, Nat.pow_zero, Nat.div_one]
  omega
theorem RisEven_ok {lm wd : Nat → Int32} {V : Nat → Option Nat} {r u : Nat} (h : RG lm wd V) (hu : V r = some u) : F_R_isEven (nI r) lm = some (bI (decide (u % 2 = 0))) := by
  obtain ⟨hr, _, h3, h4⟩ := h r u hu
  have hb := dg_lt u 0
  unfold F_R_isEven
  have e : (60 : Int32) * nI r = nI (60 * r + 0) := by rw [k60, pk_mul]; rfl
  rw [e, gd_ix (by omega) (by omega), nI_clamp (by omega), h4 0 (by omega), and1, dg0_mod2]
  by_cases z : u % 2 = 0
  · rw [z, if_pos nI_0, decide_eq_true rfl]
    rfl
  · rw [show u % 2 = 1 by omega, if_neg nI1n, decide_eq_false (by decide)]
    rfl
theorem dg_half (u i : Nat) : dg (u / 2) i = dg u i / 2 + 2 ^ 29 * (dg u (i + 1) % 2) := by
  have e1 : u / 2 / Bp i = u / Bp i / 2 := by rw [Nat.div_div_eq_div_mul, Nat.div_div_eq_div_mul, Nat.mul_comm]
  have e2 : u / Bp (i + 1) = u / Bp i / 2 ^ 30 := by rw [Bp_S, Nat.div_div_eq_div_mul]
  have e3 : dg (u / 2) i = u / 2 / Bp i % 2 ^ 30 := rfl
  have e4 : dg u i = u / Bp i % 2 ^ 30 := rfl
  have e5 : dg u (i + 1) = u / Bp (i + 1) % 2 ^ 30 := rfl
  rw [e3, e4, e5, e1, e2]
  generalize u / Bp i = x
  omega
theorem Rhalves_ok {lm wd : Nat → Int32} {V : Nat → Option Nat} {r u N : Nat} (hN : 100 ≤ N) (h : RG lm wd V) (hu : V r = some u) : ∃ lm' wd', F_R_halves N (nI r) lm wd = some (lm', wd') ∧ RG lm' wd' (ru V r (u / 2)) := by
  obtain ⟨hr, hru, hr3, hr4⟩ := h r _ hu
  have hwu : u / 2 < Bp (nL u) := Nat.lt_of_le_of_lt (Nat.div_le_self _ _) (nL_self u)
  unfold F_R_halves
  have := lpI (L := fun f j (s : Nat → Int32) => R_halves_L2 (nI r) wd f (nI j) s) (n := nL u)
    (fun j s => (∀ i, i < j → s (60 * r + i) = nI (dg (u / 2) i)) ∧ (∀ i, (i < 60 * r ∨ 60 * r + j ≤ i) → s i = lm i))
    (fun t => (∀ i, i < nL u → t (60 * r + i) = nI (dg (u / 2) i)) ∧ (∀ i, (i < 60 * r ∨ 60 * r + nL u ≤ i) → t i = lm i)) ?_ ?_ (nL u) N 0 lm (by omega) (by omega) ⟨fun i hi => by omega, fun i _ => rfl⟩
  · obtain ⟨s, e, e2, e3⟩ := this
    rw [show R_halves_L2 (nI r) wd N 0 lm = _ from e, bO_s]
    obtain ⟨wd', t, t1, t2⟩ := RtrimsF_ok (lm := s) (wd := wd) hN hr (show nL u ≤ 60 by omega) hwu hr3 (fun i hi => by
      by_cases z : i < nL u
      · exact e2 i z
      · rw [e3 _ (by omega), hr4 i hi, dg_ge (by omega), dg_ge (by have := nL_le.mpr hwu; omega)])
    rw [t, bO_s]
    exact ⟨s, wd', rfl, RG_put h hr (Nat.le_trans (nL_le.mpr hwu) hru) t1 (fun k hk => e3 k (by omega)) t2⟩
  · intro f j s hj hi
    right
    have hb := dg_lt u j
    have hb1 := dg_lt u (j + 1)
    have y0 : (if nI (nL u) ≤ nI j + 1 then some (0 : Int32) else gd (ixb (60 * nI r + nI j + 1) 1680) (some (s (60 * nI r + nI j + 1).toNatClampNeg &&& 1))) = some (nI (dg u (j + 1) % 2)) := by
      rw [ixR, nI_1, nI_1, gd_ix (by omega) (by omega), nI_clamp (by omega), hi.2 _ (by omega), show 60 * r + j + 1 = 60 * r + (j + 1) from rfl, hr4 (j + 1) (by omega), and1]
      by_cases z : nL u ≤ j + 1
      · rw [if_pos (by simp (disch := omega) only [nI_leI, nI_ltI, nI_eq, nI_1, nI_add, pk_mul, nI_clamp]; omega), dg_ge z]
        rfl
      · rw [if_neg (by simp (disch := omega) only [nI_leI, nI_ltI, nI_eq, nI_1, nI_add, pk_mul, nI_clamp]; omega)]
    have e5 : jshr (nI (dg u j)) 1 ||| jshl (nI (dg u (j + 1) % 2)) 29 = nI (dg (u / 2) j) := by
      rw [show jshr (nI (dg u j)) 1 = nI (dg u j / 2 ^ 1) from jshrN (j := 1) (by omega) (by decide), show jshl (nI (dg u (j + 1) % 2)) 29 = nI (dg u (j + 1) % 2 * 2 ^ 29) from jshlN (j := 29) (by decide) (by omega), fa_or, dg_half, Nat.pow_one, Nat.or_comm, Nat.mul_comm (dg u (j + 1) % 2), Nat.add_comm (dg u j / 2)]
      congr 1
      exact (Nat.two_pow_add_eq_or_of_lt (by omega) _).symm
    refine ⟨upd s (60 * r + j) (nI (dg (u / 2) j)), ?_, fun i hij => ?_, fun i hio => ?_⟩
    · show R_halves_L2 (nI r) wd (f + 1) (nI j) s = _
      rw [R_halves_L2, gd_ix hr (by omega), nI_clamp (by omega), hr3, if_neg (by simp (disch := omega) only [nI_leI, nI_ltI, nI_eq, nI_1, nI_add, pk_mul, nI_clamp]; omega), y0, bO_s, ixR, gd_ix (by omega) (by omega), nI_clamp (by omega), hi.2 (60 * r + j) (by omega), hr4 j (by omega), e5, nI_1]
    · by_cases z : i = j
      · rw [z, pk_us]
      · rw [pk_un (by omega)]; exact hi.1 i (by omega)
    · rw [pk_un (by omega)]; exact hi.2 i (by omega)
  · intro f s hi
    refine ⟨s, ?_, hi.1, hi.2⟩
    show R_halves_L2 (nI r) wd (f + 1) (nI (nL u)) s = _
    rw [R_halves_L2, gd_ix hr (by omega), nI_clamp (by omega), hr3, if_pos (by simp (disch := omega) only [nI_leI, nI_ltI, nI_eq, nI_1, nI_add, pk_mul, nI_clamp]; omega)]
