-- EXACT DIVISION BY AN ODD NUMBER
theorem nI_mod32 (n : Nat) : nI n = nI (n % 2 ^ 32) := by
  apply Int32.toBitVec_inj.mp
  show BitVec.ofNat 32 _ = BitVec.ofNat 32 _
  apply BitVec.eq_of_toNat_eq
  rw [BitVec.toNat_ofNat, BitVec.toNat_ofNat, Nat.mod_mod]
theorem and30' (n : Nat) : nI n &&& 1073741823 = nI (n % 2 ^ 30) := by
  rw [nI_mod32 n, and30 (Nat.mod_lt _ (by decide))]
  congr 1
  exact Nat.mod_mod_of_dvd n (by decide)
theorem newt {a x c k : Int32} (h : 1 - a * x = c * k) : 1 - a * (x * (2 - a * x)) = (c * c) * (k * k) := by
  have e : 1 - a * (x * (2 - a * x)) = (1 - a * x) * (1 - a * x) := by grind
  rw [e, h]
  grind
theorem zsh {a k : Nat} (ha : a < 2 ^ 30) (hk : k < 2 ^ 32) : -(jshrL (lN a - lN (2 ^ 30 * k)) 30) = lN k := by
  have h1 : (lN a).toInt = (a : Int) := pk_lT (by omega)
  have h2 : (lN (2 ^ 30 * k)).toInt = ((2 ^ 30 * k : Nat) : Int) := pk_lT (by omega)
  have h3 : (lN a - lN (2 ^ 30 * k)).toInt = (a : Int) - ((2 ^ 30 * k : Nat) : Int) := by
    rw [fb_subL (by rw [h1, h2]; omega) (by rw [h1, h2]; omega), h1, h2]
  have e : jshrL (lN a - lN (2 ^ 30 * k)) 30 = lN 0 - lN k := by
    apply Int64.toInt_inj.mp
    show ((lN a - lN (2 ^ 30 * k)).toBitVec.sshiftRight (((30 : Int32).toInt64 &&& 63).toBitVec.smod 64).toNat).toInt = _
    rw [show (((30 : Int32).toInt64 &&& 63).toBitVec.smod 64).toNat = 30 by decide +kernel, BitVec.toInt_sshiftRight]
    show (lN a - lN (2 ^ 30 * k)).toInt >>> 30 = _
    have h5 : (lN k).toInt = (k : Int) := pk_lT (by omega)
    have h6 : (lN 0).toInt = 0 := rfl
    rw [h3, fb_subL (by rw [h5, h6]; omega) (by rw [h5, h6]; omega), h5, h6, Int.shiftRight_eq_div_pow]
    omega
  rw [e, show lN 0 = 0 from rfl]
  grind
theorem zmk {a k : Nat} (ha : a < 2 ^ 30) (hk : k < 2 ^ 32) : (lN a - lN (2 ^ 30 * k)) &&& 1073741823 = lN a := by
  by_cases h : k = 0
  · rw [h, Nat.mul_zero, lN_sub (Nat.zero_le _), Nat.sub_zero, msk30 (by omega), Nat.mod_eq_of_lt ha]
  · have e : lN a - lN (2 ^ 30 * k) = lN (a + 2 ^ 30 * (2 ^ 34 - k)) := by
      have e1 : lN (a + 2 ^ 30 * (2 ^ 34 - k)) + lN (2 ^ 30 * k) = lN a := by
        rw [lN_add, show a + 2 ^ 30 * (2 ^ 34 - k) + 2 ^ 30 * k = a + 2 ^ 64 by omega, wb_mod (a + 2 ^ 64), wb_mod a, Nat.add_mod_right]
      rw [← e1]
      grind
    rw [e, msk30 (by omega)]
    congr 1
    omega
theorem inv_ok {A : Nat} {lm : Nat → Int32} {N : Nat} (hN : 100 ≤ N) (hA : A % 2 = 1) (h180 : lm 180 = nI A) : ∃ I, R_parts_L4 lm N 1 0 = some (nI I) ∧ (A * I) % 2 ^ 30 = 1 := by
  obtain ⟨k, hk⟩ : ∃ k, A = 2 * k + 1 := ⟨A / 2, by omega⟩
  have ea : nI A = 2 * nI k + 1 := by rw [hk, ← nI_add, ← pk_mul]; rfl
  obtain ⟨f, rfl⟩ : ∃ z, N = z + 1 + 1 + 1 + 1 + 1 + 1 := ⟨N - 6, by omega⟩
  have e0 : 1 - nI A * 1 = 2 * (-(nI k)) := by rw [ea]; grind
  have e1 := newt e0
  have e2 := newt e1
  have e3 := newt e2
  have e4 := newt e3
  have e5 := newt e4
  rw [R_parts_L4, if_neg (by decide), h180, show (0 : Int32) + 1 = 1 from rfl, R_parts_L4, if_neg (by decide), h180, show (1 : Int32) + 1 = 2 from rfl, R_parts_L4, if_neg (by decide), h180, show (2 : Int32) + 1 = 3 from rfl, R_parts_L4, if_neg (by decide), h180, show (3 : Int32) + 1 = 4 from rfl, R_parts_L4, if_neg (by decide), h180, show (4 : Int32) + 1 = 5 from rfl, R_parts_L4, if_pos (by decide)]
  generalize (_ : Int32) * (2 - nI A * _) = x at e5 ⊢
  obtain ⟨I, hI, rfl⟩ := wb_of32 x
  refine ⟨I, rfl, ?_⟩
  have e6 : nI A * nI I = 1 := by
    have z : ((2 : Int32) * 2 * (2 * 2) * (2 * 2 * (2 * 2)) * (2 * 2 * (2 * 2) * (2 * 2 * (2 * 2))) * (2 * 2 * (2 * 2) * (2 * 2 * (2 * 2)) * (2 * 2 * (2 * 2) * (2 * 2 * (2 * 2))))) = 0 := by decide
    rw [z] at e5
    grind
  rw [pk_mul, nI_mod32] at e6
  have e7 : nI (A * I % 2 ^ 32) = nI 1 := e6
  have h9 : A * I % 2 ^ 32 < 2 ^ 32 := Nat.mod_lt _ (by decide)
  have e8 : A * I % 2 ^ 32 = 1 := by
    have := congrArg (fun t : Int32 => t.toBitVec.toNat) e7
    have t1 : (nI (A * I % 2 ^ 32)).toBitVec.toNat = A * I % 2 ^ 32 := by
      show (BitVec.ofNat 32 _).toNat = _
      rw [BitVec.toNat_ofNat, Nat.mod_mod]
    have t2 : (nI (A * I % 2 ^ 32)).toBitVec.toNat = 1 := this
    rw [t1] at t2
    exact t2
  omega
theorem dig_ok {d t I : Nat} (h : (d % 2 ^ 30 * I) % 2 ^ 30 = 1) : (d * t % 2 ^ 30 * I) % 2 ^ 30 = t % 2 ^ 30 := by
  have h1 : (d * I) % 2 ^ 30 = 1 := by
    have h2 := Nat.mul_mod (d % 2 ^ 30) I (2 ^ 30)
    rw [Nat.mod_mod] at h2
    rw [Nat.mul_mod, ← h2]
    exact h
  have e : (d * t % 2 ^ 30 * I) % 2 ^ 30 = (d * I * t) % 2 ^ 30 := by
    rw [Nat.mul_mod, Nat.mod_mod, ← Nat.mul_mod]
    congr 1
    grind
  rw [e, Nat.mul_mod, h1, Nat.one_mul, Nat.mod_mod]
theorem dg_shl (x i : Nat) : dg (x * 2 ^ 30) (i + 1) = dg x i := by
  unfold dg
  rw [show 2 ^ (30 * (i + 1)) = 2 ^ 30 * 2 ^ (30 * i) by rw [← Nat.pow_add]; congr 1; omega, ← Nat.div_div_eq_div_mul, Nat.mul_div_cancel _ (by decide)]
/-- one row taken off: 'X = W + c * d' -/
theorem row_ok {lm wd : Nat → Int32} {r d W c j n : Nat} (hdl : nL d ≤ 50) (hr : r < 28) (hr3 : r ≠ 3) (hn : n ≤ 60) (hj : j < n) (hc : c < 2 ^ 30) (hw3 : wd 3 = nI (nL d)) (hd : ∀ i, i < 60 → lm (180 + i) = nI (dg d i)) (hx : ∀ i, j + i < n → lm (60 * r + j + i) = nI (dg (W + c * d) i)) (N : Nat) (hN : 100 ≤ N) : ∃ lm', R_parts_L71 (nI n) (nI j) wd (nI c) (nI r) N 0 0 lm = some lm' ∧ (∀ i, j + i < n → lm' (60 * r + j + i) = nI (dg W i)) ∧ (∀ k, k < 60 * r + j ∨ 60 * r + n ≤ k → lm' k = lm k) := by
  have := lpI (L := fun f i (s : Nat → Int32) => R_parts_L71 (nI n) (nI j) wd (nI c) (nI r) f (lN (cy 1 W c d i)) (nI i) s) (n := n - j)
    (fun i s => (∀ k, k < i → s (60 * r + j + k) = nI (dg W k)) ∧ (∀ k, (k < 60 * r + j ∨ 60 * r + j + i ≤ k) → s k = lm k))
    (fun t => (∀ i, j + i < n → t (60 * r + j + i) = nI (dg W i)) ∧ (∀ k, k < 60 * r + j ∨ 60 * r + n ≤ k → t k = lm k)) ?_ ?_ (n - j) N 0 lm (by omega) (by omega) ⟨fun i hi => by omega, fun i _ => rfl⟩
  · rw [cy_0] at this
    exact this
  · intro f i s hi hI
    right
    have hb := dg_lt W i
    have hb2 := dg_lt d i
    have hb3 := dg_lt (W + c * d) i
    have hy := cy_le 1 W c d i
    have hy2 := cy_le 1 W c d (i + 1)
    have hm : c * dg d i ≤ 2 ^ 30 * 2 ^ 30 := Nat.mul_le_mul (by omega) (by omega)
    have he := cy_eq W c d i
    have y0 : (if wd 3 ≤ nI i then some (0 : Int64) else gd (ixb (180 + nI i) 1680) (some ((nI c).toInt64 * (s ((180 : Int32) + nI i).toNatClampNeg).toInt64))) = some (lN (c * dg d i)) := by
      rw [hw3, k180, nI_add, nI_clamp (by omega), gd_ix (by omega) (by omega), hI.2 (180 + i) (by omega), hd i (by omega), nIL (by omega), nIL (by omega), lN_mul]
      by_cases z : nL d ≤ i
      · rw [if_pos (by simp (disch := omega) only [nI_leI, nI_ltI, nI_eq, nI_1, nI_add, pk_mul, nI_clamp]; omega), dg_ge z]
        rfl
      · rw [if_neg (by simp (disch := omega) only [nI_leI, nI_ltI, nI_eq, nI_1, nI_add, pk_mul, nI_clamp]; omega)]
    have e5 : lN (dg (W + c * d) i) - lN (c * dg d i) - lN (cy 1 W c d i) = lN (dg W i) - lN (2 ^ 30 * cy 1 W c d (i + 1)) := by
      have h1 : lN (dg W i) + lN (c * dg d i) + lN (cy 1 W c d i) = lN (dg (W + c * d) i) + lN (2 ^ 30 * cy 1 W c d (i + 1)) := by
        rw [lN_add, lN_add, lN_add, he]
      grind
    refine ⟨upd s (60 * r + j + i) (nI (dg W i)), ?_, fun k hk => ?_, fun k hk => ?_⟩
    · show R_parts_L71 (nI n) (nI j) wd (nI c) (nI r) (f + 1) (lN (cy 1 W c d i)) (nI i) s = R_parts_L71 (nI n) (nI j) wd (nI c) (nI r) f (lN (cy 1 W c d (i + 1))) (nI (i + 1)) _
      rw [R_parts_L71, if_neg (by simp (disch := omega) only [nI_leI, nI_ltI, nI_eq, nI_1, nI_add, pk_mul, nI_clamp]; omega), y0, bO_s, ixR, nI_add, gd_ix (by omega) (by omega), nI_clamp (by omega), hI.2 (60 * r + j + i) (by omega), hx i (by omega), nIL (by omega), e5, zsh hb (by omega), zmk hb (by omega), lN_i, nI_1]
    · by_cases z : k = i
      · rw [z, pk_us]
      · rw [pk_un (by omega)]; exact hI.1 k (by omega)
    · rw [pk_un (by omega)]; exact hI.2 k (by omega)
  · intro f s hI
    refine ⟨s, ?_, fun i hi => hI.1 i (by omega), fun k hk => hI.2 k (by omega)⟩
    show R_parts_L71 (nI n) (nI j) wd (nI c) (nI r) (f + 1) (lN (cy 1 W c d (n - j))) (nI (n - j)) s = _
    rw [R_parts_L71, if_pos (by simp (disch := omega) only [nI_leI, nI_ltI, nI_eq, nI_1, nI_add, pk_mul, nI_clamp]; omega)]
theorem Rparts_ok {lm wd : Nat → Int32} {V : Nat → Option Nat} {r q d N : Nat} (hN : 100 ≤ N) (h : RG lm wd V) (hu : V r = some (d * q)) (hd : V 3 = some d) (hd1 : d % 2 = 1) (hr3 : r ≠ 3) (h4 : V 4 = none) : ∃ lm' wd', F_R_parts N (nI r) lm wd = some (lm', wd') ∧ RG lm' wd' (ru V r q) := by
  obtain ⟨hr, hru, hw, hl⟩ := h r _ hu
  obtain ⟨h33, hrd, hw3, hl3⟩ := h 3 d hd
  have hr4 : r ≠ 4 := fun e => by rw [e, h4] at hu; exact absurd hu (by simp)
  have hd0 : 0 < d := by omega
  have hq : q ≤ d * q := Nat.le_mul_of_pos_left _ hd0
  have hqB : q < Bp (nL (d * q)) := Nat.lt_of_le_of_lt hq (nL_self _)
  obtain ⟨I, eI, hI⟩ := inv_ok (A := dg d 0) (lm := lm) hN (by rw [dg0_mod2]; exact hd1) (hl3 0 (by omega))
  have hI2 : (d % 2 ^ 30 * I) % 2 ^ 30 = 1 := by
    have e : dg d 0 = d % 2 ^ 30 := by unfold dg; rw [Nat.mul_zero, Nat.pow_zero, Nat.div_one]
    rw [← e]; exact hI
  unfold F_R_parts
  rw [eI, bO_s, gd_ix hr (by omega), nI_clamp (by omega), hw]
  obtain ⟨n, hn⟩ : ∃ n, n = nL (d * q) := ⟨_, rfl⟩
  rw [← hn]
  have L40 := lpI (L := fun f j (s : Nat → Int32) => R_parts_L40 N (nI n) (nI r) wd (nI I) f (nI j) s) (n := n)
    (fun j s => (∀ i, i < j → s (240 + i) = nI (dg q i)) ∧ (∀ i, j + i < n → s (60 * r + j + i) = nI (dg (d * (q / Bp j)) i)) ∧ (∀ k, (k < 60 * r ∨ 60 * r + n ≤ k) → (k < 240 ∨ 300 ≤ k) → s k = lm k))
    (fun s => (∀ i, i < n → s (240 + i) = nI (dg q i)) ∧ (∀ k, (k < 60 * r ∨ 60 * r + n ≤ k) → (k < 240 ∨ 300 ≤ k) → s k = lm k)) ?_ ?_ n N 0 lm (by omega) (by omega)
    ⟨fun i hi => by omega, fun i hi => by rw [Nat.add_zero, hl i (by omega), Bp_0, Nat.div_one], fun k _ _ => rfl⟩
  · obtain ⟨s, e, e1, e2⟩ := L40
    rw [show R_parts_L40 N (nI n) (nI r) wd (nI I) N 0 lm = _ from e, bO_s]
    have L195 := lpI (L := fun f j (s : Nat → Int32) => R_parts_L195 (nI n) (nI r) f (nI j) s) (n := n)
      (fun j t => (∀ i, i < j → t (60 * r + i) = nI (dg q i)) ∧ (∀ k, (k < 60 * r ∨ 60 * r + n ≤ k) → t k = s k))
      (fun t => (∀ i, i < n → t (60 * r + i) = nI (dg q i)) ∧ (∀ k, (k < 60 * r ∨ 60 * r + n ≤ k) → t k = s k)) ?_ ?_ n N 0 s (by omega) (by omega) ⟨fun i hi => by omega, fun i _ => rfl⟩
    · obtain ⟨t, g, g1, g2⟩ := L195
      rw [show R_parts_L195 (nI n) (nI r) N 0 s = _ from g, bO_s]
      have hlim : ∀ i, i < 60 → t (60 * r + i) = nI (dg q i) := by
        intro i hi
        by_cases z : i < n
        · exact g1 i z
        · rw [g2 _ (by omega), e2 _ (by omega) (by omega), hl i hi, dg_ge (by omega), dg_ge (by have := nL_le.mpr hqB; omega)]
      obtain ⟨wd', tt, t1, t2⟩ := RtrimsF_ok (lm := t) (wd := wd) hN hr (show nL (d * q) ≤ 60 by omega) hqB hw hlim
      rw [tt, bO_s]
      refine ⟨t, wd', rfl, ?_⟩
      intro k x hk
      by_cases z : k = r
      · rw [z, ru_s] at hk
        cases hk
        rw [z]
        exact ⟨hr, by have := nL_le.mpr hqB; omega, t1⟩
      · rw [ru_n z] at hk
        have z4 : k ≠ 4 := fun e => by rw [e, h4] at hk; exact absurd hk (by simp)
        obtain ⟨a1, a2, a3, a4⟩ := h k x hk
        refine ⟨a1, a2, (t2 k z).trans a3, fun i hi => ?_⟩
        rw [g2 _ (by omega), e2 _ (by omega) (by omega)]
        exact a4 i hi
    · intro f j t hj hi
      right
      refine ⟨upd t (60 * r + j) (nI (dg q j)), ?_, fun i hij => ?_, fun i hio => ?_⟩
      · show R_parts_L195 (nI n) (nI r) (f + 1) (nI j) t = _
        rw [R_parts_L195, if_neg (by simp (disch := omega) only [nI_leI, nI_ltI, nI_eq, nI_1, nI_add, pk_mul, nI_clamp]; omega), k240, nI_add, ixR, gd_ix (by omega) (by omega), gd_ix (by omega) (by omega), nI_clamp (by omega), nI_clamp (by omega), hi.2 (240 + j) (by omega), e1 j hj, nI_1]
      · by_cases z : i = j
        · rw [z, pk_us]
        · rw [pk_un (by omega)]; exact hi.1 i (by omega)
      · rw [pk_un (by omega)]; exact hi.2 i (by omega)
    · intro f t hi
      refine ⟨t, ?_, hi.1, hi.2⟩
      show R_parts_L195 (nI n) (nI r) (f + 1) (nI n) t = _
      rw [R_parts_L195, if_pos (by simp (disch := omega) only [nI_leI, nI_ltI, nI_eq, nI_1, nI_add, pk_mul, nI_clamp]; omega)]
  · intro f j s hj hi
    right
    have hs3 : ∀ i, i < 60 → s (180 + i) = nI (dg d i) := fun i hi' => by rw [hi.2.2 (180 + i) (by omega) (by omega)]; exact hl3 i hi'
    have ew : d * (q / Bp j) = d * (q / Bp (j + 1)) * 2 ^ 30 + dg q j * d := by
      rw [dv_S q j, Nat.mul_add, Nat.mul_assoc, Nat.mul_comm d (dg q j)]
    have e0 : dg (d * (q / Bp j)) 0 = d * (q / Bp j) % 2 ^ 30 := by unfold dg; rw [Nat.mul_zero, Nat.pow_zero, Nat.div_one]
    have ec : (s (60 * r + j) * nI I) &&& 1073741823 = nI (dg q j) := by
      have := hi.2.1 0 (by omega)
      rw [Nat.add_zero, e0] at this
      rw [this, pk_mul, and30', dig_ok hI2]
      rfl
    obtain ⟨s', g, g1, g2⟩ := row_ok (lm := s) (wd := wd) (r := r) (d := d) (W := d * (q / Bp (j + 1)) * 2 ^ 30) (c := dg q j) (j := j) (n := n) hrd hr hr3 (by omega) hj (dg_lt q j) hw3 hs3 (fun i hij => by rw [hi.2.1 i hij, ew]) N hN
    refine ⟨upd s' (240 + j) (nI (dg q j)), ?_, fun i hij => ?_, fun i hij => ?_, fun k hk1 hk2 => ?_⟩
    · show R_parts_L40 N (nI n) (nI r) wd (nI I) (f + 1) (nI j) s = _
      rw [R_parts_L40, if_neg (by simp (disch := omega) only [nI_leI, nI_ltI, nI_eq, nI_1, nI_add, pk_mul, nI_clamp]; omega), ixR, gd_ix (by omega) (by omega), nI_clamp (by omega), ec, g, bO_s, k240, nI_add, gd_ix (by omega) (by omega), nI_clamp (by omega), nI_1]
    · by_cases z : i = j
      · rw [z, pk_us]
      · rw [pk_un (by omega), g2 _ (by omega)]; exact hi.1 i (by omega)
    · rw [pk_un (by omega), show 60 * r + (j + 1) + i = 60 * r + j + (i + 1) by omega, g1 (i + 1) (by omega), dg_shl]
    · rw [pk_un (by omega), g2 _ (by omega)]; exact hi.2.2 k hk1 hk2
  · intro f s hi
    refine ⟨s, ?_, hi.1, hi.2.2⟩
    show R_parts_L40 N (nI n) (nI r) wd (nI I) (f + 1) (nI n) s = _
    rw [R_parts_L40, if_pos (by simp (disch := omega) only [nI_leI, nI_ltI, nI_eq, nI_1, nI_add, pk_mul, nI_clamp]; omega)]
