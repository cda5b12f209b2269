-- LOWEST TERMS IN THE REFERENCE
theorem gcd_2l {x y : Nat} (hy : y % 2 = 1) : Nat.gcd (2 * x) y = Nat.gcd x y := by
  apply Nat.Coprime.gcd_mul_left_cancel
  unfold Nat.Coprime
  rw [Nat.gcd_rec, ]
  simp [hy]
theorem gcd_2r {x y : Nat} (hx : x % 2 = 1) : Nat.gcd x (2 * y) = Nat.gcd x y := by rw [Nat.gcd_comm, gcd_2l hx, Nat.gcd_comm]
theorem RG.wd0 {lm wd : Nat → Int32} {V : Nat → Option Nat} {r v : Nat} (h : RG lm wd V) (hv : V r = some v) : wd r = nI (nL v) ∧ nL v ≤ 50 := ⟨(h r v hv).2.2.1, (h r v hv).2.1⟩
theorem L16_ok {N : Nat} (hN : 100 ≤ N) : ∀ (m f a b : Nat) (lm wd : Nat → Int32) (V : Nat → Option Nat), m < f → a < 2 ^ m → a ≠ 0 → RG lm wd V → V 0 = some a → V 1 = some b → V 4 = none → ∃ lm' wd' V' a' b' c, R_lowers_L16 N f lm wd = some (lm', wd') ∧ RG lm' wd' V' ∧ V' 0 = some a' ∧ V' 1 = some b' ∧ V' 4 = none ∧ c ≠ 0 ∧ a = c * a' ∧ b = c * b' ∧ ¬ (a' % 2 = 0 ∧ b' % 2 = 0) := by
  intro m
  induction m with
  | zero => intro f a b lm wd V _ ha h0; omega
  | succ m ih =>
    intro f a b lm wd V hf ha h0 hG h1 h2 h4
    obtain ⟨f, rfl⟩ : ∃ z, f = z + 1 := ⟨f - 1, by omega⟩
    have ev0 := RisEven_ok hG h1
    have ev1 := RisEven_ok hG h2
    rw [R_lowers_L16, show (0 : Int32) = nI 0 from rfl, ev0, bO_s]
    by_cases z : a % 2 = 0
    · rw [decide_eq_true z, if_neg (show ¬ bI true = nI 0 by decide), show (1 : Int32) = nI 1 from rfl, ev1, bO_s]
      by_cases z2 : b % 2 = 0
      · rw [decide_eq_true z2, if_neg (show ¬ bI true = nI 0 by decide)]
        obtain ⟨lm1, wd1, e1, G1⟩ := Rhalves_ok hN hG h1
        rw [e1, bO_s]
        obtain ⟨lm2, wd2, e2, G2⟩ := Rhalves_ok (r := 1) (u := b) hN G1 (by rw [ru_n (by omega)]; exact h2)
        show ∃ lm' wd' V' a' b' c, bO (F_R_halves N (nI 1) lm1 wd1) _ = _ ∧ _
        rw [e2, bO_s]
        obtain ⟨lm', wd', V', a', b', c, t1, t2, t3, t4, t5, t6, t7, t8, t9⟩ := ih f (a / 2) (b / 2) lm2 wd2 _ (by omega) (by rw [Nat.pow_succ] at ha; omega) (by omega) G2 (by rw [ru_n (by omega), ru_s]) (by rw [ru_s]) (by rw [ru_n (by omega), ru_n (by omega)]; exact h4)
        refine ⟨lm', wd', V', a', b', 2 * c, t1, t2, t3, t4, t5, by omega, ?_, ?_, t9⟩
        · rw [Nat.mul_assoc, ← t7]; omega
        · rw [Nat.mul_assoc, ← t8]; omega
      · rw [decide_eq_false z2, if_pos (show bI false = nI 0 from rfl)]
        exact ⟨lm, wd, V, a, b, 1, rfl, hG, h1, h2, h4, by omega, by omega, by omega, by omega⟩
    · rw [decide_eq_false z, if_pos (show bI false = nI 0 from rfl)]
      exact ⟨lm, wd, V, a, b, 1, rfl, hG, h1, h2, h4, by omega, by omega, by omega, by omega⟩
theorem L66_ok {N y : Nat} (hN : 100 ≤ N) : ∀ (m f x : Nat) (lm wd : Nat → Int32) (V : Nat → Option Nat), m < f → x < 2 ^ m → x ≠ 0 → RG lm wd V → V 2 = some x → (x % 2 = 0 → y % 2 = 1) → ∃ lm' wd' V' x', R_lowers_L66 N f lm wd = some (lm', wd') ∧ RG lm' wd' V' ∧ V' 2 = some x' ∧ (∀ k, k ≠ 2 → V' k = V k) ∧ x' % 2 = 1 ∧ x' ≤ x ∧ (x % 2 = 0 → 2 * x' ≤ x) ∧ Nat.gcd x' y = Nat.gcd x y := by
  intro m
  induction m with
  | zero => intro f x lm wd V _ ha h0; omega
  | succ m ih =>
    intro f x lm wd V hf ha h0 hG h1 hy
    obtain ⟨f, rfl⟩ : ∃ z, f = z + 1 := ⟨f - 1, by omega⟩
    have ev0 := RisEven_ok hG h1
    rw [R_lowers_L66, k2, ev0, bO_s]
    by_cases z : x % 2 = 0
    · rw [decide_eq_true z, if_neg (show ¬ bI true = (0 : Int32) by decide)]
      obtain ⟨lm1, wd1, e1, G1⟩ := Rhalves_ok hN hG h1
      rw [e1, bO_s]
      obtain ⟨lm', wd', V', x', t1, t2, t3, t4, t5, t6, t7, t8⟩ := ih f (x / 2) lm1 wd1 _ (by omega) (by rw [Nat.pow_succ] at ha; omega) (by omega) G1 (by rw [ru_s]) (fun _ => hy z)
      refine ⟨lm', wd', V', x', t1, t2, t3, fun k hk => (t4 k hk).trans (ru_n hk), t5, by omega, fun _ => by omega, ?_⟩
      rw [t8, ← gcd_2l (hy z), show 2 * (x / 2) = x by omega]
    · rw [decide_eq_false z, if_pos (show bI false = (0 : Int32) from rfl)]
      exact ⟨lm, wd, V, x, rfl, hG, h1, fun _ _ => rfl, by omega, Nat.le_refl _, fun q => absurd q z, rfl⟩
theorem L82_ok {N y : Nat} (hN : 100 ≤ N) : ∀ (m f x : Nat) (lm wd : Nat → Int32) (V : Nat → Option Nat), m < f → x < 2 ^ m → x ≠ 0 → RG lm wd V → V 3 = some x → (x % 2 = 0 → y % 2 = 1) → ∃ lm' wd' V' x', R_lowers_L82 N f lm wd = some (lm', wd') ∧ RG lm' wd' V' ∧ V' 3 = some x' ∧ (∀ k, k ≠ 3 → V' k = V k) ∧ x' % 2 = 1 ∧ x' ≤ x ∧ (x % 2 = 0 → 2 * x' ≤ x) ∧ Nat.gcd x' y = Nat.gcd x y := by
  intro m
  induction m with
  | zero => intro f x lm wd V _ ha h0; omega
  | succ m ih =>
    intro f x lm wd V hf ha h0 hG h1 hy
    obtain ⟨f, rfl⟩ : ∃ z, f = z + 1 := ⟨f - 1, by omega⟩
    have ev0 := RisEven_ok hG h1
    rw [R_lowers_L82, k3, ev0, bO_s]
    by_cases z : x % 2 = 0
    · rw [decide_eq_true z, if_neg (show ¬ bI true = (0 : Int32) by decide)]
      obtain ⟨lm1, wd1, e1, G1⟩ := Rhalves_ok hN hG h1
      rw [e1, bO_s]
      obtain ⟨lm', wd', V', x', t1, t2, t3, t4, t5, t6, t7, t8⟩ := ih f (x / 2) lm1 wd1 _ (by omega) (by rw [Nat.pow_succ] at ha; omega) (by omega) G1 (by rw [ru_s]) (fun _ => hy z)
      refine ⟨lm', wd', V', x', t1, t2, t3, fun k hk => (t4 k hk).trans (ru_n hk), t5, by omega, fun _ => by omega, ?_⟩
      rw [t8, ← gcd_2l (hy z), show 2 * (x / 2) = x by omega]
    · rw [decide_eq_false z, if_pos (show bI false = (0 : Int32) from rfl)]
      exact ⟨lm, wd, V, x, rfl, hG, h1, fun _ _ => rfl, by omega, Nat.le_refl _, fun q => absurd q z, rfl⟩
theorem nL_lt50 {x : Nat} (h : nL x ≤ 50) : x < 2 ^ (30 * 50) := nL_le.mp h
/-- what a turn of the loop leaves halves the product -/
theorem two_mul_lt {x y x' y' M : Nat} (hx : x' ≤ x) (hy : y' ≤ y) (h : x' + x' ≤ x ∨ y' + y' ≤ y) (hb : x * y < M) : 2 * (x' * y') < M := by
  rcases h with h | h
  · have h1 : (x' + x') * y' ≤ x * y := Nat.mul_le_mul h hy
    rw [Nat.add_mul] at h1
    omega
  · have h1 : x' * (y' + y') ≤ x * y := Nat.mul_le_mul hx h
    rw [Nat.mul_add] at h1
    omega
theorem L57_ok {N : Nat} (hN : 4000 ≤ N) : ∀ (m f x y : Nat) (lm wd : Nat → Int32) (V : Nat → Option Nat), m < f → y ≠ 0 → ¬ (x % 2 = 0 ∧ y % 2 = 0) → (x * y < 2 ^ m ∧ (x % 2 = 1 → y % 2 = 1 → 2 * (x * y) < 2 ^ m)) → RG lm wd V → V 2 = some x → V 3 = some y → ∃ lm' wd' V', R_lowers_L57 N f lm wd = some (lm', wd') ∧ RG lm' wd' V' ∧ V' 3 = some (Nat.gcd x y) ∧ (∀ k, k ≠ 2 → k ≠ 3 → V' k = V k) := by
  intro m
  induction m with
  | zero =>
    intro f x y lm wd V hf hy hpar hb hG h2 h3
    obtain ⟨f, rfl⟩ : ∃ z, f = z + 1 := ⟨f - 1, by omega⟩
    have hx : x = 0 := by
      have h1 : x * y < 1 := hb.1
      rcases Nat.mul_eq_zero.mp (show x * y = 0 by omega) with h | h
      · exact h
      · exact absurd h hy
    have hw := (hG.wd0 h2).1
    rw [hx, nL_0] at hw
    rw [R_lowers_L57, hw, if_pos (by decide)]
    refine ⟨lm, wd, V, rfl, hG, ?_, fun _ _ _ => rfl⟩
    rw [h3, hx, Nat.gcd_zero_left]
  | succ m ih =>
    intro f x y lm wd V hf hy hpar hb hG h2 h3
    obtain ⟨f, rfl⟩ : ∃ z, f = z + 1 := ⟨f - 1, by omega⟩
    have hw := hG.wd0 h2
    have hw3 := hG.wd0 h3
    rw [R_lowers_L57, hw.1]
    by_cases hx : x = 0
    · rw [if_pos (by rw [hx, nL_0]; decide)]
      refine ⟨lm, wd, V, rfl, hG, ?_, fun _ _ _ => rfl⟩
      rw [h3, hx, Nat.gcd_zero_left]
    · have hx0 : nL x ≠ 0 := fun q => hx (nL_eq0.mp q)
      rw [if_neg (by simp (disch := omega) only [z0, nI_leI, nI_ltI, nI_eq, nI_1, nI_add, pk_mul, nI_clamp]; omega)]
      obtain ⟨lm1, wd1, V1, x', e1, G1, v12, v1o, px, lx, qx, gx⟩ := L66_ok (N := N) (y := y) (by omega) (30 * 50) N x lm wd V (by omega) (nL_lt50 hw.2) hx hG h2 (fun q => by omega)
      rw [e1, bO_s]
      obtain ⟨lm2, wd2, V2, y', e2, G2, v23, v2o, py, ly, qy, gy⟩ := L82_ok (N := N) (y := x') (by omega) (30 * 50) N y lm1 wd1 V1 (by omega) (nL_lt50 hw3.2) hy G1 (by rw [v1o 3 (by omega)]; exact h3) (fun _ => px)
      show ∃ lm' wd' V', bO (R_lowers_L82 N N lm1 wd1) _ = _ ∧ _
      rw [e2, bO_s]
      have v22 : V2 2 = some x' := by rw [v2o 2 (by omega)]; exact v12
      have hg : Nat.gcd x y = Nat.gcd x' y' := by rw [← gx, Nat.gcd_comm x' y, ← gy, Nat.gcd_comm]
      have hh : 2 * (x' * y') < 2 ^ (m + 1) := by
        by_cases z1 : x % 2 = 0
        · have z3 := qx z1
          exact two_mul_lt lx ly (Or.inl (by omega)) hb.1
        · by_cases z2 : y % 2 = 0
          · have z3 := qy z2
            exact two_mul_lt lx ly (Or.inr (by omega)) hb.1
          · have := hb.2 (by omega) (by omega)
            have h5 := Nat.mul_le_mul lx ly
            omega
      rw [Nat.pow_succ] at hh
      show ∃ lm' wd' V', bO (F_R_against N (nI 2) (nI 3) lm2 wd2) _ = _ ∧ _
      rw [Ragainst_ok (by omega) G2 v22 v23, bO_s]
      by_cases hlt : x' < y'
      · rw [if_pos hlt, if_pos (show (-1 : Int32) < 0 by decide), bO_s]
        obtain ⟨w, hw'⟩ : ∃ w, y' = w + x' := ⟨y' - x', by omega⟩
        obtain ⟨lm3, wd3, e3, G3⟩ := Rlessens_ok (N := N) (r := 3) (q := 2) (w := w) (v := x') (by omega) G2 (by rw [v23, hw']) v22 (by omega)
        show ∃ lm' wd' V', bO (F_R_lessens N (nI 3) (nI 2) lm2 wd2) _ = _ ∧ _
        rw [e3, bO_s]
        have hw5 := G3.wd0 ru_s
        have hw0 : nL w ≠ 0 := fun q => by have := nL_eq0.mp q; omega
        show ∃ lm' wd' V', (if wd3 3 = 0 then _ else R_lowers_L57 N f lm3 wd3) = _ ∧ _
        rw [hw5.1, if_neg (by simp (disch := omega) only [z0, nI_leI, nI_ltI, nI_eq, nI_1, nI_add, pk_mul, nI_clamp]; omega)]
        have hle : x' * w ≤ x' * y' := Nat.mul_le_mul_left _ (by omega)
        obtain ⟨lm4, wd4, V4, t1, t2, t3, t4⟩ := ih f x' w lm3 wd3 _ (by omega) (fun q => hw0 (by rw [q]; rfl)) (by omega) ⟨by omega, fun p1 p2 => by omega⟩ G3 (by rw [ru_n (by omega)]; exact v22) ru_s
        refine ⟨lm4, wd4, V4, t1, t2, ?_, fun k k2 k3 => ?_⟩
        · rw [t3, hg, hw', Nat.gcd_comm x' (w + x'), Nat.gcd_add_self_left, Nat.gcd_comm]
        · rw [t4 k k2 k3, ru_n k3, v2o k k3, v1o k k2]
      · have hne : ¬ (if x' < y' then (-1 : Int32) else if x' = y' then 0 else 1) < 0 := by
          rw [if_neg hlt]
          by_cases z : x' = y'
          · rw [if_pos z]; decide
          · rw [if_neg z]; decide
        rw [if_neg hne, bO_s]
        obtain ⟨w, hw'⟩ : ∃ w, x' = w + y' := ⟨x' - y', by omega⟩
        obtain ⟨lm3, wd3, e3, G3⟩ := Rlessens_ok (N := N) (r := 2) (q := 3) (w := w) (v := y') (by omega) G2 (by rw [v22, hw']) v23 (by omega)
        show ∃ lm' wd' V', bO (F_R_lessens N (nI 2) (nI 3) lm2 wd2) _ = _ ∧ _
        rw [e3, bO_s]
        have v33 : ru V2 2 w 3 = some y' := by rw [ru_n (by omega)]; exact v23
        have hw5 := G3.wd0 v33
        have hw0 : nL y' ≠ 0 := fun q => by have := nL_eq0.mp q; omega
        show ∃ lm' wd' V', (if wd3 3 = 0 then _ else R_lowers_L57 N f lm3 wd3) = _ ∧ _
        rw [hw5.1, if_neg (by simp (disch := omega) only [z0, nI_leI, nI_ltI, nI_eq, nI_1, nI_add, pk_mul, nI_clamp]; omega)]
        have hle : w * y' ≤ x' * y' := Nat.mul_le_mul_right _ (by omega)
        obtain ⟨lm4, wd4, V4, t1, t2, t3, t4⟩ := ih f w y' lm3 wd3 _ (by omega) (by omega) (by omega) ⟨by omega, fun p1 p2 => by omega⟩ G3 ru_s v33
        refine ⟨lm4, wd4, V4, t1, t2, ?_, fun k k2 k3 => ?_⟩
        · rw [t3, hg, hw', Nat.gcd_add_self_left]
        · rw [t4 k k2 k3, ru_n k2, v2o k k3, v1o k k2]
theorem lowers_ok {lm wd : Nat → Int32} {V : Nat → Option Nat} {a b N : Nat} (hN : 4000 ≤ N) (h : RG lm wd V) (h0 : V 0 = some a) (h1 : V 1 = some b) (hb : b ≠ 0) (h4 : V 4 = none) : ∃ lm' wd' V', F_R_lowers N lm wd = some (lm', wd') ∧ RG lm' wd' V' ∧ V' 0 = some (a / Nat.gcd a b) ∧ V' 1 = some (b / Nat.gcd a b) := by
  unfold F_R_lowers
  have hw := h.wd0 h0
  rw [hw.1]
  by_cases ha : a = 0
  · rw [if_pos (by rw [ha, nL_0]; rfl)]
    obtain ⟨lm1, wd1, e1, G1⟩ := sets_ok (N := N) (r := 1) (v := 1) (by omega) h (by omega) (by decide)
    rw [show (1 : Int32) = nI 1 from rfl, show (1 : Int64) = lN 1 from rfl, e1, bO_s]
    refine ⟨lm1, wd1, _, rfl, G1, ?_, ?_⟩
    · rw [ru_n (by omega), h0, ha, Nat.zero_div]
    · rw [ru_s, ha, Nat.gcd_zero_left, Nat.div_self (by omega)]
  · have hn0 : nL a ≠ 0 := fun q => ha (nL_eq0.mp q)
    rw [if_neg (by simp (disch := omega) only [z0, nI_leI, nI_ltI, nI_eq, nI_1, nI_add, pk_mul, nI_clamp]; omega)]
    obtain ⟨lm1, wd1, V1, a', b', c, e1, G1, v10, v11, v14, hc, ea, eb, hpar⟩ := L16_ok (N := N) (by omega) (30 * 50) N a b lm wd V (by omega) (nL_lt50 hw.2) ha h h0 h1 h4
    have hb' : b' ≠ 0 := fun q => by rw [q, Nat.mul_zero] at eb; exact hb eb
    rw [e1, bO_s]
    obtain ⟨lm2, wd2, e2, G2⟩ := takes_ok (N := N) (r := 2) (q := 0) (by omega) G1 (by omega) v10 (by omega)
    show ∃ lm' wd' V', bO (F_R_takes N (nI 2) (nI 0) lm1 wd1) _ = _ ∧ _
    rw [e2, bO_s]
    obtain ⟨lm3, wd3, e3, G3⟩ := takes_ok (N := N) (r := 3) (q := 1) (by omega) G2 (by omega) (show ru V1 2 a' 1 = some b' by rw [ru_n (by omega)]; exact v11) (by omega)
    show ∃ lm' wd' V', bO (F_R_takes N (nI 3) (nI 1) lm2 wd2) _ = _ ∧ _
    rw [e3, bO_s]
    have v32 : ru (ru V1 2 a') 3 b' 2 = some a' := by rw [ru_n (by omega), ru_s]
    have v33 : ru (ru V1 2 a') 3 b' 3 = some b' := ru_s
    have hba := nL_lt50 (G3.wd0 v32).2
    have hbb := nL_lt50 (G3.wd0 v33).2
    have hprod : 2 * (a' * b') < 2 ^ (30 * 50 + 30 * 50 + 1) := by
      rw [Nat.pow_succ, Nat.pow_add]
      have hp : 0 < 2 ^ (30 * 50) := Nat.two_pow_pos _
      generalize 2 ^ (30 * 50) = M at *
      have h5 : a' * b' ≤ M * b' := Nat.mul_le_mul_right _ (Nat.le_of_lt hba)
      have h6 : M * b' < M * M := Nat.mul_lt_mul_of_pos_left hbb hp
      omega
    have hprod1 : a' * b' < 2 ^ (30 * 50 + 30 * 50 + 1) := by
      generalize 2 ^ (30 * 50 + 30 * 50 + 1) = M at *
      omega
    obtain ⟨lm4, wd4, V4, e4, G4, v43, v4o⟩ := L57_ok hN (30 * 50 + 30 * 50 + 1) N a' b' lm3 wd3 _ (by omega) hb' hpar ⟨hprod1, fun _ _ => hprod⟩ G3 v32 v33
    show ∃ lm' wd' V', bO (R_lowers_L57 N N lm3 wd3) _ = _ ∧ _
    rw [e4, bO_s]
    obtain ⟨g, hg⟩ : ∃ g, g = Nat.gcd a' b' := ⟨_, rfl⟩
    rw [← hg] at v43
    have g0 : 0 < g := by rw [hg]; exact Nat.gcd_pos_of_pos_right _ (by omega)
    have gd1 : a' = g * (a' / g) := (Nat.mul_div_cancel' (by rw [hg]; exact Nat.gcd_dvd_left _ _)).symm
    have gd2 : b' = g * (b' / g) := (Nat.mul_div_cancel' (by rw [hg]; exact Nat.gcd_dvd_right _ _)).symm
    have godd : g % 2 = 1 := by
      have q0 : g % 2 = 0 ∨ g % 2 = 1 := by omega
      rcases q0 with q | q
      · exfalso
        apply hpar
        constructor
        · rw [gd1, Nat.mul_mod, q, Nat.zero_mul]
        · rw [gd2, Nat.mul_mod, q, Nat.zero_mul]
      · exact q
    have v40 : V4 0 = some (g * (a' / g)) := by rw [v4o 0 (by omega) (by omega), ru_n (by omega), ru_n (by omega), v10, ← gd1]
    have v41 : V4 1 = some (g * (b' / g)) := by rw [v4o 1 (by omega) (by omega), ru_n (by omega), ru_n (by omega), v11, ← gd2]
    have v44 : V4 4 = none := by rw [v4o 4 (by omega) (by omega), ru_n (by omega), ru_n (by omega)]; exact v14
    obtain ⟨lm5, wd5, e5, G5⟩ := Rparts_ok (N := N) (by omega) G4 v40 v43 godd (by omega) v44
    show ∃ lm' wd' V', bO (F_R_parts N (nI 0) lm4 wd4) _ = _ ∧ _
    rw [e5, bO_s]
    obtain ⟨lm6, wd6, e6, G6⟩ := Rparts_ok (N := N) (r := 1) (q := b' / g) (d := g) (by omega) G5 (by rw [ru_n (by omega)]; exact v41) (by rw [ru_n (by omega)]; exact v43) godd (by omega) (by rw [ru_n (by omega)]; exact v44)
    show ∃ lm' wd' V', bO (F_R_parts N (nI 1) lm5 wd5) _ = _ ∧ _
    rw [e6, bO_s]
    have eg : Nat.gcd a b = c * g := by rw [ea, eb, Nat.gcd_mul_left, ← hg]
    refine ⟨lm6, wd6, _, rfl, G6, ?_, ?_⟩
    · rw [ru_n (by omega), ru_s, eg, ea, Nat.mul_div_mul_left _ _ (by omega)]
    · rw [ru_s, eg, eb, Nat.mul_div_mul_left _ _ (by omega)]
