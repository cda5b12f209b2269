-- LOWEST TERMS IN THE CLASS
def Sm (b : Nat) : Prop := ∀ g, 1 < g → g ∣ b → ∃ d, 2 ≤ d ∧ d ≤ 180 ∧ d ∣ g
theorem Sm_1 : Sm 1 := by
  intro g hg hd
  have := Nat.le_of_dvd (by omega) hd
  omega
theorem Sm_mul {t b : Nat} (h1 : 1 ≤ t) (h2 : t ≤ 180) (hb : Sm b) : Sm (t * b) := by
  intro g hg hd
  by_cases h : Nat.gcd g t = 1
  · exact hb g hg (Nat.Coprime.dvd_of_dvd_mul_left h hd)
  · have h3 : Nat.gcd g t ∣ t := Nat.gcd_dvd_right g t
    have h4 : Nat.gcd g t ∣ g := Nat.gcd_dvd_left g t
    have h5 := Nat.le_of_dvd (by omega) h3
    have h6 : 0 < Nat.gcd g t := Nat.gcd_pos_of_pos_right _ (by omega)
    exact ⟨Nat.gcd g t, by omega, by omega, h4⟩
theorem Sm_small {b : Nat} (h1 : 1 ≤ b) (h2 : b ≤ 180) : Sm b := by
  have := Sm_mul h1 h2 Sm_1
  rwa [Nat.mul_one] at this
theorem isDiv_ok {la lb : Nat → Int32} {l1 l2 : Int32} {a b d N : Nat} (hN : 100 ≤ N) (ha : CN la l1 a) (hb : CN lb l2 b) (h0 : 0 < d) (hd : d < 2 ^ 30) (hx : nL a ≤ 40) (hy : nL b ≤ 40) : F_Fraction_isDividedBy N (nI d) l1 la l2 lb = some (bI (decide (a % d = 0) && decide (b % d = 0))) := by
  unfold F_Fraction_isDividedBy
  have m1 := Nat.mod_lt a h0
  have m2 := Nat.mod_lt b h0
  rw [remainder_ok hN hb h0 hd hy, bO_s]
  by_cases z : b % d = 0
  · rw [z, if_pos nI_0, remainder_ok hN ha h0 hd hx, bO_s]
    by_cases z2 : a % d = 0
    · rw [z2, if_pos nI_0]
      rfl
    · rw [if_neg (by simp (disch := omega) only [z0, nI_leI, nI_ltI, nI_eq, nI_1, nI_add, pk_mul, nI_clamp]; omega), decide_eq_false z2]
      rfl
  · rw [if_neg (by simp (disch := omega) only [z0, nI_leI, nI_ltI, nI_eq, nI_1, nI_add, pk_mul, nI_clamp]; omega), decide_eq_false z, Bool.and_false]
    rfl
theorem L30_ok {N d : Nat} (hN : 100 ≤ N) (hd2 : 2 ≤ d) (hd : d < 2 ^ 30) : ∀ (m f k a b : Nat) (la : Nat → Int32) (l1 : Int32) (lb : Nat → Int32) (l2 : Int32), m < f → k + m = 1200 → a < 2 ^ m → a ≠ 0 → b ≠ 0 → nL a ≤ 40 → nL b ≤ 40 → CN la l1 a → CN lb l2 b →
    ∃ (r : (Nat → Int32) × Int32 × (Nat → Int32) × Int32) (a' b' c : Nat), Fraction_toLowestTerms_L30 N (nI d) f (nI k) la l1 lb l2 = some r ∧ CN r.1 r.2.1 a' ∧ CN r.2.2.1 r.2.2.2 b' ∧ a = c * a' ∧ b = c * b' ∧ ¬ (d ∣ a' ∧ d ∣ b') := by
  intro m
  induction m with
  | zero => intro f k a b la l1 lb l2 _ _ h h2; omega
  | succ m ih =>
    intro f k a b la l1 lb l2 hf hk ham ha hb hx hy h1 h2
    obtain ⟨f, rfl⟩ : ∃ z, f = z + 1 := ⟨f - 1, by omega⟩
    rw [Fraction_toLowestTerms_L30, if_neg (by simp (disch := omega) only [k1200, nI_leI, nI_ltI, nI_eq, nI_1, nI_add, pk_mul, nI_clamp]; omega), isDiv_ok hN h1 h2 (by omega) hd hx hy, bO_s]
    by_cases z : a % d = 0 ∧ b % d = 0
    · rw [decide_eq_true z.1, decide_eq_true z.2, if_neg (show ¬ bI (true && true) = (0 : Int32) by decide)]
      obtain ⟨l1', la', e1, c1⟩ := divide_ok hN h1 (show 0 < d by omega) hd hx
      obtain ⟨l2', lb', e2, c2⟩ := divide_ok hN h2 (show 0 < d by omega) hd hy
      rw [e1, bO_s]
      show ∃ (r : (Nat → Int32) × Int32 × (Nat → Int32) × Int32) (a' b' c : Nat), bO (F_Natural_divide N (nI d) l2 lb) _ = _ ∧ _
      rw [e2, bO_s]
      have qa : a = d * (a / d) := (Nat.mul_div_cancel' (Nat.dvd_of_mod_eq_zero z.1)).symm
      have qb : b = d * (b / d) := (Nat.mul_div_cancel' (Nat.dvd_of_mod_eq_zero z.2)).symm
      have na : a / d ≠ 0 := fun q => by rw [q, Nat.mul_zero] at qa; omega
      have nb : b / d ≠ 0 := fun q => by rw [q, Nat.mul_zero] at qb; omega
      have hsm : a / d < 2 ^ m := by
        have h5 : 2 * (a / d) ≤ d * (a / d) := Nat.mul_le_mul_right _ hd2
        rw [Nat.pow_succ] at ham
        omega
      obtain ⟨r, a', b', c, t1, t2, t3, t4, t5, t6⟩ := ih f (k + 1) (a / d) (b / d) la' l1' lb' l2' (by omega) (by omega) hsm na nb (Nat.le_trans (nL_mono (Nat.div_le_self _ _)) hx) (Nat.le_trans (nL_mono (Nat.div_le_self _ _)) hy) c1 c2
      refine ⟨r, a', b', d * c, ?_, t2, t3, ?_, ?_, t6⟩
      · show Fraction_toLowestTerms_L30 N (nI d) f (nI k + 1) la' l1' lb' l2' = _
        rw [nI_1]; exact t1
      · rw [Nat.mul_assoc, ← t4]; exact qa
      · rw [Nat.mul_assoc, ← t5]; exact qb
    · have e : (decide (a % d = 0) && decide (b % d = 0)) = false := by
        rw [Bool.and_eq_false_iff]
        by_cases z1 : a % d = 0
        · right; exact decide_eq_false (fun q => z ⟨z1, q⟩)
        · left; exact decide_eq_false z1
      rw [e, if_pos (show bI false = (0 : Int32) from rfl)]
      exact ⟨(la, l1, lb, l2), a, b, 1, rfl, h1, h2, by omega, by omega, fun q => z ⟨Nat.mod_eq_zero_of_dvd q.1, Nat.mod_eq_zero_of_dvd q.2⟩⟩
theorem terms_ok {la lb : Nat → Int32} {l1 l2 : Int32} {a b N : Nat} (hN : 4000 ≤ N) (h1 : CN la l1 a) (h2 : CN lb l2 b) (hb : b ≠ 0) (hx : nL a ≤ 40) (hy : nL b ≤ 40) (hs : Sm b) : ∃ (l1' : Int32) (la' : Nat → Int32) (l2' : Int32) (lb' : Nat → Int32), F_Fraction_toLowestTerms N l1 la l2 lb = some (l1', la', l2', lb') ∧ CN la' l1' (a / Nat.gcd a b) ∧ CN lb' l2' (b / Nat.gcd a b) := by
  unfold F_Fraction_toLowestTerms
  by_cases ha : a = 0
  · rw [if_pos (by rw [h1.1, ha]; rfl)]
    obtain ⟨l, bb, e, c⟩ := put_ok (limb := lb) (v := 1) (by decide)
    rw [show (1 : Int32) = nI 1 from rfl, e, bO_s]
    refine ⟨_, _, _, _, rfl, ?_, ?_⟩
    · rw [ha, Nat.zero_div]; rw [ha] at h1; exact h1
    · rw [ha, Nat.gcd_zero_left, Nat.div_self (by omega)]; exact c
  · have hn0 : nL a ≠ 0 := fun q => ha (nL_eq0.mp q)
    rw [if_neg (by rw [h1.1]; simp (disch := omega) only [z0, nI_leI, nI_ltI, nI_eq, nI_1, nI_add, pk_mul, nI_clamp]; omega)]
    have := lpI (L := fun f j (s : (Nat → Int32) × Int32 × (Nat → Int32) × Int32) => Fraction_toLowestTerms_L21 N f (nI j) s.1 s.2.1 s.2.2.1 s.2.2.2) (n := 181)
      (fun j s => 2 ≤ j ∧ ∃ a' b' c : Nat, CN s.1 s.2.1 a' ∧ CN s.2.2.1 s.2.2.2 b' ∧ a = c * a' ∧ b = c * b' ∧ ∀ d, 2 ≤ d → d < j → ¬ (d ∣ a' ∧ d ∣ b'))
      (fun s => ∃ a' b' c : Nat, CN s.1 s.2.1 a' ∧ CN s.2.2.1 s.2.2.2 b' ∧ a = c * a' ∧ b = c * b' ∧ ∀ d, 2 ≤ d → d < 181 → ¬ (d ∣ a' ∧ d ∣ b')) ?_ ?_ 179 N 2 (la, l1, lb, l2) (by omega) (by omega)
      ⟨by omega, a, b, 1, h1, h2, by omega, by omega, fun d _ _ => by omega⟩
    · obtain ⟨⟨la', l1', lb', l2'⟩, e, a', b', c, c1, c2, ea, eb, hno⟩ := this
      rw [show Fraction_toLowestTerms_L21 N N 2 la l1 lb l2 = _ from e, bO_s]
      have hb' : b' ≠ 0 := fun q => by rw [q, Nat.mul_zero] at eb; omega
      have hc : c ≠ 0 := fun q => by rw [q, Nat.zero_mul] at eb; omega
      have hg : Nat.gcd a' b' = 1 := by
        have g0 : 0 < Nat.gcd a' b' := Nat.gcd_pos_of_pos_right _ (by omega)
        apply Classical.byContradiction
        intro q
        obtain ⟨d, d1, d2, d3⟩ := hs (Nat.gcd a' b') (by omega) (Nat.dvd_trans (Nat.gcd_dvd_right a' b') ⟨c, by rw [eb, Nat.mul_comm]⟩)
        exact hno d d1 (by omega) ⟨Nat.dvd_trans d3 (Nat.gcd_dvd_left a' b'), Nat.dvd_trans d3 (Nat.gcd_dvd_right a' b')⟩
      have eg : Nat.gcd a b = c := by rw [ea, eb, Nat.gcd_mul_left, hg, Nat.mul_one]
      refine ⟨l1', la', l2', lb', rfl, ?_, ?_⟩
      · rw [eg, ea, Nat.mul_div_cancel_left _ (by omega)]; exact c1
      · rw [eg, eb, Nat.mul_div_cancel_left _ (by omega)]; exact c2
    · intro f j s hj hi
      · right
        obtain ⟨hj2, a', b', c, c1, c2, ea, eb, hno⟩ := hi
        have ha' : a' ≠ 0 := fun q => by rw [q, Nat.mul_zero] at ea; omega
        have hb' : b' ≠ 0 := fun q => by rw [q, Nat.mul_zero] at eb; omega
        have hc : c ≠ 0 := fun q => by rw [q, Nat.zero_mul] at eb; omega
        have la1 : a' ≤ a := by rw [ea]; exact Nat.le_mul_of_pos_left _ (by omega)
        have lb1 : b' ≤ b := by rw [eb]; exact Nat.le_mul_of_pos_left _ (by omega)
        have na := Nat.le_trans (nL_mono la1) hx
        have nb := Nat.le_trans (nL_mono lb1) hy
        have hsz : a' < 2 ^ (30 * 40) := nL_le.mp na
        obtain ⟨r, a2, b2, c2', t1, t2, t3, t4, t5, t6⟩ := L30_ok (N := N) (d := j) (by omega) (by omega) (by omega) (30 * 40) N 0 a' b' s.1 s.2.1 s.2.2.1 s.2.2.2 (by omega) (by omega) hsz ha' hb' na nb c1 c2
        refine ⟨r, ?_, by omega, a2, b2, c * c2', t2, t3, by rw [Nat.mul_assoc, ← t4]; exact ea, by rw [Nat.mul_assoc, ← t5]; exact eb, ?_⟩
        · show Fraction_toLowestTerms_L21 N (f + 1) (nI j) s.1 s.2.1 s.2.2.1 s.2.2.2 = _
          rw [Fraction_toLowestTerms_L21, if_neg (by simp (disch := omega) only [k180, nI_leI, nI_ltI, nI_eq, nI_1, nI_add, pk_mul, nI_clamp]; omega), show Fraction_toLowestTerms_L30 N (nI j) N 0 s.1 s.2.1 s.2.2.1 s.2.2.2 = _ from t1, bO_s, nI_1]
          rfl
        · intro d d1 d2 q
          by_cases z : d = j
          · rw [z] at q; exact t6 q
          · apply hno d d1 (by omega)
            exact ⟨by rw [t4]; exact Nat.dvd_trans q.1 (Nat.dvd_mul_left _ _), by rw [t5]; exact Nat.dvd_trans q.2 (Nat.dvd_mul_left _ _)⟩
    · intro f s hi
      refine ⟨s, ?_, hi.2⟩
      show Fraction_toLowestTerms_L21 N (f + 1) (nI 181) s.1 s.2.1 s.2.2.1 s.2.2.2 = _
      rw [Fraction_toLowestTerms_L21, if_pos (by simp (disch := omega) only [k180, nI_leI, nI_ltI, nI_eq, nI_1, nI_add, pk_mul, nI_clamp]; omega)]
