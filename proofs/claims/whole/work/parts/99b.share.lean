-- HER SHARE
theorem Rtold_ok {lm wd : Nat → Int32} {a b N : Nat} (hN : 4000 ≤ N) (ha : a < 2 ^ 31) (hb : b < 2 ^ 31) (hb0 : b ≠ 0) : ∃ lm' wd' V', F_R_told N (nI a).toInt64 (nI b).toInt64 lm wd = some (1, lm', wd') ∧ RG lm' wd' V' ∧ V' 0 = some (a / Nat.gcd a b) ∧ V' 1 = some (b / Nat.gcd a b) := by
  unfold F_R_told
  rw [nIL ha, nIL hb]
  obtain ⟨lm1, wd1, e1, G1⟩ := sets_ok (lm := lm) (wd := wd) (V := fun _ => none) (N := N) (r := 0) (v := a) (by omega) (fun r v hv => by simp at hv) (by omega) (by omega)
  rw [show (0 : Int32) = nI 0 from rfl, e1, bO_s]
  obtain ⟨lm2, wd2, e2, G2⟩ := sets_ok (N := N) (r := 1) (v := b) (by omega) G1 (by omega) (by omega)
  show ∃ lm' wd' V', bO (F_R_sets N (nI 1) (lN b) lm1 wd1) _ = _ ∧ _
  rw [e2, bO_s]
  obtain ⟨lm3, wd3, V3, e3, G3, v0, v1⟩ := lowers_ok hN G2 (a := a) (b := b) (by rw [ru_n (by omega), ru_s]) ru_s hb0 (by rw [ru_n (by omega), ru_n (by omega)])
  show ∃ lm' wd' V', bO (F_R_lowers N lm2 wd2) _ = _ ∧ _
  rw [e3, bO_s]
  exact ⟨lm3, wd3, V3, rfl, G3, v0, v1⟩
theorem put0_ok {la lb : Nat → Int32} {a b N : Nat} (hN : 4000 ≤ N) (ha : a < 2 ^ 30) (h1 : 1 ≤ b) (h2 : b ≤ 180) : ∃ (l1' : Int32) (la' : Nat → Int32) (l2' : Int32) (lb' : Nat → Int32), F_Fraction_put0 N (nI a) (nI b) la lb = some (l1', la', l2', lb') ∧ CN la' l1' (a / Nat.gcd a b) ∧ CN lb' l2' (b / Nat.gcd a b) := by
  unfold F_Fraction_put0
  obtain ⟨l1, la1, e1, c1⟩ := put_ok (limb := la) ha
  obtain ⟨l2, lb1, e2, c2⟩ := put_ok (limb := lb) (v := b) (by omega)
  rw [e1, bO_s]
  show ∃ (l1' : Int32) (la' : Nat → Int32) (l2' : Int32) (lb' : Nat → Int32), bO (F_Natural_put (nI b) lb) _ = _ ∧ _
  rw [e2, bO_s]
  have na : nL a ≤ 40 := nL_le.mpr (Nat.lt_of_lt_of_le ha (Bp_mono (i := 1) (by omega)))
  have nb : nL b ≤ 40 := nL_le.mpr (Nat.lt_of_lt_of_le (show b < Bp 1 by rw [Bp_1]; omega) (Bp_mono (by omega)))
  obtain ⟨l1', la', l2', lb', e3, c3, c4⟩ := terms_ok hN c1 c2 (by omega) na nb (Sm_small h1 h2)
  show ∃ (l1' : Int32) (la' : Nat → Int32) (l2' : Int32) (lb' : Nat → Int32), bO (F_Fraction_toLowestTerms N l1 la1 l2 lb1) _ = _ ∧ _
  rw [e3, bO_s]
  exact ⟨l1', la', l2', lb', rfl, c3, c4⟩
theorem RFr_mk {la lb lm wd : Nat → Int32} {l1 l2 : Int32} {V : Nat → Option Nat} {p q : Nat} (hp : nL p ≤ 40) (hq : nL q ≤ 40) (h1 : CN la l1 p) (h2 : CN lb l2 q) (hG : RG lm wd V) (h3 : V 0 = some p) (h4 : V 1 = some q) : RFr ((la, l1), (lb, l2)) lm wd := ⟨p, q, hp, hq, h1, h2, (hG 0 p h3).2.2, (hG 1 q h4).2.2⟩
theorem RFr.reg {x : T_Fraction} {lm wd : Nat → Int32} (h : RFr x lm wd) : ∃ p q V, RG lm wd V ∧ V 0 = some p ∧ V 1 = some q ∧ (∀ k, 2 ≤ k → V k = none) ∧ nL p ≤ 40 ∧ nL q ≤ 40 ∧ CN (Natural_limb (Fraction_above x)) (Natural_limbs (Fraction_above x)) p ∧ CN (Natural_limb (Fraction_below x)) (Natural_limbs (Fraction_below x)) q := by
  obtain ⟨p, q, h1, h2, h3, h4, h5, h6⟩ := h
  refine ⟨p, q, fun k => if k = 0 then some p else if k = 1 then some q else none, ?_, if_pos rfl, ?_, ?_, h1, h2, h3, h4⟩
  · intro r v hv
    dsimp only at hv
    by_cases z : r = 0
    · rw [if_pos z] at hv
      cases hv
      rw [z]
      exact ⟨by omega, by omega, h5⟩
    · rw [if_neg z] at hv
      by_cases z1 : r = 1
      · rw [if_pos z1] at hv
        cases hv
        rw [z1]
        exact ⟨by omega, by omega, h6⟩
      · rw [if_neg z1] at hv
        exact absurd hv (by simp)
  · dsimp only
    rw [if_neg (by omega), if_pos rfl]
  · intro k hk
    dsimp only
    rw [if_neg (by omega), if_neg (by omega)]
theorem nL_div {a g k : Nat} (h : nL a ≤ k) : nL (a / g) ≤ k := Nat.le_trans (nL_mono (Nat.div_le_self _ _)) h
theorem nL_sm {a : Nat} (h : a < 2 ^ 30) : nL a ≤ 40 := nL_le.mpr (Nat.lt_of_lt_of_le h (Bp_mono (i := 1) (by omega)))
theorem P_share_ok {N : Nat} (hN : 4000 ≤ N) : P_share N Rel := by
  intro x y h
  obtain ⟨n, ln, nu, wt, ll, nr, ro, gi, hn, hnr, hgi, hC, hR, h1, h2, h3, h4⟩ := h.1.2.2.1.both
  have hp := p2 hn
  unfold F_S_share F_R_share
  rw [h1.1, h1.2]
  by_cases hz : n = 0
  · rw [if_pos (by rw [hz]; rfl), if_pos (by rw [hz]; rfl)]
    exact ⟨_, _, rfl, rfl, rfl, by rw [← h1.1]; exact h⟩
  · rw [if_neg (by simp (disch := omega) only [z0, nI_leI, nI_ltI, nI_eq, nI_1, nI_add, pk_mul, nI_clamp]; omega), if_neg (by simp (disch := omega) only [z0, nI_leI, nI_ltI, nI_eq, nI_1, nI_add, pk_mul, nI_clamp]; omega)]
    have hall : F_Lexicon_allWords (nI n) = nI (2 ^ n - 1) := by unfold F_Lexicon_allWords; rw [mk_all (show n ≤ 31 by omega), bm_allN]
    have hRall : F_R_allWords (R_book y) = nI (2 ^ n - 1) := by unfold F_R_allWords; rw [h1.2, mk_all (show n ≤ 31 by omega), bm_allN]
    have hg : gtM n ln nu ll wt gi < 2 ^ 31 := Nat.lt_of_lt_of_le (gtM_lt hn) (by decide)
    obtain ⟨o', q1, q2⟩ := better_ok (N := N) (by omega) hC (Lexicon_others (Shed_lexicon (S_now x)))
    have wle : ∀ m, wgS n wt m ≤ 9 * n := by
      intro m
      unfold wgS
      rw [Nat.mul_comm]
      apply sB_le
      intro w hw
      show (if _ then wt w else 0) ≤ 9
      have := (hC.2.2.1 w hw).2.1
      split <;> omega
    have wpos : 1 ≤ wgS n wt (2 ^ n - 1) := by
      obtain ⟨m, rfl⟩ : ∃ m, n = m + 1 := ⟨n - 1, by omega⟩
      have := (hC.2.2.1 m (by omega)).1
      unfold wgS
      rw [sB_s, Nat.testBit_two_pow_sub_one, if_pos (by rw [decide_eq_true (by omega)])]
      omega
    have b1 := wle (gtM n ln nu ll wt gi)
    have b2 := wle (2 ^ n - 1)
    unfold F_Lexicon_gotten F_R_gets
    rw [h3.1, h3.2, q1, bO_s, gottenOf_ok (by omega) hC q2 (by omega), bO_s, bO_s]
    dsimp only [u2]
    rw [weightOf_ok (by omega) hC hg, bO_s, hall, weightOf_ok (by omega) hC (by omega), bO_s, RgetsOf_ok (by omega) hR (by omega), bO_s, bO_s, Rweights_ok (by omega) hR hg, bO_s, hRall, Rweights_ok (by omega) hR (by omega), bO_s]
    obtain ⟨l1', la', l2', lb', e1, c1, c2⟩ := put0_ok (la := Natural_limb (Fraction_above (S_fraction x))) (lb := Natural_limb (Fraction_below (S_fraction x))) hN (show wgS n wt (gtM n ln nu ll wt gi) < 2 ^ 30 by omega) wpos (show wgS n wt (2 ^ n - 1) ≤ 180 by omega)
    obtain ⟨lm', wd', V', e2, G, v0, v1⟩ := Rtold_ok (lm := R_limbs y) (wd := R_wide y) hN (show wgS n wt (gtM n ln nu ll wt gi) < 2 ^ 31 by omega) (show wgS n wt (2 ^ n - 1) < 2 ^ 31 by omega) (by omega)
    rw [e1, bO_s, e2, bO_s]
    refine ⟨_, _, rfl, rfl, rfl, ?_⟩
    rw [← h1.1, ← h3.1]
    exact ⟨h.1, h.2.1, h.2.2.1, h.2.2.2.1, RFr_mk (nL_div (nL_sm (by omega))) (nL_div (nL_sm (by omega))) c1 c2 G v0 v1⟩
