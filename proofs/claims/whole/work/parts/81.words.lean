-- WORDS
/-- a loop that counts down, its states known -/
theorem lpDn {ρ : Type} {L : Nat → Nat → Option ρ} {n N : Nat} {r : ρ} (hs : ∀ f j, j < n → L (f + 1) (j + 1) = L f j) (he : ∀ f, L (f + 1) 0 = some r) (hN : n < N) : L N n = some r := by
  have key : ∀ (j f : Nat), j ≤ n → j < f → L f j = some r := by
    intro j
    induction j with
    | zero =>
      intro f _ hf
      obtain ⟨f, rfl⟩ : ∃ g, f = g + 1 := ⟨f - 1, by omega⟩
      exact he f
    | succ j ih =>
      intro f hj hf
      obtain ⟨f, rfl⟩ : ∃ g, f = g + 1 := ⟨f - 1, by omega⟩
      rw [hs f j (by omega)]
      exact ih f (by omega) (by omega)
  exact key n N (Nat.le_refl n) hN
theorem dec1 (x : Int32) : x + (-1) = x - 1 := (Int32.sub_eq_add_neg x 1).symm
theorem m1_lt0 : (nI 0 - 1 : Int32) < 0 := by decide
def lpD (ln nu : Nat → Nat) (w k : Nat) : Nat := nu w / 6 ^ (ln w - 1 - k) % 6
def unD (ln nu ll : Nat → Nat) (a c : Nat) : Nat := sB (ln a) (fun i => if ll (lpD ln nu a i) = ll (lpD ln nu c i) then 0 else 1)
def alD (ln nu ll : Nat → Nat) (a c : Nat) : Bool := decide (ln a = ln c) && decide (unD ln nu ll a c = 0)
theorem lpD_lt (ln nu : Nat → Nat) (w k : Nat) : lpD ln nu w k < 6 := Nat.mod_lt _ (by decide)
theorem unD_le {ln nu ll : Nat → Nat} {a c : Nat} : unD ln nu ll a c ≤ ln a := by
  have := sB_le (f := fun i => if ll (lpD ln nu a i) = ll (lpD ln nu c i) then 0 else 1) (k := 1) (n := ln a) (fun i _ => by show (if _ = _ then 0 else 1) ≤ 1; split <;> omega)
  rw [Nat.mul_one] at this
  exact this
def LxC (n : Nat) (ln nu wt ll : Nat → Nat) (length weight least lipsOf : Nat → Int32) : Prop := n ≤ 10 ∧ (∀ w, w < n → 1 ≤ ln w ∧ ln w ≤ 6 ∧ length w = nI (ln w)) ∧ (∀ w, w < n → 1 ≤ wt w ∧ wt w ≤ 9 ∧ weight w = nI (wt w)) ∧
  (∀ w i, w < n → i < ln w → lipsOf (6 * w + i) = nI (lpD ln nu w i)) ∧ (∀ l, l < 6 → ll l < 6 ∧ least l = nI (ll l))
def LxR (n : Nat) (ln nu wt ll : Nat → Nat) (b : Nat → Int32) : Prop := n ≤ 10 ∧ b 3 = nI n ∧ (∀ w, w < n → 1 ≤ ln w ∧ ln w ≤ 6 ∧ b (160 + 3 * w) = nI (ln w)) ∧ (∀ w, w < n → nu w < 6 ^ ln w ∧ b (160 + 3 * w + 1) = nI (nu w)) ∧
  (∀ w, w < n → 1 ≤ wt w ∧ wt w ≤ 9 ∧ b (160 + 3 * w + 2) = nI (wt w)) ∧ (∀ l, l < 6 → ll l < 6 ∧ b (150 + l) = nI (ll l))
/-- the words, the row, and what she knows, of both -/
theorem RLx.both {x : T_Lexicon} {b : Nat → Int32} (h : RLx x b) : ∃ (n : Nat) (ln nu wt ll : Nat → Nat) (nr : Nat) (ro : Nat → Nat) (gi : Nat), n ≤ 10 ∧ nr ≤ 24 ∧ gi < 2 ^ n ∧ LxC n ln nu wt ll (Lexicon_length x) (Lexicon_weight x) (Lexicon_leastLike x) (Lexicon_lipsOf x) ∧ LxR n ln nu wt ll b ∧
    (Lexicon_words x = nI n ∧ b 3 = nI n) ∧ (Lexicon_rowLips x = nI nr ∧ b 4 = nI nr) ∧ (Lexicon_girlKnows x = nI gi ∧ b 9 = nI gi) ∧ (∀ k, k < nr → ro k < 6 ∧ Lexicon_row x k = nI (ro k) ∧ b (190 + k) = nI (ro k)) := by
  obtain ⟨n, ln, nu, wt, ll, nr, ro, gi, hn, hnr, hgi, h1, h2, h3, h7, h8, h9, h10, h11, h12⟩ := h
  refine ⟨n, ln, nu, wt, ll, nr, ro, gi, hn, hnr, hgi, ⟨hn, ?_, ?_, h10, ?_⟩, ⟨hn, h1.2, ?_, ?_, ?_, ?_⟩, h1, h2, h3, h12⟩
  · intro w hw; have := h7 w hw; exact ⟨this.1, this.2.1, this.2.2.1⟩
  · intro w hw; have := h9 w hw; exact ⟨this.1, this.2.1, this.2.2.1⟩
  · intro w hw; have := h11 w hw; exact ⟨this.1, this.2.1⟩
  · intro w hw; have := h7 w hw; exact ⟨this.1, this.2.1, this.2.2.2⟩
  · intro w hw; have := h8 w hw; exact ⟨this.1, this.2.2⟩
  · intro w hw; have := h9 w hw; exact ⟨this.1, this.2.1, this.2.2.2⟩
  · intro w hw; have := h11 w hw; exact ⟨this.1, this.2.2⟩
theorem p6 {k : Nat} (h : k ≤ 6) : 6 ^ k ≤ 46656 := by
  have : 6 ^ k ≤ 6 ^ 6 := Nat.pow_le_pow_right (by decide) h
  exact this
theorem Rpower_ok {N k : Nat} (hN : 100 ≤ N) (hk : k ≤ 6) : F_R_power N (nI k) = some (nI (6 ^ k)) := by
  unfold F_R_power
  have h1 : R_power_L4 (nI k) N 1 0 = some (nI (6 ^ k)) := by
    refine lp0 (L := fun f j => R_power_L4 (nI k) f (nI (6 ^ j)) (nI j)) (n := k) (fun f j hj => ?_) (fun f => ?_) (by omega)
    · have h5 : ¬ k ≤ j := by omega
      show R_power_L4 (nI k) (f + 1) (nI (6 ^ j)) (nI j) = R_power_L4 (nI k) f (nI (6 ^ (j + 1))) (nI (j + 1))
      rw [R_power_L4, if_neg (nI_ge (by omega) (by omega)), nI_1, Nat.pow_succ, ← pk_mul]
      rfl
    · show R_power_L4 (nI k) (f + 1) (nI (6 ^ k)) (nI k) = _
      rw [R_power_L4, if_pos (nI_le (Nat.le_refl k) (by omega))]
  rw [h1, bO_s]
section LX
variable {N n : Nat} {ln nu wt ll : Nat → Nat} {length weight least lipsOf b : Nat → Int32}
theorem RlengthOf_ok (h : LxR n ln nu wt ll b) {w : Nat} (hw : w < n) : F_R_lengthOf (nI w) b = some (nI (ln w)) := by
  have h0 := h.1
  unfold F_R_lengthOf
  simp (disch := omega) only [k160, k3, nI_leI, nI_ltI, nI_eq, nI_1, nI_add, pk_mul, nI_clamp, gd_ix, (h.2.2.1 w hw).2.2]
theorem RweightOf_ok (h : LxR n ln nu wt ll b) {w : Nat} (hw : w < n) : F_R_weightOf (nI w) b = some (nI (wt w)) := by
  have h0 := h.1
  unfold F_R_weightOf
  simp (disch := omega) only [k160, k3, k2, nI_leI, nI_ltI, nI_eq, nI_1, nI_add, pk_mul, nI_clamp, gd_ix, (h.2.2.2.2.1 w hw).2.2]
theorem RlipOf_ok (hN : 100 ≤ N) (h : LxR n ln nu wt ll b) {w k : Nat} (hw : w < n) (hk : k < ln w) : F_R_lipOf N (nI w) (nI k) b = some (nI (ll (lpD ln nu w k))) := by
  have h0 := h.1
  have h1 := h.2.2.1 w hw
  have h2 := h.2.2.2.1 w hw
  unfold F_R_lipOf
  simp (disch := omega) only [k160, k3, nI_leI, nI_ltI, nI_eq, nI_1, nI_add, pk_mul, nI_clamp, gd_ix, h2.2]
  rw [RlengthOf_ok h hw, bO_s]
  have e : nI (ln w) - 1 - nI k = nI (ln w - 1 - k) := by
    show nI (ln w) - nI 1 - nI k = _
    rw [pk_sub (by omega), pk_sub (by omega)]
  rw [e, Rpower_ok hN (by omega), bO_s]
  have hp := p6 (show ln w - 1 - k ≤ 6 by omega)
  have hp6 := p6 (show ln w ≤ 6 by omega)
  have hp0 : 0 < 6 ^ (ln w - 1 - k) := Nat.pow_pos (by decide)
  have en : nz (nI (6 ^ (ln w - 1 - k))) = true := by
    unfold nz
    have : ¬ nI (6 ^ (ln w - 1 - k)) = 0 := nI_ne0 hp0 (by omega)
    simp [this]
  rw [en, gd_t, pk_div (by omega) hp0 (by omega)]
  have er : jrem (nI (nu w / 6 ^ (ln w - 1 - k))) 6 = nI (lpD ln nu w k) := by
    have : nu w / 6 ^ (ln w - 1 - k) ≤ nu w := Nat.div_le_self _ _
    exact pk_rem (d := 6) (by omega) (by omega) (by omega)
  rw [er]
  have hl := lpD_lt ln nu w k
  simp (disch := omega) only [k150, nI_leI, nI_ltI, nI_eq, nI_1, nI_add, pk_mul, nI_clamp, gd_ix, (h.2.2.2.2.2 (lpD ln nu w k) hl).2]
theorem look_ok (h : LxC n ln nu wt ll length weight least lipsOf) {a c : Nat} (ha : a < 6) (hc : c < 6) : F_Lexicon_lookAlike (nI a) (nI c) least = some (bI (decide (ll a = ll c))) := by
  unfold F_Lexicon_lookAlike
  have h1 := h.2.2.2.2 a ha
  have h2 := h.2.2.2.2 c hc
  simp (disch := omega) only [gd_ix, nI_clamp, h1.2, h2.2, nI_eq]
  by_cases e : ll a = ll c
  · rw [if_pos e, decide_eq_true e]; rfl
  · rw [if_neg e, decide_eq_false e]; rfl
theorem unlike_ok (hN : 100 ≤ N) (h : LxC n ln nu wt ll length weight least lipsOf) {a c : Nat} (ha : a < n) (hc : c < n) (hac : ln a = ln c) : F_Lexicon_unlikeLips N (nI a) (nI c) length least lipsOf = some (nI (unD ln nu ll a c)) := by
  have h0 := h.1
  have h1 := h.2.1 a ha
  unfold F_Lexicon_unlikeLips
  have e1 : Lexicon_unlikeLips_L5 (nI a) length (nI c) lipsOf least N 0 0 = some (nI (unD ln nu ll a c)) := by
    refine lp0 (L := fun f j => Lexicon_unlikeLips_L5 (nI a) length (nI c) lipsOf least f (nI (sB j (fun i => if ll (lpD ln nu a i) = ll (lpD ln nu c i) then 0 else 1))) (nI j)) (n := ln a) (fun f j hj => ?_) (fun f => ?_) (by omega)
    · have h5 : ¬ ln a ≤ j := by omega
      show Lexicon_unlikeLips_L5 (nI a) length (nI c) lipsOf least (f + 1) (nI (sB j _)) (nI j) = Lexicon_unlikeLips_L5 (nI a) length (nI c) lipsOf least f (nI (sB (j + 1) _)) (nI (j + 1))
      rw [Lexicon_unlikeLips_L5, sB_s]
      have d1 := h.2.2.2.1 a j ha hj
      have d2 := h.2.2.2.1 c j hc (by omega)
      simp (disch := omega) only [k6, nI_leI, nI_ltI, nI_eq, nI_1, nI_add, pk_mul, nI_clamp, gd_ix, h1.2.2, h5, if_false]
      rw [show a * 6 + j = 6 * a + j by omega, show c * 6 + j = 6 * c + j by omega, d1, d2, look_ok h (lpD_lt _ _ _ _) (lpD_lt _ _ _ _), bO_s]
      by_cases e : ll (lpD ln nu a j) = ll (lpD ln nu c j)
      · rw [decide_eq_true e, bI_t, if_neg n10, if_pos e]
        rfl
      · rw [decide_eq_false e, bI_f, if_pos rfl, if_neg e]
    · show Lexicon_unlikeLips_L5 (nI a) length (nI c) lipsOf least (f + 1) _ (nI (ln a)) = _
      rw [Lexicon_unlikeLips_L5]
      simp (disch := omega) only [gd_ix, nI_clamp, h1.2.2, nI_leI, Nat.le_refl, if_true]
      rfl
  rw [e1, bO_s]
theorem Runlike_ok (hN : 100 ≤ N) (h : LxR n ln nu wt ll b) {a c : Nat} (ha : a < n) (hc : c < n) (hac : ln a = ln c) : F_R_unlike N (nI a) (nI c) b = some (nI (unD ln nu ll a c)) := by
  have h0 := h.1
  have h1 := h.2.2.1 a ha
  unfold F_R_unlike
  have e1 : R_unlike_L5 N (nI a) b (nI c) N 0 0 = some (nI (unD ln nu ll a c)) := by
    refine lp0 (L := fun f j => R_unlike_L5 N (nI a) b (nI c) f (nI (sB j (fun i => if ll (lpD ln nu a i) = ll (lpD ln nu c i) then 0 else 1))) (nI j)) (n := ln a) (fun f j hj => ?_) (fun f => ?_) (by omega)
    · show R_unlike_L5 N (nI a) b (nI c) (f + 1) (nI (sB j _)) (nI j) = R_unlike_L5 N (nI a) b (nI c) f (nI (sB (j + 1) _)) (nI (j + 1))
      rw [R_unlike_L5, sB_s, RlengthOf_ok h ha, bO_s, if_neg (nI_ge (by omega) (by omega)), RlipOf_ok hN h ha hj, bO_s, RlipOf_ok hN h hc (by omega), bO_s, nI_1]
      have l1 := (h.2.2.2.2.2 _ (lpD_lt ln nu a j)).1
      have l2 := (h.2.2.2.2.2 _ (lpD_lt ln nu c j)).1
      by_cases e : ll (lpD ln nu a j) = ll (lpD ln nu c j)
      · rw [if_pos (by rw [e]), if_pos e]
        congr 1
        exact nI_add _ 0
      · rw [if_neg (fun q => e ((nI_eq (by omega) (by omega)).mp q)), if_neg e, nI_1]
    · show R_unlike_L5 N (nI a) b (nI c) (f + 1) _ (nI (ln a)) = _
      rw [R_unlike_L5, RlengthOf_ok h ha, bO_s, if_pos (nI_le (Nat.le_refl _) (by omega))]
      rfl
  rw [e1, bO_s]
theorem alike_ok (hN : 100 ≤ N) (h : LxC n ln nu wt ll length weight least lipsOf) {a c : Nat} (ha : a < n) (hc : c < n) : F_Lexicon_areAlike N (nI a) (nI c) length least lipsOf = some (bI (alD ln nu ll a c)) := by
  have h0 := h.1
  have h1 := h.2.1 a ha
  have h2 := h.2.1 c hc
  unfold F_Lexicon_areAlike alD
  simp (disch := omega) only [gd_ix, nI_clamp, h1.2.2, h2.2.2, nI_eq]
  by_cases e : ln a = ln c
  · have hu := unD_le (ln := ln) (nu := nu) (ll := ll) (a := a) (c := c)
    rw [if_pos e, unlike_ok hN h ha hc e, bO_s, decide_eq_true e, Bool.true_and]
    by_cases e2 : unD ln nu ll a c = 0
    · rw [e2, if_pos nI_0]; rfl
    · rw [if_neg (nI_ne0 (by omega) (by omega)), decide_eq_false e2]; rfl
  · rw [if_neg e, decide_eq_false e]; rfl
theorem Ralike_ok (hN : 100 ≤ N) (h : LxR n ln nu wt ll b) {a c : Nat} (ha : a < n) (hc : c < n) : F_R_areAlike N (nI a) (nI c) b = some (bI (alD ln nu ll a c)) := by
  have h0 := h.1
  have h1 := h.2.2.1 a ha
  have h2 := h.2.2.1 c hc
  unfold F_R_areAlike alD
  rw [RlengthOf_ok h ha, bO_s, RlengthOf_ok h hc, bO_s]
  by_cases e : ln a = ln c
  · have hu := unD_le (ln := ln) (nu := nu) (ll := ll) (a := a) (c := c)
    rw [if_pos (by rw [e]), Runlike_ok hN h ha hc e, bO_s, decide_eq_true e, Bool.true_and]
    by_cases e2 : unD ln nu ll a c = 0
    · rw [e2, if_pos nI_0]; rfl
    · rw [if_neg (nI_ne0 (by omega) (by omega)), decide_eq_false e2]; rfl
  · rw [if_neg (fun q => e ((nI_eq (by omega) (by omega)).mp q)), decide_eq_false e]; rfl
end LX
theorem P_alike_ok {N : Nat} (hN : 100 ≤ N) : P_alike N Rel := by
  intro x y p q h
  obtain ⟨n, ln, nu, wt, ll, nr, ro, gi, hn, hnr, hgi, hC, hR, h1, h2, h3, h4⟩ := h.1.2.2.1.both
  unfold F_S_alike F_R_alike
  rw [RisWd_eq, RisWd_eq, h1.1, h1.2, isWd_eq, isWd_eq]
  rcases wv_cases p (n := n) (by omega) with ⟨hp, _⟩ | ⟨hp, a, ha, rfl⟩
  · rw [hp, if_pos rfl, if_pos rfl]; exact ⟨_, _, rfl, rfl, rfl, h⟩
  rw [hp, if_neg n10, if_neg n10]
  rcases wv_cases q (n := n) (by omega) with ⟨hq, _⟩ | ⟨hq, c, hc, rfl⟩
  · rw [hq, if_pos rfl, if_pos rfl]; exact ⟨_, _, rfl, rfl, rfl, h⟩
  rw [hq, if_neg n10, if_neg n10, alike_ok hN hC ha hc, bO_s, Ralike_ok hN hR ha hc, bO_s, oneIf_bI, ifB]
  exact ⟨_, _, rfl, rfl, rfl, h⟩
/-- two lips made alike -/
theorem like_ok {N : Nat} (hN : 100 ≤ N) {x : T_Lexicon} {b : Nat → Int32} (h : RLx x b) (p q : Int32) : ∃ u v, F_Lexicon_makeAlike N p q (Lexicon_leastLike x) = some u ∧ F_R_like N p q b = some v ∧ u.1 = v.1 ∧ RLx (Lexicon_words x, Lexicon_length x, Lexicon_number x, Lexicon_weight x, u.2, Lexicon_row x, Lexicon_rowLips x, Lexicon_girlKnows x, Lexicon_lipsOf x, Lexicon_others x) v.2 ∧ (∀ k, ¬ gL k → v.2 k = b k) := by
  have h0 := h
  obtain ⟨n, ln, nu, wt, ll, nr, ro, gi, hn, hnr, hgi, h1, h2, h3, h7, h8, h9, h10, h11, h12⟩ := h
  unfold F_Lexicon_makeAlike F_R_like
  rw [in_lit p (a' := 0) (b' := 5) (by decide) (by decide), in_lit q (a' := 0) (b' := 5) (by decide) (by decide)]
  rcases sw_cases p 0 5 (ia := 0) (ib := 5) rfl rfl (by omega) (by omega) with ⟨hp, _⟩ | ⟨hp, a, _, ha, rfl⟩
  · rw [hp, if_pos rfl, if_pos rfl]; exact ⟨_, _, rfl, rfl, rfl, h0, fun _ _ => rfl⟩
  rw [hp, if_neg n10, if_neg n10]
  rcases sw_cases q 0 5 (ia := 0) (ib := 5) rfl rfl (by omega) (by omega) with ⟨hq, _⟩ | ⟨hq, c, _, hc, rfl⟩
  · rw [hq, if_pos rfl, if_pos rfl]; exact ⟨_, _, rfl, rfl, rfl, h0, fun _ _ => rfl⟩
  rw [hq, if_neg n10, if_neg n10]
  obtain ⟨la, lb, lc⟩ := h11 a (by omega)
  obtain ⟨ma, mb, mc⟩ := h11 c (by omega)
  simp (disch := omega) only [k150, nI_leI, nI_ltI, nI_eq, nI_1, nI_add, pk_mul, nI_clamp, gd_ix, lb, mb, lc, mc]
  have emin : jmin (nI (ll a)) (nI (ll c)) = nI (min (ll a) (ll c)) := by
    unfold jmin
    by_cases e : ll c < ll a
    · rw [if_pos (nI_lt e (by omega)), Nat.min_def, if_neg (by omega)]
    · rw [if_neg (nI_nlt (by omega) (by omega)), Nat.min_def, if_pos (by omega)]
  have emax : jmax (nI (ll a)) (nI (ll c)) = nI (max (ll a) (ll c)) := by
    unfold jmax
    by_cases e : ll a < ll c
    · rw [if_pos (nI_lt e (by omega)), Nat.max_def, if_pos (by omega)]
    · rw [if_neg (nI_nlt (by omega) (by omega)), Nat.max_def]
      by_cases e2 : ll a ≤ ll c
      · rw [if_pos e2, show ll a = ll c by omega]
      · rw [if_neg e2]
  rw [emin, emax]
  by_cases e : ll a = ll c
  · rw [if_pos e, if_pos (by rw [e, Nat.min_self, Nat.max_self])]
    exact ⟨_, _, rfl, rfl, rfl, h0, fun _ _ => rfl⟩
  have hmn : min (ll a) (ll c) < 6 := by omega
  have hmx : max (ll a) (ll c) < 6 := by omega
  rw [if_neg e, if_neg (fun q => by have := (nI_eq (by omega) (by omega)).mp q; omega)]
  have c1 : Lexicon_makeAlike_L66 (nI (max (ll a) (ll c))) (nI (min (ll a) (ll c))) N 0 (Lexicon_leastLike x) = some (fun l => if l < 6 then nI (if ll l = max (ll a) (ll c) then min (ll a) (ll c) else ll l) else Lexicon_leastLike x l) := by
    refine lp0 (L := fun f j => Lexicon_makeAlike_L66 (nI (max (ll a) (ll c))) (nI (min (ll a) (ll c))) f (nI j) (fun l => if l < j then nI (if ll l = max (ll a) (ll c) then min (ll a) (ll c) else ll l) else Lexicon_leastLike x l)) (n := 6) (fun f j hj => ?_) (fun f => ?_) (by omega)
    · have h5 : ¬ (6 : Nat) ≤ j := by omega
      obtain ⟨na, nb, nc⟩ := h11 j hj
      show Lexicon_makeAlike_L66 _ _ (f + 1) (nI j) _ = Lexicon_makeAlike_L66 _ _ f (nI (j + 1)) _
      rw [Lexicon_makeAlike_L66]
      simp (disch := omega) only [k6, nI_leI, nI_ltI, nI_eq, nI_1, nI_add, pk_mul, nI_clamp, gd_ix, h5, if_false, Nat.lt_irrefl, nb]
      by_cases e2 : ll j = max (ll a) (ll c)
      · rw [if_pos e2]
        congr 1
        funext l
        by_cases e3 : l = j
        · subst e3; rw [pk_us, if_pos (by omega), if_pos e2]
        · rw [pk_un e3]; simp only [show l < j + 1 ↔ l < j by omega]
      · rw [if_neg e2]
        congr 1
        funext l
        by_cases e3 : l = j
        · subst e3; rw [if_neg (by omega), if_pos (by omega), if_neg e2, nb]
        · simp only [show l < j + 1 ↔ l < j by omega]
    · show Lexicon_makeAlike_L66 _ _ (f + 1) (nI 6) _ = _
      rw [Lexicon_makeAlike_L66]; rfl
  have c2 : R_like_L62 (nI (ll a)) (nI (ll c)) N 0 b = some (fun k => if 150 ≤ k ∧ k < 156 then nI (if ll (k - 150) = max (ll a) (ll c) then min (ll a) (ll c) else ll (k - 150)) else b k) := by
    have e0 : (fun k => if 150 ≤ k ∧ k < 150 + 0 then nI (if ll (k - 150) = max (ll a) (ll c) then min (ll a) (ll c) else ll (k - 150)) else b k) = b := funext (fun k => if_neg (by omega))
    suffices hh : R_like_L62 (nI (ll a)) (nI (ll c)) N (nI 0) (fun k => if 150 ≤ k ∧ k < 150 + 0 then nI (if ll (k - 150) = max (ll a) (ll c) then min (ll a) (ll c) else ll (k - 150)) else b k) = some (fun k => if 150 ≤ k ∧ k < 150 + 6 then nI (if ll (k - 150) = max (ll a) (ll c) then min (ll a) (ll c) else ll (k - 150)) else b k) by
      rw [e0] at hh; exact hh
    refine lp0 (L := fun f j => R_like_L62 (nI (ll a)) (nI (ll c)) f (nI j) (fun k => if 150 ≤ k ∧ k < 150 + j then nI (if ll (k - 150) = max (ll a) (ll c) then min (ll a) (ll c) else ll (k - 150)) else b k)) (n := 6) (r := fun k => if 150 ≤ k ∧ k < 150 + 6 then nI (if ll (k - 150) = max (ll a) (ll c) then min (ll a) (ll c) else ll (k - 150)) else b k) (fun f j hj => ?_) (fun f => ?_) (by omega)
    · have h5 : ¬ (6 : Nat) ≤ j := by omega
      obtain ⟨na, nb, nc⟩ := h11 j hj
      show R_like_L62 _ _ (f + 1) (nI j) _ = R_like_L62 _ _ f (nI (j + 1)) _
      rw [R_like_L62]
      have q1 : ¬ (150 ≤ 150 + j ∧ 150 + j < 150 + j) := by omega
      simp (disch := omega) only [k6, k150, nI_leI, nI_ltI, nI_eq, nI_1, nI_add, pk_mul, nI_clamp, gd_ix, h5, if_false, q1, nc]
      have up : ∀ v : Nat, v = (if ll j = max (ll a) (ll c) then min (ll a) (ll c) else ll j) → (upd (fun k => if 150 ≤ k ∧ k < 150 + j then nI (if ll (k - 150) = max (ll a) (ll c) then min (ll a) (ll c) else ll (k - 150)) else b k) (150 + j) (nI v)) = (fun k => if 150 ≤ k ∧ k < 150 + (j + 1) then nI (if ll (k - 150) = max (ll a) (ll c) then min (ll a) (ll c) else ll (k - 150)) else b k) := by
        intro v hv
        funext k
        by_cases e3 : k = 150 + j
        · subst e3; rw [pk_us, if_pos (by omega), show 150 + j - 150 = j by omega, hv]
        · rw [pk_un e3]
          simp only [show (150 ≤ k ∧ k < 150 + (j + 1)) ↔ (150 ≤ k ∧ k < 150 + j) by omega]
      have nup : ll j = (if ll j = max (ll a) (ll c) then min (ll a) (ll c) else ll j) → (fun k => if 150 ≤ k ∧ k < 150 + j then nI (if ll (k - 150) = max (ll a) (ll c) then min (ll a) (ll c) else ll (k - 150)) else b k) = (fun k => if 150 ≤ k ∧ k < 150 + (j + 1) then nI (if ll (k - 150) = max (ll a) (ll c) then min (ll a) (ll c) else ll (k - 150)) else b k) := by
        intro hv
        funext k
        by_cases e3 : k = 150 + j
        · subst e3; rw [if_neg (by omega), if_pos (by omega), show 150 + j - 150 = j by omega, ← hv, nc]
        · simp only [show (150 ≤ k ∧ k < 150 + (j + 1)) ↔ (150 ≤ k ∧ k < 150 + j) by omega]
      by_cases e2 : ll j = ll a
      · rw [if_pos e2]
        by_cases e4 : ll c ≤ ll a
        · rw [if_pos e4, up (ll c) (by rw [if_pos (show ll j = max (ll a) (ll c) by omega)]; omega)]
        · rw [if_neg e4, up (ll a) (by rw [if_neg (by omega), e2])]
      · rw [if_neg e2]
        by_cases e5 : ll j = ll c
        · rw [if_pos e5]
          by_cases e4 : ll c ≤ ll a
          · rw [if_pos e4, up (ll c) (by rw [if_neg (by omega), e5])]
          · rw [if_neg e4, up (ll a) (by rw [if_pos (by omega)]; omega)]
        · rw [if_neg e5, nup (by rw [if_neg (by omega)])]
    · show R_like_L62 _ _ (f + 1) (nI 6) _ = _
      rw [R_like_L62]; rfl
  rw [c1, bO_s, c2, bO_s]
  refine ⟨_, _, rfl, rfl, rfl, ?_, ?_⟩
  · refine ⟨n, ln, nu, wt, fun l => if ll l = max (ll a) (ll c) then min (ll a) (ll c) else ll l, nr, ro, gi, hn, hnr, hgi, ⟨h1.1, ?_⟩, ⟨h2.1, ?_⟩, ⟨h3.1, ?_⟩, ?_, ?_, ?_, h10, ?_, ?_⟩
    · simp only []; rw [if_neg (by omega), h1.2]
    · simp only []; rw [if_neg (by omega), h2.2]
    · simp only []; rw [if_neg (by omega), h3.2]
    · intro w hw; simp only []; rw [if_neg (by omega)]; exact h7 w hw
    · intro w hw; simp only []; rw [if_neg (by omega)]; exact h8 w hw
    · intro w hw; simp only []; rw [if_neg (by omega)]; exact h9 w hw
    · intro l hl
      simp only [Lexicon_leastLike]
      rw [if_pos hl, if_pos (show 150 ≤ 150 + l ∧ 150 + l < 156 by omega), show 150 + l - 150 = l by omega]
      refine ⟨?_, rfl, rfl⟩
      have := (h11 l hl).1
      split <;> omega
    · intro k hk; simp only []; rw [if_neg (by omega)]; exact h12 k hk
  · intro k hk
    unfold gL at hk
    simp only []
    rw [if_neg (by omega)]
theorem P_like_ok {N : Nat} (hN : 100 ≤ N) : P_like N Rel := by
  intro x y p q h
  obtain ⟨u, v, e1, e2, e3, e4, e5⟩ := like_ok hN h.1.2.2.1 p q
  refine ⟨u, v, ?_, e2, e3, h.lex e4 e5⟩
  unfold F_S_like
  rw [e1, bO_s]; rfl
