-- WHEN IT TURNS
variable {N n cl : Nat} {ln nu wt ll : Nat → Nat} {length weight least lipsOf b : Nat → Int32}
/-- the first of 'd' from 'j' on that holds -/
def fT (D : Nat → Bool) : Nat → Nat → Int32
  | 0, _ => -1
  | d + 1, j => if D j = true then nI j else fT D d (j + 1)
theorem isBelow_ok {bl p p2 p3 : Nat} {cc : Nat → Nat} {cb : Nat → Nat → Int32} {cs wl : Nat → Int32} {wls : Int32} (hN : 100 ≤ N) (hn : n ≤ 10) (hp : p < n) (hc : FN cb cs n cc) (hw : CN wl wls bl) (h2 : p2 ≤ 99) (h31 : 1 ≤ p3) (h32 : p3 ≤ 99) (hcc : cc p < 2 ^ 1100) (hbl : bl < 2 ^ 1100) (scl sbl : Nat → Int32) :
    ∃ a1 a2 a3 a4, F_Chances_isBelow N (nI p) (nI p2) (nI p3) cb cs wls wl scl sbl = some (bI (decide (p3 * cc p < p2 * bl)), a1, a2, a3, a4) := by
  have hm : ∀ c x : Nat, c ≤ 99 → x < 2 ^ 1100 → c * x < Bp 40 := by
    intro c x h1 h3
    apply Nat.lt_of_lt_of_le _ (pw40 (e := 7 + 1100) (by omega))
    rw [Nat.pow_add]
    exact Nat.mul_lt_mul_of_lt_of_le (show c < 2 ^ 7 by omega) (Nat.le_of_lt h3) (Nat.two_pow_pos _)
  have l0 : ∀ x, x < 2 ^ 1100 → nL x ≤ 40 := fun x hx => nL_le.mpr (Nat.lt_of_lt_of_le hx (pw40 (by omega)))
  unfold F_Chances_isBelow
  obtain ⟨l1, b1, e1, c1⟩ := copy_ok (limb := scl) (hc p hp) (l0 _ hcc)
  obtain ⟨l2, b2, e2, c2⟩ := multiply_ok hN c1 h31 (by omega) (hm p3 _ h32 hcc)
  obtain ⟨l3, b3, e3, c3⟩ := put_ok (limb := sbl) (v := 0) (by decide)
  have e3' : F_Natural_put 0 sbl = some (l3, b3) := e3
  obtain ⟨l4, b4, e4, c4⟩ := addTimes_ok (c := p2) hN c3 hw (by omega) (by rw [nL_0]; omega) (l0 _ hbl) (by rw [Nat.zero_add]; exact hm p2 _ h2 hbl)
  rw [Nat.zero_add] at c4
  have e5 := less_ok hN c2 c4 (nL_le.mpr (hm p3 _ h32 hcc)) (nL_le.mpr (hm p2 _ h2 hbl))
  rw [gd_ix (by omega) (by omega), nI_clamp (by omega), e1, bO_s]
  dsimp only [u2]
  rw [e2, bO_s]
  dsimp only [u2]
  rw [e3', bO_s]
  dsimp only [u2]
  rw [e4, bO_s]
  dsimp only [u2]
  rw [e5, bO_s, nar_bI]
  exact ⟨l2, b2, l4, b4, rfl⟩
theorem turC_ok {p p2 p3 : Nat} {pt tot : Nat → Nat} {h : Nat → Nat → Nat} {hA : Nat → Nat → Int32} {total part cs bs wl sb tb : Nat → Int32} {cb bb : Nat → Nat → Int32} {wls sl tl : Int32} (hN : 100 ≤ N) (hn : n ≤ 10) (hpn : p < n) (hp : ∀ i, i < n → 1 ≤ pt i ∧ pt i ≤ 180 ∧ part i = nI (pt i))
    (ht : ∀ a, a < n → 1 ≤ tot a ∧ tot a ≤ 180 ∧ total a = nI (tot a)) (hh : ∀ a c, a < n → c < n → h a c ≤ 99) (hhA : ∀ a c, a < n → c < n → hA a c = nI (h a c)) (hc : FN cb cs n (fun a => if a = p then 1 else 0)) (hw : CN wl wls 1) (h2 : p2 ≤ 99) (h31 : 1 ≤ p3) (h32 : p3 ≤ 99) :
    ∃ r, S_turns_L62 N (nI n) hA total part (nI p) (nI p2) (nI p3) N 1 cs cb bs bb wl wls sb sl tb tl = some r ∧
      ((∃ u, r = .inl u ∧ u.1 = fT (fun k => decide (p3 * itC (pB n pt) tot h n p k p < p2 * pB n pt ^ k)) 12 1) ∨ (∃ u, r = .inr u ∧ fT (fun k => decide (p3 * itC (pB n pt) tot h n p k p < p2 * pB n pt ^ k)) 12 1 = -1)) := by
  have hL := pB_75 hn (fun i hi => (hp i hi).2.1)
  obtain ⟨D, hD⟩ : ∃ D : Nat → Bool, D = fun k => decide (p3 * itC (pB n pt) tot h n p k p < p2 * pB n pt ^ k) := ⟨_, rfl⟩
  rw [← hD]
  have key : ∀ (d f j : Nat) (cs : Nat → Int32) (cb : Nat → Nat → Int32) (bs : Nat → Int32) (bb : Nat → Nat → Int32) (wl : Nat → Int32) (wls : Int32) (sb : Nat → Int32) (sl : Int32) (tb : Nat → Int32) (tl : Int32), d + j = 12 → d < f → FN cb cs n (itC (pB n pt) tot h n p j) → CN wl wls (pB n pt ^ j) →
      ∃ r, S_turns_L62 N (nI n) hA total part (nI p) (nI p2) (nI p3) f (nI (j + 1)) cs cb bs bb wl wls sb sl tb tl = some r ∧ ((∃ u, r = .inl u ∧ u.1 = fT D d (j + 1)) ∨ (∃ u, r = .inr u ∧ fT D d (j + 1) = -1)) := by
    intro d
    induction d with
    | zero =>
      intro f j cs cb bs bb wl wls sb sl tb tl hj hf _ _
      obtain ⟨f, rfl⟩ : ∃ z, f = z + 1 := ⟨f - 1, by omega⟩
      rw [S_turns_L62, if_pos (by simp (disch := omega) only [k12, nI_leI, nI_ltI, nI_eq, nI_1, nI_add, pk_mul, nI_clamp]; omega)]
      exact ⟨_, rfl, Or.inr ⟨_, rfl, rfl⟩⟩
    | succ d ih =>
      intro f j cs cb bs bb wl wls sb sl tb tl hj hf i1 i2
      obtain ⟨f, rfl⟩ : ∃ z, f = z + 1 := ⟨f - 1, by omega⟩
      have hfit : pB n pt * pB n pt ^ j < Bp 40 := by
        have := pow_lt75 hL (j + 1)
        rw [Nat.pow_succ, Nat.mul_comm] at this
        exact Nat.lt_of_lt_of_le this (pw40 (by omega))
      obtain ⟨cb', cs', bb', bs', wls', wl', e1, c1, c2⟩ := passOn_ok (bs := bs) (bb := bb) hN hn hp ht hh hhA i1 (itC_lt hn hL hh j) (by omega) i2 hfit
      have c2' : CN wl' wls' (pB n pt ^ (j + 1)) := by rw [Nat.pow_succ, Nat.mul_comm]; exact c2
      have pw : 2 ^ (85 * (j + 1) + 1) ≤ 2 ^ 1100 := Nat.pow_le_pow_right (by decide) (by omega)
      obtain ⟨a1, a2, a3, a4, e2⟩ := isBelow_ok (cc := itC (pB n pt) tot h n p (j + 1)) hN hn hpn c1 c2' h2 h31 h32 (Nat.lt_of_lt_of_le (itC_lt hn hL hh (j + 1) p hpn) pw) (Nat.lt_of_lt_of_le (pow_lt75 hL (j + 1)) pw) sb tb
      have eD : D (j + 1) = decide (p3 * itC (pB n pt) tot h n p (j + 1) p < p2 * pB n pt ^ (j + 1)) := by rw [hD]
      rw [← eD] at e2
      rw [S_turns_L62, if_neg (by simp (disch := omega) only [k12, nI_leI, nI_ltI, nI_eq, nI_1, nI_add, pk_mul, nI_clamp]; omega), e1, bO_s]
      dsimp only [u6]
      rw [e2, bO_s]
      dsimp only [u5]
      rw [show fT D (d + 1) (j + 1) = (if D (j + 1) = true then nI (j + 1) else fT D d (j + 1 + 1)) from rfl]
      by_cases z : D (j + 1) = true
      · rw [z, if_neg (show ¬ bI true = (0 : Int32) by decide), if_pos rfl]
        exact ⟨_, rfl, Or.inl ⟨_, rfl, rfl⟩⟩
      · have z' : D (j + 1) = false := by simpa using z
        rw [z', if_pos (show bI false = (0 : Int32) from rfl), if_neg (by decide), nI_1]
        exact ih f (j + 1) cs' cb' bs' bb' wl' wls' a2 a1 a4 a3 (by omega) (by omega) c1 c2'
  exact key 12 N 0 cs cb bs bb wl wls sb sl tb tl rfl (by omega) hc hw
theorem turR_ok {lm wd sums : Nat → Int32} {V : Nat → Option Nat} {s : Nat → Nat} {p p2 p3 : Nat} (hN : 100 ≤ N) (h : LxR n ln nu wt ll b) (h8 : b 8 = nI cl) (hcl : cl ≤ 99) (hp : p < n) (hs : ∀ i, i < n → 1 ≤ s i ∧ s i ≤ 180 ∧ sums i = nI (s i)) (hG : RG lm wd V) (hr : ∀ a, a < n → V (7 + a) = some (if a = p then 1 else 0)) (h6 : V 6 = some 1) (h2 : p2 ≤ 99) (h3 : p3 ≤ 99) :
    ∃ r, R_turns_L43 N (nI p) b sums (nI p3) (nI p2) N 1 lm wd = some r ∧
      ((∃ t lm' wd' V', r = .inl (t, lm', wd', sums) ∧ t = fT (fun k => decide (p3 * itR (fun a => pB n (oS ln s p a)) (he ln nu wt ll cl) n p k p < p2 * pB n (aS ln s p) ^ k)) 12 1 ∧ RG lm' wd' V' ∧ ∀ k, k < 2 → V' k = V k) ∨
       (∃ lm' wd' V', r = .inr (lm', wd') ∧ fT (fun k => decide (p3 * itR (fun a => pB n (oS ln s p a)) (he ln nu wt ll cl) n p k p < p2 * pB n (aS ln s p) ^ k)) 12 1 = -1 ∧ RG lm' wd' V' ∧ ∀ k, k < 2 → V' k = V k)) := by
  have hn := h.1
  have hh : ∀ a c, a < n → c < n → he ln nu wt ll cl a c ≤ 99 := fun a c _ hc => he_le hcl (h.2.2.2.2.1 c hc).2.1
  have hps : ∀ a, a < n → pB n (oS ln s p a) < 2 ^ 75 := by
    intro a ha
    apply pB_75 hn
    intro i hi
    have := hs i hi
    unfold oS
    split
    · omega
    · split <;> omega
  have has : pB n (aS ln s p) < 2 ^ 75 := by
    apply pB_75 hn
    intro i hi
    have := hs i hi
    unfold aS
    split <;> omega
  obtain ⟨D, hD⟩ : ∃ D : Nat → Bool, D = fun k => decide (p3 * itR (fun a => pB n (oS ln s p a)) (he ln nu wt ll cl) n p k p < p2 * pB n (aS ln s p) ^ k) := ⟨_, rfl⟩
  rw [← hD]
  have hm : ∀ (c x j : Nat), j ≤ 12 → c ≤ 99 → x < 2 ^ (85 * j + 1) → c * x < Bp 50 := by
    intro c x j h0 h1 h3
    apply Nat.lt_of_lt_of_le _ (B50 (e := 7 + (85 * j + 1)) (by omega))
    rw [Nat.pow_add]
    exact Nat.mul_lt_mul_of_lt_of_le (show c < 2 ^ 7 by omega) (Nat.le_of_lt h3) (Nat.two_pow_pos _)
  have key : ∀ (d f j : Nat) (lm wd : Nat → Int32) (V1 : Nat → Option Nat), d + j = 12 → d < f → RG lm wd V1 → (∀ a, a < n → V1 (7 + a) = some (itR (fun a => pB n (oS ln s p a)) (he ln nu wt ll cl) n p j a)) → V1 6 = some (pB n (aS ln s p) ^ j) → (∀ k, k < 2 → V1 k = V k) →
      ∃ r, R_turns_L43 N (nI p) b sums (nI p3) (nI p2) f (nI (j + 1)) lm wd = some r ∧ ((∃ t lm' wd' V', r = .inl (t, lm', wd', sums) ∧ t = fT D d (j + 1) ∧ RG lm' wd' V' ∧ ∀ k, k < 2 → V' k = V k) ∨ (∃ lm' wd' V', r = .inr (lm', wd') ∧ fT D d (j + 1) = -1 ∧ RG lm' wd' V' ∧ ∀ k, k < 2 → V' k = V k)) := by
    intro d
    induction d with
    | zero =>
      intro f j lm wd V1 hj hf G1 _ _ v1
      obtain ⟨f, rfl⟩ : ∃ z, f = z + 1 := ⟨f - 1, by omega⟩
      rw [R_turns_L43, if_pos (by simp (disch := omega) only [k13, nI_leI, nI_ltI, nI_eq, nI_1, nI_add, pk_mul, nI_clamp]; omega)]
      exact ⟨_, rfl, Or.inr ⟨lm, wd, V1, rfl, rfl, G1, v1⟩⟩
    | succ d ih =>
      intro f j lm wd V1 hj hf G1 q1 q2 v1
      obtain ⟨f, rfl⟩ : ∃ z, f = z + 1 := ⟨f - 1, by omega⟩
      obtain ⟨lm2, wd2, V2, e2, G2, q4, q5, q6⟩ := RhearsOn_ok hN h h8 hcl hp hs G1 q1 (itR_lt hn hps hh j) (by omega) q2 (pow_lt75 has j)
      have q4' : V2 (7 + p) = some (itR (fun a => pB n (oS ln s p a)) (he ln nu wt ll cl) n p (j + 1) p) := q4 p hp
      have q5' : V2 6 = some (pB n (aS ln s p) ^ (j + 1)) := by rw [q5, Nat.pow_succ, Nat.mul_comm]
      obtain ⟨lm3, wd3, e3, G3⟩ := takes_ok (N := N) (r := 2) (q := 7 + p) hN G2 (by omega) q4' (by omega)
      obtain ⟨lm4, wd4, e4, G4⟩ := times_ok (N := N) (r := 2) (c := p3) hN G3 ru_s (by omega) (hm p3 _ (j + 1) (by omega) h3 (itR_lt hn hps hh (j + 1) p hp))
      obtain ⟨lm5, wd5, e5, G5⟩ := takes_ok (N := N) (r := 3) (q := 6) hN G4 (by omega) (by rw [ru_n (by omega), ru_n (by omega)]; exact q5') (by omega)
      obtain ⟨lm6, wd6, e6, G6⟩ := times_ok (N := N) (r := 3) (c := p2) hN G5 ru_s (by omega) (hm p2 _ (j + 1) (by omega) h2 (pow_lt75 has (j + 1)))
      have ea := Ragainst_ok (N := N) (r := 2) (q := 3) hN G6 (by rw [ru_n (by omega), ru_n (by omega), ru_s]) ru_s
      have eD : D (j + 1) = decide (p3 * itR (fun a => pB n (oS ln s p a)) (he ln nu wt ll cl) n p (j + 1) p < p2 * pB n (aS ln s p) ^ (j + 1)) := by rw [hD]
      have v6 : ∀ k, k < 2 → ru (ru (ru (ru V2 2 (itR (fun a => pB n (oS ln s p a)) (he ln nu wt ll cl) n p (j + 1) p)) 2 (p3 * itR (fun a => pB n (oS ln s p a)) (he ln nu wt ll cl) n p (j + 1) p)) 3 (pB n (aS ln s p) ^ (j + 1))) 3 (p2 * pB n (aS ln s p) ^ (j + 1)) k = V k := by
        intro k hk
        rw [ru_n (by omega), ru_n (by omega), ru_n (by omega), ru_n (by omega), q6 k (by omega)]
        exact v1 k hk
      rw [R_turns_L43, if_neg (by simp (disch := omega) only [k13, nI_leI, nI_ltI, nI_eq, nI_1, nI_add, pk_mul, nI_clamp]; omega), e2, bO_s]
      dsimp only [u2]
      rw [k7, nI_add, show F_R_takes N 2 (nI (7 + p)) lm2 wd2 = _ from e3, bO_s]
      dsimp only [u2]
      rw [show F_R_times N 2 (nI p3) lm3 wd3 = _ from e4, bO_s]
      dsimp only [u2]
      rw [show F_R_takes N 3 6 lm4 wd4 = _ from e5, bO_s]
      dsimp only [u2]
      rw [show F_R_times N 3 (nI p2) lm5 wd5 = _ from e6, bO_s]
      dsimp only [u2]
      rw [show F_R_against N 2 3 lm6 wd6 = _ from ea, bO_s]
      rw [show fT D (d + 1) (j + 1) = (if D (j + 1) = true then nI (j + 1) else fT D d (j + 1 + 1)) from rfl]
      by_cases z : p3 * itR (fun a => pB n (oS ln s p a)) (he ln nu wt ll cl) n p (j + 1) p < p2 * pB n (aS ln s p) ^ (j + 1)
      · rw [eD, decide_eq_true z, if_pos z, if_neg (show ¬ (0 : Int32) ≤ -1 by decide), if_pos rfl]
        exact ⟨_, rfl, Or.inl ⟨_, _, _, _, rfl, rfl, G6, v6⟩⟩
      · have h0 : (0 : Int32) ≤ (if p3 * itR (fun a => pB n (oS ln s p a)) (he ln nu wt ll cl) n p (j + 1) p < p2 * pB n (aS ln s p) ^ (j + 1) then (-1 : Int32) else if p3 * itR (fun a => pB n (oS ln s p a)) (he ln nu wt ll cl) n p (j + 1) p = p2 * pB n (aS ln s p) ^ (j + 1) then 0 else 1) := by
          rw [if_neg z]
          split <;> decide
        rw [eD, decide_eq_false z, if_pos h0, if_neg (show ¬ (false = true) by decide), nI_1]
        refine ih f (j + 1) lm6 wd6 _ (by omega) (by omega) G6 (fun a ha => ?_) ?_ v6
        · rw [ru_n (by omega), ru_n (by omega), ru_n (by omega), ru_n (by omega)]
          exact q4 a ha
        · rw [ru_n (by omega), ru_n (by omega), ru_n (by omega), ru_n (by omega)]
          exact q5'
  exact key 12 N 0 lm wd V rfl (by omega) hG hr (by rw [h6]; rfl) (fun _ _ => rfl)
theorem cmp_eq {c x r y p2 p3 : Nat} (h : c * y = r * x) (hx : 0 < x) (hy : 0 < y) : decide (p3 * c < p2 * x) = decide (p3 * r < p2 * y) := by
  have e1 : p3 * c < p2 * x ↔ p3 * c * y < p2 * x * y := (Nat.mul_lt_mul_right hy).symm
  have e2 : p3 * r < p2 * y ↔ p3 * r * x < p2 * y * x := (Nat.mul_lt_mul_right hx).symm
  have e3 : p3 * c * y = p3 * r * x := by rw [Nat.mul_assoc, h, Nat.mul_assoc]
  have e4 : p2 * x * y = p2 * y * x := by rw [Nat.mul_assoc, Nat.mul_comm x y, Nat.mul_assoc]
  rw [decide_eq_decide, e1, e2, e3, e4]
theorem P_turns_ok {N : Nat} (hN : 4000 ≤ N) : P_turns N Rel := by
  intro x y p1 p2 p3 h
  obtain ⟨n, ln, nu, wt, ll, nr, ro, gi, hn, hnr, hgi, hC, hR, h1, h2, h3, h4⟩ := h.1.2.2.1.both
  obtain ⟨lv, ls, cl, c1, c99, ⟨hc, h8⟩, _, _⟩ := h.1.2.2.2
  unfold F_S_turns F_R_turns
  rw [RisWd_eq, h1.1, h1.2, isWd_eq, in_lit p2 (a := 0) (b := 99) (a' := 0) (b' := 99) (by decide) (by decide), in_lit p3 (a := 1) (b := 99) (a' := 1) (b' := 99) (by decide) (by decide)]
  rcases wv_cases p1 (n := n) (by omega) with ⟨e1, _⟩ | ⟨e1, p, hp, rfl⟩
  · rw [if_pos e1, if_pos e1]
    exact ⟨_, _, rfl, rfl, rfl, h⟩
  have ne1 : ¬ F_S_within (nI p) 0 (nI n - 1) = 0 := by rw [e1]; decide
  rw [if_neg ne1, if_neg ne1]
  rcases sw_cases p2 0 99 (ia := 0) (ib := 99) rfl rfl (by decide) (by decide) with ⟨e2, _⟩ | ⟨e2, q, _, hq, rfl⟩
  · rw [if_pos e2, if_pos e2]
    exact ⟨_, _, rfl, rfl, rfl, h⟩
  have ne2 : ¬ F_S_within (nI q) 0 99 = 0 := by rw [e2]; decide
  rw [if_neg ne2, if_neg ne2]
  rcases sw_cases p3 1 99 (ia := 1) (ib := 99) rfl rfl (by decide) (by decide) with ⟨e3, _⟩ | ⟨e3, m, hm1, hm2, rfl⟩
  · rw [if_pos e3, if_pos e3]
    exact ⟨_, _, rfl, rfl, rfl, h⟩
  have ne3 : ¬ F_S_within (nI m) 1 99 = 0 := by rw [e3]; decide
  rw [if_neg ne3, if_neg ne3]
  have hN1 : 100 ≤ N := by omega
  obtain ⟨hA', tt', pa', cb', cs', wls', wl', pt, s1, s2, s3, s4, s5, s6, s7⟩ := say_ok hN1 hC hR c1 c99 hp (Chances_heardAs (S_chances x)) (Chances_total (S_chances x)) (Chances_part (S_chances x)) (Naturals_limb (Chances_chance (S_chances x))) (Naturals_limbs (Chances_chance (S_chances x))) (Natural_limb (Chances_below (S_chances x)))
  have hh : ∀ a c, a < n → c < n → he ln nu wt ll cl a c ≤ 99 := fun a c _ hc => he_le c99 (hR.2.2.2.2.1 c hc).2.1
  rw [hc, s1, bO_s]
  dsimp only [u8]
  obtain ⟨r, a1, a2⟩ := turC_ok (p := p) (p2 := q) (p3 := m) (bs := Naturals_limbs (Chances_before (S_chances x))) (bb := Naturals_limb (Chances_before (S_chances x))) (sb := Natural_limb (Chances_scaled (S_chances x))) (sl := Natural_limbs (Chances_scaled (S_chances x))) (tb := Natural_limb (Chances_scaledBelow (S_chances x))) (tl := Natural_limbs (Chances_scaledBelow (S_chances x))) hN1 hn hp s4 s3 hh s2 s6 s7 hq hm1 hm2
  rw [a1]
  obtain ⟨fp, fq, V0, G0, v00, v01, v0n, fl1, fl2, fc1, fc2⟩ := h.2.2.2.2.reg
  obtain ⟨lm1, wd1, sums1, V1, b1, G1, b2, b3, b4, b5⟩ := RbeginHearing_ok (sums := R_sums y) hN1 hR h8 hp G0
  have hs := sums_ok hR c1 c99 b2
  rw [b1, bO_s]
  dsimp only [u3]
  obtain ⟨r2, d1, d2⟩ := turR_ok (p2 := q) (p3 := m) hN1 hR h8 c99 hp hs G1 b3 b4 hq hm2
  rw [d1]
  have hpa : 0 < pB n (aS ln (fun i => sB n (he ln nu wt ll cl i)) p) := by
    apply pB_pos
    intro i hi
    have := (hs i hi).1
    unfold aS
    split
    · exact this
    · exact Nat.le_refl 1
  have hrat : (fun k => decide (m * itC (pB n pt) (toA ln nu wt ll n cl p) (he ln nu wt ll cl) n p k p < q * pB n pt ^ k)) = (fun k => decide (m * itR (fun a => pB n (oS ln (fun i => sB n (he ln nu wt ll cl i)) p a)) (he ln nu wt ll cl) n p k p < q * pB n (aS ln (fun i => sB n (he ln nu wt ll cl i)) p) ^ k)) := by
    funext k
    exact cmp_eq ((ratio_ok (n := n) (cl := cl) (ln := ln) (nu := nu) (wt := wt) (ll := ll) (L := pB n pt) (p := p) (s := fun i => sB n (he ln nu wt ll cl i)) s5 k).2 p hp) (Nat.pow_pos (pB_pos (fun i hi => (s4 i hi).1))) (Nat.pow_pos hpa)
  rw [hrat] at a2
  have hR0 : ∀ (lm' wd' : Nat → Int32) (V' : Nat → Option Nat), RG lm' wd' V' → (∀ k, k < 2 → V' k = V1 k) → RFr (S_fraction x) lm' wd' := fun lm' wd' V' g1 g2 => RFr_mk fl1 fl2 fc1 fc2 g1 ((g2 0 (by omega)).trans ((b5 0 (by omega)).trans v00)) ((g2 1 (by omega)).trans ((b5 1 (by omega)).trans v01))
  generalize fT (fun k => decide (m * itR (fun a => pB n (oS ln (fun i => sB n (he ln nu wt ll cl i)) p a)) (he ln nu wt ll cl) n p k p < q * pB n (aS ln (fun i => sB n (he ln nu wt ll cl i)) p) ^ k)) 12 1 = T at a2 d2
  rcases d2 with ⟨t, lm', wd', V', rfl, hT, g1, g2⟩ | ⟨lm', wd', V', rfl, hT, g1, g2⟩
  · rcases a2 with ⟨u, rfl, ha⟩ | ⟨u, rfl, ha⟩
    · rw [bT_l, bT_l]
      refine ⟨_, _, rfl, rfl, by rw [ha, hT], ?_⟩
      exact ⟨h.1, h.2.1, h.2.2.1, h.2.2.2.1, hR0 lm' wd' V' g1 g2⟩
    · rw [bT_r, bT_l]
      refine ⟨_, _, rfl, rfl, by rw [hT, ha], ?_⟩
      exact ⟨h.1, h.2.1, h.2.2.1, h.2.2.2.1, hR0 lm' wd' V' g1 g2⟩
  · rcases a2 with ⟨u, rfl, ha⟩ | ⟨u, rfl, ha⟩
    · rw [bT_l, bT_r]
      refine ⟨_, _, rfl, rfl, by rw [ha, hT], ?_⟩
      exact ⟨h.1, h.2.1, h.2.2.1, h.2.2.2.1, hR0 lm' wd' V' g1 g2⟩
    · rw [bT_r, bT_r]
      refine ⟨_, _, rfl, rfl, rfl, ?_⟩
      exact ⟨h.1, h.2.1, h.2.2.1, h.2.2.2.1, hR0 lm' wd' V' g1 g2⟩
