-- WHAT ARRIVES, AND WHEN IT TURNS
variable {N n cl : Nat} {ln nu wt ll : Nat → Nat} {length weight least lipsOf b : Nat → Int32}
theorem say_ok (hN : 100 ≤ N) (h : LxC n ln nu wt ll length weight least lipsOf) (hR : LxR n ln nu wt ll b) (h1 : 1 ≤ cl) (h99 : cl ≤ 99) {p : Nat} (hp : p < n) (hA : Nat → Nat → Int32) (tt pa : Nat → Int32) (cb : Nat → Nat → Int32) (cs wl : Nat → Int32) :
    ∃ (hA' : Nat → Nat → Int32) (tt' pa' : Nat → Int32) (cb' : Nat → Nat → Int32) (cs' : Nat → Int32) (wls' : Int32) (wl' : Nat → Int32) (pt : Nat → Nat), F_Chances_say N (nI cl) (nI p) hA tt pa cb cs wl (nI n) length weight least lipsOf = some (nI n, hA', tt', pa', cb', cs', wls', wl') ∧
      (∀ a c, a < n → c < n → hA' a c = nI (he ln nu wt ll cl a c)) ∧ (∀ a, a < n → 1 ≤ toA ln nu wt ll n cl p a ∧ toA ln nu wt ll n cl p a ≤ 180 ∧ tt' a = nI (toA ln nu wt ll n cl p a)) ∧ (∀ i, i < n → 1 ≤ pt i ∧ pt i ≤ 180 ∧ pa' i = nI (pt i)) ∧ (∀ a, a < n → toA ln nu wt ll n cl p a ∣ pB n pt) ∧
      FN cb' cs' n (fun a => if a = p then 1 else 0) ∧ CN wl' wls' 1 := by
  have hn := h.1
  unfold F_Chances_say
  obtain ⟨⟨hA', tt', cs', cb'⟩, e1, q1, q2, q3⟩ := sayL11_ok (cl := cl) hN h hp hA tt cs cb
  dsimp only at q1 q2 q3
  obtain ⟨wls', wl', e2, c2⟩ := put_ok (limb := wl) (v := 1) (by decide)
  have htot : ∀ a, a < n → 1 ≤ toA ln nu wt ll n cl p a ∧ toA ln nu wt ll n cl p a ≤ 180 ∧ tt' a = nI (toA ln nu wt ll n cl p a) := by
    intro a ha
    have := sum_he hR h1 h99 ha
    refine ⟨?_, ?_, q2 a ha⟩
    · unfold toA; split <;> omega
    · unfold toA; split <;> omega
  obtain ⟨pa', pt, e3, q4⟩ := findParts_ok (part := pa) hN hn htot
  have e2' : F_Natural_put 1 wl = some (wls', wl') := e2
  rw [e1, bO_s]
  dsimp only [u4]
  rw [e2', bO_s]
  dsimp only [u2]
  rw [e3, bO_s]
  exact ⟨hA', tt', pa', cb', cs', wls', wl', pt, rfl, q1, htot, fun i hi => ⟨(q4 i hi).1, (q4 i hi).2.1, (q4 i hi).2.2.1⟩, fun a ha => (q4 a ha).2.2.2, q3, c2⟩
theorem arrL_ok {m p : Nat} {pt tot : Nat → Nat} {h : Nat → Nat → Nat} {hA : Nat → Nat → Int32} {total part cs bs wl : Nat → Int32} {cb bb : Nat → Nat → Int32} {wls : Int32} (hN : 100 ≤ N) (hn : n ≤ 10) (hm : m ≤ 12) (hp : ∀ i, i < n → 1 ≤ pt i ∧ pt i ≤ 180 ∧ part i = nI (pt i))
    (ht : ∀ a, a < n → 1 ≤ tot a ∧ tot a ≤ 180 ∧ total a = nI (tot a)) (hh : ∀ a c, a < n → c < n → h a c ≤ 99) (hhA : ∀ a c, a < n → c < n → hA a c = nI (h a c)) (hc : FN cb cs n (fun a => if a = p then 1 else 0)) (hw : CN wl wls 1) :
    ∃ (r : (Nat → Int32) × (Nat → Nat → Int32) × (Nat → Int32) × (Nat → Nat → Int32) × (Nat → Int32) × Int32), S_arrives_L60 N (nI m) (nI n) hA total part N 0 cs cb bs bb wl wls = some r ∧ FN r.2.1 r.1 n (itC (pB n pt) tot h n p m) ∧ CN r.2.2.2.2.1 r.2.2.2.2.2 (pB n pt ^ m) := by
  have hL := pB_75 hn (fun i hi => (hp i hi).2.1)
  have := lpI (L := fun f j (s : (Nat → Int32) × (Nat → Nat → Int32) × (Nat → Int32) × (Nat → Nat → Int32) × (Nat → Int32) × Int32) => S_arrives_L60 N (nI m) (nI n) hA total part f (nI j) s.1 s.2.1 s.2.2.1 s.2.2.2.1 s.2.2.2.2.1 s.2.2.2.2.2) (n := m)
    (fun j r => FN r.2.1 r.1 n (itC (pB n pt) tot h n p j) ∧ CN r.2.2.2.2.1 r.2.2.2.2.2 (pB n pt ^ j))
    (fun r => FN r.2.1 r.1 n (itC (pB n pt) tot h n p m) ∧ CN r.2.2.2.2.1 r.2.2.2.2.2 (pB n pt ^ m)) ?_ ?_ m N 0 (cs, cb, bs, bb, wl, wls) (by omega) (by omega) ⟨hc, hw⟩
  · exact this
  · intro f j s hj hi
    right
    obtain ⟨i1, i2⟩ := hi
    have hfit : pB n pt * pB n pt ^ j < Bp 40 := by
      have := pow_lt75 hL (j + 1)
      rw [Nat.pow_succ, Nat.mul_comm] at this
      exact Nat.lt_of_lt_of_le this (pw40 (by omega))
    obtain ⟨cb', cs', bb', bs', wls', wl', e1, c1, c2⟩ := passOn_ok (bs := s.2.2.1) (bb := s.2.2.2.1) hN hn hp ht hh hhA i1 (itC_lt hn hL hh j) (by omega) i2 hfit
    refine ⟨(cs', cb', bs', bb', wl', wls'), ?_, c1, ?_⟩
    · show S_arrives_L60 N (nI m) (nI n) hA total part (f + 1) (nI j) s.1 s.2.1 s.2.2.1 s.2.2.2.1 s.2.2.2.2.1 s.2.2.2.2.2 = _
      rw [S_arrives_L60, if_neg (by simp (disch := omega) only [nI_leI, nI_ltI, nI_eq, nI_1, nI_add, pk_mul, nI_clamp]; omega), e1, bO_s, nI_1]
      rfl
    · rw [Nat.pow_succ, Nat.mul_comm]; exact c2
  · intro f s hi
    refine ⟨s, ?_, hi⟩
    show S_arrives_L60 N (nI m) (nI n) hA total part (f + 1) (nI m) s.1 s.2.1 s.2.2.1 s.2.2.2.1 s.2.2.2.2.1 s.2.2.2.2.2 = _
    rw [S_arrives_L60, if_pos (by simp (disch := omega) only [nI_leI, nI_ltI, nI_eq, nI_1, nI_add, pk_mul, nI_clamp]; omega)]
theorem arrR_ok {lm wd sums : Nat → Int32} {V : Nat → Option Nat} {s : Nat → Nat} {m p : Nat} (hN : 100 ≤ N) (h : LxR n ln nu wt ll b) (h8 : b 8 = nI cl) (hcl : cl ≤ 99) (hm : m ≤ 12) (hp : p < n) (hs : ∀ i, i < n → 1 ≤ s i ∧ s i ≤ 180 ∧ sums i = nI (s i)) (hG : RG lm wd V) (hr : ∀ a, a < n → V (7 + a) = some (if a = p then 1 else 0)) (h6 : V 6 = some 1) :
    ∃ lm' wd' V', R_arrives_L39 N (nI m) (nI p) b sums N 0 lm wd = some (lm', wd') ∧ RG lm' wd' V' ∧ (∀ a, a < n → V' (7 + a) = some (itR (fun a => pB n (oS ln s p a)) (he ln nu wt ll cl) n p m a)) ∧ V' 6 = some (pB n (aS ln s p) ^ m) ∧ ∀ k, k < 5 → V' k = V k := by
  have hn := h.1
  have hh : ∀ a c, a < n → c < n → he ln nu wt ll cl a c ≤ 99 := fun a c _ hc => he_le hcl (h.2.2.2.2.1 c hc).2.1
  have hps : ∀ a, a < n → pB n (oS ln s p a) < 2 ^ 75 := by
    intro a ha
    apply pB_75 hn
    intro i hi
    have := hs i hi
    unfold oS
    split
    · omega
    · split <;> omega
  have has : pB n (aS ln s p) < 2 ^ 75 := by
    apply pB_75 hn
    intro i hi
    have := hs i hi
    unfold aS
    split <;> omega
  have := lpI (L := fun f j (t : (Nat → Int32) × (Nat → Int32)) => R_arrives_L39 N (nI m) (nI p) b sums f (nI j) t.1 t.2) (n := m)
    (fun j t => ∃ V', RG t.1 t.2 V' ∧ (∀ a, a < n → V' (7 + a) = some (itR (fun a => pB n (oS ln s p a)) (he ln nu wt ll cl) n p j a)) ∧ V' 6 = some (pB n (aS ln s p) ^ j) ∧ ∀ k, k < 5 → V' k = V k)
    (fun t => ∃ V', RG t.1 t.2 V' ∧ (∀ a, a < n → V' (7 + a) = some (itR (fun a => pB n (oS ln s p a)) (he ln nu wt ll cl) n p m a)) ∧ V' 6 = some (pB n (aS ln s p) ^ m) ∧ ∀ k, k < 5 → V' k = V k) ?_ ?_ m N 0 (lm, wd) (by omega) (by omega) ⟨V, hG, hr, h6, fun _ _ => rfl⟩
  · obtain ⟨⟨lm', wd'⟩, e1, V', q⟩ := this
    exact ⟨lm', wd', V', e1, q⟩
  · intro f j t hj hi
    right
    obtain ⟨V1, G1, q1, q2, q3⟩ := hi
    obtain ⟨lm2, wd2, V2, e2, G2, q4, q5, q6⟩ := RhearsOn_ok hN h h8 hcl hp hs G1 q1 (itR_lt hn hps hh j) (by omega) q2 (pow_lt75 has j)
    refine ⟨(lm2, wd2), ?_, V2, G2, q4, by rw [q5, Nat.pow_succ, Nat.mul_comm], fun k hk => (q6 k hk).trans (q3 k hk)⟩
    show R_arrives_L39 N (nI m) (nI p) b sums (f + 1) (nI j) t.1 t.2 = _
    rw [R_arrives_L39, if_neg (by simp (disch := omega) only [nI_leI, nI_ltI, nI_eq, nI_1, nI_add, pk_mul, nI_clamp]; omega), e2, bO_s, nI_1]
    rfl
  · intro f t hi
    refine ⟨t, ?_, hi⟩
    show R_arrives_L39 N (nI m) (nI p) b sums (f + 1) (nI m) t.1 t.2 = _
    rw [R_arrives_L39, if_pos (by simp (disch := omega) only [nI_leI, nI_ltI, nI_eq, nI_1, nI_add, pk_mul, nI_clamp]; omega)]
theorem sums_ok (hR : LxR n ln nu wt ll b) (h1 : 1 ≤ cl) (h99 : cl ≤ 99) {sums : Nat → Int32} (hs : ∀ a, a < n → sums a = nI (sB n (he ln nu wt ll cl a))) : ∀ i, i < n → 1 ≤ sB n (he ln nu wt ll cl i) ∧ sB n (he ln nu wt ll cl i) ≤ 180 ∧ sums i = nI (sB n (he ln nu wt ll cl i)) := fun i hi => ⟨(sum_he hR h1 h99 hi).1, (sum_he hR h1 h99 hi).2, hs i hi⟩
theorem toA_eq (ln nu wt ll : Nat → Nat) (n cl p : Nat) : toA ln nu wt ll n cl p = fun a => if ln a = ln p then sB n (he ln nu wt ll cl a) else 1 := rfl
theorem P_arrives_ok {N : Nat} (hN : 4000 ≤ N) : P_arrives N Rel := by
  intro x y p1 p2 p3 h
  obtain ⟨n, ln, nu, wt, ll, nr, ro, gi, hn, hnr, hgi, hC, hR, h1, h2, h3, h4⟩ := h.1.2.2.1.both
  obtain ⟨lv, ls, cl, c1, c99, ⟨hc, h8⟩, _, _⟩ := h.1.2.2.2
  unfold F_S_arrives F_R_arrives
  rw [RisWd_eq, RisWd_eq, h1.1, h1.2, isWd_eq, isWd_eq, in_lit p3 (a := 1) (b := 12) (a' := 1) (b' := 12) (by decide) (by decide)]
  rcases wv_cases p1 (n := n) (by omega) with ⟨e1, _⟩ | ⟨e1, p, hp, rfl⟩
  · rw [if_pos e1, if_pos e1]
    exact ⟨_, _, rfl, rfl, rfl, h⟩
  have ne1 : ¬ F_S_within (nI p) 0 (nI n - 1) = 0 := by rw [e1]; decide
  rw [if_neg ne1, if_neg ne1]
  rcases wv_cases p2 (n := n) (by omega) with ⟨e2, _⟩ | ⟨e2, q, hq, rfl⟩
  · rw [if_pos e2, if_pos e2]
    exact ⟨_, _, rfl, rfl, rfl, h⟩
  have ne2 : ¬ F_S_within (nI q) 0 (nI n - 1) = 0 := by rw [e2]; decide
  rw [if_neg ne2, if_neg ne2]
  rcases sw_cases p3 1 12 (ia := 1) (ib := 12) rfl rfl (by decide) (by decide) with ⟨e3, _⟩ | ⟨e3, m, hm1, hm2, rfl⟩
  · rw [if_pos e3, if_pos e3]
    exact ⟨_, _, rfl, rfl, rfl, h⟩
  have ne3 : ¬ F_S_within (nI m) 1 12 = 0 := by rw [e3]; decide
  rw [if_neg ne3, if_neg ne3]
  have hN1 : 100 ≤ N := by omega
  obtain ⟨hA', tt', pa', cb', cs', wls', wl', pt, s1, s2, s3, s4, s5, s6, s7⟩ := say_ok hN1 hC hR c1 c99 hp (Chances_heardAs (S_chances x)) (Chances_total (S_chances x)) (Chances_part (S_chances x)) (Naturals_limb (Chances_chance (S_chances x))) (Naturals_limbs (Chances_chance (S_chances x))) (Natural_limb (Chances_below (S_chances x)))
  have hh : ∀ a c, a < n → c < n → he ln nu wt ll cl a c ≤ 99 := fun a c _ hc => he_le c99 (hR.2.2.2.2.1 c hc).2.1
  have hL := pB_75 hn (fun i hi => (s4 i hi).2.1)
  obtain ⟨⟨cs2, cb2, bs2, bb2, wl2, wls2⟩, a1, a2, a3⟩ := arrL_ok (m := m) (bs := Naturals_limbs (Chances_before (S_chances x))) (bb := Naturals_limb (Chances_before (S_chances x))) hN1 hn hm2 s4 s3 hh s2 s6 s7
  dsimp only at a2 a3
  rw [hc, s1, bO_s]
  dsimp only [u8]
  rw [a1, bO_s]
  dsimp only [u6]
  have l1 : nL (itC (pB n pt) (toA ln nu wt ll n cl p) (he ln nu wt ll cl) n p m q) ≤ 40 := nL_le.mpr (Nat.lt_of_lt_of_le (itC_lt hn hL hh m q hq) (pw40 (by omega)))
  have l2 : nL (pB n pt ^ m) ≤ 40 := nL_le.mpr (Nat.lt_of_lt_of_le (pow_lt75 hL m) (pw40 (by omega)))
  have hLp : 0 < pB n pt ^ m := Nat.pow_pos (pB_pos (fun i hi => (s4 i hi).1))
  obtain ⟨t1, t2, t3, t4⟩ := copy_ok (limb := Natural_limb (Fraction_above (S_fraction x))) (a2 q hq) l1
  obtain ⟨t5, t6, t7, t8⟩ := copy_ok (limb := Natural_limb (Fraction_below (S_fraction x))) a3 l2
  obtain ⟨l1', la', l2', lb', t9, f1, f2⟩ := terms_ok hN t4 t8 (by omega) l1 l2 (Sm_pow (fun i hi => ⟨(s4 i hi).1, (s4 i hi).2.1⟩) m)
  have et : F_Chances_tellAs N (nI q) cb2 cs2 wls2 wl2 (Natural_limb (Fraction_above (S_fraction x))) (Natural_limb (Fraction_below (S_fraction x))) = some (l1', la', l2', lb') := by
    unfold F_Chances_tellAs F_Fraction_put1
    rw [gd_ix (by omega) (by omega), nI_clamp (by omega), t3, bO_s]
    dsimp only [u2]
    rw [t7, bO_s]
    dsimp only [u2]
    rw [t9, bO_s]
    rfl
  rw [et, bO_s]
  dsimp only [u4]
  obtain ⟨lm1, wd1, sums1, V1, b1, G1, b2, b3, b4, b5⟩ := RbeginHearing_ok (lm := R_limbs y) (wd := R_wide y) (sums := R_sums y) (V := fun _ => none) hN1 hR h8 hp (fun r v hv => by simp at hv)
  have hs := sums_ok hR c1 c99 b2
  obtain ⟨lm2, wd2, V2, d1, G2, d2, d3, d4⟩ := arrR_ok (m := m) hN1 hR h8 c99 hm2 hp hs G1 b3 b4
  rw [b1, bO_s]
  dsimp only [u3]
  rw [d1, bO_s]
  dsimp only [u2]
  obtain ⟨lm3, wd3, g1, G3⟩ := takes_ok (N := N) (r := 0) (q := 7 + q) hN1 G2 (by omega) (d2 q hq) (by omega)
  rw [k7, nI_add, show F_R_takes N 0 (nI (7 + q)) lm2 wd2 = _ from g1, bO_s]
  dsimp only [u2]
  obtain ⟨lm4, wd4, g2, G4⟩ := takes_ok (N := N) (r := 1) (q := 6) hN1 G3 (by omega) (by rw [ru_n (by omega)]; exact d3) (by omega)
  rw [show F_R_takes N 1 6 lm3 wd3 = _ from g2, bO_s]
  dsimp only [u2]
  have hpa : 0 < pB n (aS ln (fun i => sB n (he ln nu wt ll cl i)) p) := by
    apply pB_pos
    intro i hi
    have := (hs i hi).1
    unfold aS
    split
    · exact this
    · exact Nat.le_refl 1
  have hpa2 : 0 < pB n (aS ln (fun i => sB n (he ln nu wt ll cl i)) p) ^ m := Nat.pow_pos hpa
  obtain ⟨lm5, wd5, V5, g3, G5, v0, v1⟩ := lowers_ok hN G4 (a := itR (fun a => pB n (oS ln (fun i => sB n (he ln nu wt ll cl i)) p a)) (he ln nu wt ll cl) n p m q) (b := pB n (aS ln (fun i => sB n (he ln nu wt ll cl i)) p) ^ m) (by rw [ru_n (by omega), ru_s]) ru_s (by omega) (by rw [ru_n (by omega), ru_n (by omega), d4 4 (by omega), b5 4 (by omega)])
  rw [g3, bO_s]
  have hrat := (ratio_ok (n := n) (cl := cl) (ln := ln) (nu := nu) (wt := wt) (ll := ll) (L := pB n pt) (p := p) (s := fun i => sB n (he ln nu wt ll cl i)) s5 m).2 q hq
  obtain ⟨fe1, fe2⟩ := frac_eq hrat hLp hpa2
  rw [toA_eq] at f1 f2
  rw [← fe1] at v0
  rw [← fe2] at v1
  refine ⟨_, _, rfl, rfl, rfl, ?_⟩
  refine ⟨h.1, h.2.1, h.2.2.1, h.2.2.2.1, RFr_mk (nL_div ?_) (nL_div l2) f1 f2 G5 v0 v1⟩
  exact l1
