-- A CHANCE PASSED ON
theorem pw40 {e : Nat} (h : e ≤ 1200) : 2 ^ e ≤ Bp 40 := Nat.pow_le_pow_right (by decide) h
theorem sB_add {f g : Nat → Nat} : ∀ n, sB n (fun i => f i + g i) = sB n f + sB n g := by
  intro n
  induction n with
  | zero => rfl
  | succ n ih => rw [sB_s, sB_s, sB_s, ih]; omega
theorem sB_ge {f : Nat → Nat} {j : Nat} : ∀ {n : Nat}, j < n → f j ≤ sB n f := by
  intro n
  induction n with
  | zero => intro h; omega
  | succ n ih =>
    intro h
    rw [sB_s]
    by_cases z : j = n
    · rw [z]; omega
    · have := ih (by omega); omega
/-- one word's chances go on -/
theorem hear_ok {N n a ca t : Nat} {pt cc : Nat → Nat} {h : Nat → Nat} {hA : Nat → Nat → Int32} {total part cs bs : Nat → Int32} {cb bb : Nat → Nat → Int32} (hN : 100 ≤ N) (hn : n ≤ 10) (ha : a < n) (hp : ∀ i, i < n → 1 ≤ pt i ∧ pt i ≤ 180 ∧ part i = nI (pt i))
    (ht : 1 ≤ t ∧ t ≤ 180) (htt : total a = nI t) (hh : ∀ c, c < n → h c ≤ 99 ∧ hA a c = nI (h c)) (hb : CN (bb a) (bs a) ca) (hc : FN cb cs n cc) (h1 : pB n pt * ca < Bp 40) (h2 : ∀ c, c < n → cc c + h c * (pB n pt * ca / t) < Bp 40) :
    ∃ (cb' : Nat → Nat → Int32) (cs' : Nat → Int32) (bb' : Nat → Nat → Int32) (bs' : Nat → Int32), F_Chances_hear N (nI a) (nI n) hA total part cb cs bb bs = some (cb', cs', bb', bs') ∧ FN cb' cs' n (fun c => cc c + h c * (pB n pt * ca / t)) ∧ ∀ k, k ≠ a → bb' k = bb k ∧ bs' k = bs k := by
  unfold F_Chances_hear
  obtain ⟨l1, b1, e1, c1⟩ := mulParts_ok (part := part) hN hn hp hb h1
  rw [gd_ix (by omega) (by omega), nI_clamp (by omega), e1, bO_s]
  obtain ⟨l2, b2, e2, c2⟩ := divide_ok (d := t) hN c1 (by omega) (by omega) (nL_le.mpr h1)
  show ∃ (cb' : Nat → Nat → Int32) (cs' : Nat → Int32) (bb' : Nat → Nat → Int32) (bs' : Nat → Int32), bO (F_Natural_divide N (total a) (va_up bs a l1 a) (va_up bb a b1 a)) _ = _ ∧ _
  rw [htt, vu_s, vu_s, e2, bO_s]
  have hq : nL (pB n pt * ca / t) ≤ 40 := nL_le.mpr (Nat.lt_of_le_of_lt (Nat.div_le_self _ _) h1)
  have := lpI (L := fun f j (s : (Nat → Int32) × (Nat → Nat → Int32)) => Chances_hear_L27 N (nI n) hA (nI a) (va_up (va_up bs a l1) a l2) (va_up (va_up bb a b1) a b2) f (nI j) s.1 s.2) (n := n)
    (fun j s => FN s.2 s.1 n (fun c => if c < j then cc c + h c * (pB n pt * ca / t) else cc c))
    (fun s => FN s.2 s.1 n (fun c => cc c + h c * (pB n pt * ca / t))) ?_ ?_ n N 0 (cs, cb) (by omega) (by omega) (fun c hc2 => by show CN _ _ (if c < 0 then _ else _); rw [if_neg (by omega)]; exact hc c hc2)
  · obtain ⟨⟨cs', cb'⟩, e3, c3⟩ := this
    show ∃ (cb' : Nat → Nat → Int32) (cs' : Nat → Int32) (bb' : Nat → Nat → Int32) (bs' : Nat → Int32), bO (Chances_hear_L27 N (nI n) hA (nI a) (va_up (va_up bs a l1) a l2) (va_up (va_up bb a b1) a b2) N 0 cs cb) _ = _ ∧ _
    rw [show Chances_hear_L27 N (nI n) hA (nI a) (va_up (va_up bs a l1) a l2) (va_up (va_up bb a b1) a b2) N 0 cs cb = _ from e3, bO_s]
    exact ⟨cb', cs', _, _, rfl, c3, fun k hk => ⟨(vu_n hk).trans (vu_n hk), (vu_n hk).trans (vu_n hk)⟩⟩
  · intro f j s hj hi
    right
    obtain ⟨q1, q2⟩ := hh j hj
    have hcj : CN (s.2 j) (s.1 j) (cc j) := by
      have := hi j hj
      dsimp only at this
      rw [if_neg (by omega)] at this
      exact this
    have hfit := h2 j hj
    by_cases z : h j = 0
    · refine ⟨s, ?_, fun c hc2 => ?_⟩
      · show Chances_hear_L27 N (nI n) hA (nI a) _ _ (f + 1) (nI j) s.1 s.2 = _
        rw [Chances_hear_L27, if_neg (by simp (disch := omega) only [nI_leI, nI_ltI, nI_eq, nI_1, nI_add, pk_mul, nI_clamp]; omega), gd_ix (by omega) (by omega), nI_clamp (by omega), nI_clamp (by omega), q2, z, if_pos (by decide), nI_1]
      · have := hi c hc2
        dsimp only at this ⊢
        by_cases z2 : c = j
        · rw [z2, if_neg (by omega)] at this
          rw [z2, if_pos (by omega), z, Nat.zero_mul, Nat.add_zero]
          exact this
        · by_cases z3 : c < j
          · rw [if_pos z3] at this; rw [if_pos (by omega)]; exact this
          · rw [if_neg z3] at this; rw [if_neg (by omega)]; exact this
    · obtain ⟨l', b', e4, c4⟩ := addTimes_ok (c := h j) hN hcj c2 (by omega) (nL_le.mpr (by omega)) hq hfit
      refine ⟨(va_up s.1 j l', va_up s.2 j b'), ?_, fun c hc2 => ?_⟩
      · show Chances_hear_L27 N (nI n) hA (nI a) _ _ (f + 1) (nI j) s.1 s.2 = _
        rw [Chances_hear_L27, if_neg (by simp (disch := omega) only [nI_leI, nI_ltI, nI_eq, nI_1, nI_add, pk_mul, nI_clamp]; omega), gd_ix (by omega) (by omega), nI_clamp (by omega), nI_clamp (by omega), q2, if_neg (by simp (disch := omega) only [z0, nI_leI, nI_ltI, nI_eq, nI_1, nI_add, pk_mul, nI_clamp]; omega), vu_s, vu_s, e4, bO_s, nI_1]
        rfl
      · have := hi c hc2
        show CN (va_up s.2 j b' c) (va_up s.1 j l' c) _
        dsimp only at this ⊢
        by_cases z2 : c = j
        · rw [z2, vu_s, vu_s, if_pos (by omega)]
          exact c4
        · rw [vu_n z2, vu_n z2]
          by_cases z3 : c < j
          · rw [if_pos z3] at this; rw [if_pos (by omega)]; exact this
          · rw [if_neg z3] at this; rw [if_neg (by omega)]; exact this
  · intro f s hi
    refine ⟨s, ?_, fun c hc2 => ?_⟩
    · show Chances_hear_L27 N (nI n) hA (nI a) _ _ (f + 1) (nI n) s.1 s.2 = _
      rw [Chances_hear_L27, if_pos (by simp (disch := omega) only [nI_leI, nI_ltI, nI_eq, nI_1, nI_add, pk_mul, nI_clamp]; omega)]
    · have := hi c hc2
      dsimp only at this
      rw [if_pos hc2] at this
      exact this
/-- what comes to 'c' of the first 'j' words -/
def onC (L : Nat) (tot cc : Nat → Nat) (h : Nat → Nat → Nat) (j c : Nat) : Nat := sB j (fun a => h a c * (L * cc a / tot a))
theorem onC_lt {L e n : Nat} {tot cc : Nat → Nat} {h : Nat → Nat → Nat} {j c : Nat} (hn : n ≤ 10) (hj : j ≤ n) (hc : c < n) (hL : L < 2 ^ 75) (hcc : ∀ a, a < n → cc a < 2 ^ e) (hh : ∀ a c, a < n → c < n → h a c ≤ 99) : onC L tot cc h j c < 2 ^ (85 + e) := by
  have h1 : ∀ a, a < j → h a c * (L * cc a / tot a) ≤ 99 * 2 ^ (75 + e) := by
    intro a ha
    apply Nat.mul_le_mul (hh a c (by omega) hc)
    apply Nat.le_trans (Nat.div_le_self _ _)
    rw [Nat.pow_add]
    exact Nat.mul_le_mul (Nat.le_of_lt hL) (Nat.le_of_lt (hcc a (by omega)))
  have h2 := sB_le h1
  have h3 : j * (99 * 2 ^ (75 + e)) ≤ 10 * (99 * 2 ^ (75 + e)) := Nat.mul_le_mul_right _ (by omega)
  have h4 : 2 ^ (85 + e) = 1024 * 2 ^ (75 + e) := by
    rw [show 85 + e = 10 + (75 + e) by omega, Nat.pow_add]
  have hp : 0 < 2 ^ (75 + e) := Nat.two_pow_pos _
  unfold onC
  omega
theorem passOn_ok {N n e bl : Nat} {pt cc tot : Nat → Nat} {h : Nat → Nat → Nat} {hA : Nat → Nat → Int32} {total part cs bs wl : Nat → Int32} {cb bb : Nat → Nat → Int32} {wls : Int32} (hN : 100 ≤ N) (hn : n ≤ 10) (hp : ∀ i, i < n → 1 ≤ pt i ∧ pt i ≤ 180 ∧ part i = nI (pt i))
    (ht : ∀ a, a < n → 1 ≤ tot a ∧ tot a ≤ 180 ∧ total a = nI (tot a)) (hh : ∀ a c, a < n → c < n → h a c ≤ 99) (hhA : ∀ a c, a < n → c < n → hA a c = nI (h a c)) (hc : FN cb cs n cc) (he : ∀ a, a < n → cc a < 2 ^ e) (he2 : e ≤ 1100) (hw : CN wl wls bl) (hwb : pB n pt * bl < Bp 40) :
    ∃ (cb' : Nat → Nat → Int32) (cs' : Nat → Int32) (bb' : Nat → Nat → Int32) (bs' : Nat → Int32) (wls' : Int32) (wl' : Nat → Int32), F_Chances_passOn N (nI n) hA total part cb cs bb bs wls wl = some (cb', cs', bb', bs', wls', wl') ∧ FN cb' cs' n (onC (pB n pt) tot cc h n) ∧ CN wl' wls' (pB n pt * bl) := by
  have hL := pB_75 hn (fun i hi => (hp i hi).2.1)
  unfold F_Chances_passOn
  have L2 := lpI (L := fun f j (s : (Nat → Int32) × (Nat → Nat → Int32) × (Nat → Int32) × (Nat → Nat → Int32)) => Chances_passOn_L2 (nI n) f (nI j) s.1 s.2.1 s.2.2.1 s.2.2.2) (n := n)
    (fun j s => (∀ a, a < n → CN (s.2.1 a) (s.1 a) (if a < j then 0 else cc a)) ∧ (∀ a, a < j → CN (s.2.2.2 a) (s.2.2.1 a) (cc a)))
    (fun s => (∀ a, a < n → CN (s.2.1 a) (s.1 a) 0) ∧ (∀ a, a < n → CN (s.2.2.2 a) (s.2.2.1 a) (cc a))) ?_ ?_ n N 0 (cs, cb, bs, bb) (by omega) (by omega) ⟨fun a ha => by rw [if_neg (by omega)]; exact hc a ha, fun a ha => by omega⟩
  · obtain ⟨⟨cs1, cb1, bs1, bb1⟩, e1, z1, z2⟩ := L2
    dsimp only at z1 z2
    rw [show Chances_passOn_L2 (nI n) N 0 cs cb bs bb = _ from e1, bO_s]
    have L43 := lpI (L := fun f j (s : (Nat → Int32) × (Nat → Nat → Int32) × (Nat → Int32) × (Nat → Nat → Int32)) => Chances_passOn_L43 N (nI n) hA total part f (nI j) s.1 s.2.1 s.2.2.1 s.2.2.2) (n := n)
      (fun j s => FN s.2.1 s.1 n (onC (pB n pt) tot cc h j) ∧ (∀ a, j ≤ a → a < n → CN (s.2.2.2 a) (s.2.2.1 a) (cc a)))
      (fun s => FN s.2.1 s.1 n (onC (pB n pt) tot cc h n)) ?_ ?_ n N 0 (cs1, cb1, bs1, bb1) (by omega) (by omega) ⟨z1, fun a _ ha => z2 a ha⟩
    · obtain ⟨⟨cs2, cb2, bs2, bb2⟩, e2, c2⟩ := L43
      show ∃ (cb' : Nat → Nat → Int32) (cs' : Nat → Int32) (bb' : Nat → Nat → Int32) (bs' : Nat → Int32) (wls' : Int32) (wl' : Nat → Int32), bO (Chances_passOn_L43 N (nI n) hA total part N 0 cs1 cb1 bs1 bb1) _ = _ ∧ _
      rw [show Chances_passOn_L43 N (nI n) hA total part N 0 cs1 cb1 bs1 bb1 = _ from e2, bO_s]
      obtain ⟨l3, b3, e3, c3⟩ := mulParts_ok (part := part) hN hn hp hw hwb
      show ∃ (cb' : Nat → Nat → Int32) (cs' : Nat → Int32) (bb' : Nat → Nat → Int32) (bs' : Nat → Int32) (wls' : Int32) (wl' : Nat → Int32), bO (F_Chances_multiplyByParts N (nI n) part wls wl) _ = _ ∧ _
      rw [e3, bO_s]
      exact ⟨cb2, cs2, bb2, bs2, l3, b3, rfl, c2, c3⟩
    · intro f j s hj hi
      right
      obtain ⟨i1, i2⟩ := hi
      have hbj := i2 j (Nat.le_refl _) hj
      obtain ⟨t1, t2, t3⟩ := ht j hj
      by_cases z : cc j = 0
      · refine ⟨s, ?_, ?_, fun a ha hb => i2 a (by omega) hb⟩
        · show Chances_passOn_L43 N (nI n) hA total part (f + 1) (nI j) s.1 s.2.1 s.2.2.1 s.2.2.2 = _
          rw [Chances_passOn_L43, if_neg (by simp (disch := omega) only [nI_leI, nI_ltI, nI_eq, nI_1, nI_add, pk_mul, nI_clamp]; omega), gd_ix (by omega) (by omega), nI_clamp (by omega), hbj.1, z, nL_0, if_pos (by decide), nI_1]
        · intro c hc2
          have := i1 c hc2
          have eo : onC (pB n pt) tot cc h (j + 1) c = onC (pB n pt) tot cc h j c := by
            unfold onC
            rw [sB_s, z, Nat.mul_zero, Nat.zero_div, Nat.mul_zero, Nat.add_zero]
          show CN _ _ (onC (pB n pt) tot cc h (j + 1) c)
          rw [eo]
          exact this
      · have hz : nL (cc j) ≠ 0 := fun q => z (nL_eq0.mp q)
        have hcl : nL (cc j) ≤ 40 := nL_le.mpr (Nat.lt_of_lt_of_le (he j hj) (pw40 (by omega)))
        have hbig : pB n pt * cc j < Bp 40 := by
          apply Nat.lt_of_lt_of_le _ (pw40 (e := 75 + e) (by omega))
          rw [Nat.pow_add]
          exact Nat.mul_lt_mul_of_lt_of_le hL (Nat.le_of_lt (he j hj)) (Nat.two_pow_pos _)
        have eo : ∀ c, onC (pB n pt) tot cc h (j + 1) c = onC (pB n pt) tot cc h j c + h j c * (pB n pt * cc j / tot j) := fun c => rfl
        obtain ⟨cb', cs', bb', bs', e5, c5, f5⟩ := hear_ok (N := N) (a := j) (t := tot j) (h := h j) (hA := hA) (total := total) hN hn hj hp ⟨t1, t2⟩ t3 (fun c hc2 => ⟨hh j c hj hc2, hhA j c hj hc2⟩) hbj i1 hbig (fun c hc2 => by
          rw [← eo c]
          exact Nat.lt_of_lt_of_le (onC_lt hn (by omega) hc2 hL he hh) (pw40 (by omega)))
        refine ⟨(cs', cb', bs', bb'), ?_, ?_, fun a ha hb => ?_⟩
        · show Chances_passOn_L43 N (nI n) hA total part (f + 1) (nI j) s.1 s.2.1 s.2.2.1 s.2.2.2 = _
          rw [Chances_passOn_L43, if_neg (by simp (disch := omega) only [nI_leI, nI_ltI, nI_eq, nI_1, nI_add, pk_mul, nI_clamp]; omega), gd_ix (by omega) (by omega), nI_clamp (by omega), hbj.1, if_neg (by simp (disch := omega) only [z0, nI_leI, nI_ltI, nI_eq, nI_1, nI_add, pk_mul, nI_clamp]; omega), e5, bO_s, nI_1]
          rfl
        · exact c5
        · show CN (bb' a) (bs' a) (cc a)
          rw [(f5 a (by omega)).1, (f5 a (by omega)).2]
          exact i2 a (by omega) hb
    · intro f s hi
      refine ⟨s, ?_, hi.1⟩
      show Chances_passOn_L43 N (nI n) hA total part (f + 1) (nI n) s.1 s.2.1 s.2.2.1 s.2.2.2 = _
      rw [Chances_passOn_L43, if_pos (by simp (disch := omega) only [nI_leI, nI_ltI, nI_eq, nI_1, nI_add, pk_mul, nI_clamp]; omega)]
  · intro f j s hj hi
    right
    obtain ⟨i1, i2⟩ := hi
    have hcj := i1 j hj
    rw [if_neg (by omega)] at hcj
    obtain ⟨l1, b1, e1, c1⟩ := copy_ok (limb := s.2.2.2 j) hcj (nL_le.mpr (Nat.lt_of_lt_of_le (he j hj) (pw40 (by omega))))
    obtain ⟨l2, b2, e2, c2⟩ := put_ok (limb := s.2.1 j) (v := 0) (by decide)
    refine ⟨(va_up s.1 j l2, va_up s.2.1 j b2, va_up s.2.2.1 j l1, va_up s.2.2.2 j b1), ?_, fun a ha => ?_, fun a ha => ?_⟩
    · show Chances_passOn_L2 (nI n) (f + 1) (nI j) s.1 s.2.1 s.2.2.1 s.2.2.2 = _
      rw [Chances_passOn_L2, if_neg (by simp (disch := omega) only [nI_leI, nI_ltI, nI_eq, nI_1, nI_add, pk_mul, nI_clamp]; omega), gd_ix (by omega) (by omega), nI_clamp (by omega), e1, bO_s]
      have e2' : F_Natural_put 0 (s.2.1 j) = some (l2, b2) := e2
      dsimp only [u2]
      rw [e2', bO_s, nI_1]
      rfl
    · show CN (va_up s.2.1 j b2 a) (va_up s.1 j l2 a) _
      by_cases z : a = j
      · rw [z, vu_s, vu_s, if_pos (by omega)]; exact c2
      · rw [vu_n z, vu_n z]
        have := i1 a ha
        by_cases z3 : a < j
        · rw [if_pos z3] at this; rw [if_pos (by omega)]; exact this
        · rw [if_neg z3] at this; rw [if_neg (by omega)]; exact this
    · show CN (va_up s.2.2.2 j b1 a) (va_up s.2.2.1 j l1 a) _
      by_cases z : a = j
      · rw [z, vu_s, vu_s]; exact c1
      · rw [vu_n z, vu_n z]; exact i2 a (by omega)
  · intro f s hi
    refine ⟨s, ?_, fun a ha => ?_, fun a ha => hi.2 a ha⟩
    · show Chances_passOn_L2 (nI n) (f + 1) (nI n) s.1 s.2.1 s.2.2.1 s.2.2.2 = _
      rw [Chances_passOn_L2, if_pos (by simp (disch := omega) only [nI_leI, nI_ltI, nI_eq, nI_1, nI_add, pk_mul, nI_clamp]; omega)]
    · have := hi.1 a ha
      rw [if_pos ha] at this
      exact this
