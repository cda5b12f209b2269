-- HEARINGS IN THE REFERENCE
variable {N n cl : Nat} {ln nu wt ll : Nat → Nat} {b : Nat → Int32}
theorem B50 {e : Nat} (h : e ≤ 1500) : 2 ^ e ≤ Bp 50 := Nat.pow_le_pow_right (by decide) h
theorem RbeginHearing_ok {lm wd sums : Nat → Int32} {V : Nat → Option Nat} (hN : 100 ≤ N) (h : LxR n ln nu wt ll b) (h8 : b 8 = nI cl) {p : Nat} (hp : p < n) (hG : RG lm wd V) :
    ∃ lm' wd' sums' V', F_R_beginHearing N (nI p) b lm wd sums = some (lm', wd', sums') ∧ RG lm' wd' V' ∧ (∀ a, a < n → sums' a = nI (sB n (he ln nu wt ll cl a))) ∧ (∀ a, a < n → V' (7 + a) = some (if a = p then 1 else 0)) ∧ V' 6 = some 1 ∧ ∀ k, k < 6 → V' k = V k := by
  have hn := h.1
  have L21 : ∀ a, a < n → ∀ s : Nat → Int32, s a = 0 → ∃ s', R_beginHearing_L21 N b (nI a) N 0 s = some s' ∧ s' a = nI (sB n (he ln nu wt ll cl a)) ∧ ∀ k, k ≠ a → s' k = s k := by
    intro a ha s hs
    have := lpI (L := fun f j (s : Nat → Int32) => R_beginHearing_L21 N b (nI a) f (nI j) s) (n := n)
      (fun j t => t a = nI (sB j (he ln nu wt ll cl a)) ∧ ∀ k, k ≠ a → t k = s k)
      (fun t => t a = nI (sB n (he ln nu wt ll cl a)) ∧ ∀ k, k ≠ a → t k = s k) ?_ ?_ n N 0 s (by omega) (by omega) ⟨hs, fun _ _ => rfl⟩
    · exact this
    · intro f j t hj hi
      right
      refine ⟨upd t a (nI (sB (j + 1) (he ln nu wt ll cl a))), ?_, pk_us, fun k hk => (pk_un hk).trans (hi.2 k hk)⟩
      show R_beginHearing_L21 N b (nI a) (f + 1) (nI j) t = _
      rw [R_beginHearing_L21, h.2.1, if_neg (by simp (disch := omega) only [nI_leI, nI_ltI, nI_eq, nI_1, nI_add, pk_mul, nI_clamp]; omega), Rhearing_ok hN h h8 ha hj, bO_s, nI_clamp (by omega), hi.1, nI_add, nI_1]
      rfl
    · intro f t hi
      refine ⟨t, ?_, hi⟩
      show R_beginHearing_L21 N b (nI a) (f + 1) (nI n) t = _
      rw [R_beginHearing_L21, h.2.1, if_pos (by simp (disch := omega) only [nI_leI, nI_ltI, nI_eq, nI_1, nI_add, pk_mul, nI_clamp]; omega)]
  have L2 := lpI (L := fun f j (s : (Nat → Int32) × (Nat → Int32) × (Nat → Int32)) => R_beginHearing_L2 N b (nI p) f (nI j) s.1 s.2.1 s.2.2) (n := n)
    (fun j s => ∃ V', RG s.2.1 s.2.2 V' ∧ (∀ a, a < j → s.1 a = nI (sB n (he ln nu wt ll cl a))) ∧ (∀ a, a < j → V' (7 + a) = some (if a = p then 1 else 0)) ∧ ∀ k, k < 6 → V' k = V k)
    (fun s => ∃ V', RG s.2.1 s.2.2 V' ∧ (∀ a, a < n → s.1 a = nI (sB n (he ln nu wt ll cl a))) ∧ (∀ a, a < n → V' (7 + a) = some (if a = p then 1 else 0)) ∧ ∀ k, k < 6 → V' k = V k) ?_ ?_ n N 0 (sums, lm, wd) (by omega) (by omega) ⟨V, hG, fun a ha => by omega, fun a ha => by omega, fun _ _ => rfl⟩
  · obtain ⟨⟨s1, lm1, wd1⟩, e1, V1, G1, q1, q2, q3⟩ := L2
    dsimp only at G1 q1
    unfold F_R_beginHearing
    rw [show R_beginHearing_L2 N b (nI p) N 0 sums lm wd = _ from e1, bO_s]
    obtain ⟨lm2, wd2, e2, G2⟩ := sets_ok (N := N) (r := 6) (v := 1) hN G1 (by omega) (by decide)
    show ∃ lm' wd' sums' V', bO (F_R_sets N (nI 6) (lN 1) lm1 wd1) _ = _ ∧ _
    rw [e2, bO_s]
    exact ⟨lm2, wd2, s1, _, rfl, G2, q1, fun a ha => (ru_n (by omega)).trans (q2 a ha), ru_s, fun k hk => (ru_n (by omega)).trans (q3 k hk)⟩
  · intro f j s hj hi
    right
    obtain ⟨V1, G1, q1, q2, q3⟩ := hi
    obtain ⟨s', e1, t1, t2⟩ := L21 j hj (upd s.1 j 0) pk_us
    have y2 : (if nI j = nI p then some (1 : Int64) else some 0) = some (lN (if j = p then 1 else 0)) := by
      by_cases z : j = p
      · rw [if_pos (by rw [z]), if_pos z]; rfl
      · rw [if_neg (by simp (disch := omega) only [nI_leI, nI_ltI, nI_eq, nI_1, nI_add, pk_mul, nI_clamp]; omega), if_neg z]; rfl
    obtain ⟨lm2, wd2, e2, G2⟩ := sets_ok (N := N) (r := 7 + j) (v := if j = p then 1 else 0) hN G1 (by omega) (by split <;> decide)
    refine ⟨(s', lm2, wd2), ?_, _, G2, fun a ha => ?_, fun a ha => ?_, fun k hk => (ru_n (by omega)).trans (q3 k hk)⟩
    · show R_beginHearing_L2 N b (nI p) (f + 1) (nI j) s.1 s.2.1 s.2.2 = _
      rw [R_beginHearing_L2, h.2.1, if_neg (by simp (disch := omega) only [nI_leI, nI_ltI, nI_eq, nI_1, nI_add, pk_mul, nI_clamp]; omega), gd_ix (by omega) (by omega), nI_clamp (by omega), e1, bO_s, y2, bO_s, k7, nI_add, e2, bO_s, nI_1]
      rfl
    · by_cases z : a = j
      · rw [z]; exact t1
      · exact (t2 a z).trans ((pk_un z).trans (q1 a (by omega)))
    · by_cases z : a = j
      · rw [z, ru_s]
      · rw [ru_n (by omega)]; exact q2 a (by omega)
  · intro f s hi
    refine ⟨s, ?_, hi⟩
    show R_beginHearing_L2 N b (nI p) (f + 1) (nI n) s.1 s.2.1 s.2.2 = _
    rw [R_beginHearing_L2, h.2.1, if_pos (by simp (disch := omega) only [nI_leI, nI_ltI, nI_eq, nI_1, nI_add, pk_mul, nI_clamp]; omega)]
def oS (ln : Nat → Nat) (s : Nat → Nat) (p a i : Nat) : Nat := if i = a then 1 else if ln i = ln p then s i else 1
def aS (ln : Nat → Nat) (s : Nat → Nat) (p i : Nat) : Nat := if ln i = ln p then s i else 1
def onR (ps rr : Nat → Nat) (h : Nat → Nat → Nat) (j c : Nat) : Nat := sB j (fun a => ps a * (h a c * rr a))
theorem onR_lt {e n : Nat} {ps rr : Nat → Nat} {h : Nat → Nat → Nat} {j c : Nat} (hn : n ≤ 10) (hj : j ≤ n) (hc : c < n) (hL : ∀ a, a < n → ps a < 2 ^ 75) (hcc : ∀ a, a < n → rr a < 2 ^ e) (hh : ∀ a c, a < n → c < n → h a c ≤ 99) : onR ps rr h j c < 2 ^ (85 + e) := by
  have h1 : ∀ a, a < j → ps a * (h a c * rr a) ≤ 99 * 2 ^ (75 + e) := by
    intro a ha
    have h5 : ps a * (h a c * rr a) ≤ 2 ^ 75 * (99 * 2 ^ e) := Nat.mul_le_mul (Nat.le_of_lt (hL a (by omega))) (Nat.mul_le_mul (hh a c (by omega) hc) (Nat.le_of_lt (hcc a (by omega))))
    rw [Nat.pow_add]
    have h6 : 2 ^ 75 * (99 * 2 ^ e) = 99 * (2 ^ 75 * 2 ^ e) := by
      rw [← Nat.mul_assoc, ← Nat.mul_assoc, Nat.mul_comm (2 ^ 75) 99]
    omega
  have h2 := sB_le h1
  have h3 : j * (99 * 2 ^ (75 + e)) ≤ 10 * (99 * 2 ^ (75 + e)) := Nat.mul_le_mul_right _ (by omega)
  have h4 : 2 ^ (85 + e) = 1024 * 2 ^ (75 + e) := by
    rw [show 85 + e = 10 + (75 + e) by omega, Nat.pow_add]
  have hp : 0 < 2 ^ (75 + e) := Nat.two_pow_pos _
  unfold onR
  omega
/-- times the sums of all other words of that length -/
theorem Rothers_ok {lm wd sums : Nat → Int32} {V : Nat → Option Nat} {s : Nat → Nat} {v e : Nat} (hN : 100 ≤ N) (h : LxR n ln nu wt ll b) {p a : Nat} (hp : p < n) (ha : a < n) (hs : ∀ i, i < n → 1 ≤ s i ∧ s i ≤ 180 ∧ sums i = nI (s i)) (hG : RG lm wd V) (hv : V 5 = some v) (hb : v < 2 ^ e) (he : e ≤ 1400) :
    ∃ lm' wd' V', R_hearsOn_L77 N b (nI a) (nI p) sums N 0 lm wd = some (lm', wd') ∧ RG lm' wd' V' ∧ V' 5 = some (pB n (oS ln s p a) * v) ∧ ∀ k, k ≠ 5 → V' k = V k := by
  have hn := h.1
  have hoS : ∀ i, i < n → 1 ≤ oS ln s p a i ∧ oS ln s p a i ≤ 180 := by
    intro i hi
    have := hs i hi
    unfold oS
    split
    · omega
    · split <;> omega
  have hfit : ∀ j, j ≤ n → pB j (oS ln s p a) * v < Bp 50 := by
    intro j hj
    have h1 := pB_75 (f := oS ln s p a) (show j ≤ 10 by omega) (fun i hi => (hoS i (by omega)).2)
    apply Nat.lt_of_lt_of_le _ (B50 (e := 75 + e) (by omega))
    rw [Nat.pow_add]
    exact Nat.mul_lt_mul_of_lt_of_le h1 (Nat.le_of_lt hb) (Nat.two_pow_pos _)
  have := lpI (L := fun f j (t : (Nat → Int32) × (Nat → Int32)) => R_hearsOn_L77 N b (nI a) (nI p) sums f (nI j) t.1 t.2) (n := n)
    (fun j t => ∃ V', RG t.1 t.2 V' ∧ V' 5 = some (pB j (oS ln s p a) * v) ∧ ∀ k, k ≠ 5 → V' k = V k)
    (fun t => ∃ V', RG t.1 t.2 V' ∧ V' 5 = some (pB n (oS ln s p a) * v) ∧ ∀ k, k ≠ 5 → V' k = V k) ?_ ?_ n N 0 (lm, wd) (by omega) (by omega) ⟨V, hG, by rw [hv]; show _ = some (1 * v); rw [Nat.one_mul], fun _ _ => rfl⟩
  · obtain ⟨⟨lm', wd'⟩, e1, V', q⟩ := this
    exact ⟨lm', wd', V', e1, q⟩
  · intro f j t hj hi
    right
    obtain ⟨V1, G1, q1, q2⟩ := hi
    have hb0 : R_hearsOn_L77 N b (nI a) (nI p) sums (f + 1) (nI j) t.1 t.2 = (if nI j = nI a then R_hearsOn_L77 N b (nI a) (nI p) sums f (nI (j + 1)) t.1 t.2 else if nI (ln j) = nI (ln p) then bO (F_R_times N 5 (sums j) t.1 t.2) (u2 (fun l' w' => R_hearsOn_L77 N b (nI a) (nI p) sums f (nI (j + 1)) l' w')) else R_hearsOn_L77 N b (nI a) (nI p) sums f (nI (j + 1)) t.1 t.2) := by
      rw [R_hearsOn_L77, h.2.1, if_neg (by simp (disch := omega) only [nI_leI, nI_ltI, nI_eq, nI_1, nI_add, pk_mul, nI_clamp]; omega), RlengthOf_ok h hj, bO_s, RlengthOf_ok h hp, bO_s, gd_ix (by omega) (by omega), nI_clamp (by omega), nI_1]
    have hskip : oS ln s p a j = 1 → ∃ V', RG t.1 t.2 V' ∧ V' 5 = some (pB (j + 1) (oS ln s p a) * v) ∧ ∀ k, k ≠ 5 → V' k = V k := fun q => ⟨V1, G1, by rw [q1, pB_s, q, Nat.mul_one], q2⟩
    have l1 := (h.2.2.1 j hj).2.1
    have l2 := (h.2.2.1 p hp).2.1
    show ∃ t', R_hearsOn_L77 N b (nI a) (nI p) sums (f + 1) (nI j) t.1 t.2 = _ ∧ _
    rw [hb0]
    by_cases z : j = a
    · rw [if_pos (by rw [z])]
      exact ⟨t, rfl, hskip (by unfold oS; rw [if_pos z])⟩
    · rw [if_neg (by simp (disch := omega) only [nI_leI, nI_ltI, nI_eq, nI_1, nI_add, pk_mul, nI_clamp]; omega)]
      by_cases z2 : ln j = ln p
      · rw [if_pos (by rw [z2]), (hs j hj).2.2]
        have eo : oS ln s p a j = s j := by unfold oS; rw [if_neg z, if_pos z2]
        have e2 : s j * (pB j (oS ln s p a) * v) = pB (j + 1) (oS ln s p a) * v := by rw [pB_s, eo, Nat.mul_comm (pB j _) (s j), Nat.mul_assoc]
        obtain ⟨lm', wd', e1, G2⟩ := times_ok (N := N) (c := s j) hN G1 q1 (by have := (hs j hj).2.1; omega) (by rw [e2]; exact hfit (j + 1) (by omega))
        rw [e2] at G2
        rw [show F_R_times N 5 (nI (s j)) t.1 t.2 = _ from e1, bO_s]
        exact ⟨(lm', wd'), rfl, _, G2, ru_s, fun k hk => (ru_n hk).trans (q2 k hk)⟩
      · rw [if_neg (by simp (disch := omega) only [nI_leI, nI_ltI, nI_eq, nI_1, nI_add, pk_mul, nI_clamp]; omega)]
        exact ⟨t, rfl, hskip (by unfold oS; rw [if_neg z, if_neg z2])⟩
  · intro f t hi
    refine ⟨t, ?_, hi⟩
    show R_hearsOn_L77 N b (nI a) (nI p) sums (f + 1) (nI n) t.1 t.2 = _
    rw [R_hearsOn_L77, h.2.1, if_pos (by simp (disch := omega) only [nI_leI, nI_ltI, nI_eq, nI_1, nI_add, pk_mul, nI_clamp]; omega)]
theorem RL23_ok {lm wd sums : Nat → Int32} {V : Nat → Option Nat} {s rr : Nat → Nat} {e : Nat} (hN : 100 ≤ N) (h : LxR n ln nu wt ll b) (h8 : b 8 = nI cl) (hcl : cl ≤ 99) {p c : Nat} (hp : p < n) (hc : c < n) (hs : ∀ i, i < n → 1 ≤ s i ∧ s i ≤ 180 ∧ sums i = nI (s i)) (hG : RG lm wd V) (hv : V (17 + c) = some 0) (hr : ∀ a, a < n → V (7 + a) = some (rr a)) (hrb : ∀ a, a < n → rr a < 2 ^ e) (hle : e ≤ 1100) :
    ∃ lm' wd' V', R_hearsOn_L23 N b (nI c) (nI p) sums N 0 lm wd = some (lm', wd') ∧ RG lm' wd' V' ∧ V' (17 + c) = some (onR (fun a => pB n (oS ln s p a)) rr (he ln nu wt ll cl) n c) ∧ ∀ k, k ≠ 5 → k ≠ 17 + c → V' k = V k := by
  have hn := h.1
  have hh : ∀ a c, a < n → c < n → he ln nu wt ll cl a c ≤ 99 := fun a c _ hc => he_le hcl (h.2.2.2.2.1 c hc).2.1
  have hps : ∀ a, a < n → pB n (oS ln s p a) < 2 ^ 75 := by
    intro a ha
    apply pB_75 hn
    intro i hi
    have := hs i hi
    unfold oS
    split
    · omega
    · split <;> omega
  have := lpI (L := fun f j (t : (Nat → Int32) × (Nat → Int32)) => R_hearsOn_L23 N b (nI c) (nI p) sums f (nI j) t.1 t.2) (n := n)
    (fun j t => ∃ V', RG t.1 t.2 V' ∧ V' (17 + c) = some (onR (fun a => pB n (oS ln s p a)) rr (he ln nu wt ll cl) j c) ∧ ∀ k, k ≠ 5 → k ≠ 17 + c → V' k = V k)
    (fun t => ∃ V', RG t.1 t.2 V' ∧ V' (17 + c) = some (onR (fun a => pB n (oS ln s p a)) rr (he ln nu wt ll cl) n c) ∧ ∀ k, k ≠ 5 → k ≠ 17 + c → V' k = V k) ?_ ?_ n N 0 (lm, wd) (by omega) (by omega) ⟨V, hG, hv, fun _ _ _ => rfl⟩
  · obtain ⟨⟨lm', wd'⟩, e1, V', q⟩ := this
    exact ⟨lm', wd', V', e1, q⟩
  · intro f j t hj hi
    right
    obtain ⟨V1, G1, q1, q2⟩ := hi
    have v1 : V1 (7 + j) = some (rr j) := (q2 (7 + j) (by omega) (by omega)).trans (hr j hj)
    have hw := G1.wd0 v1
    have hhj := hh j c hj hc
    have hb0 : R_hearsOn_L23 N b (nI c) (nI p) sums (f + 1) (nI j) t.1 t.2 = (if nI (nL (rr j)) ≤ 0 then R_hearsOn_L23 N b (nI c) (nI p) sums f (nI (j + 1)) t.1 t.2 else if nI (he ln nu wt ll cl j c) ≤ 0 then R_hearsOn_L23 N b (nI c) (nI p) sums f (nI (j + 1)) t.1 t.2 else
      bO (F_R_takes N 5 (nI (7 + j)) t.1 t.2) (u2 (fun l1 w1 => bO (F_R_times N 5 (nI (he ln nu wt ll cl j c)) l1 w1) (u2 (fun l2 w2 => bO (R_hearsOn_L77 N b (nI j) (nI p) sums N 0 l2 w2) (u2 (fun l3 w3 => bO (F_R_adds N (nI (17 + c)) 5 l3 w3) (u2 (fun l4 w4 => R_hearsOn_L23 N b (nI c) (nI p) sums f (nI (j + 1)) l4 w4))))))))) := by
      rw [R_hearsOn_L23, h.2.1, if_neg (by simp (disch := omega) only [nI_leI, nI_ltI, nI_eq, nI_1, nI_add, pk_mul, nI_clamp]; omega), k7, nI_add, gd_ix (by omega) (by omega), nI_clamp (by omega), hw.1, Rhearing_ok hN h h8 hj hc, bO_s, k17, nI_add, nI_1]
      simp only [bO_s]
    have hskip : he ln nu wt ll cl j c * rr j = 0 → ∃ V', RG t.1 t.2 V' ∧ V' (17 + c) = some (onR (fun a => pB n (oS ln s p a)) rr (he ln nu wt ll cl) (j + 1) c) ∧ ∀ k, k ≠ 5 → k ≠ 17 + c → V' k = V k := fun q => ⟨V1, G1, by rw [q1]; unfold onR; rw [sB_s, q, Nat.mul_zero, Nat.add_zero], q2⟩
    show ∃ t', R_hearsOn_L23 N b (nI c) (nI p) sums (f + 1) (nI j) t.1 t.2 = _ ∧ _
    rw [hb0]
    by_cases z : rr j = 0
    · rw [z, nL_0, if_pos (by decide)]
      exact ⟨t, rfl, hskip (by rw [z, Nat.mul_zero])⟩
    · have hz : nL (rr j) ≠ 0 := fun q => z (nL_eq0.mp q)
      rw [if_neg (by simp (disch := omega) only [z0, nI_leI, nI_ltI, nI_eq, nI_1, nI_add, pk_mul, nI_clamp]; omega)]
      by_cases z2 : he ln nu wt ll cl j c = 0
      · rw [z2, if_pos (by decide)]
        exact ⟨t, rfl, hskip (by rw [z2, Nat.zero_mul])⟩
      · rw [if_neg (by simp (disch := omega) only [z0, nI_leI, nI_ltI, nI_eq, nI_1, nI_add, pk_mul, nI_clamp]; omega)]
        obtain ⟨l1, w1, e1, G2⟩ := takes_ok (N := N) (r := 5) (q := 7 + j) hN G1 (by omega) v1 (by omega)
        rw [show F_R_takes N 5 (nI (7 + j)) t.1 t.2 = _ from e1, bO_s]
        have hb1 : he ln nu wt ll cl j c * rr j < 2 ^ (7 + e) := by
          rw [Nat.pow_add]
          exact Nat.mul_lt_mul_of_lt_of_le (show he ln nu wt ll cl j c < 2 ^ 7 by omega) (Nat.le_of_lt (hrb j hj)) (Nat.two_pow_pos _)
        obtain ⟨l2, w2, e2, G3⟩ := times_ok (N := N) (r := 5) (c := he ln nu wt ll cl j c) hN G2 ru_s (by omega) (Nat.lt_of_lt_of_le hb1 (B50 (by omega)))
        show ∃ t', bO (F_R_times N 5 (nI (he ln nu wt ll cl j c)) l1 w1) _ = _ ∧ _
        rw [show F_R_times N 5 (nI (he ln nu wt ll cl j c)) l1 w1 = _ from e2, bO_s]
        obtain ⟨l3, w3, V3, e3, G4, q5, q6⟩ := Rothers_ok (a := j) hN h hp hj hs G3 ru_s hb1 (by omega)
        show ∃ t', bO (R_hearsOn_L77 N b (nI j) (nI p) sums N 0 l2 w2) _ = _ ∧ _
        rw [e3, bO_s]
        have v17 : V3 (17 + c) = some (onR (fun a => pB n (oS ln s p a)) rr (he ln nu wt ll cl) j c) := by
          rw [q6 _ (by omega), ru_n (by omega), ru_n (by omega)]; exact q1
        have hsum : onR (fun a => pB n (oS ln s p a)) rr (he ln nu wt ll cl) j c + pB n (oS ln s p j) * (he ln nu wt ll cl j c * rr j) = onR (fun a => pB n (oS ln s p a)) rr (he ln nu wt ll cl) (j + 1) c := rfl
        obtain ⟨l4, w4, e4, G5⟩ := Radds_ok (N := N) hN G4 v17 q5 (by omega) (by rw [hsum]; exact Nat.lt_of_lt_of_le (onR_lt hn (by omega) hc hps hrb hh) (B50 (by omega)))
        show ∃ t', bO (F_R_adds N (nI (17 + c)) 5 l3 w3) _ = _ ∧ _
        rw [show F_R_adds N (nI (17 + c)) 5 l3 w3 = _ from e4, bO_s]
        rw [hsum] at G5
        exact ⟨(l4, w4), rfl, _, G5, ru_s, fun k k1 k2 => by rw [ru_n k2, q6 k k1, ru_n k1, ru_n k1]; exact q2 k k1 k2⟩
  · intro f t hi
    refine ⟨t, ?_, hi⟩
    show R_hearsOn_L23 N b (nI c) (nI p) sums (f + 1) (nI n) t.1 t.2 = _
    rw [R_hearsOn_L23, h.2.1, if_pos (by simp (disch := omega) only [nI_leI, nI_ltI, nI_eq, nI_1, nI_add, pk_mul, nI_clamp]; omega)]
theorem RhearsOn_ok {lm wd sums : Nat → Int32} {V : Nat → Option Nat} {s rr : Nat → Nat} {e bs : Nat} (hN : 100 ≤ N) (h : LxR n ln nu wt ll b) (h8 : b 8 = nI cl) (hcl : cl ≤ 99) {p : Nat} (hp : p < n) (hs : ∀ i, i < n → 1 ≤ s i ∧ s i ≤ 180 ∧ sums i = nI (s i)) (hG : RG lm wd V) (hr : ∀ a, a < n → V (7 + a) = some (rr a)) (hrb : ∀ a, a < n → rr a < 2 ^ e) (hle : e ≤ 1100) (h6 : V 6 = some bs) (hbs : bs < 2 ^ e) :
    ∃ lm' wd' V', F_R_hearsOn N (nI p) b lm wd sums = some (lm', wd') ∧ RG lm' wd' V' ∧ (∀ a, a < n → V' (7 + a) = some (onR (fun a => pB n (oS ln s p a)) rr (he ln nu wt ll cl) n a)) ∧ V' 6 = some (pB n (aS ln s p) * bs) ∧ ∀ k, k < 5 → V' k = V k := by
  have hn := h.1
  have haS : ∀ i, i < n → 1 ≤ aS ln s p i ∧ aS ln s p i ≤ 180 := by
    intro i hi
    have := hs i hi
    unfold aS
    split <;> omega
  have hfit : ∀ j, j ≤ n → pB j (aS ln s p) * bs < Bp 50 := by
    intro j hj
    have h1 := pB_75 (f := aS ln s p) (show j ≤ 10 by omega) (fun i hi => (haS i (by omega)).2)
    apply Nat.lt_of_lt_of_le _ (B50 (e := 75 + e) (by omega))
    rw [Nat.pow_add]
    exact Nat.mul_lt_mul_of_lt_of_le h1 (Nat.le_of_lt hbs) (Nat.two_pow_pos _)
  unfold F_R_hearsOn
  have L2 := lpI (L := fun f j (t : (Nat → Int32) × (Nat → Int32)) => R_hearsOn_L2 N b (nI p) sums f (nI j) t.1 t.2) (n := n)
    (fun j t => ∃ V', RG t.1 t.2 V' ∧ (∀ c, c < j → V' (17 + c) = some (onR (fun a => pB n (oS ln s p a)) rr (he ln nu wt ll cl) n c)) ∧ ∀ k, k ≠ 5 → k < 17 → V' k = V k)
    (fun t => ∃ V', RG t.1 t.2 V' ∧ (∀ c, c < n → V' (17 + c) = some (onR (fun a => pB n (oS ln s p a)) rr (he ln nu wt ll cl) n c)) ∧ ∀ k, k ≠ 5 → k < 17 → V' k = V k) ?_ ?_ n N 0 (lm, wd) (by omega) (by omega) ⟨V, hG, fun c hc => by omega, fun _ _ _ => rfl⟩
  · obtain ⟨⟨lm1, wd1⟩, e1, V1, G1, q1, q2⟩ := L2
    dsimp only at G1
    rw [show R_hearsOn_L2 N b (nI p) sums N 0 lm wd = _ from e1, bO_s]
    have L149 := lpI (L := fun f j (t : (Nat → Int32) × (Nat → Int32)) => R_hearsOn_L149 N b (nI p) sums f (nI j) t.1 t.2) (n := n)
      (fun j t => ∃ V', RG t.1 t.2 V' ∧ (∀ c, c < j → V' (7 + c) = some (onR (fun a => pB n (oS ln s p a)) rr (he ln nu wt ll cl) n c)) ∧ (∀ c, c < n → V' (17 + c) = some (onR (fun a => pB n (oS ln s p a)) rr (he ln nu wt ll cl) n c)) ∧ V' 6 = some (pB j (aS ln s p) * bs) ∧ ∀ k, k < 5 → V' k = V k)
      (fun t => ∃ V', RG t.1 t.2 V' ∧ (∀ c, c < n → V' (7 + c) = some (onR (fun a => pB n (oS ln s p a)) rr (he ln nu wt ll cl) n c)) ∧ V' 6 = some (pB n (aS ln s p) * bs) ∧ ∀ k, k < 5 → V' k = V k) ?_ ?_ n N 0 (lm1, wd1) (by omega) (by omega) ⟨V1, G1, fun c hc => by omega, q1, by rw [q2 6 (by omega) (by omega), h6]; show _ = some (1 * bs); rw [Nat.one_mul], fun k hk => q2 k (by omega) (by omega)⟩
    · obtain ⟨⟨lm2, wd2⟩, e2, V2, G2, q3, q4, q5⟩ := L149
      show ∃ lm' wd' V', bO (R_hearsOn_L149 N b (nI p) sums N 0 lm1 wd1) _ = _ ∧ _
      rw [show R_hearsOn_L149 N b (nI p) sums N 0 lm1 wd1 = _ from e2, bO_s]
      exact ⟨lm2, wd2, V2, rfl, G2, q3, q4, q5⟩
    · intro f j t hj hi
      right
      obtain ⟨V2, G2, q3, q4, q5, q6⟩ := hi
      obtain ⟨l1, w1, e2, G3⟩ := takes_ok (N := N) (r := 7 + j) (q := 17 + j) hN G2 (by omega) (q4 j hj) (by omega)
      have hb0 : R_hearsOn_L149 N b (nI p) sums (f + 1) (nI j) t.1 t.2 = (if nI (ln j) = nI (ln p) then bO (F_R_times N 6 (sums j) l1 w1) (u2 (fun l' w' => R_hearsOn_L149 N b (nI p) sums f (nI (j + 1)) l' w')) else R_hearsOn_L149 N b (nI p) sums f (nI (j + 1)) l1 w1) := by
        rw [R_hearsOn_L149, h.2.1, if_neg (by simp (disch := omega) only [nI_leI, nI_ltI, nI_eq, nI_1, nI_add, pk_mul, nI_clamp]; omega), k7, nI_add, k17, nI_add, e2, bO_s]
        dsimp only [u2]
        rw [RlengthOf_ok h hj, bO_s, RlengthOf_ok h hp, bO_s, gd_ix (by omega) (by omega), nI_clamp (by omega), nI_1]
      have l1' := (h.2.2.1 j hj).2.1
      have l2' := (h.2.2.1 p hp).2.1
      show ∃ t', R_hearsOn_L149 N b (nI p) sums (f + 1) (nI j) t.1 t.2 = _ ∧ _
      rw [hb0]
      have v7 : ∀ c, c < j + 1 → ru V2 (7 + j) (onR (fun a => pB n (oS ln s p a)) rr (he ln nu wt ll cl) n j) (7 + c) = some (onR (fun a => pB n (oS ln s p a)) rr (he ln nu wt ll cl) n c) := by
        intro c hc
        by_cases z : c = j
        · rw [z, ru_s]
        · rw [ru_n (by omega)]; exact q3 c (by omega)
      by_cases z2 : ln j = ln p
      · rw [if_pos (by rw [z2]), (hs j hj).2.2]
        have eo : aS ln s p j = s j := by unfold aS; rw [if_pos z2]
        have e2 : s j * (pB j (aS ln s p) * bs) = pB (j + 1) (aS ln s p) * bs := by rw [pB_s, eo, Nat.mul_comm (pB j _) (s j), Nat.mul_assoc]
        obtain ⟨lm', wd', e1, G4⟩ := times_ok (N := N) (r := 6) (v := pB j (aS ln s p) * bs) (c := s j) hN G3 (by rw [ru_n (by omega)]; exact q5) (by have := (hs j hj).2.1; omega) (by rw [e2]; exact hfit (j + 1) (by omega))
        rw [e2] at G4
        rw [show F_R_times N 6 (nI (s j)) l1 w1 = _ from e1, bO_s]
        exact ⟨(lm', wd'), rfl, _, G4, fun c hc => (ru_n (by omega)).trans (v7 c hc), fun c hc => by rw [ru_n (by omega), ru_n (by omega)]; exact q4 c hc, ru_s, fun k hk => by rw [ru_n (by omega), ru_n (by omega)]; exact q6 k hk⟩
      · rw [if_neg (by simp (disch := omega) only [nI_leI, nI_ltI, nI_eq, nI_1, nI_add, pk_mul, nI_clamp]; omega)]
        have eo : aS ln s p j = 1 := by unfold aS; rw [if_neg z2]
        exact ⟨(l1, w1), rfl, _, G3, v7, fun c hc => by rw [ru_n (by omega)]; exact q4 c hc, by rw [ru_n (by omega), q5, pB_s, eo, Nat.mul_one], fun k hk => by rw [ru_n (by omega)]; exact q6 k hk⟩
    · intro f t hi
      obtain ⟨V2, G2, q3, q4, q5, q6⟩ := hi
      refine ⟨t, ?_, V2, G2, q3, q5, q6⟩
      show R_hearsOn_L149 N b (nI p) sums (f + 1) (nI n) t.1 t.2 = _
      rw [R_hearsOn_L149, h.2.1, if_pos (by simp (disch := omega) only [nI_leI, nI_ltI, nI_eq, nI_1, nI_add, pk_mul, nI_clamp]; omega)]
  · intro f j t hj hi
    right
    obtain ⟨V1, G1, q1, q2⟩ := hi
    obtain ⟨l1, w1, e1, G2⟩ := sets_ok (N := N) (r := 17 + j) (v := 0) hN G1 (by omega) (by decide)
    obtain ⟨l2, w2, V3, e2, G3, q3, q4⟩ := RL23_ok (c := j) hN h h8 hcl hp hj hs G2 ru_s (fun a ha => by rw [ru_n (by omega), q2 _ (by omega) (by omega)]; exact hr a ha) hrb hle
    refine ⟨(l2, w2), ?_, V3, G3, fun c hc => ?_, fun k k1 k2 => by rw [q4 k k1 (by omega), ru_n (by omega)]; exact q2 k k1 k2⟩
    · show R_hearsOn_L2 N b (nI p) sums (f + 1) (nI j) t.1 t.2 = _
      rw [R_hearsOn_L2, h.2.1, if_neg (by simp (disch := omega) only [nI_leI, nI_ltI, nI_eq, nI_1, nI_add, pk_mul, nI_clamp]; omega), k17, nI_add, show (0 : Int64) = lN 0 from rfl, e1, bO_s]
      dsimp only [u2]
      rw [e2, bO_s, nI_1]
      rfl
    · by_cases z : c = j
      · rw [z]; exact q3
      · rw [q4 _ (by omega) (by omega), ru_n (by omega)]; exact q1 c (by omega)
  · intro f t hi
    refine ⟨t, ?_, hi⟩
    show R_hearsOn_L2 N b (nI p) sums (f + 1) (nI n) t.1 t.2 = _
    rw [R_hearsOn_L2, h.2.1, if_pos (by simp (disch := omega) only [nI_leI, nI_ltI, nI_eq, nI_1, nI_add, pk_mul, nI_clamp]; omega)]
