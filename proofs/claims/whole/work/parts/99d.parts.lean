-- THE PARTS
theorem half_mod {b r : Nat} (h0 : 0 < r) (h : r < b) : 2 * (b % r) < b := by
  have h1 := Nat.mod_lt b h0
  by_cases z : 2 * r ≤ b
  · omega
  · have h2 : b % r = b - r := by
      rw [Nat.mod_eq_sub_mod (by omega), Nat.mod_eq_of_lt (by omega)]
    omega
theorem gcd_flip (a b : Nat) : Nat.gcd a b = Nat.gcd b (a % b) := by rw [Nat.gcd_comm a b, Nat.gcd_rec b a, Nat.gcd_comm]
theorem cdL_ok : ∀ (k f a b c : Nat), a < 2 ^ 31 → b < 2 ^ k → k ≤ 30 → c + 2 * k ≤ 98 → 2 * k < f → S_commonDivisor_L7 f (nI a) (nI b) (nI c) = some (nI (Nat.gcd a b)) := by
  intro k
  induction k with
  | zero =>
    intro f a b c ha hb hk hc hf
    obtain ⟨f, rfl⟩ : ∃ z, f = z + 1 := ⟨f - 1, by omega⟩
    have : b = 0 := by omega
    subst this
    rw [S_commonDivisor_L7, if_neg (by simp (disch := omega) only [k100, nI_leI, nI_ltI, nI_eq, nI_1, nI_add, pk_mul, nI_clamp]; omega), if_pos (by decide), Nat.gcd_zero_right]
  | succ k ih =>
    intro f a b c ha hb hk hc hf
    obtain ⟨f, rfl⟩ : ∃ z, f = z + 1 + 1 := ⟨f - 2, by omega⟩
    have hk2 : 2 ^ (k + 1) ≤ 2 ^ 30 := Nat.pow_le_pow_right (by decide) hk
    rw [S_commonDivisor_L7, if_neg (by simp (disch := omega) only [k100, nI_leI, nI_ltI, nI_eq, nI_1, nI_add, pk_mul, nI_clamp]; omega)]
    by_cases z : b = 0
    · rw [z, if_pos (by decide), Nat.gcd_zero_right]
    · have hz : nz (nI b) = true := by
        unfold nz
        rw [decide_eq_false (by simp (disch := omega) only [z0, nI_leI, nI_ltI, nI_eq, nI_1, nI_add, pk_mul, nI_clamp]; omega)]
        rfl
      have hr := Nat.mod_lt a (show 0 < b by omega)
      have ej : jrem (nI a) (nI b) = nI (a % b) := pk_rem ha (by omega) (by omega)
      rw [if_neg (by simp (disch := omega) only [z0, nI_leI, nI_ltI, nI_eq, nI_1, nI_add, pk_mul, nI_clamp]; omega), hz, gd_t, ej, nI_1, S_commonDivisor_L7, if_neg (by simp (disch := omega) only [k100, nI_leI, nI_ltI, nI_eq, nI_1, nI_add, pk_mul, nI_clamp]; omega)]
      by_cases z2 : a % b = 0
      · rw [z2, if_pos (by decide), gcd_flip a b, z2, Nat.gcd_zero_right]
      · have hz2 : nz (nI (a % b)) = true := by
          unfold nz
          rw [decide_eq_false (by simp (disch := omega) only [z0, nI_leI, nI_ltI, nI_eq, nI_1, nI_add, pk_mul, nI_clamp]; omega)]
          rfl
        have ej2 : jrem (nI b) (nI (a % b)) = nI (b % (a % b)) := pk_rem (by omega) (by omega) (by omega)
        have hh := half_mod (show 0 < a % b by omega) hr
        rw [Nat.pow_succ] at hb
        rw [if_neg (by simp (disch := omega) only [z0, nI_leI, nI_ltI, nI_eq, nI_1, nI_add, pk_mul, nI_clamp]; omega), hz2, gd_t, ej2, nI_1, ih f (a % b) (b % (a % b)) (c + 1 + 1) (by omega) (by omega) (by omega) (by omega) (by omega), gcd_flip a b, gcd_flip b (a % b)]
theorem cd_ok {a b N : Nat} (hN : 100 ≤ N) (ha : a < 2 ^ 31) (hb : b ≤ 180) : F_S_commonDivisor N (nI a) (nI b) = some (nI (Nat.gcd a b)) := by
  unfold F_S_commonDivisor
  rw [show (0 : Int32) = nI 0 from rfl, cdL_ok 8 N a b 0 ha (by omega) (by omega) (by omega) (by omega)]
  rfl
def pB : Nat → (Nat → Nat) → Nat
  | 0, _ => 1
  | n + 1, f => pB n f * f n
theorem pB_s (n : Nat) (f : Nat → Nat) : pB (n + 1) f = pB n f * f n := rfl
theorem pB_cong {f g : Nat → Nat} : ∀ {n : Nat}, (∀ i, i < n → f i = g i) → pB n f = pB n g := by
  intro n
  induction n with
  | zero => intro _; rfl
  | succ n ih => intro h; rw [pB_s, pB_s, ih (fun i hi => h i (by omega)), h n (by omega)]
theorem pB_dvd {f : Nat → Nat} {m : Nat} : ∀ (d : Nat), pB m f ∣ pB (m + d) f := by
  intro d
  induction d with
  | zero => exact Nat.dvd_refl _
  | succ d ih => exact Nat.dvd_trans ih (Nat.dvd_mul_right _ _)
theorem pB_pos {f : Nat → Nat} : ∀ {n : Nat}, (∀ i, i < n → 1 ≤ f i) → 1 ≤ pB n f := by
  intro n
  induction n with
  | zero => intro _; exact Nat.le_refl _
  | succ n ih => intro h; exact Nat.mul_pos (ih (fun i hi => h i (by omega))) (h n (by omega))
theorem pB_le {f : Nat → Nat} {k : Nat} : ∀ {n : Nat}, (∀ i, i < n → f i ≤ k) → pB n f ≤ k ^ n := by
  intro n
  induction n with
  | zero => intro _; exact Nat.le_refl _
  | succ n ih => intro h; rw [pB_s, Nat.pow_succ]; exact Nat.mul_le_mul (ih (fun i hi => h i (by omega))) (h n (by omega))
theorem pB_75 {f : Nat → Nat} {n : Nat} (hn : n ≤ 10) (h : ∀ i, i < n → f i ≤ 180) : pB n f < 2 ^ 75 := by
  have h1 := pB_le h
  have h2 : 180 ^ n ≤ 180 ^ 10 := Nat.pow_le_pow_right (by decide) hn
  have h3 : 180 ^ 10 < 2 ^ 75 := by decide
  omega
theorem p24_ok {N w : Nat} {pt : Nat → Nat} {t : Nat} {part : Nat → Int32} (hN : 100 ≤ N) (hw : w < 10) (ht : 1 ≤ t ∧ t ≤ 180) (hpw : part w = nI t) (hp : ∀ i, i < w → 1 ≤ pt i ∧ pt i ≤ 180 ∧ part i = nI (pt i)) :
    ∃ (r : Nat → Int32) (x G : Nat), Chances_findParts_L24 N (nI w) N 0 part = some r ∧ r w = nI x ∧ 1 ≤ x ∧ x ≤ 180 ∧ t = x * G ∧ G ∣ pB w pt ∧ ∀ a, a ≠ w → r a = part a := by
  have := lpI (L := fun f j (s : Nat → Int32) => Chances_findParts_L24 N (nI w) f (nI j) s) (n := w)
    (fun j r => ∃ (x G : Nat), r w = nI x ∧ 1 ≤ x ∧ x ≤ 180 ∧ t = x * G ∧ G ∣ pB j pt ∧ ∀ a, a ≠ w → r a = part a)
    (fun r => ∃ (x G : Nat), r w = nI x ∧ 1 ≤ x ∧ x ≤ 180 ∧ t = x * G ∧ G ∣ pB w pt ∧ ∀ a, a ≠ w → r a = part a) ?_ ?_ w N 0 part (by omega) (by omega) ⟨t, 1, hpw, ht.1, ht.2, (Nat.mul_one t).symm, Nat.dvd_refl _, fun _ _ => rfl⟩
  · obtain ⟨r, e, x, G, q⟩ := this
    exact ⟨r, x, G, e, q⟩
  · intro f j s hj hi
    right
    obtain ⟨x, G, h1, h2, h3, h4, h5, h6⟩ := hi
    obtain ⟨p1, p2, p3⟩ := hp j hj
    have g0 : 0 < Nat.gcd x (pt j) := Nat.gcd_pos_of_pos_left _ (by omega)
    have gx : Nat.gcd x (pt j) ∣ x := Nat.gcd_dvd_left _ _
    have gp : Nat.gcd x (pt j) ∣ pt j := Nat.gcd_dvd_right _ _
    have gl := Nat.le_of_dvd (by omega) gx
    have step : ∀ s', (if nI (Nat.gcd x (pt j)) ≤ (1 : Int32) then Chances_findParts_L24 N (nI w) f (nI j + 1) s else gd (nz (nI (Nat.gcd x (pt j)))) (Chances_findParts_L24 N (nI w) f (nI j + 1) (upd s w (nI x / nI (Nat.gcd x (pt j)))))) = s' → Chances_findParts_L24 N (nI w) (f + 1) (nI j) s = s' := by
      intro s' hs
      rw [Chances_findParts_L24, if_neg (by simp (disch := omega) only [nI_leI, nI_ltI, nI_eq, nI_1, nI_add, pk_mul, nI_clamp]; omega), gd_ix (by omega) (by omega), nI_clamp (by omega), nI_clamp (by omega), h1, h6 j (by omega), p3, cd_ok hN (by omega) p2, bO_s]
      exact hs
    by_cases z : Nat.gcd x (pt j) ≤ 1
    · refine ⟨s, ?_, x, G, h1, h2, h3, h4, Nat.dvd_trans h5 (Nat.dvd_mul_right _ _), h6⟩
      apply step
      rw [if_pos (by rw [show (1 : Int32) = nI 1 from rfl]; simp (disch := omega) only [nI_leI, nI_ltI, nI_eq, nI_1, nI_add, pk_mul, nI_clamp]; omega), nI_1]
    · have hz : nz (nI (Nat.gcd x (pt j))) = true := by
        unfold nz
        rw [decide_eq_false (by simp (disch := omega) only [z0, nI_leI, nI_ltI, nI_eq, nI_1, nI_add, pk_mul, nI_clamp]; omega)]
        rfl
      refine ⟨upd s w (nI (x / Nat.gcd x (pt j))), ?_, x / Nat.gcd x (pt j), G * Nat.gcd x (pt j), pk_us, ?_, ?_, ?_, Nat.mul_dvd_mul h5 gp, fun a ha => (pk_un ha).trans (h6 a ha)⟩
      · apply step
        rw [if_neg (by rw [show (1 : Int32) = nI 1 from rfl]; simp (disch := omega) only [nI_leI, nI_ltI, nI_eq, nI_1, nI_add, pk_mul, nI_clamp]; omega), hz, gd_t, pk_div (by omega) g0 (by omega), nI_1]
      · exact Nat.div_pos gl g0
      · exact Nat.le_trans (Nat.div_le_self _ _) h3
      · rw [Nat.mul_comm G, ← Nat.mul_assoc, Nat.div_mul_cancel gx]
        exact h4
  · intro f s hi
    refine ⟨s, ?_, hi⟩
    show Chances_findParts_L24 N (nI w) (f + 1) (nI w) s = _
    rw [Chances_findParts_L24, if_pos (by simp (disch := omega) only [nI_leI, nI_ltI, nI_eq, nI_1, nI_add, pk_mul, nI_clamp]; omega)]
theorem findParts_ok {N n : Nat} {tot : Nat → Nat} {total part : Nat → Int32} (hN : 100 ≤ N) (hn : n ≤ 10) (ht : ∀ a, a < n → 1 ≤ tot a ∧ tot a ≤ 180 ∧ total a = nI (tot a)) :
    ∃ (r : Nat → Int32) (pt : Nat → Nat), F_Chances_findParts N (nI n) total part = some r ∧ ∀ i, i < n → 1 ≤ pt i ∧ pt i ≤ 180 ∧ r i = nI (pt i) ∧ tot i ∣ pB n pt := by
  have := lpI (L := fun f j (s : Nat → Int32) => Chances_findParts_L2 N (nI n) total f (nI j) s) (n := n)
    (fun j r => ∃ pt : Nat → Nat, ∀ i, i < j → 1 ≤ pt i ∧ pt i ≤ 180 ∧ r i = nI (pt i) ∧ tot i ∣ pB j pt)
    (fun r => ∃ pt : Nat → Nat, ∀ i, i < n → 1 ≤ pt i ∧ pt i ≤ 180 ∧ r i = nI (pt i) ∧ tot i ∣ pB n pt) ?_ ?_ n N 0 part (by omega) (by omega) ⟨fun _ => 0, fun i hi => by omega⟩
  · obtain ⟨r, e, pt, h⟩ := this
    unfold F_Chances_findParts
    rw [show Chances_findParts_L2 N (nI n) total N 0 part = _ from e, bO_s]
    exact ⟨r, pt, rfl, h⟩
  · intro f j s hj hi
    right
    obtain ⟨pt, h⟩ := hi
    obtain ⟨t1, t2, t3⟩ := ht j hj
    obtain ⟨r, x, G, e, r1, r2, r3, r4, r5, r6⟩ := p24_ok (N := N) (w := j) (pt := pt) (t := tot j) (part := upd s j (nI (tot j))) hN (by omega) ⟨t1, t2⟩ pk_us (fun i hi => ⟨(h i hi).1, (h i hi).2.1, by rw [pk_un (by omega)]; exact (h i hi).2.2.1⟩)
    have hc : pB j (fun i => if i = j then x else pt i) = pB j pt := pB_cong (fun i hi => if_neg (by omega))
    refine ⟨r, ?_, fun i => if i = j then x else pt i, fun i hi => ?_⟩
    · show Chances_findParts_L2 N (nI n) total (f + 1) (nI j) s = _
      rw [Chances_findParts_L2, if_neg (by simp (disch := omega) only [nI_leI, nI_ltI, nI_eq, nI_1, nI_add, pk_mul, nI_clamp]; omega), gd_ix (by omega) (by omega), nI_clamp (by omega), t3, e, bO_s, nI_1]
    · have hp : pB (j + 1) (fun i => if i = j then x else pt i) = pB j pt * x := by
        rw [pB_s, hc]
        show _ * (if j = j then x else pt j) = _
        rw [if_pos rfl]
      rw [hp]
      by_cases z : i = j
      · show 1 ≤ (if i = j then x else pt i) ∧ (if i = j then x else pt i) ≤ 180 ∧ r i = nI (if i = j then x else pt i) ∧ _
        rw [if_pos z, z]
        exact ⟨r2, r3, r1, by rw [r4, Nat.mul_comm]; exact Nat.mul_dvd_mul r5 (Nat.dvd_refl x)⟩
      · show 1 ≤ (if i = j then x else pt i) ∧ (if i = j then x else pt i) ≤ 180 ∧ r i = nI (if i = j then x else pt i) ∧ _
        obtain ⟨q1, q2, q3, q4⟩ := h i (by omega)
        rw [if_neg z]
        exact ⟨q1, q2, by rw [r6 i z, pk_un z]; exact q3, Nat.dvd_trans q4 (Nat.dvd_mul_right _ _)⟩
  · intro f s hi
    refine ⟨s, ?_, hi⟩
    show Chances_findParts_L2 N (nI n) total (f + 1) (nI n) s = _
    rw [Chances_findParts_L2, if_pos (by simp (disch := omega) only [nI_leI, nI_ltI, nI_eq, nI_1, nI_add, pk_mul, nI_clamp]; omega)]
theorem mulParts_ok {N n v : Nat} {pt : Nat → Nat} {part limb : Nat → Int32} {l : Int32} (hN : 100 ≤ N) (hn : n ≤ 10) (hp : ∀ i, i < n → 1 ≤ pt i ∧ pt i ≤ 180 ∧ part i = nI (pt i)) (h : CN limb l v) (hb : pB n pt * v < Bp 40) :
    ∃ (l' : Int32) (b' : Nat → Int32), F_Chances_multiplyByParts N (nI n) part l limb = some (l', b') ∧ CN b' l' (pB n pt * v) := by
  have := lpI (L := fun f j (s : (Nat → Int32) × Int32) => Chances_multiplyByParts_L2 N (nI n) part f (nI j) s.1 s.2) (n := n)
    (fun j s => CN s.1 s.2 (pB j pt * v))
    (fun s => CN s.1 s.2 (pB n pt * v)) ?_ ?_ n N 0 (limb, l) (by omega) (by omega) (by show CN limb l (1 * v); rw [Nat.one_mul]; exact h)
  · obtain ⟨⟨b', l'⟩, e, h2⟩ := this
    unfold F_Chances_multiplyByParts
    rw [show Chances_multiplyByParts_L2 N (nI n) part N 0 limb l = _ from e, bO_s]
    exact ⟨l', b', rfl, h2⟩
  · intro f j s hj hi
    right
    obtain ⟨p1, p2, p3⟩ := hp j hj
    by_cases z : pt j ≤ 1
    · refine ⟨s, ?_, ?_⟩
      · show Chances_multiplyByParts_L2 N (nI n) part (f + 1) (nI j) s.1 s.2 = _
        rw [Chances_multiplyByParts_L2, if_neg (by simp (disch := omega) only [nI_leI, nI_ltI, nI_eq, nI_1, nI_add, pk_mul, nI_clamp]; omega), gd_ix (by omega) (by omega), nI_clamp (by omega), p3, if_pos (by rw [show (1 : Int32) = nI 1 from rfl]; simp (disch := omega) only [nI_leI, nI_ltI, nI_eq, nI_1, nI_add, pk_mul, nI_clamp]; omega), nI_1]
      · rw [pB_s, show pt j = 1 by omega, Nat.mul_one]
        exact hi
    · have hle : pB (j + 1) pt * v ≤ pB n pt * v := by
        apply Nat.mul_le_mul_right
        obtain ⟨d, rfl⟩ : ∃ d, n = j + 1 + d := ⟨n - (j + 1), by omega⟩
        exact Nat.le_of_dvd (pB_pos (fun i hi => (hp i hi).1)) (pB_dvd d)
      have e : pt j * (pB j pt * v) = pB (j + 1) pt * v := by rw [pB_s, Nat.mul_comm (pB j pt) (pt j), Nat.mul_assoc]
      obtain ⟨l', b', e1, c1⟩ := multiply_ok hN hi p1 (show pt j < 2 ^ 30 by omega) (by rw [e]; omega)
      rw [e] at c1
      refine ⟨(b', l'), ?_, c1⟩
      show Chances_multiplyByParts_L2 N (nI n) part (f + 1) (nI j) s.1 s.2 = _
      rw [Chances_multiplyByParts_L2, if_neg (by simp (disch := omega) only [nI_leI, nI_ltI, nI_eq, nI_1, nI_add, pk_mul, nI_clamp]; omega), gd_ix (by omega) (by omega), nI_clamp (by omega), p3, if_neg (by rw [show (1 : Int32) = nI 1 from rfl]; simp (disch := omega) only [nI_leI, nI_ltI, nI_eq, nI_1, nI_add, pk_mul, nI_clamp]; omega), e1, bO_s, nI_1]
      rfl
  · intro f s hi
    refine ⟨s, ?_, hi⟩
    show Chances_multiplyByParts_L2 N (nI n) part (f + 1) (nI n) s.1 s.2 = _
    rw [Chances_multiplyByParts_L2, if_pos (by simp (disch := omega) only [nI_leI, nI_ltI, nI_eq, nI_1, nI_add, pk_mul, nI_clamp]; omega)]
