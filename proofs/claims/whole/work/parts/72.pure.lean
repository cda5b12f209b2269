-- PURE: numbers that are bools, bounded quantifiers, sums, masks
def bI (b : Bool) : Int32 := if b = true then 1 else 0
theorem bI_t : bI true = 1 := rfl
theorem bI_f : bI false = 0 := rfl
theorem bI_0 {b : Bool} : bI b = 0 ↔ b = false := by cases b <;> decide
theorem bI_1 {b : Bool} : bI b = 1 ↔ b = true := by cases b <;> decide
theorem bI_n {b : Bool} : bI b = nI (if b then 1 else 0) := by cases b <;> rfl
theorem bI_inj {a b : Bool} : bI a = bI b ↔ a = b := by cases a <;> cases b <;> decide
theorem nar_bI (b : Bool) : vp_nar .boolean (bI b) = bI b := by cases b <;> rfl
theorem nar_0 : vp_nar .boolean 0 = 0 := rfl
theorem nar_1 : vp_nar .boolean 1 = 1 := rfl
theorem oneIf_bI (b : Bool) : F_S_oneIf (bI b) = bI b := by cases b <;> decide
/-- the truth of a proposition -/
noncomputable def cB (p : Prop) : Bool := @decide p (Classical.propDecidable p)
theorem cB_t {p : Prop} : cB p = true ↔ p := by unfold cB; exact @decide_eq_true_iff p (Classical.propDecidable p)
theorem cB_f {p : Prop} : cB p = false ↔ ¬ p := by unfold cB; exact @decide_eq_false_iff_not p (Classical.propDecidable p)
/-- some, all, sums, masks: below n -/
def aB : Nat → (Nat → Bool) → Bool
  | 0, _ => false
  | n + 1, c => aB n c || c n
def lB : Nat → (Nat → Bool) → Bool
  | 0, _ => true
  | n + 1, c => lB n c && c n
def sB : Nat → (Nat → Nat) → Nat
  | 0, _ => 0
  | n + 1, f => sB n f + f n
def bm : Nat → (Nat → Bool) → Nat
  | 0, _ => 0
  | n + 1, c => bm n c + (if c n = true then 2 ^ n else 0)
theorem aB_s (n : Nat) (c : Nat → Bool) : aB (n + 1) c = (aB n c || c n) := rfl
theorem lB_s (n : Nat) (c : Nat → Bool) : lB (n + 1) c = (lB n c && c n) := rfl
theorem sB_s (n : Nat) (f : Nat → Nat) : sB (n + 1) f = sB n f + f n := rfl
theorem bm_s (n : Nat) (c : Nat → Bool) : bm (n + 1) c = bm n c + (if c n = true then 2 ^ n else 0) := rfl
theorem aB_t {c : Nat → Bool} : ∀ {n : Nat}, aB n c = true ↔ ∃ i, i < n ∧ c i = true
  | 0 => ⟨(fun h => by cases h), fun ⟨i, h, _⟩ => absurd h (Nat.not_lt_zero i)⟩
  | n + 1 => by
    rw [aB_s, Bool.or_eq_true, aB_t]
    constructor
    · rintro (⟨i, h1, h2⟩ | h)
      · exact ⟨i, by omega, h2⟩
      · exact ⟨n, by omega, h⟩
    · rintro ⟨i, h1, h2⟩
      by_cases h : i = n
      · subst h; exact Or.inr h2
      · exact Or.inl ⟨i, by omega, h2⟩
theorem aB_f {c : Nat → Bool} {n : Nat} : aB n c = false ↔ ∀ i, i < n → c i = false := by
  constructor
  · intro h i hi
    cases hc : c i
    · rfl
    · rw [aB_t.mpr ⟨i, hi, hc⟩] at h; cases h
  · intro h
    cases hc : aB n c
    · rfl
    · obtain ⟨i, hi, h2⟩ := aB_t.mp hc
      rw [h i hi] at h2; cases h2
theorem lB_t {c : Nat → Bool} : ∀ {n : Nat}, lB n c = true ↔ ∀ i, i < n → c i = true
  | 0 => ⟨fun _ i h => absurd h (Nat.not_lt_zero i), fun _ => rfl⟩
  | n + 1 => by
    rw [lB_s, Bool.and_eq_true, lB_t]
    constructor
    · rintro ⟨h1, h2⟩ i hi
      by_cases h : i = n
      · subst h; exact h2
      · exact h1 i (by omega)
    · intro h
      exact ⟨fun i hi => h i (by omega), h n (by omega)⟩
theorem lB_f {c : Nat → Bool} {n : Nat} : lB n c = false ↔ ∃ i, i < n ∧ c i = false := by
  constructor
  · intro h
    cases ha : aB n (fun i => !(c i))
    · have h2 : lB n c = true := lB_t.mpr (fun i hi => by have h3 := aB_f.mp ha i hi; simpa using h3)
      rw [h2] at h; cases h
    · obtain ⟨i, hi, h2⟩ := aB_t.mp ha
      exact ⟨i, hi, by simpa using h2⟩
  · rintro ⟨i, hi, h⟩
    cases hc : lB n c
    · rfl
    · rw [lB_t.mp hc i hi] at h; cases h
theorem aB_cong {c d : Nat → Bool} {n : Nat} (h : ∀ i, i < n → c i = d i) : aB n c = aB n d := by
  induction n with
  | zero => rfl
  | succ n ih => rw [aB_s, aB_s, ih (fun i hi => h i (by omega)), h n (by omega)]
theorem lB_cong {c d : Nat → Bool} {n : Nat} (h : ∀ i, i < n → c i = d i) : lB n c = lB n d := by
  induction n with
  | zero => rfl
  | succ n ih => rw [lB_s, lB_s, ih (fun i hi => h i (by omega)), h n (by omega)]
theorem sB_cong {c d : Nat → Nat} {n : Nat} (h : ∀ i, i < n → c i = d i) : sB n c = sB n d := by
  induction n with
  | zero => rfl
  | succ n ih => rw [sB_s, sB_s, ih (fun i hi => h i (by omega)), h n (by omega)]
theorem bm_cong {c d : Nat → Bool} {n : Nat} (h : ∀ i, i < n → c i = d i) : bm n c = bm n d := by
  induction n with
  | zero => rfl
  | succ n ih => rw [bm_s, bm_s, ih (fun i hi => h i (by omega)), h n (by omega)]
theorem sB_le {f : Nat → Nat} {k : Nat} : ∀ {n : Nat}, (∀ i, i < n → f i ≤ k) → sB n f ≤ n * k
  | 0, _ => by rw [Nat.zero_mul]; exact Nat.le_refl 0
  | n + 1, h => by
    have h1 := sB_le (n := n) (fun i hi => h i (by omega))
    have h2 := h n (by omega)
    rw [sB_s, Nat.succ_mul]; omega
theorem sB_mono {f : Nat → Nat} {n : Nat} : ∀ (d : Nat), sB n f ≤ sB (n + d) f
  | 0 => Nat.le_refl _
  | d + 1 => by
    have h := sB_mono (f := f) (n := n) d
    have e : sB (n + (d + 1)) f = sB (n + d) f + f (n + d) := rfl
    omega
theorem sB_le2 {f g : Nat → Nat} : ∀ {n : Nat}, (∀ i, i < n → f i ≤ g i) → sB n f ≤ sB n g
  | 0, _ => Nat.le_refl 0
  | n + 1, h => by
    have h1 := sB_le2 (n := n) (fun i hi => h i (by omega))
    have h2 := h n (by omega)
    rw [sB_s, sB_s]; omega
theorem bm_lt (c : Nat → Bool) : ∀ n, bm n c < 2 ^ n
  | 0 => Nat.one_pos
  | n + 1 => by
    have h := bm_lt c n
    rw [bm_s, Nat.pow_succ]
    split <;> omega
theorem bm_bit (c : Nat → Bool) (i : Nat) : ∀ n, (bm n c).testBit i = (decide (i < n) && c i)
  | 0 => by simp [bm]
  | n + 1 => by
    have ih := bm_bit c i n
    have h1 := bm_lt c n
    rw [bm_s]
    by_cases hc : c n = true
    · rw [if_pos hc, Nat.add_comm]
      rcases Nat.lt_trichotomy i n with h | h | h
      · rw [Nat.testBit_two_pow_add_gt h, ih]; simp [h, show i < n + 1 by omega]
      · subst h
        rw [Nat.testBit_two_pow_add_eq, ih]; simp [hc]
      · have h2 : 2 ^ (n + 1) ≤ 2 ^ i := Nat.pow_le_pow_right (by decide) h
        rw [Nat.pow_succ] at h2
        rw [Nat.testBit_lt_two_pow (by omega)]
        simp [show ¬ i < n + 1 by omega]
    · rw [if_neg hc, Nat.add_zero, ih]
      by_cases h : i < n
      · simp [h, show i < n + 1 by omega]
      · by_cases h2 : i = n
        · subst h2; simp [hc]
        · simp [h, show ¬ i < n + 1 by omega]
theorem bm_ext {c : Nat → Bool} {n x : Nat} (h : x < 2 ^ n) (hb : ∀ i, i < n → x.testBit i = c i) : x = bm n c := by
  apply Nat.eq_of_testBit_eq
  intro i
  rw [bm_bit]
  by_cases hi : i < n
  · rw [hb i hi]; simp [hi]
  · have h2 : 2 ^ n ≤ 2 ^ i := Nat.pow_le_pow_right (by decide) (by omega)
    rw [Nat.testBit_lt_two_pow (by omega)]; simp [hi]
theorem bm_self {n x : Nat} (h : x < 2 ^ n) : bm n x.testBit = x := (bm_ext h (fun _ _ => rfl)).symm
theorem bm_up {c : Nat → Bool} {n m : Nat} (h : n ≤ m) (hc : ∀ i, n ≤ i → i < m → c i = false) : bm m c = bm n c := by
  symm
  have h2 : 2 ^ n ≤ 2 ^ m := Nat.pow_le_pow_right (by decide) h
  have h3 := bm_lt c n
  apply bm_ext (by omega)
  intro i hi
  rw [bm_bit]
  by_cases h4 : i < n
  · simp [h4]
  · rw [hc i (by omega) hi]; simp
theorem bm_zero {c : Nat → Bool} {n : Nat} : bm n c = 0 ↔ ∀ i, i < n → c i = false := by
  constructor
  · intro h i hi
    have := bm_bit c i n
    rw [h] at this
    simp [hi] at this
    exact this
  · intro h
    exact (bm_ext (Nat.two_pow_pos n) (fun i hi => by rw [h i hi]; simp)).symm
/-- ints of naturals -/
theorem p2 {n m : Nat} (h : n ≤ m) : 2 ^ n ≤ 2 ^ m := Nat.pow_le_pow_right (by decide) h
theorem p2l {n m : Nat} (h : n < m) : 2 ^ n < 2 ^ m := Nat.pow_lt_pow_right (by decide) h
theorem m1_nI : (-1 : Int32) = nI (2 ^ 32 - 1) := by decide
theorem jshl1 : ∀ j, j < 32 → jshl 1 (nI j) = nI (2 ^ j) := by decide +kernel
theorem jshrN {m j : Nat} (hm : m < 2 ^ 31) (hj : j < 32) : jshr (nI m) (nI j) = nI (m / 2 ^ j) := by
  have e : ∀ j, j < 32 → ((nI j &&& 31).toBitVec.smod 32).toNat = j := by decide +kernel
  exact pk_shrN hm _ j (e j hj)
theorem jushrN {m j : Nat} (hm : m < 2 ^ 32) (hj : j < 32) : jushr (nI m) (nI j) = nI (m / 2 ^ j) := by
  have e : ∀ j, j < 32 → (((nI j).toUInt32 &&& Int32.toUInt32 31).toBitVec % 32).toNat = j := by decide +kernel
  exact pk_ushrN hm (nI j) j (e j hj)
theorem jshlN {m j : Nat} (hj : j < 32) (h : m * 2 ^ j < 2 ^ 32) : jshl (nI m) (nI j) = nI (m * 2 ^ j) := by
  have e : ∀ j, j < 32 → ((nI j &&& 31).toBitVec.smod 32).toNat = j := by decide +kernel
  exact pk_shlN _ j (e j hj) h
theorem and1 (m : Nat) : nI m &&& (1 : Int32) = nI (m % 2) := by
  show nI m &&& nI 1 = _
  rw [fa_and, Nat.and_one_is_mod]
theorem bit_n (m j : Nat) : nI (m / 2 ^ j % 2) = bI (m.testBit j) := by
  rw [Nat.testBit_eq_decide_div_mod_eq]
  have h : m / 2 ^ j % 2 < 2 := Nat.mod_lt _ (by decide)
  generalize m / 2 ^ j % 2 = x at h
  match x, h with
  | 0, _ => rfl
  | 1, _ => rfl
theorem bitR {m j : Nat} (hm : m < 2 ^ 31) (hj : j < 32) : (jshr (nI m) (nI j)) &&& 1 = bI (m.testBit j) := by rw [jshrN hm hj, and1, bit_n]
theorem bitU {m j : Nat} (hm : m < 2 ^ 32) (hj : j < 32) : (jushr (nI m) (nI j)) &&& 1 = bI (m.testBit j) := by rw [jushrN hm hj, and1, bit_n]
theorem hasB {m j : Nat} (hm : m < 2 ^ 32) (hj : j < 32) : F_S_hasBit (nI m) (nI j) = bI (m.testBit j) := by
  unfold F_S_hasBit
  rw [bitU hm hj]
  cases m.testBit j <;> rfl
theorem mk_has {n j : Nat} {c : Nat → Bool} (hn : n ≤ 32) (hj : j < n) : F_S_hasBit (nI (bm n c)) (nI j) = bI (c j) := by
  have h1 := bm_lt c n
  have h2 := p2 hn
  rw [hasB (by omega) (by omega), bm_bit]; simp [hj]
theorem mk_bitR {n j : Nat} {c : Nat → Bool} (hn : n ≤ 31) (hj : j < n) : (jshr (nI (bm n c)) (nI j)) &&& 1 = bI (c j) := by
  have h1 := bm_lt c n
  have h2 := p2 hn
  rw [bitR (by omega) (by omega), bm_bit]; simp [hj]
theorem mk_or {n : Nat} (c d : Nat → Bool) : nI (bm n c) ||| nI (bm n d) = nI (bm n (fun i => c i || d i)) := by
  rw [fa_or]
  congr 1
  apply bm_ext (Nat.or_lt_two_pow (bm_lt c n) (bm_lt d n))
  intro i hi
  rw [Nat.testBit_or, bm_bit, bm_bit]; simp [hi]
theorem mk_and {n : Nat} (c d : Nat → Bool) : nI (bm n c) &&& nI (bm n d) = nI (bm n (fun i => c i && d i)) := by
  rw [fa_and]
  congr 1
  apply bm_ext (Nat.and_lt_two_pow _ (bm_lt d n))
  intro i hi
  rw [Nat.testBit_and, bm_bit, bm_bit]; simp [hi]
theorem mk_andn {n : Nat} (hn : n ≤ 32) (c d : Nat → Bool) : nI (bm n c) &&& (nI (bm n d) ^^^ (-1)) = nI (bm n (fun i => c i && !(d i))) := by
  rw [m1_nI, fb_xorI, fa_and]
  congr 1
  have h1 : bm n c &&& (bm n d ^^^ (2 ^ 32 - 1)) ≤ bm n c := Nat.and_le_left
  have h2 := bm_lt c n
  apply bm_ext (by omega)
  intro i hi
  rw [Nat.testBit_and, Nat.testBit_xor, bm_bit, bm_bit, Nat.testBit_two_pow_sub_one]
  simp [hi, show i < 32 by omega]
theorem mk_one {n j : Nat} (hn : n ≤ 32) (hj : j < n) : jshl 1 (nI j) = nI (bm n (fun i => decide (i = j))) := by
  rw [jshl1 j (by omega)]
  congr 1
  apply bm_ext (p2l hj)
  intro i hi
  rw [Nat.testBit_two_pow]
  by_cases h : j = i
  · subst h; simp
  · simp [h, show ¬ i = j by omega]
theorem mk_none {n : Nat} : (0 : Int32) = nI (bm n (fun _ => false)) := by
  rw [(bm_zero (n := n)).mpr (fun _ _ => rfl)]; rfl
theorem mk_all {n : Nat} (hn : n ≤ 31) : jshl 1 (nI n) - 1 = nI (bm n (fun _ => true)) := by
  rw [jshl1 n (by omega)]
  show nI (2 ^ n) - nI 1 = _
  have h0 : 1 ≤ 2 ^ n := Nat.two_pow_pos n
  rw [pk_sub h0]
  congr 1
  apply bm_ext (by omega)
  intro i hi
  rw [Nat.testBit_two_pow_sub_one]; simp [hi]
theorem bm_allN (n : Nat) : bm n (fun _ => true) = 2 ^ n - 1 := by
  symm
  have h0 : 1 ≤ 2 ^ n := Nat.two_pow_pos n
  apply bm_ext (by omega)
  intro i hi
  rw [Nat.testBit_two_pow_sub_one]; simp [hi]
theorem mk_eq0 {n : Nat} {c : Nat → Bool} (hn : n ≤ 31) : nI (bm n c) = 0 ↔ ∀ i, i < n → c i = false := by
  have h1 := bm_lt c n
  have h2 := p2 hn
  rw [← bm_zero, ← nI_0, nI_eq (by omega) (by omega)]
/-- one more bit of a mask that grows -/
theorem mk_set {j : Nat} {c : Nat → Bool} (hj : j < 32) (hc : c j = true) : nI (bm j c) ||| jshl 1 (nI j) = nI (bm (j + 1) c) := by
  rw [jshl1 j hj, fa_or]
  congr 1
  have h1 := bm_lt c j
  have h2 := p2l (show j < j + 1 by omega)
  apply bm_ext (Nat.or_lt_two_pow (by omega) h2)
  intro i hi
  rw [fb_bit_set, bm_bit]
  by_cases h : i = j
  · subst h; simp [hc]
  · simp [h, show i < j by omega]
theorem mk_skip {j : Nat} {c : Nat → Bool} (hc : c j = false) : bm (j + 1) c = bm j c := by rw [bm_s, hc]; rfl
theorem mk_wide {n m : Nat} {c : Nat → Bool} (h : n ≤ m) : bm n c = bm m (fun i => decide (i < n) && c i) := by
  rw [bm_up h (fun i hi _ => by simp [show ¬ i < n by omega])]
  exact bm_cong (fun i hi => by simp [hi])
/-- ranges -/
theorem sw_cases (p : Int32) (a b : Nat) {ia ib : Int32} (ha : ia = nI a) (hb : ib = nI b) (ha' : a < 2 ^ 31) (hb' : b < 2 ^ 31) : (F_S_within p ia ib = 0 ∧ ¬ ∃ j, a ≤ j ∧ j ≤ b ∧ p = nI j) ∨ (F_S_within p ia ib = 1 ∧ ∃ j, a ≤ j ∧ j ≤ b ∧ p = nI j) := by
  subst ha; subst hb; exact sw_in ha' hb'
theorem sw_nn {j a b : Nat} (hj : j < 2 ^ 31) (ha : a < 2 ^ 31) (hb : b < 2 ^ 31) : F_S_within (nI j) (nI a) (nI b) = bI (decide (a ≤ j ∧ j ≤ b)) := by
  unfold F_S_within
  by_cases h1 : j < a
  · rw [if_pos (nI_lt h1 ha), decide_eq_false (by omega)]; rfl
  · rw [if_neg (nI_nlt (by omega) hj)]
    by_cases h2 : b < j
    · rw [if_pos (nI_lt h2 hj), decide_eq_false (by omega)]; rfl
    · rw [if_neg (nI_nlt (by omega) hb), decide_eq_true (by omega)]; rfl
/-- a number of n: from 0 to n - 1 -/
theorem wv_cases (p : Int32) {n : Nat} (hn : n < 2 ^ 31) : (F_S_within p 0 (nI n - 1) = 0 ∧ ¬ ∃ j, j < n ∧ p = nI j) ∨ (F_S_within p 0 (nI n - 1) = 1 ∧ ∃ j, j < n ∧ p = nI j) := by
  cases n with
  | zero =>
    left
    refine ⟨?_, fun ⟨j, h, _⟩ => absurd h (Nat.not_lt_zero j)⟩
    unfold F_S_within
    have e : (nI 0 - 1 : Int32).toInt = -1 := by decide
    by_cases h : p < 0
    · rw [if_pos h]
    · rw [if_neg h, if_pos]
      rw [fa_lt] at *
      rw [e]
      have : (0 : Int32).toInt = 0 := by decide
      omega
  | succ n =>
    rw [nI_pred]
    rcases sw_cases p 0 n (ia := 0) rfl rfl (by omega) (by omega) with ⟨h1, h2⟩ | ⟨h1, j, _, h2, h3⟩
    · exact Or.inl ⟨h1, fun ⟨j, hj, e⟩ => h2 ⟨j, by omega, by omega, e⟩⟩
    · exact Or.inr ⟨h1, j, by omega, h3⟩
theorem wv_t {j n : Nat} (h : j < n) (hn : n < 2 ^ 31) : F_S_within (nI j) 0 (nI n - 1) = 1 := by
  rcases wv_cases (nI j) hn with ⟨_, h2⟩ | ⟨h1, _⟩
  · exact absurd ⟨j, h, rfl⟩ h2
  · exact h1
/-- the reference's ranges, in longs, are the class's -/
theorem in_sw (p q r : Int32) : F_R_in p.toInt64 q.toInt64 r.toInt64 = F_S_within p q r := by
  have hc : ∀ a b : Int32, lg_cmp a.toInt64 b.toInt64 = if b < a then 1 else if a = b then 0 else -1 := by
    intro a b
    unfold lg_cmp
    simp only [gt_iff_lt, fa_wide_lt, fa_wide_eq]
  unfold F_R_in F_S_within
  rw [hc, hc]
  have e1 : (if q < p then (1 : Int32) else if p = q then 0 else -1) < 0 ↔ p < q := by
    by_cases h1 : q < p
    · rw [if_pos h1]
      have : ¬ p < q := by rw [fa_lt] at *; omega
      exact ⟨fun h => absurd h (by decide), fun h => absurd h this⟩
    · rw [if_neg h1]
      by_cases h2 : p = q
      · rw [if_pos h2]; subst h2
        exact ⟨fun h => absurd h (by decide), fun h => absurd h h1⟩
      · rw [if_neg h2]
        have : p < q := by rw [fa_eq] at h2; rw [fa_lt] at *; omega
        exact ⟨fun _ => this, fun _ => by decide⟩
  have e2 : 0 < (if r < p then (1 : Int32) else if p = r then 0 else -1) ↔ r < p := by
    by_cases h1 : r < p
    · rw [if_pos h1]; exact ⟨fun _ => h1, fun _ => by decide⟩
    · rw [if_neg h1]
      by_cases h2 : p = r
      · rw [if_pos h2]; exact ⟨fun h => absurd h (by decide), fun h => absurd h h1⟩
      · rw [if_neg h2]; exact ⟨fun h => absurd h (by decide), fun h => absurd h h1⟩
  simp only [e1, e2]
theorem in_lit {a b : Int64} {a' b' : Int32} (p : Int32) (ha : a = a'.toInt64) (hb : b = b'.toInt64) : F_R_in p.toInt64 a b = F_S_within p a' b' := by
  subst ha; subst hb; exact in_sw p a' b'
/-- a boolean of the machine -/
theorem nar_sw (p a b : Int32) : vp_nar .boolean (F_S_within p a b) = F_S_within p a b := by
  unfold F_S_within
  split
  · rfl
  · split <;> rfl
theorem isW_eq (p n : Int32) : F_Floor_isWeaver p n = F_S_within p 0 (n - 1) := nar_sw p 0 (n - 1)
theorem isWd_eq (p n : Int32) : F_Lexicon_isWord p n = F_S_within p 0 (n - 1) := nar_sw p 0 (n - 1)
theorem RisW_eq (p : Int32) (b : Nat → Int32) : F_R_isWeaver p b = F_Floor_isWeaver p (b 1) := by
  unfold F_R_isWeaver F_Floor_isWeaver
  rw [in_lit p (a' := 0) (b' := b 1 - 1) (by decide) rfl]
theorem RisWd_eq (p : Int32) (b : Nat → Int32) : F_R_isWord p b = F_Lexicon_isWord p (b 3) := by
  unfold F_R_isWord F_Lexicon_isWord
  rw [in_lit p (a' := 0) (b' := b 3 - 1) (by decide) rfl]
theorem RareTwo_eq (p q : Int32) (b : Nat → Int32) : F_R_areTwo p q b = F_Floor_areTwo p q (b 1) := by
  unfold F_R_areTwo F_Floor_areTwo
  rw [RisW_eq, RisW_eq]
theorem RisNews_eq (p q r s : Int32) (b : Nat → Int32) : F_R_isNews p q r s b = F_S_canAskNews p q r s (b 1) := by
  unfold F_R_isNews F_S_canAskNews
  rw [RisW_eq, RisW_eq, RisW_eq, in_lit r (a' := 0) (b' := 1) (by decide) (by decide)]
/-- two weavers -/
theorem two_cases (p q : Int32) {n : Nat} (hn : n < 2 ^ 31) : (F_Floor_areTwo p q (nI n) = 0) ∨ (F_Floor_areTwo p q (nI n) = 1 ∧ ∃ i j, i < n ∧ j < n ∧ i ≠ j ∧ p = nI i ∧ q = nI j) := by
  unfold F_Floor_areTwo
  rw [isW_eq, isW_eq]
  rcases wv_cases p hn with ⟨h1, _⟩ | ⟨h1, i, hi, rfl⟩
  · left; rw [h1]; rfl
  · rcases wv_cases q hn with ⟨h2, _⟩ | ⟨h2, j, hj, rfl⟩
    · left; rw [h1, h2]; rfl
    · rw [h1, h2]
      by_cases h : i = j
      · subst h; left; rw [if_neg (by decide), if_neg (by decide), if_pos rfl]
      · right
        refine ⟨?_, i, j, hi, hj, h, rfl, rfl⟩
        have e : ¬ nI i = nI j := fun e => h ((nI_eq (by omega) (by omega)).mp e)
        rw [if_neg (by decide), if_neg (by decide), if_neg e]
