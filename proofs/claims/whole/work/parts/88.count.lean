-- HOW MANY BITS A LONG HAS
def mmB (c : Nat) : Nat → Nat
  | 0 => 0
  | k + 1 => c + 256 * mmB c k
def g1B (k n : Nat) : Nat := n - ((n / 2) &&& mmB 85 k)
def g2B (k i : Nat) : Nat := (i &&& mmB 51 k) + ((i / 4) &&& mmB 51 k)
def g3B (k i : Nat) : Nat := (i + i / 16) &&& mmB 15 k
def cntB (b : Nat) : Nat := sB 8 (fun i => if b.testBit i = true then 1 else 0)
def c1B (b : Nat) : Nat := b - ((b / 2) &&& 85)
def c2B (c : Nat) : Nat := (c &&& 51) + ((c / 4) &&& 51)
theorem and256 {a b c d : Nat} (ha : a < 256) (hc : c < 256) : (a + 256 * b) &&& (c + 256 * d) = (a &&& c) + 256 * (b &&& d) := by
  have hac : a &&& c < 2 ^ 8 := Nat.and_lt_two_pow _ hc
  apply Nat.eq_of_testBit_eq
  intro i
  rw [Nat.testBit_and, Nat.add_comm a, Nat.add_comm c, Nat.add_comm (a &&& c)]
  rw [show 256 * b + a = 2 ^ 8 * b + a from rfl, show 256 * d + c = 2 ^ 8 * d + c from rfl, show 256 * (b &&& d) + (a &&& c) = 2 ^ 8 * (b &&& d) + (a &&& c) from rfl]
  rw [Nat.testBit_two_pow_mul_add _ ha, Nat.testBit_two_pow_mul_add _ hc, Nat.testBit_two_pow_mul_add _ hac]
  by_cases h : i < 8
  · rw [if_pos h, if_pos h, if_pos h, Nat.testBit_and]
  · rw [if_neg h, if_neg h, if_neg h, Nat.testBit_and]
theorem fB1 : ∀ b, b < 256 → ∀ r, r < 2 → (b / 2 + 128 * r) &&& 85 = (b / 2) &&& 85 ∧ (b / 2) &&& 85 ≤ b ∧ c1B b < 256 := by decide +kernel
theorem fB2 : ∀ c, c < 256 → ∀ r, r < 4 → (c / 4 + 64 * r) &&& 51 = (c / 4) &&& 51 := by decide +kernel
theorem fB3 : ∀ b, b < 256 → ∀ r, r < 5 → (c2B (c1B b) + c2B (c1B b) / 16 + 16 * r) &&& 15 = cntB b ∧ c2B (c1B b) + c2B (c1B b) / 16 + 16 * r < 256 ∧ c2B (c1B b) % 16 < 5 ∧ cntB b ≤ 8 := by decide +kernel
theorem g1B_s {k b n : Nat} (hb : b < 256) : g1B (k + 1) (b + 256 * n) = c1B b + 256 * g1B k n := by
  unfold g1B c1B
  have e : (b + 256 * n) / 2 = (b / 2 + 128 * (n % 2)) + 256 * (n / 2) := by omega
  have h1 := fB1 b hb (n % 2) (Nat.mod_lt _ (by decide))
  have h2 : (n / 2) &&& mmB 85 k ≤ n / 2 := Nat.and_le_left
  show b + 256 * n - ((b + 256 * n) / 2 &&& (85 + 256 * mmB 85 k)) = _
  rw [e, and256 (by omega) (by decide), h1.1]
  omega
theorem g2B_s {k c i : Nat} (hc : c < 256) : g2B (k + 1) (c + 256 * i) = c2B c + 256 * g2B k i := by
  unfold g2B c2B
  have e : (c + 256 * i) / 4 = (c / 4 + 64 * (i % 4)) + 256 * (i / 4) := by omega
  have h1 := fB2 c hc (i % 4) (Nat.mod_lt _ (by decide))
  show (c + 256 * i &&& (51 + 256 * mmB 51 k)) + ((c + 256 * i) / 4 &&& (51 + 256 * mmB 51 k)) = _
  rw [e, and256 hc (by decide), and256 (by omega) (by decide), h1]
  omega
def hoB : Nat → (Nat → Nat) → Nat
  | 0, _ => 0
  | k + 1, c => c 0 + 256 * hoB k (fun i => c (i + 1))
theorem sB_split {f : Nat → Nat} (m : Nat) : ∀ d, sB (m + d) f = sB m f + sB d (fun i => f (m + i))
  | 0 => rfl
  | d + 1 => by
    have e : sB (m + (d + 1)) f = sB (m + d) f + f (m + d) := rfl
    rw [e, sB_split m d, sB_s]; omega
theorem gB_all : ∀ k n, n < 256 ^ k → ∃ c : Nat → Nat, (∀ i, c i ≤ 8) ∧ g3B k (g2B k (g1B k n)) = hoB k c ∧ sB k c = sB (8 * k) (fun i => if n.testBit i = true then 1 else 0) ∧ g2B k (g1B k n) % 16 < 5
  | 0, n, h => by
    have : n = 0 := by rw [Nat.pow_zero] at h; omega
    subst this
    exact ⟨fun _ => 0, fun _ => Nat.zero_le _, by decide, rfl, by decide⟩
  | k + 1, n, h => by
    obtain ⟨b, m, hb, rfl⟩ : ∃ b m, b < 256 ∧ n = b + 256 * m := ⟨n % 256, n / 256, Nat.mod_lt _ (by decide), by omega⟩
    have hm : m < 256 ^ k := by rw [Nat.pow_succ] at h; omega
    obtain ⟨c, c1, c2, c3, c4⟩ := gB_all k m hm
    have f1 := (fB1 b hb 0 (by decide)).2.2
    have f3 := fB3 b hb _ c4
    have e : g2B (k + 1) (g1B (k + 1) (b + 256 * m)) = c2B (c1B b) + 256 * g2B k (g1B k m) := by rw [g1B_s hb, g2B_s f1]
    refine ⟨fun i => if i = 0 then cntB b else c (i - 1), ?_, ?_, ?_, ?_⟩
    · intro i
      show (if i = 0 then cntB b else c (i - 1)) ≤ 8
      split
      · exact f3.2.2.2
      · exact c1 _
    · rw [e]
      have e2 : hoB (k + 1) (fun i => if i = 0 then cntB b else c (i - 1)) = cntB b + 256 * hoB k c := rfl
      rw [e2, ← c2]
      generalize g2B k (g1B k m) = j at c4 f3
      unfold g3B
      show (c2B (c1B b) + 256 * j + (c2B (c1B b) + 256 * j) / 16) &&& (15 + 256 * mmB 15 k) = _
      have e3 : c2B (c1B b) + 256 * j + (c2B (c1B b) + 256 * j) / 16 = (c2B (c1B b) + c2B (c1B b) / 16 + 16 * (j % 16)) + 256 * (j + j / 16) := by omega
      rw [e3, and256 f3.2.1 (by decide), f3.1]
    · rw [show 8 * (k + 1) = 8 + 8 * k by omega, sB_split 8 (8 * k), show k + 1 = 1 + k by omega, sB_split 1 k]
      have hbit : ∀ i, (b + 256 * m).testBit i = if i < 8 then b.testBit i else m.testBit (i - 8) := by
        intro i
        rw [Nat.add_comm]
        exact Nat.testBit_two_pow_mul_add (i := 8) m hb i
      congr 1
      · show 0 + cntB b = sB 8 _
        rw [Nat.zero_add]
        apply sB_cong
        intro i hi
        rw [hbit, if_pos (show i < 8 from hi)]
      · show sB k (fun i => if 1 + i = 0 then cntB b else c (1 + i - 1)) = _
        have e5 : sB k (fun i => if 1 + i = 0 then cntB b else c (1 + i - 1)) = sB k c := by
          apply sB_cong
          intro i hi
          rw [if_neg (by omega), show 1 + i - 1 = i by omega]
        rw [e5, c3]
        apply sB_cong
        intro i hi
        rw [hbit, if_neg (show ¬ 8 + i < 8 by omega), show 8 + i - 8 = i by omega]
    · rw [e]; omega
theorem jushrLN {n k : Nat} (hn : n < 2 ^ 64) (hk : k < 64) : jushrL (lN n) (nI k) = lN (n / 2 ^ k) := wb_shr hn hk
theorem lN_andN (a b : Nat) : lN a &&& lN b = lN (a &&& b) := fb_andL a b
def sA (x : Int64) : Int64 := x - (jushrL x 1 &&& 6148914691236517205)
def sBb (x : Int64) : Int64 := (x &&& 3689348814741910323) + (jushrL x 2 &&& 3689348814741910323)
def sC (x : Int64) : Int64 := (x + jushrL x 4) &&& 1085102592571150095
def sD (x : Int64) : Int64 := x + jushrL x 8
def sE (x : Int64) : Int64 := x + jushrL x 16
theorem lbc_eq (x : Int64) : F_Long_bitCount x = ((sE (sD (sC (sBb (sA x)))) + jushrL (sE (sD (sC (sBb (sA x))))) 32).toInt32 &&& 127) := by
  unfold F_Long_bitCount sE sD sC sBb sA
  with_reducible rfl
theorem lb1 {a m : Nat} (h : a ≤ 8) : (a + 256 * m) / 256 = m := by omega
theorem lb2 {a0 a1 a2 m3 : Nat} (h0 : a0 ≤ 8) (h1 : a1 ≤ 8) (h2 : a2 ≤ 8) : (a0 + 256 * (a1 + 256 * (a2 + 256 * m3)) + (a1 + 256 * (a2 + 256 * m3))) / 65536 = (a2 + 256 * m3) + m3 := by omega
theorem lb3 {a0 a1 a2 a3 a4 a5 a6 m4 m5 m6 m7 : Nat} (h0 : a0 ≤ 8) (h1 : a1 ≤ 8) (h2 : a2 ≤ 8) (h3 : a3 ≤ 8) (h4 : a4 ≤ 8) (h5 : a5 ≤ 8) (h6 : a6 ≤ 8) : ((a0 + 256 * a1 + 65536 * a2 + 16777216 * a3 + 4294967296 * m4) + (a1 + 256 * a2 + 65536 * a3 + 16777216 * a4 + 4294967296 * m5) + ((a2 + 256 * a3 + 65536 * a4 + 16777216 * a5 + 4294967296 * m6) + (a3 + 256 * a4 + 65536 * a5 + 16777216 * a6 + 4294967296 * m7))) / 4294967296 = m4 + m5 + m6 + m7 := by omega
theorem lb4 {a0 a1 a2 a3 a4 a5 a6 m1 m2 m3 m4 m5 m6 m7 : Nat} (h0 : a0 ≤ 8) (h1 : a1 ≤ 8) (h2 : a2 ≤ 8) (h3 : a3 ≤ 8) (h4 : a4 ≤ 8) (h5 : a5 ≤ 8) (h6 : a6 ≤ 8) (h7 : m7 ≤ 8) : ((a0 + 256 * m1) + (a1 + 256 * m2) + ((a2 + 256 * m3) + (a3 + 256 * m4)) + ((a4 + 256 * m5) + (a5 + 256 * m6) + (a6 + 256 * m7) + m7)) % 128 = 0 + a0 + a1 + a2 + a3 + a4 + a5 + a6 + m7 := by omega
theorem lb5 {a1 a2 a3 a4 m : Nat} : a1 + 256 * (a2 + 256 * (a3 + 256 * (a4 + 256 * m))) = a1 + 256 * a2 + 65536 * a3 + 16777216 * a4 + 4294967296 * m := by omega
theorem lb6 {a m k : Nat} (h : a ≤ 8) (hm : m < k) : a + 256 * m < 256 * k := by omega
theorem lbF {a0 a1 a2 a3 a4 a5 a6 a7 m1 m2 m3 m4 m5 m6 m7 n : Nat} (h0 : a0 ≤ 8) (h1 : a1 ≤ 8) (h2 : a2 ≤ 8) (h3 : a3 ≤ 8) (h4 : a4 ≤ 8) (h5 : a5 ≤ 8) (h6 : a6 ≤ 8) (h7 : a7 ≤ 8) (q7 : m7 = a7 + 256 * 0) (q6 : m6 = a6 + 256 * m7) (q5 : m5 = a5 + 256 * m6) (q4 : m4 = a4 + 256 * m5) (q3 : m3 = a3 + 256 * m4) (q2 : m2 = a2 + 256 * m3) (q1 : m1 = a1 + 256 * m2) (q0 : n = a0 + 256 * m1) : (sE (sD (lN n)) + jushrL (sE (sD (lN n))) 32).toInt32 &&& 127 = nI (0 + a0 + a1 + a2 + a3 + a4 + a5 + a6 + a7) := by
  have z7 : m7 = a7 := by omega
  have b7 : m7 < 16 := by omega
  have b6 : m6 < 256 * 16 := by rw [q6]; exact lb6 h6 b7
  have b5 : m5 < 256 * (256 * 16) := by rw [q5]; exact lb6 h5 b6
  have b4 : m4 < 256 * (256 * (256 * 16)) := by rw [q4]; exact lb6 h4 b5
  have b3 : m3 < 256 * (256 * (256 * (256 * 16))) := by rw [q3]; exact lb6 h3 b4
  have b2 : m2 < 256 * (256 * (256 * (256 * (256 * 16)))) := by rw [q2]; exact lb6 h2 b3
  have b1 : m1 < 256 * (256 * (256 * (256 * (256 * (256 * 16))))) := by rw [q1]; exact lb6 h1 b2
  have b0 : n < 256 * (256 * (256 * (256 * (256 * (256 * (256 * 16)))))) := by rw [q0]; exact lb6 h0 b1
  have d1 : n / 2 ^ 8 = m1 := by rw [q0]; exact lb1 h0
  have d2 : (n + m1) / 2 ^ 16 = m2 + m3 := by rw [q0, q1, q2]; exact lb2 h0 h1 h2
  have e0 : n = a0 + 256 * a1 + 65536 * a2 + 16777216 * a3 + 4294967296 * m4 := by rw [q0, q1, q2, q3]; exact lb5
  have e1 : m1 = a1 + 256 * a2 + 65536 * a3 + 16777216 * a4 + 4294967296 * m5 := by rw [q1, q2, q3, q4]; exact lb5
  have e2 : m2 = a2 + 256 * a3 + 65536 * a4 + 16777216 * a5 + 4294967296 * m6 := by rw [q2, q3, q4, q5]; exact lb5
  have e3 : m3 = a3 + 256 * a4 + 65536 * a5 + 16777216 * a6 + 4294967296 * m7 := by rw [q3, q4, q5, q6]; exact lb5
  have d3 : (n + m1 + (m2 + m3)) / 2 ^ 32 = m4 + m5 + m6 + m7 := by
    have := lb3 (a0 := a0) (a1 := a1) (a2 := a2) (a3 := a3) (a4 := a4) (a5 := a5) (a6 := a6) (m4 := m4) (m5 := m5) (m6 := m6) (m7 := m7) h0 h1 h2 h3 h4 h5 h6
    rw [← e0, ← e1, ← e2, ← e3] at this
    exact this
  have d4 : (n + m1 + (m2 + m3) + (m4 + m5 + m6 + m7)) % 2 ^ 7 = 0 + a0 + a1 + a2 + a3 + a4 + a5 + a6 + a7 := by
    have := lb4 (a0 := a0) (a1 := a1) (a2 := a2) (a3 := a3) (a4 := a4) (a5 := a5) (a6 := a6) (m1 := m1) (m2 := m2) (m3 := m3) (m4 := m4) (m5 := m5) (m6 := m6) (m7 := m7) h0 h1 h2 h3 h4 h5 h6 (by omega)
    rw [← q0, ← q1, ← q2, ← q3, ← q4, ← q5, ← q6, z7] at this
    rw [z7]
    exact this
  clear e0 e1 e2 e3 q0 q1 q2 q3 q4 q5 q6 q7
  have eD : sD (lN n) = lN (n + m1) := by
    unfold sD
    rw [show jushrL (lN n) 8 = lN (n / 2 ^ 8) from jushrLN (k := 8) (by omega) (by decide), lN_add, d1]
  have eE : sE (lN (n + m1)) = lN (n + m1 + (m2 + m3)) := by
    unfold sE
    rw [show jushrL (lN (n + m1)) 16 = lN ((n + m1) / 2 ^ 16) from jushrLN (k := 16) (by omega) (by decide), lN_add, d2]
  rw [eD, eE, show jushrL (lN (n + m1 + (m2 + m3))) 32 = lN ((n + m1 + (m2 + m3)) / 2 ^ 32) from jushrLN (k := 32) (by omega) (by decide), lN_add, lN_i, d3]
  show nI _ &&& nI (2 ^ 7 - 1) = _
  rw [fa_and, Nat.and_two_pow_sub_one_eq_mod, d4]
theorem longBits {n : Nat} (hn : n < 2 ^ 64) : F_Long_bitCount (lN n) = nI (sB 64 (fun i => if n.testBit i = true then 1 else 0)) := by
  have m1 : (6148914691236517205 : Int64) = lN (mmB 85 8) := by decide +kernel
  have m2 : (3689348814741910323 : Int64) = lN (mmB 51 8) := by decide +kernel
  have m3 : (1085102592571150095 : Int64) = lN (mmB 15 8) := by decide +kernel
  have b1 : mmB 85 8 < 2 ^ 64 := by decide +kernel
  have b2 : mmB 51 8 < 2 ^ 62 := by decide +kernel
  have b3 : mmB 15 8 < 2 ^ 60 := by decide +kernel
  obtain ⟨c, c1, c2, c3, c4⟩ := gB_all 8 n (by rw [show (256 : Nat) ^ 8 = 2 ^ 64 by decide]; exact hn)
  have eA : sA (lN n) = lN (g1B 8 n) := by
    unfold sA g1B
    have h2 : (n / 2 ^ 1) &&& mmB 85 8 ≤ n / 2 ^ 1 := Nat.and_le_left
    have h3 : n / 2 ^ 1 ≤ n := Nat.div_le_self _ _
    rw [show jushrL (lN n) 1 = lN (n / 2 ^ 1) from jushrLN (k := 1) hn (by decide), m1, lN_andN, lN_sub (by omega), Nat.pow_one]
  have hA : g1B 8 n ≤ n := Nat.sub_le _ _
  have eB : sBb (lN (g1B 8 n)) = lN (g2B 8 (g1B 8 n)) := by
    unfold sBb g2B
    rw [show jushrL (lN (g1B 8 n)) 2 = lN (g1B 8 n / 2 ^ 2) from jushrLN (k := 2) (by omega) (by decide), m2, lN_andN, lN_andN, lN_add]
  have hB : g2B 8 (g1B 8 n) < 2 ^ 63 := by
    unfold g2B
    have h1 : (g1B 8 n &&& mmB 51 8) ≤ mmB 51 8 := Nat.and_le_right
    have h2 : (g1B 8 n / 4 &&& mmB 51 8) ≤ mmB 51 8 := Nat.and_le_right
    omega
  have eC : sC (lN (g2B 8 (g1B 8 n))) = lN (g3B 8 (g2B 8 (g1B 8 n))) := by
    unfold sC g3B
    rw [show jushrL (lN (g2B 8 (g1B 8 n))) 4 = lN (g2B 8 (g1B 8 n) / 2 ^ 4) from jushrLN (k := 4) (by omega) (by decide), m3, lN_add, lN_andN]
  rw [lbc_eq, eA, eB, eC, c2]
  clear eA eB eC hA hB c4 c2 m1 m2 m3 b1 b2 b3
  have s64 : sB 8 c = sB 64 (fun i => if n.testBit i = true then 1 else 0) := c3
  rw [← s64]
  have eh : hoB 8 c = c 0 + 256 * (c 1 + 256 * (c 2 + 256 * (c 3 + 256 * (c 4 + 256 * (c 5 + 256 * (c 6 + 256 * (c 7 + 256 * 0))))))) := rfl
  have es : sB 8 c = 0 + c 0 + c 1 + c 2 + c 3 + c 4 + c 5 + c 6 + c 7 := rfl
  rw [eh, es]
  exact lbF (c1 0) (c1 1) (c1 2) (c1 3) (c1 4) (c1 5) (c1 6) (c1 7) rfl rfl rfl rfl rfl rfl rfl rfl
theorem longB {pil : Nat → Bool} : F_Long_bitCount (lN (bm 64 pil)) = nI (sB 64 (fun p => if pil p = true then 1 else 0)) := by
  rw [longBits (bm_lt pil 64)]
  congr 1
  apply sB_cong
  intro i hi
  rw [bm_bit, decide_eq_true hi, Bool.true_and]
/-- the six counts -/
theorem count_eq {x : T_S} {y : T_R} (h : Rel x y) : ∀ k, k < 6 → ∃ v, F_S_count (nI k) (Floor_pillars (Shed_floor (S_now x))) (Floor_weavers (Shed_floor (S_now x))) (Sightings_many (Shed_sightings (S_now x))) (Lexicon_words (Shed_lexicon (S_now x))) (Lexicon_rowLips (Shed_lexicon (S_now x))) (Text_bytes (S_text x)) = v ∧ F_R_countOf (nI k) (R_typed y) (R_book y) = some v := by
  obtain ⟨⟨hF, hS, hL, hB⟩, -, -, hT, -⟩ := h
  obtain ⟨pil, n, pl, wy, te, lo, fr, hn, ⟨f1, f2, f3⟩, ⟨f4, f5⟩, -⟩ := hF
  obtain ⟨n2, sw, ss, sk, hn2, ⟨s4, s5⟩, -⟩ := hS
  obtain ⟨n3, ln, nu, wt, ll, nr, ro, gi, hn3, hnr, hgi, l1, l2, l3, -⟩ := hL
  obtain ⟨n5, tx, hn5, t1, t2, -⟩ := hT
  have one : ∀ k v, k < 5 → R_book y k = v → F_R_countOf (nI k) (R_typed y) (R_book y) = some v := by
    intro k v hk hv
    unfold F_R_countOf
    have c : ¬ 5 ≤ nI k := nI_ge (b := 5) hk (by omega)
    rw [if_neg c, gd_ix (by omega) (by omega), nI_clamp (by omega), hv]
  intro k hk
  have hk2 : k = 0 ∨ k = 1 ∨ k = 2 ∨ k = 3 ∨ k = 4 ∨ k = 5 := by omega
  rcases hk2 with rfl | rfl | rfl | rfl | rfl | rfl
  · refine ⟨_, rfl, one 0 _ (by omega) ?_⟩
    show _ = F_Long_bitCount _
    rw [f1, longB, f2]
  · exact ⟨_, rfl, one 1 _ (by omega) (f5.trans f4.symm)⟩
  · exact ⟨_, rfl, one 2 _ (by omega) (s5.trans s4.symm)⟩
  · exact ⟨_, rfl, one 3 _ (by omega) (l1.2.trans l1.1.symm)⟩
  · exact ⟨_, rfl, one 4 _ (by omega) (l2.2.trans l2.1.symm)⟩
  · refine ⟨_, rfl, ?_⟩
    show some _ = some (Text_bytes (S_text x))
    rw [t1, t2]
theorem P_count_ok {N : Nat} : P_count N Rel := by
  intro x y p h
  have hc := count_eq h
  unfold F_R_count
  rw [in_lit p (a' := 0) (b' := 5) (by decide) (by decide)]
  rcases sw_cases p 0 5 (ia := 0) (ib := 5) rfl rfl (by omega) (by omega) with ⟨hp, hn⟩ | ⟨hp, k, _, hk, rfl⟩
  · rw [hp, if_pos rfl]
    refine ⟨_, _, rfl, rfl, ?_, h⟩
    unfold F_S_count
    have ne : ∀ j : Nat, j ≤ 5 → ¬ p = nI j := fun j hj e => hn ⟨j, by omega, hj, e⟩
    rw [if_neg (show ¬ p = 0 from ne 0 (by omega)), if_neg (show ¬ p = 1 from ne 1 (by omega)), if_neg (show ¬ p = 2 from ne 2 (by omega)), if_neg (show ¬ p = 3 from ne 3 (by omega)), if_neg (show ¬ p = 4 from ne 4 (by omega)), if_neg (show ¬ p = 5 from ne 5 (by omega))]
  · obtain ⟨v, e1, e2⟩ := hc k (by omega)
    rw [hp, if_neg n10, e2, bO_s]
    exact ⟨_, _, rfl, rfl, e1, h⟩
/-- one number behind the other -/
def mx (h : Int64) : Nat → (Nat → Int32) → Int64
  | 0, _ => h
  | n + 1, f => F_S_mixed (mx h n f) (f n)
theorem mx_s (h : Int64) (n : Nat) (f : Nat → Int32) : mx h (n + 1) f = F_S_mixed (mx h n f) (f n) := rfl
theorem Rmixed_ok {N at0 n len : Nat} {h : Int64} {a : Nat → Int32} (hN : 300 ≤ N) (hn : n ≤ 200) (hl : at0 + n ≤ len) (hlen : len < 2 ^ 31) : F_R_mixed N h (nI at0) (nI n) a len = some (mx h n (fun k => a (at0 + k))) := by
  unfold F_R_mixed
  have c : R_mixed_L6 (nI n) (nI at0) len a N h 0 = some (mx h n (fun k => a (at0 + k))) := by
    refine lp0 (L := fun f j => R_mixed_L6 (nI n) (nI at0) len a f (mx h j (fun k => a (at0 + k))) (nI j)) (n := n) (fun f j hj => ?_) (fun f => ?_) (by omega)
    · show R_mixed_L6 (nI n) (nI at0) len a (f + 1) (mx h j _) (nI j) = R_mixed_L6 (nI n) (nI at0) len a f (mx h (j + 1) _) (nI (j + 1))
      rw [R_mixed_L6, if_neg (nI_ge (by omega) (by omega)), nI_add, gd_ix (by omega) (by omega), nI_clamp (by omega), nI_1]
      rfl
    · show R_mixed_L6 (nI n) (nI at0) len a (f + 1) _ (nI n) = _
      rw [R_mixed_L6, if_pos (nI_le (Nat.le_refl n) (by omega))]
  rw [c, bO_s]
theorem P_digest_ok {N : Nat} (hN : 300 ≤ N) : P_digest N Rel := by
  intro x y h
  have hcnt := count_eq h
  have h00 := h
  obtain ⟨⟨hF, hS, hL, hB⟩, -, -, hT, hR⟩ := h
  obtain ⟨pil, n, pl, wy, te, lo, fr, hn, ⟨f1, f2, f3⟩, ⟨f4, f5⟩, f6, f7, f8, f9, f10⟩ := hF
  obtain ⟨n2, sw, ss, sk, hn2, ⟨s4, s5⟩, s6, s7, s8⟩ := hS
  obtain ⟨n3, ln, nu, wt, ll, nr, ro, gi, hn3, hnr, hgi, l1, l2, l3, l7, l8, l9, l10, l11, l12⟩ := hL
  obtain ⟨lv, ls, cl, q1, q2, ⟨q4, q5⟩, q6, q7⟩ := hB
  obtain ⟨a, c, ha, hc, r1, r2, r3, r4⟩ := hR
  -- the counts
  have key0 : ∀ (d k f g : Nat) (z : Int64), k + d = 6 → d < f → d < g → ∃ u, S_digest_L6 (Floor_pillars (Shed_floor (S_now x))) (Floor_weavers (Shed_floor (S_now x))) (Sightings_many (Shed_sightings (S_now x))) (Lexicon_words (Shed_lexicon (S_now x))) (Lexicon_rowLips (Shed_lexicon (S_now x))) (Text_bytes (S_text x)) f z (nI k) = some u ∧ R_digest_L6 (R_typed y) (R_book y) g z (nI k) = some u := by
    intro d
    induction d with
    | zero =>
      intro k f g z hk hf hg
      obtain ⟨f, rfl⟩ : ∃ w, f = w + 1 := ⟨f - 1, by omega⟩
      obtain ⟨g, rfl⟩ : ∃ w, g = w + 1 := ⟨g - 1, by omega⟩
      have : k = 6 := by omega
      subst this
      rw [S_digest_L6, R_digest_L6]
      exact ⟨z, rfl, rfl⟩
    | succ d ih =>
      intro k f g z hk hf hg
      obtain ⟨f, rfl⟩ : ∃ w, f = w + 1 := ⟨f - 1, by omega⟩
      obtain ⟨g, rfl⟩ : ∃ w, g = w + 1 := ⟨g - 1, by omega⟩
      obtain ⟨v, e1, e2⟩ := hcnt k (by omega)
      have g1 : ¬ (5 : Int32) < nI k := nI_nlt (a := 5) (by omega) (by omega)
      have g2 : ¬ (6 : Int32) ≤ nI k := nI_ge (b := 6) (by omega) (by omega)
      rw [S_digest_L6, R_digest_L6, if_neg g1, if_neg g2, e2, bO_s, e1, nI_1]
      exact ih (k + 1) f g _ (by omega) (by omega) (by omega)
  obtain ⟨z0, d1, d2⟩ := key0 6 0 N N 523 (by omega) (by omega) (by omega)
  have d1' : S_digest_L6 _ _ _ _ _ _ N 523 0 = some z0 := d1
  have d2' : R_digest_L6 (R_typed y) (R_book y) N 523 0 = some z0 := d2
  unfold F_S_digest F_R_digest
  rw [d1', bO_s, d2', bO_s]
  -- the floor
  have e80 : 4 * R_book y 1 = nI (4 * n) := by rw [f5]; exact pk_mul 4 n
  have e120 : 3 * R_book y 2 = nI (3 * n2) := by rw [s5]; exact pk_mul 3 n2
  have e160 : 3 * R_book y 3 = nI (3 * n3) := by rw [l1.2]; exact pk_mul 3 n3
  rw [e80, e120, e160, l2.2]
  have R1 : F_R_mixed N z0 10 64 (R_book y) 240 = _ := Rmixed_ok (at0 := 10) (n := 64) (len := 240) hN (by omega) (by omega) (by omega)
  rw [R1, bO_s]
  have C1 : Floor_digestOnto_L5 (Floor_pillars (Shed_floor (S_now x))) N z0 0 = some (mx z0 64 (fun k => R_book y (10 + k))) := by
    refine lp0 (L := fun f j => Floor_digestOnto_L5 (Floor_pillars (Shed_floor (S_now x))) f (mx z0 j (fun k => R_book y (10 + k))) (nI j)) (n := 64) (fun f j hj => ?_) (fun f => ?_) (by omega)
    · have g2 : ¬ (64 : Int32) ≤ nI j := nI_ge (b := 64) (by omega) (by omega)
      show Floor_digestOnto_L5 _ (f + 1) (mx z0 j _) (nI j) = Floor_digestOnto_L5 _ f (mx z0 (j + 1) _) (nI (j + 1))
      rw [Floor_digestOnto_L5, if_neg g2, nI_1, f1, hasPilB hj, oneIf_bI, mx_s, f3 j hj]
    · show Floor_digestOnto_L5 _ (f + 1) _ (nI 64) = _
      rw [Floor_digestOnto_L5]; rfl
  unfold F_Floor_digestOnto
  rw [C1, bO_s]
  generalize mx z0 64 (fun k => R_book y (10 + k)) = z1
  have R2 : F_R_mixed N z1 80 (nI (4 * n)) (R_book y) 240 = _ := Rmixed_ok (at0 := 80) (n := 4 * n) (len := 240) hN (by omega) (by omega) (by omega)
  rw [R2, bO_s]
  have C2 : Floor_digestOnto_L35 (Floor_weavers (Shed_floor (S_now x))) (Floor_place (Shed_floor (S_now x))) (Floor_way (Shed_floor (S_now x))) (Floor_tell (Shed_floor (S_now x))) (Floor_look (Shed_floor (S_now x))) N z1 0 = some (mx z1 (4 * n) (fun k => R_book y (80 + k))) := by
    refine lp0 (L := fun f j => Floor_digestOnto_L35 (Floor_weavers (Shed_floor (S_now x))) (Floor_place (Shed_floor (S_now x))) (Floor_way (Shed_floor (S_now x))) (Floor_tell (Shed_floor (S_now x))) (Floor_look (Shed_floor (S_now x))) f (mx z1 (4 * j) (fun k => R_book y (80 + k))) (nI j)) (n := n) (fun f j hj => ?_) (fun f => ?_) (by omega)
    · show Floor_digestOnto_L35 _ _ _ _ _ (f + 1) (mx z1 (4 * j) _) (nI j) = Floor_digestOnto_L35 _ _ _ _ _ f (mx z1 (4 * (j + 1)) _) (nI (j + 1))
      rw [Floor_digestOnto_L35, f4, if_neg (nI_ge (by omega) (by omega)), gd_ix (by omega) (by omega), nI_clamp (by omega), nI_1, show 4 * (j + 1) = 4 * j + 1 + 1 + 1 + 1 by omega, mx_s, mx_s, mx_s, mx_s, (f6 j hj).2.1, (f7 j hj).2.1, (f8 j hj).2.1, (f9 j hj).2.1, (f6 j hj).2.2]
      have g1 : R_book y (80 + (4 * j + 1)) = nI (wy j) := (f7 j hj).2.2
      have g2 : R_book y (80 + (4 * j + 1 + 1)) = nI (te j) := (f8 j hj).2.2
      have g3 : R_book y (80 + (4 * j + 1 + 1 + 1)) = nI (lo j) := (f9 j hj).2.2
      rw [g1, g2, g3]
    · show Floor_digestOnto_L35 _ _ _ _ _ (f + 1) _ (nI n) = _
      rw [Floor_digestOnto_L35, f4, if_pos (nI_le (Nat.le_refl n) (by omega))]
  rw [C2, bO_s]
  generalize mx z1 (4 * n) (fun k => R_book y (80 + k)) = z2
  have R3 : F_R_mixed N z2 6 2 (R_book y) 240 = _ := Rmixed_ok (at0 := 6) (n := 2) (len := 240) hN (by omega) (by omega) (by omega)
  rw [R3, bO_s, bO_s]
  have g60 : R_book y (6 + 0) = Floor_farSquare (Shed_floor (S_now x)) 0 := (f10 0 (by omega)).2.2.2.trans (f10 0 (by omega)).2.2.1.symm
  have g61 : R_book y (6 + 1) = Floor_farSquare (Shed_floor (S_now x)) 1 := (f10 1 (by omega)).2.2.2.trans (f10 1 (by omega)).2.2.1.symm
  rw [mx_s, mx_s, g60, g61, show mx z2 0 (fun k => R_book y (6 + k)) = z2 from rfl]
  generalize F_S_mixed (F_S_mixed z2 (Floor_farSquare (Shed_floor (S_now x)) 0)) (Floor_farSquare (Shed_floor (S_now x)) 1) = z3
  -- what was seen
  have R4 : F_R_mixed N z3 120 (nI (3 * n2)) (R_book y) 240 = _ := Rmixed_ok (at0 := 120) (n := 3 * n2) (len := 240) hN (by omega) (by omega) (by omega)
  rw [R4, bO_s]
  have C4 : Sightings_digestOnto_L5 (Sightings_many (Shed_sightings (S_now x))) (Sightings_weaver (Shed_sightings (S_now x))) (Sightings_second (Shed_sightings (S_now x))) (Sightings_knew (Shed_sightings (S_now x))) N z3 0 = some (mx z3 (3 * n2) (fun k => R_book y (120 + k))) := by
    refine lp0 (L := fun f j => Sightings_digestOnto_L5 (Sightings_many (Shed_sightings (S_now x))) (Sightings_weaver (Shed_sightings (S_now x))) (Sightings_second (Shed_sightings (S_now x))) (Sightings_knew (Shed_sightings (S_now x))) f (mx z3 (3 * j) (fun k => R_book y (120 + k))) (nI j)) (n := n2) (fun f j hj => ?_) (fun f => ?_) (by omega)
    · show Sightings_digestOnto_L5 _ _ _ _ (f + 1) (mx z3 (3 * j) _) (nI j) = Sightings_digestOnto_L5 _ _ _ _ f (mx z3 (3 * (j + 1)) _) (nI (j + 1))
      rw [Sightings_digestOnto_L5, s4, if_neg (nI_ge (by omega) (by omega)), gd_ix (by omega) (by omega), nI_clamp (by omega), nI_1, show 3 * (j + 1) = 3 * j + 1 + 1 + 1 by omega, mx_s, mx_s, mx_s, (s6 j hj).2.1, (s7 j hj).2.1, (s8 j hj).1, (s6 j hj).2.2]
      have g1 : R_book y (120 + (3 * j + 1)) = nI (ss j) := (s7 j hj).2.2
      have g2 : R_book y (120 + (3 * j + 1 + 1)) = bI (sk j) := (s8 j hj).2
      rw [g1, g2]
    · show Sightings_digestOnto_L5 _ _ _ _ (f + 1) _ (nI n2) = _
      rw [Sightings_digestOnto_L5, s4, if_pos (nI_le (Nat.le_refl n2) (by omega))]
  unfold F_Sightings_digestOnto
  rw [C4, bO_s, bO_s]
  generalize mx z3 (3 * n2) (fun k => R_book y (120 + k)) = z4
  -- lips, words, the row
  have R5 : F_R_mixed N z4 150 6 (R_book y) 240 = _ := Rmixed_ok (at0 := 150) (n := 6) (len := 240) hN (by omega) (by omega) (by omega)
  rw [R5, bO_s]
  have C5 : Lexicon_digestWordsOnto_L5 (Lexicon_leastLike (Shed_lexicon (S_now x))) N z4 0 = some (mx z4 6 (fun k => R_book y (150 + k))) := by
    refine lp0 (L := fun f j => Lexicon_digestWordsOnto_L5 (Lexicon_leastLike (Shed_lexicon (S_now x))) f (mx z4 j (fun k => R_book y (150 + k))) (nI j)) (n := 6) (fun f j hj => ?_) (fun f => ?_) (by omega)
    · have g2 : ¬ (6 : Int32) ≤ nI j := nI_ge (b := 6) (by omega) (by omega)
      show Lexicon_digestWordsOnto_L5 _ (f + 1) (mx z4 j _) (nI j) = Lexicon_digestWordsOnto_L5 _ f (mx z4 (j + 1) _) (nI (j + 1))
      rw [Lexicon_digestWordsOnto_L5, if_neg g2, gd_ix (by omega) (by omega), nI_clamp (by omega), nI_1, mx_s, (l11 j hj).2.1, (l11 j hj).2.2]
    · show Lexicon_digestWordsOnto_L5 _ (f + 1) _ (nI 6) = _
      rw [Lexicon_digestWordsOnto_L5]; rfl
  unfold F_Lexicon_digestWordsOnto
  rw [C5, bO_s]
  generalize mx z4 6 (fun k => R_book y (150 + k)) = z5
  have R6 : F_R_mixed N z5 160 (nI (3 * n3)) (R_book y) 240 = _ := Rmixed_ok (at0 := 160) (n := 3 * n3) (len := 240) hN (by omega) (by omega) (by omega)
  rw [R6, bO_s]
  have C6 : Lexicon_digestWordsOnto_L33 (Lexicon_words (Shed_lexicon (S_now x))) (Lexicon_length (Shed_lexicon (S_now x))) (Lexicon_number (Shed_lexicon (S_now x))) (Lexicon_weight (Shed_lexicon (S_now x))) N z5 0 = some (mx z5 (3 * n3) (fun k => R_book y (160 + k))) := by
    refine lp0 (L := fun f j => Lexicon_digestWordsOnto_L33 (Lexicon_words (Shed_lexicon (S_now x))) (Lexicon_length (Shed_lexicon (S_now x))) (Lexicon_number (Shed_lexicon (S_now x))) (Lexicon_weight (Shed_lexicon (S_now x))) f (mx z5 (3 * j) (fun k => R_book y (160 + k))) (nI j)) (n := n3) (fun f j hj => ?_) (fun f => ?_) (by omega)
    · show Lexicon_digestWordsOnto_L33 _ _ _ _ (f + 1) (mx z5 (3 * j) _) (nI j) = Lexicon_digestWordsOnto_L33 _ _ _ _ f (mx z5 (3 * (j + 1)) _) (nI (j + 1))
      rw [Lexicon_digestWordsOnto_L33, l1.1, if_neg (nI_ge (by omega) (by omega)), gd_ix (by omega) (by omega), nI_clamp (by omega), nI_1, show 3 * (j + 1) = 3 * j + 1 + 1 + 1 by omega, mx_s, mx_s, mx_s, (l7 j hj).2.2.1, (l8 j hj).2.1, (l9 j hj).2.2.1, (l7 j hj).2.2.2]
      have g1 : R_book y (160 + (3 * j + 1)) = nI (nu j) := (l8 j hj).2.2
      have g2 : R_book y (160 + (3 * j + 1 + 1)) = nI (wt j) := (l9 j hj).2.2.2
      rw [g1, g2]
    · show Lexicon_digestWordsOnto_L33 _ _ _ _ (f + 1) _ (nI n3) = _
      rw [Lexicon_digestWordsOnto_L33, l1.1, if_pos (nI_le (Nat.le_refl n3) (by omega))]
  rw [C6, bO_s]
  generalize mx z5 (3 * n3) (fun k => R_book y (160 + k)) = z6
  have R7 : F_R_mixed N z6 190 (nI nr) (R_book y) 240 = _ := Rmixed_ok (at0 := 190) (n := nr) (len := 240) hN (by omega) (by omega) (by omega)
  rw [R7, bO_s]
  have C7 : Lexicon_digestWordsOnto_L83 (Lexicon_rowLips (Shed_lexicon (S_now x))) (Lexicon_row (Shed_lexicon (S_now x))) N z6 0 = some (mx z6 nr (fun k => R_book y (190 + k))) := by
    refine lp0 (L := fun f j => Lexicon_digestWordsOnto_L83 (Lexicon_rowLips (Shed_lexicon (S_now x))) (Lexicon_row (Shed_lexicon (S_now x))) f (mx z6 j (fun k => R_book y (190 + k))) (nI j)) (n := nr) (fun f j hj => ?_) (fun f => ?_) (by omega)
    · show Lexicon_digestWordsOnto_L83 _ _ (f + 1) (mx z6 j _) (nI j) = Lexicon_digestWordsOnto_L83 _ _ f (mx z6 (j + 1) _) (nI (j + 1))
      rw [Lexicon_digestWordsOnto_L83, l2.1, if_neg (nI_ge (by omega) (by omega)), gd_ix (by omega) (by omega), nI_clamp (by omega), nI_1, mx_s, (l12 j hj).2.1, (l12 j hj).2.2]
    · show Lexicon_digestWordsOnto_L83 _ _ (f + 1) _ (nI nr) = _
      rw [Lexicon_digestWordsOnto_L83, l2.1, if_pos (nI_le (Nat.le_refl nr) (by omega))]
  rw [C7, bO_s, bO_s]
  generalize mx z6 nr (fun k => R_book y (190 + k)) = z7
  -- the clearness, the girl, the bands
  have R8 : F_R_mixed N z7 8 2 (R_book y) 240 = _ := Rmixed_ok (at0 := 8) (n := 2) (len := 240) hN (by omega) (by omega) (by omega)
  have g80 : R_book y (8 + 0) = Shed_clearness (S_now x) := q5.trans q4.symm
  have g81 : R_book y (8 + 1) = Lexicon_girlKnows (Shed_lexicon (S_now x)) := l3.2.trans l3.1.symm
  rw [R8, bO_s, mx_s, mx_s, g80, g81, show mx z7 0 (fun k => R_book y (8 + k)) = z7 from rfl]
  generalize F_S_mixed (F_S_mixed z7 (Shed_clearness (S_now x))) (Lexicon_girlKnows (Shed_lexicon (S_now x))) = z8
  have R9 : F_R_mixed N z8 220 12 (R_book y) 240 = _ := Rmixed_ok (at0 := 220) (n := 12) (len := 240) hN (by omega) (by omega) (by omega)
  rw [R9, bO_s]
  have C9 : S_digest_L92 (Shed_level (S_now x)) (Shed_loss (S_now x)) N z8 0 = some (mx z8 12 (fun k => R_book y (220 + k))) := by
    refine lp0 (L := fun f j => S_digest_L92 (Shed_level (S_now x)) (Shed_loss (S_now x)) f (mx z8 (2 * j) (fun k => R_book y (220 + k))) (nI j)) (n := 6) (fun f j hj => ?_) (fun f => ?_) (by omega)
    · have g2 : ¬ (6 : Int32) ≤ nI j := nI_ge (b := 6) (by omega) (by omega)
      show S_digest_L92 _ _ (f + 1) (mx z8 (2 * j) _) (nI j) = S_digest_L92 _ _ f (mx z8 (2 * (j + 1)) _) (nI (j + 1))
      rw [S_digest_L92, if_neg g2, gd_ix (by omega) (by omega), nI_clamp (by omega), nI_1, show 2 * (j + 1) = 2 * j + 1 + 1 by omega, mx_s, mx_s, (q6 j hj).2.1, (q7 j hj).2.1, (q6 j hj).2.2]
      have g1 : R_book y (220 + (2 * j + 1)) = nI (ls j) := (q7 j hj).2.2
      rw [g1]
    · show S_digest_L92 _ _ (f + 1) _ (nI 6) = _
      rw [S_digest_L92]; rfl
  rw [C9, bO_s]
  generalize mx z8 12 (fun k => R_book y (220 + k)) = z9
  -- the fraction
  have R10 : R_digest_L174 (R_wide y) N z9 0 = some (F_S_mixed (F_S_mixed (F_S_mixed z9 (F_Fraction_signNumber (nI (nL a)))) (nI (nL a))) (nI (nL c))) := by
    obtain ⟨M, rfl⟩ : ∃ z, N = z + 4 := ⟨N - 4, by omega⟩
    have s0 : F_R_sign 0 (R_wide y) = F_Fraction_signNumber (nI (nL a)) := by
      unfold F_R_sign F_Fraction_signNumber
      rw [if_pos rfl, r3.1, sign0_eq ha]
    have s1 : F_R_sign 1 (R_wide y) = nI (nL a) := r3.1
    have s2 : F_R_sign 2 (R_wide y) = nI (nL c) := r4.1
    rw [R_digest_L174, if_neg (by decide), show (0 : Int32) + 1 = 1 from rfl, R_digest_L174, if_neg (by decide), show (1 : Int32) + 1 = 2 from rfl, R_digest_L174, if_neg (by decide), show (2 : Int32) + 1 = 3 from rfl, R_digest_L174, if_pos (by decide), s0, s1, s2]
    rfl
  unfold F_Fraction_digestOnto
  rw [R10, bO_s, r1.1, r2.1, r3.1, r4.1]
  generalize F_S_mixed (F_S_mixed (F_S_mixed z9 (F_Fraction_signNumber (nI (nL a)))) (nI (nL a))) (nI (nL c)) = z10
  have nat : ∀ (z : Int64) (limb : Nat → Int32) (r v : Nat), nL v ≤ 40 → r < 2 → (∀ i, i < nL v → limb i = nI (dg v i)) → (∀ i, i < 60 → R_limbs y (60 * r + i) = nI (dg v i)) → F_Natural_digestOnto N z (nI (nL v)) limb = some (mx z (nL v) (fun k => R_limbs y (60 * r + k))) := by
    intro z limb r v hv hr hc hR
    unfold F_Natural_digestOnto
    have C : Natural_digestOnto_L5 (nI (nL v)) limb N z 0 = some (mx z (nL v) (fun k => R_limbs y (60 * r + k))) := by
      refine lp0 (L := fun f j => Natural_digestOnto_L5 (nI (nL v)) limb f (mx z j (fun k => R_limbs y (60 * r + k))) (nI j)) (n := nL v) (fun f j hj => ?_) (fun f => ?_) (by omega)
      · show Natural_digestOnto_L5 _ _ (f + 1) (mx z j _) (nI j) = Natural_digestOnto_L5 _ _ f (mx z (j + 1) _) (nI (j + 1))
        rw [Natural_digestOnto_L5, if_neg (nI_ge (by omega) (by omega)), gd_ix (by omega) (by omega), nI_clamp (by omega), nI_1, mx_s, hc j hj, hR j (by omega)]
      · show Natural_digestOnto_L5 _ _ (f + 1) _ (nI (nL v)) = _
        rw [Natural_digestOnto_L5, if_pos (nI_le (Nat.le_refl _) (by omega))]
    rw [C, bO_s]
  have R11 : F_R_mixed N z10 0 (nI (nL a)) (R_limbs y) 1680 = some (mx z10 (nL a) (fun k => R_limbs y (60 * 0 + k))) := Rmixed_ok (at0 := 0) (n := nL a) (len := 1680) hN (by omega) (by omega) (by omega)
  rw [nat z10 _ 0 a ha (by omega) r1.2 r3.2, bO_s, R11, bO_s]
  generalize mx z10 (nL a) (fun k => R_limbs y (60 * 0 + k)) = z11
  have R12 : F_R_mixed N z11 60 (nI (nL c)) (R_limbs y) 1680 = some (mx z11 (nL c) (fun k => R_limbs y (60 * 1 + k))) := Rmixed_ok (at0 := 60) (n := nL c) (len := 1680) hN (by omega) (by omega) (by omega)
  rw [nat z11 _ 1 c hc (by omega) r2.2 r4.2, bO_s, R12, bO_s]
  exact ⟨_, _, rfl, rfl, rfl, h00⟩
