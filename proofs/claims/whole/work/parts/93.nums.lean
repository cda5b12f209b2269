-- NUMBERS IN LIMBS
theorem nIL {n : Nat} (h : n < 2 ^ 31) : (nI n).toInt64 = lN n := by
  apply Int64.toInt_inj.mp
  rw [Int32.toInt_toInt64, nI_toInt h, pk_lT (by omega)]
theorem jshr30 {n : Nat} (h : n < 2 ^ 63) : jshrL (lN n) 30 = lN (n / 2 ^ 30) := by
  have h2 : n / 2 ^ 30 ≤ n := Nat.div_le_self _ _
  apply Int64.toInt_inj.mp
  show ((lN n).toBitVec.sshiftRight (((30 : Int32).toInt64 &&& 63).toBitVec.smod 64).toNat).toInt = _
  rw [show (((30 : Int32).toInt64 &&& 63).toBitVec.smod 64).toNat = 30 by decide +kernel, BitVec.toInt_sshiftRight]
  show (lN n).toInt >>> 30 = _
  rw [pk_lT h, pk_lT (by omega), Int.shiftRight_eq_div_pow]
  rfl
theorem jshl30 (n : Nat) : jshlL (lN n) 30 = lN (n * 2 ^ 30) := wb_shl n (k := 30) (by decide)
theorem msk30 {n : Nat} (h : n < 2 ^ 64) : lN n &&& 1073741823 = lN (n % 2 ^ 30) := wb_mask (k := 30) h (by decide)
theorem jremLN {a b : Nat} (ha : a < 2 ^ 63) (h0 : 0 < b) (hb : b < 2 ^ 63) : jremL (lN a) (lN b) = lN (a % b) := pk_lRem ha h0 hb
theorem nzLN {b : Nat} (h0 : 0 < b) (hb : b < 2 ^ 63) : nzL (lN b) = true := by
  unfold nzL
  rw [show (0 : Int64) = lN 0 from rfl, decide_eq_false (by rw [pk_lEQ hb (by decide)]; omega)]
  rfl
theorem lN_le0 {n : Nat} (h : n < 2 ^ 63) : (lg_cmp (lN n) (0 : Int64)) ≤ (0 : Int32) ↔ n = 0 := by
  rw [lg_cmp_le, show (0 : Int64) = lN 0 from rfl, pk_lLE h (by decide)]
  omega
def Bp (i : Nat) : Nat := 2 ^ (30 * i)
theorem Bp_0 : Bp 0 = 1 := rfl
theorem Bp_1 : Bp 1 = 2 ^ 30 := rfl
theorem Bp_S (i : Nat) : Bp (i + 1) = Bp i * 2 ^ 30 := by unfold Bp; rw [Nat.mul_add, Nat.pow_add]
theorem Bp_pos (i : Nat) : 0 < Bp i := Nat.two_pow_pos _
theorem Bp_mono {i j : Nat} (h : i ≤ j) : Bp i ≤ Bp j := Nat.pow_le_pow_right (by decide) (by omega)
theorem dg_lt (v i : Nat) : dg v i < 2 ^ 30 := Nat.mod_lt _ (by decide)
theorem dg_S (v i : Nat) : v % Bp (i + 1) = v % Bp i + Bp i * dg v i := by rw [Bp_S, Nat.mod_mul]; rfl
theorem nL_le {v k : Nat} : nL v ≤ k ↔ v < Bp k := by
  unfold nL Bp
  by_cases h : v = 0
  · rw [if_pos h, h]; exact ⟨fun _ => Nat.two_pow_pos _, fun _ => Nat.zero_le _⟩
  · rw [if_neg h, ← Nat.log2_lt h]
    omega
theorem nL_self (v : Nat) : v < Bp (nL v) := nL_le.mp (Nat.le_refl _)
theorem nL_0 : nL 0 = 0 := rfl
theorem nL_eq0 {v : Nat} : nL v = 0 ↔ v = 0 := by
  constructor
  · intro h
    have := nL_self v
    rw [h, Bp_0] at this
    omega
  · intro h; rw [h]; rfl
theorem nL_mono {u v : Nat} (h : u ≤ v) : nL u ≤ nL v := nL_le.mpr (Nat.lt_of_le_of_lt h (nL_self v))
theorem dg_ge {v i : Nat} (h : nL v ≤ i) : dg v i = 0 := by
  have := nL_le.mp h
  unfold dg
  rw [show v / 2 ^ (30 * i) = 0 from Nat.div_eq_of_lt this]
theorem dg_top {v k : Nat} (h : nL v = k + 1) : dg v k ≠ 0 := by
  intro e
  have h1 : v < Bp (k + 1) := nL_le.mp (by omega)
  have h2 : ¬ v < Bp k := fun q => by have := nL_le.mpr q; omega
  have h3 : v % Bp (k + 1) = v := Nat.mod_eq_of_lt h1
  rw [dg_S, e, Nat.mul_zero, Nat.add_zero] at h3
  have := Nat.mod_lt v (Bp_pos k)
  omega
theorem dg_ext {u v k : Nat} (h : ∀ i, i < k → dg u i = dg v i) : u % Bp k = v % Bp k := by
  induction k with
  | zero => rw [Bp_0, Nat.mod_one, Nat.mod_one]
  | succ k ih => rw [dg_S, dg_S, ih (fun i hi => h i (by omega)), h k (by omega)]
theorem dg_mod {v k i : Nat} (h : i < k) : dg (v % Bp k) i = dg v i := by
  obtain ⟨d, rfl⟩ : ∃ d, k = i + 1 + d := ⟨k - (i + 1), by omega⟩
  unfold dg
  have e : Bp (i + 1 + d) = Bp (i + 1) * Bp d := by unfold Bp; rw [← Nat.pow_add]; congr 1; omega
  have e2 : v % Bp (i + 1 + d) % Bp (i + 1) = v % Bp (i + 1) := by rw [e]; exact Nat.mod_mul_right_mod v _ _
  have e3 : ∀ w, w / 2 ^ (30 * i) % 2 ^ 30 = w % Bp (i + 1) / 2 ^ (30 * i) := by
    intro w
    rw [Bp_S]
    exact (Nat.mod_mul_right_div_self w _ _).symm
  rw [e3, e2, ← e3]
theorem dg_small {v : Nat} (h : v < 2 ^ 30) : dg v 0 = v := by
  unfold dg
  rw [Nat.mul_zero, Nat.pow_zero, Nat.div_one, Nat.mod_eq_of_lt h]
-- carries
def cy (f u g v i : Nat) : Nat := (f * (u % Bp i) + g * (v % Bp i)) / Bp i
theorem cy_0 (f u g v : Nat) : cy f u g v 0 = 0 := by
  unfold cy
  rw [Bp_0, Nat.mod_one, Nat.mod_one, Nat.mul_zero, Nat.mul_zero]
theorem cy_A (f u g v i : Nat) : (f * (u % Bp (i + 1)) + g * (v % Bp (i + 1))) / Bp i = f * dg u i + g * dg v i + cy f u g v i := by
  rw [dg_S, dg_S]
  have e : f * (u % Bp i + Bp i * dg u i) + g * (v % Bp i + Bp i * dg v i) = (f * (u % Bp i) + g * (v % Bp i)) + Bp i * (f * dg u i + g * dg v i) := by grind
  rw [e, Nat.add_mul_div_left _ _ (Bp_pos i), Nat.add_comm]
  rfl
theorem cy_S (f u g v i : Nat) : (f * dg u i + g * dg v i + cy f u g v i) / 2 ^ 30 = cy f u g v (i + 1) := by
  rw [← cy_A, Nat.div_div_eq_div_mul, ← Bp_S]
  rfl
theorem cy_D (f u g v i : Nat) : (f * dg u i + g * dg v i + cy f u g v i) % 2 ^ 30 = dg (f * u + g * v) i := by
  rw [← cy_A]
  have e : f * u + g * v = (f * (u % Bp (i + 1)) + g * (v % Bp (i + 1))) + Bp i * (2 ^ 30 * (f * (u / Bp (i + 1)) + g * (v / Bp (i + 1)))) := by
    have h1 := Nat.mod_add_div u (Bp (i + 1))
    have h2 := Nat.mod_add_div v (Bp (i + 1))
    have h3 := Bp_S i
    generalize u % Bp (i + 1) = a at *
    generalize v % Bp (i + 1) = b at *
    generalize u / Bp (i + 1) = c at *
    generalize v / Bp (i + 1) = d at *
    rw [← h1, ← h2, h3]
    grind
  unfold dg
  conv => rhs; rw [e]
  show _ = (_ + Bp i * _) / Bp i % 2 ^ 30
  rw [Nat.add_mul_div_left _ _ (Bp_pos i), Nat.add_mul_mod_self_left]
theorem cy_T {f u g v n : Nat} (hu : u < Bp n) (hv : v < Bp n) : cy f u g v n = (f * u + g * v) / Bp n := by
  unfold cy
  rw [Nat.mod_eq_of_lt hu, Nat.mod_eq_of_lt hv]
theorem cy_le (f u g v i : Nat) : cy f u g v i ≤ f + g := by
  unfold cy
  apply Nat.div_le_of_le_mul
  have h1 := Nat.mod_lt u (Bp_pos i)
  have h2 := Nat.mod_lt v (Bp_pos i)
  have h3 := Nat.mul_le_mul_left f (Nat.le_of_lt h1)
  have h4 := Nat.mul_le_mul_left g (Nat.le_of_lt h2)
  rw [Nat.mul_add, Nat.mul_comm (Bp i) f, Nat.mul_comm (Bp i) g]
  omega
