-- MORE OF THE CLASS'S NUMBERS
theorem dv_S (v j : Nat) : v / Bp j = v / Bp (j + 1) * 2 ^ 30 + dg v j := by
  rw [Bp_S, ← Nat.div_div_eq_div_mul]
  have := Nat.div_add_mod (v / Bp j) (2 ^ 30)
  unfold dg
  rw [Nat.mul_comm] at this
  exact this.symm
theorem dv_mod (v d j : Nat) : (v / Bp (j + 1) % d * 2 ^ 30 + dg v j) % d = v / Bp j % d := by
  rw [dv_S v j, Nat.add_mod, Nat.mul_mod, Nat.mod_mod, ← Nat.mul_mod, ← Nat.add_mod]
theorem dv_dig {v d : Nat} (hd : 0 < d) (j : Nat) : (v / Bp (j + 1) % d * 2 ^ 30 + dg v j) / d = dg (v / d) j := by
  have e : v / d / Bp j = v / Bp j / d := by rw [Nat.div_div_eq_div_mul, Nat.div_div_eq_div_mul, Nat.mul_comm]
  unfold dg
  show _ = v / d / Bp j % 2 ^ 30
  rw [e, dv_S v j]
  have h1 := Nat.div_add_mod (v / Bp (j + 1)) d
  have h2 := Nat.mod_lt (v / Bp (j + 1)) hd
  have h3 := dg_lt v j
  show (v / Bp (j + 1) % d * 2 ^ 30 + dg v j) / d = _
  generalize v / Bp (j + 1) = W at *
  generalize dg v j = e at *
  have e2 : W * 2 ^ 30 + e = (W % d * 2 ^ 30 + e) + d * (W / d * 2 ^ 30) := by
    conv => lhs; rw [← h1]
    grind
  rw [e2, Nat.add_mul_div_left _ _ hd]
  have h4 : (W % d * 2 ^ 30 + e) / d < 2 ^ 30 := by
    rw [Nat.div_lt_iff_lt_mul hd]
    have := Nat.mul_le_mul_right (2 ^ 30) (show W % d + 1 ≤ d by omega)
    rw [Nat.add_mul, Nat.mul_comm d] at this
    omega
  rw [Nat.add_mul_mod_self_right, Nat.mod_eq_of_lt h4]
theorem divL_ok {limb : Nat → Int32} {v n d : Nat} (hn : n ≤ 40) (h0 : 0 < d) (hd : d < 2 ^ 30) (hv : v < Bp n) (hl : ∀ i, i < n → limb i = nI (dg v i)) : ∀ (j f : Nat) (s : Nat → Int32), j ≤ n → j < f → (∀ i, i < j → s i = limb i) → (∀ i, j ≤ i → i < n → s i = nI (dg (v / d) i)) → ∃ (r : Nat → Int32), Natural_divide_L15 (nI d) f (lN (v / Bp j % d)) (nI j - 1) s = some r ∧ (∀ i, i < n → r i = nI (dg (v / d) i)) := by
  intro j
  induction j with
  | zero =>
    intro f s _ hf _ h2
    obtain ⟨f, rfl⟩ : ∃ z, f = z + 1 := ⟨f - 1, by omega⟩
    rw [Natural_divide_L15, if_pos m1_lt0]
    exact ⟨s, rfl, fun i hi => h2 i (by omega) hi⟩
  | succ j ih =>
    intro f s hj hf h1 h2
    obtain ⟨f, rfl⟩ : ∃ z, f = z + 1 := ⟨f - 1, by omega⟩
    have hb := dg_lt v j
    have hr := Nat.mod_lt (v / Bp (j + 1)) h0
    have e1 : jshlL (lN (v / Bp (j + 1) % d)) 30 + (s j).toInt64 = lN (v / Bp (j + 1) % d * 2 ^ 30 + dg v j) := by
      rw [h1 j (by omega), hl j (by omega), jshl30, nIL (by omega), lN_add]
    have hbig : v / Bp (j + 1) % d * 2 ^ 30 + dg v j < 2 ^ 61 := by
      have := Nat.mul_le_mul_right (2 ^ 30) (show v / Bp (j + 1) % d ≤ 2 ^ 30 by omega)
      omega
    rw [Natural_divide_L15, nI_pred, if_neg (by simp (disch := omega) only [z0, nI_leI, nI_ltI, nI_eq, nI_1, nI_add, pk_mul, nI_clamp]; omega), gd_ix (by omega) (by omega), nI_clamp (by omega), nIL (by omega), nzLN h0 (by omega), gd_t, e1, jremLN (by omega) h0 (by omega), dv_mod, pk_lDiv (by omega) h0 (by omega), dv_dig h0, lN_i, dec1]
    refine ih f _ (by omega) (by omega) ?_ ?_
    · intro i hi
      rw [pk_un (by omega)]; exact h1 i (by omega)
    · intro i hi hin
      by_cases h : i = j
      · rw [h, pk_us]
      · rw [pk_un h]; exact h2 i (by omega) hin
theorem divide_ok {limb : Nat → Int32} {l : Int32} {v d N : Nat} (hN : 100 ≤ N) (h : CN limb l v) (h0 : 0 < d) (hd : d < 2 ^ 30) (hv : nL v ≤ 40) : ∃ (l' : Int32) (b : Nat → Int32), F_Natural_divide N (nI d) l limb = some (l', b) ∧ CN b l' (v / d) := by
  have hs := nL_self v
  unfold F_Natural_divide
  rw [h.1, if_pos (by simp (disch := omega) only [z0, nI_leI, nI_ltI, nI_eq, nI_1, nI_add, pk_mul, nI_clamp]; omega)]
  obtain ⟨b, e, e1⟩ := divL_ok hv h0 hd hs h.2 (nL v) N limb (Nat.le_refl _) (by omega) (fun i _ => rfl) (fun i hi hj => by omega)
  rw [Nat.div_eq_of_lt hs, Nat.zero_mod] at e
  have hq : v / d < Bp (nL v) := Nat.lt_of_le_of_lt (Nat.div_le_self _ _) hs
  rw [show (0 : Int64) = lN 0 from rfl, e, bO_s, trim_ok hN hv hq e1, bO_s]
  exact ⟨_, _, rfl, rfl, fun i hi => e1 i (by have := nL_le.mpr hq; omega)⟩
theorem remL_ok {limb : Nat → Int32} {v n d : Nat} (hn : n ≤ 40) (h0 : 0 < d) (hd : d < 2 ^ 30) (hl : ∀ i, i < n → limb i = nI (dg v i)) : ∀ (j f : Nat), j ≤ n → j < f → Natural_remainder_L16 (nI d) limb f (lN (v / Bp j % d)) (nI j - 1) = some (lN (v % d)) := by
  intro j
  induction j with
  | zero =>
    intro f _ hf
    obtain ⟨f, rfl⟩ : ∃ z, f = z + 1 := ⟨f - 1, by omega⟩
    rw [Natural_remainder_L16, if_pos m1_lt0, Bp_0, Nat.div_one]
  | succ j ih =>
    intro f hj hf
    obtain ⟨f, rfl⟩ : ∃ z, f = z + 1 := ⟨f - 1, by omega⟩
    have hb := dg_lt v j
    have hr := Nat.mod_lt (v / Bp (j + 1)) h0
    have e1 : jshlL (lN (v / Bp (j + 1) % d)) 30 + (limb j).toInt64 = lN (v / Bp (j + 1) % d * 2 ^ 30 + dg v j) := by
      rw [hl j (by omega), jshl30, nIL (by omega), lN_add]
    have hbig : v / Bp (j + 1) % d * 2 ^ 30 + dg v j < 2 ^ 61 := by
      have := Nat.mul_le_mul_right (2 ^ 30) (show v / Bp (j + 1) % d ≤ 2 ^ 30 by omega)
      omega
    rw [Natural_remainder_L16, nI_pred, if_neg (by simp (disch := omega) only [z0, nI_leI, nI_ltI, nI_eq, nI_1, nI_add, pk_mul, nI_clamp]; omega), gd_ix (by omega) (by omega), nI_clamp (by omega), nIL (by omega), nzLN h0 (by omega), gd_t, e1, jremLN (by omega) h0 (by omega), dv_mod, dec1]
    exact ih f (by omega) (by omega)
theorem remainder_ok {limb : Nat → Int32} {l : Int32} {v d N : Nat} (hN : 100 ≤ N) (h : CN limb l v) (h0 : 0 < d) (hd : d < 2 ^ 30) (hv : nL v ≤ 40) : F_Natural_remainder N (nI d) l limb = some (nI (v % d)) := by
  unfold F_Natural_remainder
  have e := remL_ok hv h0 hd h.2 (nL v) N (Nat.le_refl _) (by omega)
  rw [Nat.div_eq_of_lt (nL_self v), Nat.zero_mod] at e
  rw [h.1, if_pos (by simp (disch := omega) only [z0, nI_leI, nI_ltI, nI_eq, nI_1, nI_add, pk_mul, nI_clamp]; omega), show (0 : Int64) = lN 0 from rfl, e, bO_s, lN_i]
theorem lt_dg {x y k : Nat} (h : x / Bp (k + 1) = y / Bp (k + 1)) (h2 : dg x k < dg y k) : x < y := by
  have h3 : x / Bp k < y / Bp k := by rw [dv_S x, dv_S y, h]; omega
  apply Nat.lt_of_not_le
  intro q
  have := Nat.div_le_div_right (c := Bp k) q
  omega
theorem lessL_ok {la lb : Nat → Int32} {x y n : Nat} (hn : n ≤ 40) (ha : ∀ i, i < n → la i = nI (dg x i)) (hb : ∀ i, i < n → lb i = nI (dg y i)) : ∀ (k f : Nat), k ≤ n → k < f → x / Bp k = y / Bp k → ∃ r, Natural_isLessThan_L35 la lb f (nI k - 1) = some r ∧ (r = .inr () ∧ x = y ∨ r = .inl (bI (decide (x < y)))) := by
  intro k
  induction k with
  | zero =>
    intro f _ hf he
    obtain ⟨f, rfl⟩ : ∃ z, f = z + 1 := ⟨f - 1, by omega⟩
    rw [Natural_isLessThan_L35, if_pos m1_lt0]
    rw [Bp_0, Nat.div_one, Nat.div_one] at he
    exact ⟨_, rfl, Or.inl ⟨rfl, he⟩⟩
  | succ k ih =>
    intro f hk hf he
    obtain ⟨f, rfl⟩ : ∃ z, f = z + 1 := ⟨f - 1, by omega⟩
    have hx := dg_lt x k
    have hy := dg_lt y k
    rw [Natural_isLessThan_L35, nI_pred, if_neg (by simp (disch := omega) only [z0, nI_leI, nI_ltI, nI_eq, nI_1, nI_add, pk_mul, nI_clamp]; omega), gd_ix (by omega) (by omega), nI_clamp (by omega), ha k (by omega), hb k (by omega)]
    by_cases h : dg x k = dg y k
    · rw [if_pos (by rw [h]), dec1]
      exact ih f (by omega) (by omega) (by rw [dv_S x, dv_S y, he, h])
    · rw [if_neg (by simp (disch := omega) only [nI_leI, nI_ltI, nI_eq, nI_1, nI_add, pk_mul, nI_clamp]; omega)]
      by_cases h2 : dg y k ≤ dg x k
      · rw [if_pos (by simp (disch := omega) only [nI_leI, nI_ltI, nI_eq, nI_1, nI_add, pk_mul, nI_clamp]; omega)]
        refine ⟨_, rfl, Or.inr ?_⟩
        have := lt_dg he.symm (show dg y k < dg x k by omega)
        rw [decide_eq_false (by omega)]
        rfl
      · rw [if_neg (by simp (disch := omega) only [nI_leI, nI_ltI, nI_eq, nI_1, nI_add, pk_mul, nI_clamp]; omega)]
        refine ⟨_, rfl, Or.inr ?_⟩
        rw [decide_eq_true (lt_dg he (by omega))]
        rfl
theorem less_ok {la lb : Nat → Int32} {l1 l2 : Int32} {x y N : Nat} (hN : 100 ≤ N) (ha : CN la l1 x) (hb : CN lb l2 y) (hx : nL x ≤ 40) (hy : nL y ≤ 40) : F_Natural_isLessThan N l1 la l2 lb = some (bI (decide (x < y))) := by
  unfold F_Natural_isLessThan
  rw [ha.1, hb.1]
  by_cases h : nL x = nL y
  · rw [if_pos (by rw [h])]
    obtain ⟨r, e, h2⟩ := lessL_ok hx ha.2 (fun i hi => hb.2 i (by omega)) (nL x) N (Nat.le_refl _) (by omega) (by rw [Nat.div_eq_of_lt (nL_self x), h, Nat.div_eq_of_lt (nL_self y)])
    rw [e]
    rcases h2 with ⟨h2, h3⟩ | h2
    · rw [h2, bT_r, decide_eq_false (by omega)]
      rfl
    · rw [h2, bT_l]
  · rw [if_neg (by simp (disch := omega) only [nI_leI, nI_ltI, nI_eq, nI_1, nI_add, pk_mul, nI_clamp]; omega)]
    by_cases h2 : nL y ≤ nL x
    · rw [if_pos (by simp (disch := omega) only [nI_leI, nI_ltI, nI_eq, nI_1, nI_add, pk_mul, nI_clamp]; omega), decide_eq_false]
      · rfl
      · intro q
        have := nL_mono (Nat.le_of_lt q)
        omega
    · rw [if_neg (by simp (disch := omega) only [nI_leI, nI_ltI, nI_eq, nI_1, nI_add, pk_mul, nI_clamp]; omega), decide_eq_true]
      · rfl
      · apply Nat.lt_of_not_le
        intro q
        have := nL_mono q
        omega
theorem dg_split {v j i : Nat} (h : j ≤ i) : dg v i = v / Bp j / Bp (i - j) % 2 ^ 30 := by
  unfold dg
  rw [Nat.div_div_eq_div_mul, show Bp j * Bp (i - j) = 2 ^ (30 * i) by unfold Bp; rw [← Nat.pow_add]; congr 1; omega]
theorem addL_ok {limb limb2 : Nat → Int32} {v w c : Nat} (hv : nL v ≤ 40) (hw : nL w ≤ 40) (hc : c < 2 ^ 30) (hT : v + c * w < Bp 40) (h1 : ∀ i, i < nL v → limb i = nI (dg v i)) (h2 : ∀ i, i < nL w → limb2 i = nI (dg w i)) : ∀ N, 40 < N → ∃ (r : (Nat → Int32) × Int32), Natural_addTimes_L5 (nI (nL w)) limb2 (nI c) N 0 0 limb (nI (nL v)) = some r ∧ ∃ m, m ≤ 40 ∧ r.2 = nI m ∧ v + c * w < Bp m ∧ ∀ i, i < m → r.1 i = nI (dg (v + c * w) i) := by
  intro N hN
  have := lpI (L := fun f j (s : Nat → Int32) => Natural_addTimes_L5 (nI (nL w)) limb2 (nI c) f (lN (cy 1 v c w j)) (nI j) s (nI (max (nL v) j))) (n := 40)
    (fun j s => (∀ i, i < j → s i = nI (dg (1 * v + c * w) i)) ∧ (∀ i, j ≤ i → s i = limb i))
    (fun r => ∃ m, m ≤ 40 ∧ r.2 = nI m ∧ 1 * v + c * w < Bp m ∧ ∀ i, i < m → r.1 i = nI (dg (1 * v + c * w) i)) ?_ ?_ 40 N 0 limb (by omega) hN ⟨fun i hi => by omega, fun i _ => rfl⟩
  · rw [cy_0, show max (nL v) 0 = nL v by omega, Nat.one_mul] at this
    exact this
  · intro f j s hj hi
    have hb := dg_lt v j
    have hb2 := dg_lt w j
    have hy := cy_le 1 v c w j
    have hm : c * dg w j ≤ 2 ^ 30 * 2 ^ 30 := Nat.mul_le_mul (by omega) (by omega)
    have y1 : (if nI (max (nL v) j) ≤ nI j then some (0 : Int32) else gd (ixb (nI j) 40) (some (s (nI j).toNatClampNeg))) = some (nI (dg v j)) := by
      rw [nI_clamp (by omega), gd_ix (by omega) (by omega)]
      by_cases q : j < nL v
      · rw [if_neg (by simp (disch := omega) only [nI_leI, nI_ltI, nI_eq, nI_1, nI_add, pk_mul, nI_clamp]; omega), hi.2 j (by omega), h1 j q]
      · rw [if_pos (by simp (disch := omega) only [nI_leI, nI_ltI, nI_eq, nI_1, nI_add, pk_mul, nI_clamp]; omega), dg_ge (by omega)]
        rfl
    have y2 : (if nI (nL w) ≤ nI j then some (lN (cy 1 v c w j) + (nI (dg v j)).toInt64) else gd (ixb (nI j) 40) (some (lN (cy 1 v c w j) + (nI (dg v j)).toInt64 + (limb2 (nI j).toNatClampNeg).toInt64 * (nI c).toInt64))) = some (lN (1 * dg v j + c * dg w j + cy 1 v c w j)) := by
      rw [nI_clamp (by omega), gd_ix (by omega) (by omega), nIL (by omega), lN_add]
      by_cases q : j < nL w
      · rw [if_neg (by simp (disch := omega) only [nI_leI, nI_ltI, nI_eq, nI_1, nI_add, pk_mul, nI_clamp]; omega), h2 j q, nIL (by omega), nIL (by omega), lN_mul, lN_add]
        congr 2
        rw [Nat.mul_comm (dg w j)]
        omega
      · rw [if_pos (by simp (disch := omega) only [nI_leI, nI_ltI, nI_eq, nI_1, nI_add, pk_mul, nI_clamp]; omega), dg_ge (v := w) (by omega)]
        congr 2
        omega
    have y3 : jmax (nI (max (nL v) j)) (nI j + 1) = nI (max (nL v) (j + 1)) := by
      unfold jmax
      rw [nI_1]
      by_cases q : max (nL v) j < j + 1
      · rw [if_pos (by simp (disch := omega) only [nI_leI, nI_ltI, nI_eq, nI_1, nI_add, pk_mul, nI_clamp]; omega), show max (nL v) (j + 1) = j + 1 by omega]
      · rw [if_neg (by simp (disch := omega) only [nI_leI, nI_ltI, nI_eq, nI_1, nI_add, pk_mul, nI_clamp]; omega), show max (nL v) (j + 1) = max (nL v) j by omega]
    have hI : (∀ i, i < j + 1 → upd s j (nI (dg (1 * v + c * w) j)) i = nI (dg (1 * v + c * w) i)) ∧ (∀ i, j + 1 ≤ i → upd s j (nI (dg (1 * v + c * w) j)) i = limb i) := by
      refine ⟨fun i hij => ?_, fun i hij => ?_⟩
      · by_cases h : i = j
        · rw [h, pk_us]
        · rw [pk_un h]; exact hi.1 i (by omega)
      · rw [pk_un (by omega)]; exact hi.2 i (by omega)
    by_cases hgo : j < nL w
    · right
      refine ⟨_, ?_, hI⟩
      show Natural_addTimes_L5 (nI (nL w)) limb2 (nI c) (f + 1) (lN (cy 1 v c w j)) (nI j) s (nI (max (nL v) j)) = Natural_addTimes_L5 (nI (nL w)) limb2 (nI c) f (lN (cy 1 v c w (j + 1))) (nI (j + 1)) _ (nI (max (nL v) (j + 1)))
      rw [Natural_addTimes_L5, if_neg (by simp (disch := omega) only [k40, nI_leI, nI_ltI, nI_eq, nI_1, nI_add, pk_mul, nI_clamp]; omega), if_pos (by simp (disch := omega) only [nI_leI, nI_ltI, nI_eq, nI_1, nI_add, pk_mul, nI_clamp]; omega), y1, bO_s, y2, bO_s, gd_ix (by omega) (by omega), nI_clamp (by omega), jshr30 (by omega), cy_S, msk30 (by omega), cy_D, lN_i, y3, nI_1]
    · by_cases hcy : cy 1 v c w j = 0
      · left
        refine ⟨(s, nI (max (nL v) j)), ?_, max (nL v) j, by omega, rfl, ?_⟩
        · show Natural_addTimes_L5 (nI (nL w)) limb2 (nI c) (f + 1) (lN (cy 1 v c w j)) (nI j) s (nI (max (nL v) j)) = _
          rw [Natural_addTimes_L5, if_neg (by simp (disch := omega) only [k40, nI_leI, nI_ltI, nI_eq, nI_1, nI_add, pk_mul, nI_clamp]; omega), if_neg (by simp (disch := omega) only [nI_leI, nI_ltI, nI_eq, nI_1, nI_add, pk_mul, nI_clamp]; omega), if_pos ((lN_le0 (by omega)).mpr hcy)]
        · have hwB : w < Bp j := nL_le.mp (by omega)
          have hlow : 1 * (v % Bp j) + c * w < Bp j := by
            unfold cy at hcy
            rw [Nat.mod_eq_of_lt hwB] at hcy
            exact (Nat.div_eq_zero_iff_lt (Bp_pos _)).mp hcy
          have e : (1 * v + c * w) / Bp j = v / Bp j := by
            have e1 : 1 * v + c * w = (1 * (v % Bp j) + c * w) + Bp j * (v / Bp j) := by
              have := Nat.mod_add_div v (Bp j)
              omega
            rw [e1, Nat.add_mul_div_left _ _ (Bp_pos j), Nat.div_eq_of_lt hlow, Nat.zero_add]
          have e2 : ∀ i, j ≤ i → dg (1 * v + c * w) i = dg v i := fun i hij => by rw [dg_split hij, e, ← dg_split hij]
          constructor
          · by_cases q : j ≤ nL v
            · rw [show max (nL v) j = nL v by omega]
              have h3 : (1 * v + c * w) / Bp (nL v) = 0 := by
                have e3 : ∀ x, x / Bp (nL v) = x / Bp j / Bp (nL v - j) := by
                  intro x
                  rw [Nat.div_div_eq_div_mul, show Bp j * Bp (nL v - j) = Bp (nL v) by unfold Bp; rw [← Nat.pow_add]; congr 1; omega]
                rw [e3, e, ← e3]
                exact Nat.div_eq_of_lt (nL_self v)
              exact (Nat.div_eq_zero_iff_lt (Bp_pos _)).mp h3
            · rw [show max (nL v) j = j by omega]
              rw [Nat.div_eq_of_lt (nL_le.mp (show nL v ≤ j by omega))] at e
              exact (Nat.div_eq_zero_iff_lt (Bp_pos _)).mp e
          · intro i hi2
            by_cases q : i < j
            · exact hi.1 i q
            · show s i = _
              rw [hi.2 i (by omega), h1 i (by omega), e2 i (by omega)]
      · right
        refine ⟨_, ?_, hI⟩
        show Natural_addTimes_L5 (nI (nL w)) limb2 (nI c) (f + 1) (lN (cy 1 v c w j)) (nI j) s (nI (max (nL v) j)) = Natural_addTimes_L5 (nI (nL w)) limb2 (nI c) f (lN (cy 1 v c w (j + 1))) (nI (j + 1)) _ (nI (max (nL v) (j + 1)))
        rw [Natural_addTimes_L5, if_neg (by simp (disch := omega) only [k40, nI_leI, nI_ltI, nI_eq, nI_1, nI_add, pk_mul, nI_clamp]; omega), if_neg (by simp (disch := omega) only [nI_leI, nI_ltI, nI_eq, nI_1, nI_add, pk_mul, nI_clamp]; omega), if_neg (fun q => hcy ((lN_le0 (by omega)).mp q)), y1, bO_s, y2, bO_s, gd_ix (by omega) (by omega), nI_clamp (by omega), jshr30 (by omega), cy_S, msk30 (by omega), cy_D, lN_i, y3, nI_1]
  · intro f s hi
    refine ⟨(s, nI (max (nL v) 40)), ?_, 40, by omega, by rw [show max (nL v) 40 = 40 by omega], by rw [Nat.one_mul]; exact hT, hi.1⟩
    show Natural_addTimes_L5 (nI (nL w)) limb2 (nI c) (f + 1) (lN (cy 1 v c w 40)) (nI 40) s (nI (max (nL v) 40)) = _
    rw [Natural_addTimes_L5, if_pos (by simp (disch := omega) only [k40, nI_leI, nI_ltI, nI_eq, nI_1, nI_add, pk_mul, nI_clamp]; omega)]
theorem addTimes_ok {limb limb2 : Nat → Int32} {l l2 : Int32} {v w c N : Nat} (hN : 100 ≤ N) (h : CN limb l v) (h2 : CN limb2 l2 w) (hc : c < 2 ^ 30) (hv : nL v ≤ 40) (hw : nL w ≤ 40) (hT : v + c * w < Bp 40) : ∃ (l' : Int32) (b : Nat → Int32), F_Natural_addTimes N (nI c) l limb l2 limb2 = some (l', b) ∧ CN b l' (v + c * w) := by
  unfold F_Natural_addTimes
  rw [h.1, h2.1]
  obtain ⟨⟨b, x⟩, e, m, hm, e1, e2, e3⟩ := addL_ok hv hw hc hT h.2 h2.2 N (by omega)
  dsimp only at e1 e3
  rw [e, bO_s, e1]
  show ∃ l' b', bO (F_Natural_trim N (nI m) b) _ = _ ∧ _
  rw [trim_ok hN hm e2 e3, bO_s]
  exact ⟨_, _, rfl, rfl, fun i hi => e3 i (by have := nL_le.mpr e2; omega)⟩
