-- LOOMS ANEW
def iA (x : Int32) : Int32 := x - (jushr x 1 &&& 1431655765)
def iBb (x : Int32) : Int32 := (x &&& 858993459) + (jushr x 2 &&& 858993459)
def iC (x : Int32) : Int32 := (x + jushr x 4) &&& 252645135
def iD (x : Int32) : Int32 := x + jushr x 8
theorem ibc_eq (x : Int32) : F_Integer_bitCount x = ((iD (iC (iBb (iA x))) + jushr (iD (iC (iBb (iA x)))) 16) &&& 63) := by
  unfold F_Integer_bitCount iD iC iBb iA
  with_reducible rfl
theorem ib4 {a0 a1 a2 m1 m2 m3 : Nat} (h0 : a0 ≤ 8) (h1 : a1 ≤ 8) (h2 : a2 ≤ 8) (h7 : m3 ≤ 8) : ((a0 + 256 * m1) + (a1 + 256 * m2) + ((a2 + 256 * m3) + m3)) % 64 = 0 + a0 + a1 + a2 + m3 := by omega
theorem ibF {a0 a1 a2 a3 m1 m2 m3 n : Nat} (h0 : a0 ≤ 8) (h1 : a1 ≤ 8) (h2 : a2 ≤ 8) (h3 : a3 ≤ 8) (q3 : m3 = a3 + 256 * 0) (q2 : m2 = a2 + 256 * m3) (q1 : m1 = a1 + 256 * m2) (q0 : n = a0 + 256 * m1) : (iD (nI n) + jushr (iD (nI n)) 16) &&& 63 = nI (0 + a0 + a1 + a2 + a3) := by
  have z3 : m3 = a3 := by omega
  have b3 : m3 < 16 := by omega
  have b2 : m2 < 256 * 16 := by rw [q2]; exact lb6 h2 b3
  have b1 : m1 < 256 * (256 * 16) := by rw [q1]; exact lb6 h1 b2
  have b0 : n < 256 * (256 * (256 * 16)) := by rw [q0]; exact lb6 h0 b1
  have d1 : n / 2 ^ 8 = m1 := by rw [q0]; exact lb1 h0
  have d2 : (n + m1) / 2 ^ 16 = m2 + m3 := by rw [q0, q1, q2]; exact lb2 h0 h1 h2
  have d4 : (n + m1 + (m2 + m3)) % 2 ^ 6 = 0 + a0 + a1 + a2 + a3 := by
    have := ib4 (a0 := a0) (a1 := a1) (a2 := a2) (m1 := m1) (m2 := m2) (m3 := m3) h0 h1 h2 (by omega)
    rw [← q0, ← q1, ← q2] at this
    rw [← z3]
    exact this
  clear q0 q1 q2 q3
  have eD : iD (nI n) = nI (n + m1) := by
    unfold iD
    rw [show jushr (nI n) 8 = nI (n / 2 ^ 8) from jushrN (j := 8) (by omega) (by decide), nI_add, d1]
  rw [eD, show jushr (nI (n + m1)) 16 = nI ((n + m1) / 2 ^ 16) from jushrN (j := 16) (by omega) (by decide), nI_add, d2]
  show nI _ &&& nI (2 ^ 6 - 1) = _
  rw [fa_and, Nat.and_two_pow_sub_one_eq_mod, d4]
theorem intBits {n : Nat} (hn : n < 2 ^ 32) : F_Integer_bitCount (nI n) = nI (sB 32 (fun i => if n.testBit i = true then 1 else 0)) := by
  have m1 : (1431655765 : Int32) = nI (mmB 85 4) := by decide +kernel
  have m2 : (858993459 : Int32) = nI (mmB 51 4) := by decide +kernel
  have m3 : (252645135 : Int32) = nI (mmB 15 4) := by decide +kernel
  have b2 : mmB 51 4 < 2 ^ 30 := by decide +kernel
  obtain ⟨c, c1, c2, c3, c4⟩ := gB_all 4 n (by rw [show (256 : Nat) ^ 4 = 2 ^ 32 by decide]; exact hn)
  have eA : iA (nI n) = nI (g1B 4 n) := by
    unfold iA g1B
    have h2 : (n / 2 ^ 1) &&& mmB 85 4 ≤ n / 2 ^ 1 := Nat.and_le_left
    have h3 : n / 2 ^ 1 ≤ n := Nat.div_le_self _ _
    rw [show jushr (nI n) 1 = nI (n / 2 ^ 1) from jushrN (j := 1) hn (by decide), m1, fa_and, pk_sub (by omega), Nat.pow_one]
  have hA : g1B 4 n ≤ n := Nat.sub_le _ _
  have eB : iBb (nI (g1B 4 n)) = nI (g2B 4 (g1B 4 n)) := by
    unfold iBb g2B
    rw [show jushr (nI (g1B 4 n)) 2 = nI (g1B 4 n / 2 ^ 2) from jushrN (j := 2) (by omega) (by decide), m2, fa_and, fa_and, nI_add]
  have hB : g2B 4 (g1B 4 n) < 2 ^ 31 := by
    unfold g2B
    have h1 : (g1B 4 n &&& mmB 51 4) ≤ mmB 51 4 := Nat.and_le_right
    have h2 : (g1B 4 n / 4 &&& mmB 51 4) ≤ mmB 51 4 := Nat.and_le_right
    omega
  have eC : iC (nI (g2B 4 (g1B 4 n))) = nI (g3B 4 (g2B 4 (g1B 4 n))) := by
    unfold iC g3B
    rw [show jushr (nI (g2B 4 (g1B 4 n))) 4 = nI (g2B 4 (g1B 4 n) / 2 ^ 4) from jushrN (j := 4) (by omega) (by decide), m3, nI_add, fa_and]
  rw [ibc_eq, eA, eB, eC, c2]
  have s32 : sB 4 c = sB 32 (fun i => if n.testBit i = true then 1 else 0) := c3
  rw [← s32]
  have eh : hoB 4 c = c 0 + 256 * (c 1 + 256 * (c 2 + 256 * (c 3 + 256 * 0))) := rfl
  have es : sB 4 c = 0 + c 0 + c 1 + c 2 + c 3 := rfl
  rw [eh, es]
  exact ibF (c1 0) (c1 1) (c1 2) (c1 3) rfl rfl rfl rfl
/-- a mask of which each four bits have one at most -/
theorem sB_zero {f : Nat → Nat} : ∀ {n : Nat}, (∀ i, i < n → f i = 0) → sB n f = 0
  | 0, _ => rfl
  | n + 1, h => by rw [sB_s, sB_zero (n := n) (fun i hi => h i (by omega)), h n (by omega)]
theorem sB_one {f : Nat → Nat} {k : Nat} : ∀ {n : Nat}, k < n → (∀ i, i < n → i ≠ k → f i = 0) → sB n f = f k
  | 0, h, _ => absurd h (Nat.not_lt_zero k)
  | n + 1, h, hz => by
    rw [sB_s]
    by_cases e : k = n
    · subst e
      rw [sB_zero (fun i hi => hz i (by omega) (by omega)), Nat.zero_add]
    · rw [sB_one (n := n) (by omega) (fun i hi hk => hz i (by omega) hk), hz n (by omega) (fun q => e q.symm), Nat.add_zero]
theorem sB_four {R : Nat → Bool} {wy : Nat → Nat} (hw : ∀ v, wy v < 4) (w : Nat) : ∀ k, sB (4 * k) (fun i => if (R i && (decide (i / 4 < w) && decide (i % 4 = wy (i / 4)))) = true then 1 else 0) = sB k (fun v => if (decide (v < w) && R (4 * v + wy v)) = true then 1 else 0)
  | 0 => rfl
  | k + 1 => by
    rw [show 4 * (k + 1) = 4 * k + 4 by omega, sB_split (4 * k) 4, sB_four hw w k, sB_s k]
    congr 1
    have h4 := hw k
    have e : ∀ i, i < 4 → (4 * k + i) / 4 = k ∧ (4 * k + i) % 4 = i := fun i hi => ⟨by omega, by omega⟩
    rw [sB_one (k := wy k) h4 (fun i hi hne => by
      rw [(e i hi).1, (e i hi).2, decide_eq_false hne]; simp)]
    rw [(e _ h4).1, (e _ h4).2, decide_eq_true rfl, Bool.and_true, Bool.and_comm]
section AN
variable {N n : Nat} {pil : Nat → Bool} {place far : Nat → Int32}
def fcB (p q f g : Int32) : Bool := !(decide (F_Floor_goesBy p q f ≤ 0)) && !(decide (F_Floor_goesBy q p g ≤ 0))
theorem rdI_eq {m p f q g : Int32} : rdI pil m p f q g = ((!(decide (m < sqI p q)) && clB pil p q) && fcB p q f g) := by
  unfold rdI fcB
  cases decide (F_Floor_goesBy p q f ≤ 0) <;> cases decide (F_Floor_goesBy q p g ≤ 0) <;> cases decide (m < sqI p q) <;> cases clB pil p q <;> rfl
theorem join_ok (hN : 100 ≤ N) {w l : Nat} (hw : w < 6) (hl : l < w) (c : Nat → Nat → Bool) (rd : Nat → Int32) (hr : ∀ f, f < 4 → rd (4 * w + f) = nI (bm 24 (c f))) :
    ∃ rd', F_Turning_joinWays N (nI w) (nI l) rd place = some rd' ∧ (∀ f, f < 4 → rd' (4 * w + f) = nI (bm 24 (fun i => c f i || (decide (i / 4 = l) && fcB (place w) (place l) (nI f) (nI (i % 4)))))) ∧ (∀ k, (∀ f, f < 4 → k ≠ 4 * w + f) → rd' k = rd k) := by
  have inner : ∀ f, f < 4 → ∀ (fu g : Nat) (rd : Nat → Int32), g ≤ 4 → 4 - g < fu → rd (4 * w + f) = nI (bm 24 (fun i => c f i || (decide (i / 4 = l) && (decide (i % 4 < g) && fcB (place w) (place l) (nI f) (nI (i % 4)))))) →
      ∃ rd', Turning_joinWays_L12 (nI w) (nI f) (nI l) place fu (nI g) rd = some rd' ∧ rd' (4 * w + f) = nI (bm 24 (fun i => c f i || (decide (i / 4 = l) && fcB (place w) (place l) (nI f) (nI (i % 4))))) ∧ (∀ k, k ≠ 4 * w + f → rd' k = rd k) := by
    intro f hf fu
    induction fu with
    | zero => intro g _ _ h; omega
    | succ fu ih =>
      intro g rd hg hfu hr
      rw [Turning_joinWays_L12]
      by_cases e : g = 4
      · subst e
        refine ⟨rd, rfl, ?_, fun _ _ => rfl⟩
        rw [hr]
        have e : ∀ i : Nat, decide (i % 4 < 4) = true := fun i => decide_eq_true (Nat.mod_lt _ (by decide))
        simp only [e, Bool.true_and]
      · have g4 : ¬ (4 : Int32) ≤ nI g := nI_ge (b := 4) (by omega) (by omega)
        rw [if_neg g4, face_ok (show w < 8 by omega) (show l < 8 by omega), bO_s, nI_1]
        have same : fcB (place w) (place l) (nI f) (nI g) = false → rd (4 * w + f) = nI (bm 24 (fun i => c f i || (decide (i / 4 = l) && (decide (i % 4 < g + 1) && fcB (place w) (place l) (nI f) (nI (i % 4)))))) := by
          intro hq
          rw [hr]
          congr 1
          apply bm_cong
          intro i hi
          by_cases q : i % 4 = g
          · rw [q, hq]; simp
          · simp only [show i % 4 < g + 1 ↔ i % 4 < g by omega]
        show ∃ rd', (if bI (fcB (place w) (place l) (nI f) (nI g)) = 0 then _ else _) = some rd' ∧ _
        cases hfc : fcB (place w) (place l) (nI f) (nI g)
        · rw [bI_f, if_pos rfl]
          exact ih (g + 1) rd (by omega) (by omega) (same hfc)
        · have e4 : nI w * 4 + nI f = nI (4 * w + f) := by
            show nI w * nI 4 + nI f = _
            rw [pk_mul, nI_add, Nat.mul_comm]
          have e5 : nI l * 4 + nI g = nI (4 * l + g) := by
            show nI l * nI 4 + nI g = _
            rw [pk_mul, nI_add, Nat.mul_comm]
          rw [bI_t, if_neg n10, e4, e5, gd_ix (by omega) (by omega), nI_clamp (by omega), hr, mk_one (n := 24) (by omega) (by omega), mk_or]
          have eb : bm 24 (fun i => (c f i || (decide (i / 4 = l) && (decide (i % 4 < g) && fcB (place w) (place l) (nI f) (nI (i % 4))))) || decide (i = 4 * l + g)) = bm 24 (fun i => c f i || (decide (i / 4 = l) && (decide (i % 4 < g + 1) && fcB (place w) (place l) (nI f) (nI (i % 4))))) := by
            apply bm_cong
            intro i hi
            by_cases q : i = 4 * l + g
            · subst q
              have q1 : (4 * l + g) / 4 = l := by omega
              have q2 : (4 * l + g) % 4 = g := by omega
              rw [q1, q2, hfc]; simp
            · rw [decide_eq_false q, Bool.or_false]
              by_cases q1 : i / 4 = l
              · have : ¬ i % 4 = g := by omega
                simp only [show i % 4 < g + 1 ↔ i % 4 < g by omega]
              · rw [decide_eq_false q1, Bool.false_and, Bool.false_and]
          rw [eb]
          obtain ⟨rd', q1, q2, q3⟩ := ih (g + 1) (upd rd (4 * w + f) (nI (bm 24 (fun i => c f i || (decide (i / 4 = l) && (decide (i % 4 < g + 1) && fcB (place w) (place l) (nI f) (nI (i % 4)))))))) (by omega) (by omega) pk_us
          exact ⟨rd', q1, q2, fun k hk => (q3 k hk).trans (pk_un hk)⟩
  have outer : ∀ (fu f : Nat) (rd : Nat → Int32), f ≤ 4 → 4 - f < fu → (∀ f', f' < 4 → rd (4 * w + f') = nI (bm 24 (fun i => c f' i || (decide (f' < f) && (decide (i / 4 = l) && fcB (place w) (place l) (nI f') (nI (i % 4))))))) →
      ∃ rd', Turning_joinWays_L3 N (nI w) (nI l) place fu (nI f) rd = some rd' ∧ (∀ f', f' < 4 → rd' (4 * w + f') = nI (bm 24 (fun i => c f' i || (decide (i / 4 = l) && fcB (place w) (place l) (nI f') (nI (i % 4)))))) ∧ (∀ k, (∀ f', f' < 4 → k ≠ 4 * w + f') → rd' k = rd k) := by
    intro fu
    induction fu with
    | zero => intro f _ _ h; omega
    | succ fu ih =>
      intro f rd hf hfu hr
      rw [Turning_joinWays_L3]
      by_cases e : f = 4
      · subst e
        refine ⟨rd, rfl, ?_, fun _ _ => rfl⟩
        intro f' hf'
        rw [hr f' hf', decide_eq_true hf']
        simp only [Bool.true_and]
      · have g4 : ¬ (4 : Int32) ≤ nI f := nI_ge (b := 4) (by omega) (by omega)
        rw [if_neg g4]
        obtain ⟨rd1, q1, q2, q3⟩ := inner f (by omega) N 0 rd (by omega) (by omega) (by
          rw [hr f (by omega)]
          congr 1
          apply bm_cong
          intro i hi
          simp)
        have q1' : Turning_joinWays_L12 (nI w) (nI f) (nI l) place N 0 rd = some rd1 := q1
        rw [q1', bO_s, nI_1]
        obtain ⟨rd', z1, z2, z3⟩ := ih (f + 1) rd1 (by omega) (by omega) (by
          intro f' hf'
          by_cases q : f' = f
          · subst q
            rw [q2]
            congr 1
            apply bm_cong
            intro i hi
            rw [decide_eq_true (show f' < f' + 1 by omega), Bool.true_and]
          · rw [q3 _ (by omega), hr f' hf']
            simp only [show f' < f + 1 ↔ f' < f by omega])
        exact ⟨rd', z1, z2, fun k hk => (z3 k hk).trans (q3 k (hk f (by omega)))⟩
  unfold F_Turning_joinWays
  obtain ⟨rd', q1, q2, q3⟩ := outer N 0 rd (by omega) (by omega) (by
    intro f' hf'
    rw [hr f' hf']
    congr 1
    apply bm_cong
    intro i hi
    simp)
  have q1' : Turning_joinWays_L3 N (nI w) (nI l) place N 0 rd = some rd' := q1
  rw [q1', bO_s]
  exact ⟨rd', rfl, q2, q3⟩
theorem findR_ok (hN : 100 ≤ N) (hn : n ≤ 6) (readers : Nat → Int32) : ∃ rd, F_Turning_findReaders N (nI n) readers (lN (bm 64 pil)) place far = some rd ∧ ∀ w f, w < n → f < 4 → rd (4 * w + f) = nI (bm 24 (fun i => decide (i / 4 < w) && rdI pil (far 0) (place w) (nI f) (place (i / 4)) (nI (i % 4)))) := by
  have init : Turning_findReaders_L2 N 0 readers = some (fun k => if k < 24 then 0 else readers k) := by
    refine lp0 (L := fun f j => Turning_findReaders_L2 f (nI j) (fun k => if k < j then 0 else readers k)) (n := 24) (fun f j hj => ?_) (fun f => ?_) (by omega)
    · have g2 : ¬ (24 : Int32) ≤ nI j := nI_ge (b := 24) (by omega) (by omega)
      show Turning_findReaders_L2 (f + 1) (nI j) _ = Turning_findReaders_L2 f (nI (j + 1)) _
      rw [Turning_findReaders_L2, if_neg g2, gd_ix (by omega) (by omega), nI_clamp (by omega), nI_1]
      congr 1
      funext k
      by_cases e : k = j
      · subst e; rw [pk_us, if_pos (by omega)]
      · rw [pk_un e]; simp only [show k < j + 1 ↔ k < j by omega]
    · show Turning_findReaders_L2 (f + 1) (nI 24) _ = _
      rw [Turning_findReaders_L2]; rfl
  have inner : ∀ w, w < n → ∀ (fu l : Nat) (rd : Nat → Int32), l ≤ w → w - l < fu → (∀ f, f < 4 → rd (4 * w + f) = nI (bm 24 (fun i => decide (i / 4 < l) && rdI pil (far 0) (place w) (nI f) (place (i / 4)) (nI (i % 4))))) →
      ∃ rd', Turning_findReaders_L31 N (nI w) (lN (bm 64 pil)) place far fu (nI l) rd = some rd' ∧ (∀ f, f < 4 → rd' (4 * w + f) = nI (bm 24 (fun i => decide (i / 4 < w) && rdI pil (far 0) (place w) (nI f) (place (i / 4)) (nI (i % 4))))) ∧ (∀ k, (∀ f', f' < 4 → k ≠ 4 * w + f') → rd' k = rd k) := by
    intro w hw fu
    induction fu with
    | zero => intro l _ _ h; omega
    | succ fu ih =>
      intro l rd hl hfu hr
      rw [Turning_findReaders_L31]
      by_cases e : l = w
      · subst e
        rw [if_pos (nI_le (Nat.le_refl _) (by omega))]
        exact ⟨rd, rfl, hr, fun _ _ => rfl⟩
      · rw [if_neg (nI_ge (by omega) (by omega)), mayRead_ok hN (by omega) (by omega), bO_s, nI_1]
        have fin : ∀ (z : Bool), (!(decide (far 0 < sqI (place w) (place l))) && clB pil (place w) (place l)) = z → ∀ f, f < 4 → bm 24 (fun i => (decide (i / 4 < l) && rdI pil (far 0) (place w) (nI f) (place (i / 4)) (nI (i % 4))) || (z && (decide (i / 4 = l) && fcB (place w) (place l) (nI f) (nI (i % 4))))) = bm 24 (fun i => decide (i / 4 < l + 1) && rdI pil (far 0) (place w) (nI f) (place (i / 4)) (nI (i % 4))) := by
          intro z hz f hf
          apply bm_cong
          intro i hi
          by_cases q : i / 4 = l
          · rw [q, rdI_eq, hz]
            simp
          · simp only [show i / 4 < l + 1 ↔ i / 4 < l by omega, decide_eq_false q, Bool.false_and, Bool.and_false, Bool.or_false]
        cases hz : (!(decide (far 0 < sqI (place w) (place l))) && clB pil (place w) (place l))
        · rw [bI_f, if_pos rfl]
          refine ih (l + 1) rd (by omega) (by omega) (fun f hf => ?_)
          rw [hr f hf, ← fin false hz f hf]
          simp only [Bool.false_and, Bool.or_false]
        · rw [bI_t, if_neg n10]
          obtain ⟨rd1, q1, q2, q3⟩ := join_ok (place := place) hN (show w < 6 by omega) (show l < w by omega) (fun f i => decide (i / 4 < l) && rdI pil (far 0) (place w) (nI f) (place (i / 4)) (nI (i % 4))) rd hr
          rw [q1, bO_s]
          obtain ⟨rd', z1, z2, z3⟩ := ih (l + 1) rd1 (by omega) (by omega) (fun f hf => by
            rw [q2 f hf, ← fin true hz f hf]
            simp only [Bool.true_and])
          exact ⟨rd', z1, z2, fun k hk => (z3 k hk).trans (q3 k hk)⟩
  have outer : ∀ (fu w : Nat) (rd : Nat → Int32), w ≤ n → n - w < fu → (∀ w' f, w ≤ w' → w' < n → f < 4 → rd (4 * w' + f) = 0) → (∀ w' f, w' < w → f < 4 → rd (4 * w' + f) = nI (bm 24 (fun i => decide (i / 4 < w') && rdI pil (far 0) (place w') (nI f) (place (i / 4)) (nI (i % 4))))) →
      ∃ rd', Turning_findReaders_L23 N (nI n) (lN (bm 64 pil)) place far fu (nI w) rd = some rd' ∧ ∀ w' f, w' < n → f < 4 → rd' (4 * w' + f) = nI (bm 24 (fun i => decide (i / 4 < w') && rdI pil (far 0) (place w') (nI f) (place (i / 4)) (nI (i % 4)))) := by
    intro fu
    induction fu with
    | zero => intro w _ _ h; omega
    | succ fu ih =>
      intro w rd hw hfu h0 hr
      rw [Turning_findReaders_L23]
      by_cases e : w = n
      · subst e
        rw [if_pos (nI_le (Nat.le_refl _) (by omega))]
        exact ⟨rd, rfl, hr⟩
      · rw [if_neg (nI_ge (by omega) (by omega))]
        obtain ⟨rd1, q1, q2, q3⟩ := inner w (by omega) N 0 rd (by omega) (by omega) (fun f hf => by
          rw [h0 w f (Nat.le_refl w) (by omega) hf, (bm_zero (n := 24)).mpr (fun i hi => by simp)]; rfl)
        have q1' : Turning_findReaders_L31 N (nI w) (lN (bm 64 pil)) place far N 0 rd = some rd1 := q1
        rw [q1', bO_s, nI_1]
        refine ih (w + 1) rd1 (by omega) (by omega) (fun w' f z1 z2 z3 => ?_) (fun w' f z1 z2 => ?_)
        · rw [q3 _ (fun f' hf' => by omega)]
          exact h0 w' f (by omega) z2 z3
        · by_cases q : w' = w
          · subst q; exact q2 f z2
          · rw [q3 _ (fun f' hf' => by omega)]
            exact hr w' f (by omega) z2
  unfold F_Turning_findReaders
  rw [init, bO_s]
  obtain ⟨rd', q1, q2⟩ := outer N 0 (fun k => if k < 24 then 0 else readers k) (by omega) (by omega) (fun w' f _ z2 z3 => if_pos (by omega)) (fun w' f z => absurd z (Nat.not_lt_zero w'))
  have q1' : Turning_findReaders_L23 N (nI n) (lN (bm 64 pil)) place far N 0 (fun k => if k < 24 then 0 else readers k) = some rd' := q1
  rw [q1', bO_s]
  exact ⟨rd', rfl, q2⟩
/-- how many lesser ones read her -/
def prA (pil : Nat → Bool) (m : Int32) (place : Nat → Int32) (wy : Nat → Nat) (w : Nat) : Nat := sB w (fun v => if rdI pil m (place w) (nI (wy w)) (place v) (nI (wy v)) = true then 1 else 0)
/-- what is chosen, and the pairs, ahead of w -/
def cpA (pil : Nat → Bool) (m : Int32) (place : Nat → Int32) (wy : Nat → Nat) (ch pr : Nat → Int32) (w : Nat) : Prop := ch w = nI (bm 24 (fun i => decide (i / 4 < w) && decide (i % 4 = wy (i / 4)))) ∧ pr w = nI (sB w (prA pil m place wy))
theorem count_ok (hN : 100 ≤ N) (hn : n ≤ 6) {wy : Nat → Nat} (hwy : ∀ v, wy v < 4) {way rd ch pr : Nat → Int32} (hway : ∀ w, w < n → way w = nI (wy w)) (hrd : ∀ w f, w < n → f < 4 → rd (4 * w + f) = nI (bm 24 (fun i => decide (i / 4 < w) && rdI pil (far 0) (place w) (nI f) (place (i / 4)) (nI (i % 4))))) {c : Nat} (hc : c ≤ n) (hcp : ∀ w, w ≤ c → cpA pil (far 0) place wy ch pr w) :
    ∃ ch' pr', F_Turning_countPairs N (nI c) (nI n) way rd ch pr = some (ch', pr') ∧ ∀ w, w ≤ n → cpA pil (far 0) place wy ch' pr' w := by
  have key : ∀ (fu w : Nat) (ch pr : Nat → Int32), w ≤ n → n - w < fu → (∀ w', w' ≤ w → cpA pil (far 0) place wy ch pr w') → ∃ ch' pr', Turning_countPairs_L2 (nI n) way rd fu (nI w) ch pr = some (ch', pr') ∧ ∀ w', w' ≤ n → cpA pil (far 0) place wy ch' pr' w' := by
    intro fu
    induction fu with
    | zero => intro w _ _ _ h; omega
    | succ fu ih =>
      intro w ch pr hw hfu hcp
      rw [Turning_countPairs_L2]
      by_cases e : w = n
      · subst e
        rw [if_pos (nI_le (Nat.le_refl _) (by omega))]
        exact ⟨ch, pr, rfl, hcp⟩
      · have hwn : w < n := by omega
        have h4 := hwy w
        have e4 : nI w * 4 + nI (wy w) = nI (4 * w + wy w) := by
          show nI w * nI 4 + nI (wy w) = _
          rw [pk_mul, nI_add, Nat.mul_comm]
        rw [if_neg (nI_ge (by omega) (by omega)), gd_ix (by omega) (by omega), gd_ix (by omega) (by omega), nI_1, gd_ix (by omega) (by omega), nI_clamp (show w < 2 ^ 31 by omega), nI_clamp (show w + 1 < 2 ^ 31 by omega), hway w hwn, e4, gd_ix (by omega) (by omega), nI_clamp (show 4 * w + wy w < 2 ^ 31 by omega), pk_un (show w ≠ w + 1 by omega), (hcp w (Nat.le_refl w)).1, (hcp w (Nat.le_refl w)).2, hrd w (wy w) hwn h4, mk_and, mk_one (n := 24) (by omega) (by omega), mk_or]
        have eb : bm 24 (fun i => (decide (i / 4 < w) && decide (i % 4 = wy (i / 4))) || decide (i = 4 * w + wy w)) = bm 24 (fun i => decide (i / 4 < w + 1) && decide (i % 4 = wy (i / 4))) := by
          apply bm_cong
          intro i hi
          by_cases q : i = 4 * w + wy w
          · have q1 : i / 4 = w := by omega
            have q2 : i % 4 = wy w := by omega
            rw [decide_eq_true q, q1, q2]; simp
          · rw [decide_eq_false q, Bool.or_false]
            by_cases q1 : i / 4 = w
            · have : ¬ i % 4 = wy w := by omega
              rw [q1, decide_eq_false this, Bool.and_false, Bool.and_false]
            · simp only [show i / 4 < w + 1 ↔ i / 4 < w by omega]
        have ec : F_Integer_bitCount (nI (bm 24 (fun i => (decide (i / 4 < w) && rdI pil (far 0) (place w) (nI (wy w)) (place (i / 4)) (nI (i % 4))) && (decide (i / 4 < w) && decide (i % 4 = wy (i / 4)))))) = nI (prA pil (far 0) place wy w) := by
          have hlt := bm_lt (fun i => (decide (i / 4 < w) && rdI pil (far 0) (place w) (nI (wy w)) (place (i / 4)) (nI (i % 4))) && (decide (i / 4 < w) && decide (i % 4 = wy (i / 4)))) 24
          rw [intBits (by omega)]
          congr 1
          have e1 : sB 32 (fun i => if (bm 24 (fun i => (decide (i / 4 < w) && rdI pil (far 0) (place w) (nI (wy w)) (place (i / 4)) (nI (i % 4))) && (decide (i / 4 < w) && decide (i % 4 = wy (i / 4))))).testBit i = true then 1 else 0) = sB 24 (fun i => if (bm 24 (fun i => (decide (i / 4 < w) && rdI pil (far 0) (place w) (nI (wy w)) (place (i / 4)) (nI (i % 4))) && (decide (i / 4 < w) && decide (i % 4 = wy (i / 4))))).testBit i = true then 1 else 0) := sB_up (n := 24) 8 (fun i hi => by
              show (if _ = true then 1 else 0) = 0
              rw [bm_bit, decide_eq_false (show ¬ i < 24 by omega)]; rfl)
          rw [e1]
          have e2 := sB_four (R := fun i => decide (i / 4 < w) && rdI pil (far 0) (place w) (nI (wy w)) (place (i / 4)) (nI (i % 4))) hwy w 6
          have e3 : sB 24 (fun i => if (bm 24 (fun i => (decide (i / 4 < w) && rdI pil (far 0) (place w) (nI (wy w)) (place (i / 4)) (nI (i % 4))) && (decide (i / 4 < w) && decide (i % 4 = wy (i / 4))))).testBit i = true then 1 else 0) = sB (4 * 6) (fun i => if ((decide (i / 4 < w) && rdI pil (far 0) (place w) (nI (wy w)) (place (i / 4)) (nI (i % 4))) && (decide (i / 4 < w) && decide (i % 4 = wy (i / 4)))) = true then 1 else 0) := sB_cong (fun i hi => by
            rw [bm_bit, decide_eq_true (show i < 24 from hi), Bool.true_and])
          rw [e3, e2]
          unfold prA
          have e4 : sB 6 (fun v => if (decide (v < w) && (decide ((4 * v + wy v) / 4 < w) && rdI pil (far 0) (place w) (nI (wy w)) (place ((4 * v + wy v) / 4)) (nI ((4 * v + wy v) % 4)))) = true then 1 else 0) = sB w (fun v => if (decide (v < w) && (decide ((4 * v + wy v) / 4 < w) && rdI pil (far 0) (place w) (nI (wy w)) (place ((4 * v + wy v) / 4)) (nI ((4 * v + wy v) % 4)))) = true then 1 else 0) := by
            have := sB_up (f := fun v => if (decide (v < w) && (decide ((4 * v + wy v) / 4 < w) && rdI pil (far 0) (place w) (nI (wy w)) (place ((4 * v + wy v) / 4)) (nI ((4 * v + wy v) % 4)))) = true then 1 else 0) (n := w) (6 - w) (fun i hi => by
              show (if _ = true then 1 else 0) = 0
              rw [decide_eq_false (show ¬ i < w by omega)]; rfl)
            rw [show w + (6 - w) = 6 by omega] at this
            exact this
          refine Eq.trans e4 (sB_cong (fun v hv => ?_))
          have hv4 := hwy v
          rw [show (4 * v + wy v) / 4 = v by omega, show (4 * v + wy v) % 4 = wy v by omega, decide_eq_true hv, Bool.true_and, Bool.true_and]
        rw [eb, ec, nI_add]
        apply ih (w + 1) _ _ (by omega) (by omega)
        intro w' hw'
        by_cases q : w' = w + 1
        · subst q
          refine ⟨pk_us, ?_⟩
          rw [pk_us, sB_s]
        · unfold cpA
          rw [pk_un q, pk_un q]
          exact hcp w' (by omega)
  unfold F_Turning_countPairs
  obtain ⟨ch', pr', q1, q2⟩ := key N c ch pr hc (by omega) hcp
  rw [q1, bO_s]
  exact ⟨ch', pr', rfl, q2⟩
end AN
