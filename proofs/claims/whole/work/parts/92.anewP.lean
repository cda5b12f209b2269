/-- digits to the base 4, and the next number's -/
def d4A (c u : Nat) : Nat := c / 4 ^ u % 4
theorem d4_lt (c u : Nat) : d4A c u < 4 := Nat.mod_lt _ (by decide)
theorem d4_q {c t : Nat} (h : c % 4 ^ t = 4 ^ t - 1) : ∃ q, c / 4 ^ t = q ∧ c + 1 = 4 ^ t * (q + 1) := by
  have hp : 0 < 4 ^ t := Nat.pow_pos (by decide)
  refine ⟨c / 4 ^ t, rfl, ?_⟩
  have := Nat.div_add_mod c (4 ^ t)
  rw [Nat.mul_add, Nat.mul_one]
  omega
theorem d4_lo {c t u : Nat} (h : c % 4 ^ t = 4 ^ t - 1) (hu : u < t) : d4A (c + 1) u = 0 := by
  obtain ⟨q, -, e⟩ := d4_q h
  unfold d4A
  have e2 : 4 ^ t = 4 ^ u * (4 * 4 ^ (t - u - 1)) := by
    rw [← Nat.mul_assoc, ← Nat.pow_succ, ← Nat.pow_add]
    congr 1
    omega
  rw [e, e2, Nat.mul_assoc, Nat.mul_div_cancel_left _ (Nat.pow_pos (by decide)), Nat.mul_assoc, Nat.mul_mod_right]
theorem d4_at {c t : Nat} (h : c % 4 ^ t = 4 ^ t - 1) (hd : d4A c t < 3) : d4A (c + 1) t = d4A c t + 1 := by
  obtain ⟨q, e1, e⟩ := d4_q h
  unfold d4A at *
  rw [e, Nat.mul_div_cancel_left _ (Nat.pow_pos (by decide)), e1]
  rw [e1] at hd
  omega
theorem d4_hi {c t u : Nat} (h : c % 4 ^ t = 4 ^ t - 1) (hd : d4A c t < 3) (hu : t < u) : d4A (c + 1) u = d4A c u := by
  obtain ⟨q, e1, e⟩ := d4_q h
  unfold d4A at *
  have e2 : 4 ^ u = 4 ^ t * (4 * 4 ^ (u - t - 1)) := by
    rw [← Nat.mul_assoc, ← Nat.pow_succ, ← Nat.pow_add]
    congr 1
    omega
  rw [e1] at hd
  rw [e2, ← Nat.div_div_eq_div_mul, ← Nat.div_div_eq_div_mul, ← Nat.div_div_eq_div_mul, ← Nat.div_div_eq_div_mul, e, Nat.mul_div_cancel_left _ (Nat.pow_pos (by decide)), e1]
  rw [show (q + 1) / 4 = q / 4 by omega]
theorem d4_up {c t : Nat} (h : c % 4 ^ t = 4 ^ t - 1) (hd : d4A c t = 3) : c % 4 ^ (t + 1) = 4 ^ (t + 1) - 1 := by
  have hp : 0 < 4 ^ t := Nat.pow_pos (by decide)
  have e : c % 4 ^ (t + 1) = c % 4 ^ t + 4 ^ t * (c / 4 ^ t % 4) := by rw [Nat.pow_succ, Nat.mod_mul]
  unfold d4A at hd
  rw [e, h, hd, Nat.pow_succ]
  omega
def wyA (n c v : Nat) : Nat := d4A c (n - 1 - v)
theorem next_ok {N n c : Nat} (hN : 100 ≤ N) (hn : n ≤ 6) (hc : c < 4 ^ n) {way : Nat → Int32} (hw : ∀ v, v < n → way v = nI (wyA n c v)) :
    ∃ k way', F_Turning_turnToNext N (nI n) way = some (nI k, way') ∧ k ≤ n ∧ (c + 1 < 4 ^ n → (∀ v, v < n → way' v = nI (wyA n (c + 1) v)) ∧ (∀ v, v < k → wyA n (c + 1) v = wyA n c v)) := by
  have key : ∀ (m f : Nat) (way : Nat → Int32), m ≤ n → m < f → (∀ v, v < m → way v = nI (wyA n c v)) → (∀ v, m ≤ v → v < n → way v = 0) → c % 4 ^ (n - m) = 4 ^ (n - m) - 1 →
      (∃ way', Turning_turnToNext_L4 f (nI m - 1) way = some (.inr way') ∧ c + 1 = 4 ^ n) ∨ (∃ k way', Turning_turnToNext_L4 f (nI m - 1) way = some (.inl (nI k, way')) ∧ k ≤ n ∧ (∀ v, v < n → way' v = nI (wyA n (c + 1) v)) ∧ (∀ v, v < k → wyA n (c + 1) v = wyA n c v)) := by
    intro m
    induction m with
    | zero =>
      intro f way _ hf _ _ hmod
      obtain ⟨f, rfl⟩ : ∃ z, f = z + 1 := ⟨f - 1, by omega⟩
      left
      refine ⟨way, by rw [Turning_turnToNext_L4, if_pos m1_lt0], ?_⟩
      rw [Nat.sub_zero, Nat.mod_eq_of_lt hc] at hmod
      have : 0 < 4 ^ n := Nat.pow_pos (by decide)
      omega
    | succ m ih =>
      intro f way hm hf hv h0 hmod
      obtain ⟨f, rfl⟩ : ∃ z, f = z + 1 := ⟨f - 1, by omega⟩
      have hd := d4_lt c (n - (m + 1))
      have hwm : way m = nI (d4A c (n - (m + 1))) := by
        rw [hv m (by omega)]
        unfold wyA
        rw [show n - 1 - m = n - (m + 1) by omega]
      rw [Turning_turnToNext_L4, nI_pred, if_neg (nI_pos (by omega)), gd_ix (by omega) (by omega), nI_clamp (by omega), hwm, dec1]
      by_cases e : d4A c (n - (m + 1)) = 3
      · have c3 : (3 : Int32) ≤ nI (d4A c (n - (m + 1))) := nI_le (a := 3) (by omega) (by omega)
        rw [if_pos c3]
        apply ih f _ (by omega) (by omega)
        · intro v hvm
          rw [pk_un (by omega)]
          exact hv v (by omega)
        · intro v h1 h2
          by_cases q : v = m
          · subst q; rw [pk_us]
          · rw [pk_un q]; exact h0 v (by omega) h2
        · rw [show n - m = n - (m + 1) + 1 by omega]
          exact d4_up hmod e
      · have c3 : ¬ (3 : Int32) ≤ nI (d4A c (n - (m + 1))) := nI_ge (b := 3) (by omega) (by omega)
        rw [if_neg c3, nI_1]
        right
        refine ⟨m, _, rfl, by omega, ?_, ?_⟩
        · intro v hvn
          unfold wyA
          by_cases q : v = m
          · subst q
            rw [pk_us, show n - 1 - v = n - (v + 1) by omega, d4_at hmod (by omega)]
          · rw [pk_un q]
            by_cases q2 : v < m
            · rw [hv v (by omega)]
              unfold wyA
              rw [d4_hi hmod (by omega) (by omega)]
            · rw [h0 v (by omega) hvn, d4_lo hmod (by omega)]
              rfl
        · intro v hvm
          unfold wyA
          exact d4_hi hmod (by omega) (by omega)
  unfold F_Turning_turnToNext
  rcases key n N way (Nat.le_refl n) (by omega) hw (fun v h1 h2 => by omega) (by rw [Nat.sub_self, Nat.pow_zero, Nat.mod_one]) with ⟨way', q1, q2⟩ | ⟨k, way', q1, q2, q3, q4⟩
  · rw [q1, bT_r]
    exact ⟨0, way', rfl, Nat.zero_le _, fun h => by omega⟩
  · rw [q1, bT_l]
    exact ⟨k, way', rfl, q2, fun _ => ⟨q3, q4⟩⟩
theorem Rfaces_ok {N n c : Nat} {b faces : Nat → Int32} (hN : 100 ≤ N) (hn : n ≤ 6) (hc : c < 4 ^ n) (hb1 : b 1 = nI n) : ∃ fs, R_anew_L63 b (nI c) N 0 faces = some fs ∧ ∀ v, v < n → fs v = nI (wyA n c v) := by
  have hc2 : 4 ^ n ≤ 4 ^ 6 := Nat.pow_le_pow_right (by decide) hn
  refine ⟨fun v => if v < n then nI (wyA n c v) else faces v, ?_, fun v hv => if_pos hv⟩
  refine lp0 (L := fun f j => R_anew_L63 b (nI c) f (nI j) (fun v => if v < j then nI (wyA n c v) else faces v)) (n := n) (fun f j hj => ?_) (fun f => ?_) (by omega)
  · show R_anew_L63 b (nI c) (f + 1) (nI j) _ = R_anew_L63 b (nI c) f (nI (j + 1)) _
    have e1 : 2 * (nI n - 1 - nI j) = nI (2 * (n - 1 - j)) := by
      show nI 2 * (nI n - nI 1 - nI j) = _
      rw [pk_sub (by omega), pk_sub (by omega), pk_mul]
    have e2 : nI (c / 2 ^ (2 * (n - 1 - j))) &&& 3 = nI (wyA n c j) := by
      show nI _ &&& nI (2 ^ 2 - 1) = _
      rw [fa_and, Nat.and_two_pow_sub_one_eq_mod, Nat.pow_mul]
      rfl
    rw [R_anew_L63, hb1, if_neg (nI_ge (by omega) (by omega)), gd_ix (by omega) (by omega), nI_clamp (by omega), e1, jshrN (by omega) (by omega), e2, nI_1]
    congr 1
    funext v
    by_cases e : v = j
    · subst e; rw [pk_us, if_pos (by omega)]
    · rw [pk_un e]; simp only [show v < j + 1 ↔ v < j by omega]
  · show R_anew_L63 b (nI c) (f + 1) (nI n) _ = _
    rw [R_anew_L63, hb1, if_pos (nI_le (Nat.le_refl n) (by omega))]
theorem Rpairs_ok {N n : Nat} {pil : Nat → Bool} {b fs : Nat → Int32} {wy : Nat → Nat} (hN : 100 ≤ N) (hn : n ≤ 6) (hb1 : b 1 = nI n) (hb : ∀ k, k < 64 → b (10 + k) = bI (pil k)) (hf : ∀ v, v < n → fs v = nI (wy v)) : F_R_pairs N b fs = some (nI (sB n (prA pil (b 6) (fun w => b (80 + 4 * w)) wy))) := by
  unfold F_R_pairs
  have inner : ∀ (a z : Nat), a < n → R_pairs_L16 N (nI a) b fs N (nI z) 0 = some (nI (z + prA pil (b 6) (fun w => b (80 + 4 * w)) wy a)) := by
    intro a z ha
    have t := lp0 (L := fun f j => R_pairs_L16 N (nI a) b fs f (nI (z + sB j (fun v => if rdI pil (b 6) (b (80 + 4 * a)) (nI (wy a)) (b (80 + 4 * v)) (nI (wy v)) = true then 1 else 0))) (nI j)) (n := a) (N := N) (r := nI (z + prA pil (b 6) (fun w => b (80 + 4 * w)) wy a)) (fun f j hj => by
        show R_pairs_L16 N (nI a) b fs (f + 1) (nI (z + sB j _)) (nI j) = R_pairs_L16 N (nI a) b fs f (nI (z + sB (j + 1) _)) (nI (j + 1))
        rw [R_pairs_L16, sB_s, if_neg (nI_ge (by omega) (by omega)), RplaceOf_ok (by omega), bO_s, gd_ix (by omega) (by omega), RplaceOf_ok (by omega), bO_s, gd_ix (by omega) (by omega), nI_clamp (show a < 2 ^ 31 by omega), nI_clamp (show j < 2 ^ 31 by omega), hf a ha, hf j (by omega), RareReading_ok hN hb, bO_s, nI_1]
        cases rdI pil (b 6) (b (80 + 4 * a)) (nI (wy a)) (b (80 + 4 * j)) (nI (wy j))
        · rw [bI_f, if_pos rfl, if_neg nft]
          congr 1
          exact nI_add _ 0
        · rw [bI_t, if_neg n10, if_pos rfl, nI_1, Nat.add_assoc]) (fun f => by
        show R_pairs_L16 N (nI a) b fs (f + 1) _ (nI a) = _
        rw [R_pairs_L16, if_pos (nI_le (Nat.le_refl a) (by omega))]
        rfl) (by omega)
    exact t
  have c : R_pairs_L4 N b fs N 0 0 = some (nI (sB n (prA pil (b 6) (fun w => b (80 + 4 * w)) wy))) := by
    refine lp0 (L := fun f j => R_pairs_L4 N b fs f (nI (sB j (prA pil (b 6) (fun w => b (80 + 4 * w)) wy))) (nI j)) (n := n) (fun f j hj => ?_) (fun f => ?_) (by omega)
    · show R_pairs_L4 N b fs (f + 1) (nI (sB j _)) (nI j) = R_pairs_L4 N b fs f (nI (sB (j + 1) _)) (nI (j + 1))
      rw [R_pairs_L4, sB_s, hb1, if_neg (nI_ge (by omega) (by omega)), inner j _ hj, bO_s, nI_1]
    · show R_pairs_L4 N b fs (f + 1) _ (nI n) = _
      rw [R_pairs_L4, hb1, if_pos (nI_le (Nat.le_refl n) (by omega))]
  rw [c, bO_s]
theorem Rcopy1 {N n : Nat} {b fs bf : Nat → Int32} (hN : 100 ≤ N) (hn : n ≤ 6) (hb1 : b 1 = nI n) : R_anew_L141 b fs N 0 bf = some (fun v => if v < n then fs v else bf v) ∧ R_anew_L141_2 b fs N 0 bf = some (fun v => if v < n then fs v else bf v) ∧ R_anew_L141_3 b fs N 0 bf = some (fun v => if v < n then fs v else bf v) := by
  have st : ∀ j, j < n → upd (fun v => if v < j then fs v else bf v) j (fs j) = fun v => if v < j + 1 then fs v else bf v := by
    intro j hj
    funext v
    by_cases e : v = j
    · subst e; rw [pk_us, if_pos (by omega)]
    · rw [pk_un e]; simp only [show v < j + 1 ↔ v < j by omega]
  refine ⟨?_, ?_, ?_⟩
  · refine lp0 (L := fun f j => R_anew_L141 b fs f (nI j) (fun v => if v < j then fs v else bf v)) (n := n) (fun f j hj => ?_) (fun f => ?_) (by omega)
    · show R_anew_L141 b fs (f + 1) (nI j) _ = R_anew_L141 b fs f (nI (j + 1)) _
      rw [R_anew_L141, hb1, if_neg (nI_ge (by omega) (by omega)), gd_ix (by omega) (by omega), nI_clamp (by omega), nI_1, st j hj]
    · show R_anew_L141 b fs (f + 1) (nI n) _ = _
      rw [R_anew_L141, hb1, if_pos (nI_le (Nat.le_refl n) (by omega))]
  · refine lp0 (L := fun f j => R_anew_L141_2 b fs f (nI j) (fun v => if v < j then fs v else bf v)) (n := n) (fun f j hj => ?_) (fun f => ?_) (by omega)
    · show R_anew_L141_2 b fs (f + 1) (nI j) _ = R_anew_L141_2 b fs f (nI (j + 1)) _
      rw [R_anew_L141_2, hb1, if_neg (nI_ge (by omega) (by omega)), gd_ix (by omega) (by omega), nI_clamp (by omega), nI_1, st j hj]
    · show R_anew_L141_2 b fs (f + 1) (nI n) _ = _
      rw [R_anew_L141_2, hb1, if_pos (nI_le (Nat.le_refl n) (by omega))]
  · refine lp0 (L := fun f j => R_anew_L141_3 b fs f (nI j) (fun v => if v < j then fs v else bf v)) (n := n) (fun f j hj => ?_) (fun f => ?_) (by omega)
    · show R_anew_L141_3 b fs (f + 1) (nI j) _ = R_anew_L141_3 b fs f (nI (j + 1)) _
      rw [R_anew_L141_3, hb1, if_neg (nI_ge (by omega) (by omega)), gd_ix (by omega) (by omega), nI_clamp (by omega), nI_1, st j hj]
    · show R_anew_L141_3 b fs (f + 1) (nI n) _ = _
      rw [R_anew_L141_3, hb1, if_pos (nI_le (Nat.le_refl n) (by omega))]
/-- the tie with what the class's turning keeps -/
def Rel2 (x : T_S) (y : T_R) : Prop := Rel x y ∧ Turning_chosen (S_turning x) 0 = 0 ∧ Turning_pairs (S_turning x) 0 = 0
theorem cpA_0 {pil : Nat → Bool} {m : Int32} {place : Nat → Int32} {wy : Nat → Nat} {ch pr : Nat → Int32} : cpA pil m place wy ch pr 0 ↔ ch 0 = 0 ∧ pr 0 = 0 := by
  unfold cpA
  rw [(bm_zero (n := 24) (c := fun i => decide (i / 4 < 0) && decide (i % 4 = wy (i / 4)))).mpr (fun i hi => by simp)]
  exact Iff.rfl
theorem P_anew_ok {N : Nat} (hN : 5000 ≤ N) : P_anew N Rel2 := by
  intro x y p q hh
  obtain ⟨h, t1, t2⟩ := hh
  obtain ⟨pil, n, hn, h1, h2, h3, h4, h5, h6, h7, h8⟩ := h.1.1.perc
  unfold F_S_anew F_R_anew
  rw [in_lit p (a' := 0) (b' := 1) (by decide) (by decide), RisW_eq, isW_eq, h4]
  have hw3 : Floor_weavers (Shed_floor (S_now x)) = nI n := h3
  rcases sw_cases p 0 1 (ia := 0) (ib := 1) rfl rfl (by omega) (by omega) with ⟨hp, _⟩ | ⟨hp, m, _, hm, rfl⟩
  · rw [hp, if_pos rfl, if_pos rfl]; exact ⟨_, _, rfl, rfl, rfl, h, t1, t2⟩
  rw [hp, if_neg n10, if_neg n10, h3]
  -- the question
  have hq : (F_S_within q (-1) (nI n - 1) = 0 ∧ ¬ q = -1 ∧ F_S_within q 0 (nI n - 1) = 0) ∨ (F_S_within q (-1) (nI n - 1) = 1 ∧ (q = -1 ∨ (¬ q = -1 ∧ ∃ w, w < n ∧ q = nI w))) := by
    have em1 : (-1 : Int32).toInt = -1 := by decide
    have en : (nI n - 1 : Int32).toInt = (n : Int) - 1 := pk_sub_toInt (a := n) (b := 1) (by omega) (by omega)
    by_cases e : q = -1
    · right
      refine ⟨?_, Or.inl e⟩
      unfold F_S_within
      rw [if_neg (by rw [fa_lt, e]; omega), if_neg (by rw [fa_lt, e, em1, en]; omega)]
    · have e2 : q.toInt ≠ -1 := fun z => e ((fa_eq q (-1)).mpr (z.trans em1.symm))
      rcases wv_cases q (n := n) (by omega) with ⟨z1, z2⟩ | ⟨z1, w, hw, rfl⟩
      · left
        refine ⟨?_, e, z1⟩
        unfold F_S_within
        by_cases c1 : q < -1
        · rw [if_pos c1]
        · rw [if_neg c1]
          by_cases c2 : nI n - 1 < q
          · rw [if_pos c2]
          · exfalso
            rw [fa_lt, em1] at c1
            rw [fa_lt, en] at c2
            exact z2 ⟨q.toInt.toNat, by omega, by rw [fa_eq, nI_toInt (by omega)]; omega⟩
      · right
        refine ⟨?_, Or.inr ⟨e, w, hw, rfl⟩⟩
        unfold F_S_within
        rw [if_neg (by rw [fa_lt, em1, nI_toInt (by omega)]; omega), if_neg (by rw [fa_lt, en, nI_toInt (by omega)]; omega)]
  have hgo : (F_S_within q (-1) (nI n - 1) = 1 ∧ (q = -1 ∨ (¬ q = -1 ∧ ∃ w, w < n ∧ q = nI w))) ∨ (F_S_within q (-1) (nI n - 1) = 0 ∧ ¬ q = -1 ∧ F_S_within q 0 (nI n - 1) = 0) := hq.symm
  rcases hgo with ⟨w1, w2⟩ | ⟨w1, w2, w3⟩
  · rw [w1, if_neg n10]
    have eask : (if q = -1 then some (Sum.inr () : (Int32 × (Nat → Int32) × (Nat → Int32)) ⊕ Unit) else if F_S_within q 0 (nI n - 1) = 0 then some (.inl (-10, R_faces y, R_bestFaces y)) else some (.inr ())) = some (.inr ()) := by
      rcases w2 with z | ⟨z, w, hw, rfl⟩
      · rw [if_pos z]
      · rw [if_neg z, wv_t hw (by omega), if_neg n10]
    rw [eask, bT_r]
    simp only [u0]
    by_cases h6n : n ≤ 6
    · have c6 : nI n ≤ 6 := nI_le (b := 6) h6n (by omega)
      rw [if_pos c6, if_pos c6]
      have ey : (if nI m = 1 then some (1 : Int32) else some 0) = some (nI m) := by
        have hm2 : m = 0 ∨ m = 1 := by omega
        rcases hm2 with rfl | rfl <;> rfl
      rw [ey, bO_s]
      unfold F_Turning_search
      have emin : jmin (nI n) 6 = nI n := by
        unfold jmin
        rw [if_neg (show ¬ (6 : Int32) < nI n from nI_nlt (b := n) (a := 6) h6n (by omega))]
      rw [emin, h1]
      obtain ⟨rd, r1, r2⟩ := findR_ok (N := N) (pil := pil) (place := Floor_place (Shed_floor (S_now x))) (far := Floor_farSquare (Shed_floor (S_now x))) (by omega) h6n (Turning_readers (S_turning x))
      rw [r1, bO_s]
      have winit : Turning_search_L19 N 0 (Turning_way (S_turning x)) = some (fun v => if v < 6 then 0 else Turning_way (S_turning x) v) := by
        refine lp0 (L := fun f j => Turning_search_L19 f (nI j) (fun v => if v < j then 0 else Turning_way (S_turning x) v)) (n := 6) (fun f j hj => ?_) (fun f => ?_) (by omega)
        · have g2 : ¬ (6 : Int32) ≤ nI j := nI_ge (b := 6) (by omega) (by omega)
          show Turning_search_L19 (f + 1) (nI j) _ = Turning_search_L19 f (nI (j + 1)) _
          rw [Turning_search_L19, if_neg g2, gd_ix (by omega) (by omega), nI_clamp (by omega), nI_1]
          congr 1
          funext k
          by_cases e : k = j
          · subst e; rw [pk_us, if_pos (by omega)]
          · rw [pk_un e]; simp only [show k < j + 1 ↔ k < j by omega]
        · show Turning_search_L19 (f + 1) (nI 6) _ = _
          rw [Turning_search_L19]; rfl
      rw [winit, bO_s]
      have hpw : 4 ^ n ≤ 4 ^ 6 := Nat.pow_le_pow_right (by decide) h6n
      have hpw0 : 0 < 4 ^ n := Nat.pow_pos (by decide)
      have e2n : jshl 1 (2 * nI n) = nI (4 ^ n) := by
        have : 2 * nI n = nI (2 * n) := pk_mul 2 n
        rw [this, jshl1 (2 * n) (by omega), Nat.pow_mul]
      have hpr : ∀ wy : Nat → Nat, sB n (prA pil (Floor_farSquare (Shed_floor (S_now x)) 0) (Floor_place (Shed_floor (S_now x))) wy) = sB n (prA pil (R_book y 6) (fun w => R_book y (80 + 4 * w)) wy) := by
        intro wy
        apply sB_cong
        intro w hw
        unfold prA
        apply sB_cong
        intro v hv
        rw [h7, h5 w hw, h5 v (by omega)]
      have hprb : ∀ wy : Nat → Nat, sB n (prA pil (R_book y 6) (fun w => R_book y (80 + 4 * w)) wy) ≤ 36 := by
        intro wy
        have := sB_le (n := n) (k := 6) (f := prA pil (R_book y 6) (fun w => R_book y (80 + 4 * w)) wy) (fun w hw => by
          have := sB_le (n := w) (k := 1) (f := fun v => if rdI pil (R_book y 6) (R_book y (80 + 4 * w)) (nI (wy w)) (R_book y (80 + 4 * v)) (nI (wy v)) = true then 1 else 0) (fun v _ => by
            show (if _ = true then 1 else 0) ≤ 1
            split <;> omega)
          exact Nat.le_trans this (by omega))
        omega
      have key : ∀ (d c f g k : Nat) (way bw ch pr faces bf : Nat → Int32) (bp best : Int32), c + d = 4 ^ n → d < f → d < g → k ≤ n → (c < 4 ^ n → (∀ v, v < n → way v = nI (wyA n c v)) ∧ (∀ w, w ≤ k → cpA pil (Floor_farSquare (Shed_floor (S_now x)) 0) (Floor_place (Shed_floor (S_now x))) (wyA n c) ch pr w)) → (ch 0 = 0 ∧ pr 0 = 0) → ((c = 0 ∧ best = -1) ∨ (¬ c = 0 ∧ (∃ z, z ≤ 36 ∧ best = nI z ∧ bp = nI z) ∧ ∀ v, v < n → bw v = bf v)) →
          ∃ way' bw' ch' pr' bp' best' faces' bf', Turning_search_L46 N (nI n) rd (nI m) f (nI k) (nI c) way bw ch pr bp = some (way', bw', ch', pr', bp') ∧ R_anew_L45 N (R_book y) (nI m) g best (nI c) faces bf = some (best', faces', bf') ∧ (ch' 0 = 0 ∧ pr' 0 = 0) ∧ (4 ^ n ≠ 0 → best' = bp' ∧ ∀ v, v < n → bw' v = bf' v) := by
        intro d
        induction d with
        | zero =>
          intro c f g k way bw ch pr faces bf bp best hc hf hg hk hinv h00 hbest
          obtain ⟨f, rfl⟩ : ∃ z, f = z + 1 := ⟨f - 1, by omega⟩
          obtain ⟨g, rfl⟩ : ∃ z, g = z + 1 := ⟨g - 1, by omega⟩
          rw [Turning_search_L46, R_anew_L45, h4, e2n, if_pos (nI_le (by omega) (by omega)), if_pos (nI_le (by omega) (by omega))]
          refine ⟨way, bw, ch, pr, bp, best, faces, bf, rfl, rfl, h00, fun _ => ?_⟩
          rcases hbest with ⟨z1, z2⟩ | ⟨z1, ⟨z, z2, z3, z4⟩, z5⟩
          · omega
          · exact ⟨by rw [z3, z4], z5⟩
        | succ d ih =>
          intro c f g k way bw ch pr faces bf bp best hc hf hg hk hinv h00 hbest
          obtain ⟨f, rfl⟩ : ∃ z, f = z + 1 := ⟨f - 1, by omega⟩
          obtain ⟨g, rfl⟩ : ∃ z, g = z + 1 := ⟨g - 1, by omega⟩
          have hcn : c < 4 ^ n := by omega
          obtain ⟨i1, i2⟩ := hinv hcn
          obtain ⟨ch', pr', q1, q2⟩ := count_ok (N := N) (pil := pil) (place := Floor_place (Shed_floor (S_now x))) (far := Floor_farSquare (Shed_floor (S_now x))) (by omega) h6n (wy := wyA n c) (fun v => d4_lt _ _) i1 r2 hk i2
          obtain ⟨k', way', n1, n2, n3⟩ := next_ok (N := N) (by omega) h6n hcn i1
          obtain ⟨fs, s1, s2⟩ := Rfaces_ok (N := N) (faces := faces) (by omega) h6n hcn h4
          have hcp0 := cpA_0.mp (q2 0 (Nat.zero_le _))
          have hprn : pr' n = nI (sB n (prA pil (R_book y 6) (fun w => R_book y (80 + 4 * w)) (wyA n c))) := by rw [(q2 n (Nat.le_refl n)).2, hpr]
          have hbd := hprb (wyA n c)
          rw [Turning_search_L46, R_anew_L45, h4, e2n, if_neg (nI_ge (by omega) (by omega)), if_neg (nI_ge (by omega) (by omega)), q1, bO_s, s1, bO_s, Rpairs_ok (by omega) h6n h4 h2 s2, bO_s, nI_1]
          simp only [u2]
          rw [gd_ix (by omega) (by omega), nI_clamp (by omega), hprn, n1]
          simp only [bO_s, u2]
          generalize sB n (prA pil (R_book y 6) (fun w => R_book y (80 + 4 * w)) (wyA n c)) = z at hbd
          obtain ⟨cp1, cp2, cp3⟩ := Rcopy1 (N := N) (fs := fs) (bf := bf) (by omega) h6n h4
          have hcpy : ∀ v, v < n → va_cpy way bw 0 0 6 v = (fun v => if v < n then fs v else bf v) v := by
            intro v hv
            show _ = (if v < n then fs v else bf v)
            rw [if_pos hv, sb_cpy0 (by omega), i1 v hv, s2 v hv]
          have go : ∀ (bp1 best1 : Int32) (bw1 bf1 : Nat → Int32), (∃ z, z ≤ 36 ∧ best1 = nI z ∧ bp1 = nI z) → (∀ v, v < n → bw1 v = bf1 v) → ∃ way'' bw' ch'' pr'' bp' best' faces' bf', Turning_search_L46 N (nI n) rd (nI m) f (nI k') (nI (c + 1)) way' bw1 ch' pr' bp1 = some (way'', bw', ch'', pr'', bp') ∧ R_anew_L45 N (R_book y) (nI m) g best1 (nI (c + 1)) fs bf1 = some (best', faces', bf') ∧ (ch'' 0 = 0 ∧ pr'' 0 = 0) ∧ (4 ^ n ≠ 0 → best' = bp' ∧ ∀ v, v < n → bw' v = bf' v) := by
            intro bp1 best1 bw1 bf1 hb1 hb2
            refine ih (c + 1) f g k' way' bw1 ch' pr' fs bf1 bp1 best1 (by omega) (by omega) (by omega) n2 (fun hlt => ?_) hcp0 (Or.inr ⟨by omega, hb1, hb2⟩)
            obtain ⟨a1, a2⟩ := n3 hlt
            refine ⟨a1, fun w hw => ?_⟩
            obtain ⟨b1, b2⟩ := q2 w (by omega)
            refine ⟨?_, ?_⟩
            · rw [b1]
              congr 1
              apply bm_cong
              intro i hi
              by_cases e : i / 4 < w
              · rw [a2 (i / 4) (by omega)]
              · rw [decide_eq_false e]; rfl
            · rw [b2]
              congr 1
              apply sB_cong
              intro w' hw'
              unfold prA
              apply sB_cong
              intro v hv
              rw [a2 w' (by omega), a2 v (by omega)]
          rcases hbest with ⟨z1, z2⟩ | ⟨z1, ⟨b, z2, z3, z4⟩, z5⟩
          · have c0 : nI c = 0 := by rw [z1]; rfl
            rw [if_pos c0, if_pos z2, cp1, bO_s]
            simp only [bO_s]
            exact go _ _ _ _ ⟨z, hbd, rfl, rfl⟩ hcpy
          · have c0 : ¬ nI c = 0 := nI_ne0 (by omega) (by omega)
            rw [if_neg c0, z3, z4, if_neg (nI_nm1 (by omega))]
            have hm2 : m = 0 ∨ m = 1 := by omega
            rcases hm2 with rfl | rfl
            · rw [if_pos nI_0, if_pos nI_0]
              by_cases e : z ≤ b
              · have e1 : nI z ≤ nI b := nI_le e (by omega)
                rw [if_pos e1, if_pos e1]
                simp only [bO_s]
                exact go _ _ _ _ ⟨b, z2, rfl, rfl⟩ z5
              · have e1 : ¬ nI z ≤ nI b := nI_ge (by omega) (by omega)
                rw [if_neg e1, if_neg e1, cp2, bO_s]
                simp only [bO_s]
                exact go _ _ _ _ ⟨z, hbd, rfl, rfl⟩ hcpy
            · rw [if_neg nI1n, if_neg nI1n]
              by_cases e : b ≤ z
              · have e1 : nI b ≤ nI z := nI_le e (by omega)
                rw [if_pos e1, if_pos e1]
                simp only [bO_s]
                exact go _ _ _ _ ⟨b, z2, rfl, rfl⟩ z5
              · have e1 : ¬ nI b ≤ nI z := nI_ge (by omega) (by omega)
                rw [if_neg e1, if_neg e1, cp3, bO_s]
                simp only [bO_s]
                exact go _ _ _ _ ⟨z, hbd, rfl, rfl⟩ hcpy
      obtain ⟨way', bw', ch', pr', bp', best', faces', bf', k1, k2, k3, k4⟩ := key (4 ^ n) 0 N N 0 (fun v => if v < 6 then 0 else Turning_way (S_turning x) v) (Turning_bestWay (S_turning x)) (Turning_chosen (S_turning x)) (Turning_pairs (S_turning x)) (R_faces y) (R_bestFaces y) (Turning_bestPairs (S_turning x)) (-1) (by omega) (by omega) (by omega) (Nat.zero_le _) (fun _ => ⟨fun v hv => by
          show (if v < 6 then 0 else _) = _
          rw [if_pos (by omega)]
          unfold wyA d4A
          rw [Nat.zero_div]; rfl, fun w hw => by
          have : w = 0 := by omega
          subst this
          exact cpA_0.mpr ⟨t1, t2⟩⟩) ⟨t1, t2⟩ (Or.inl ⟨rfl, rfl⟩)
      have k1' : Turning_search_L46 N (nI n) rd (nI m) N 0 0 (fun v => if v < 6 then 0 else Turning_way (S_turning x) v) _ _ _ _ = _ := k1
      have k2' : R_anew_L45 N (R_book y) (nI m) N (-1) 0 _ _ = _ := k2
      obtain ⟨k5, k6⟩ := k4 (by omega)
      rw [k1', bO_s, k2', bO_s]
      simp only [u5, u3, bO_s, u6]
      rcases w2 with z | ⟨z, w, hw, rfl⟩
      · rw [if_pos z, if_pos z]
        exact ⟨_, _, rfl, rfl, k5.symm, h, k3⟩
      · unfold F_Turning_bestWayOf
        have e5 : F_S_within (nI w) 0 5 = 1 := by
          have := sw_nn (j := w) (a := 0) (b := 5) (by omega) (by omega) (by omega)
          rw [decide_eq_true (by omega)] at this
          exact this
        rw [if_neg z, if_neg z, e5, if_neg n10, gd_ix (by omega) (by omega), bO_s, gd_ix (by omega) (by omega), nI_clamp (by omega)]
        exact ⟨_, _, rfl, rfl, k6 w hw, h, k3⟩
    · have c6 : ¬ nI n ≤ 6 := nI_ge (b := n) (a := 6) (by omega) (by omega)
      rw [if_neg c6, if_neg c6]
      exact ⟨_, _, rfl, rfl, rfl, h, t1, t2⟩
  · rw [w1, if_pos rfl, if_neg w2, w3, if_pos rfl, bT_l]
    exact ⟨_, _, rfl, rfl, rfl, h, t1, t2⟩
