-- WAYS THAT SHARE NOBODY
/-- one who goes on, all who go on once -/
def exA (g : Nat → Bool) (F : Nat → Nat → Bool) (w : Nat) (c : Nat → Bool) : Nat → Bool := fun v => c v || (c w && (g w && F w v))
def rrA (g : Nat → Bool) (F : Nat → Nat → Bool) : Nat → (Nat → Bool) → Nat → Bool
  | 0, c => c
  | w + 1, c => exA g F w (rrA g F w c)
def itA (g : Nat → Bool) (F : Nat → Nat → Bool) (n : Nat) : Nat → (Nat → Bool) → Nat → Bool
  | 0, c => c
  | k + 1, c => rrA g F n (itA g F n k c)
theorem rrA_mono {g : Nat → Bool} {F : Nat → Nat → Bool} {c : Nat → Bool} {v : Nat} (h : c v = true) : ∀ w, rrA g F w c v = true
  | 0 => h
  | w + 1 => by
    show (rrA g F w c v || _) = true
    rw [rrA_mono h w, Bool.true_or]
theorem rrA_in {g : Nat → Bool} {F : Nat → Nat → Bool} {P : Nat → Prop} (hP : ∀ w v, P w → g w = true → F w v = true → P v) {c : Nat → Bool} (h : ∀ v, c v = true → P v) : ∀ w v, rrA g F w c v = true → P v
  | 0, v, hv => h v hv
  | w + 1, v, hv => by
    have hv2 : (rrA g F w c v || (rrA g F w c w && (g w && F w v))) = true := hv
    rcases Bool.or_eq_true_iff.mp hv2 with q | q
    · exact rrA_in hP h w v q
    · have q1 := Bool.and_eq_true_iff.mp q
      have q2 := Bool.and_eq_true_iff.mp q1.2
      exact hP w v (rrA_in hP h w w q1.1) q2.1 q2.2
theorem rrA_step {g : Nat → Bool} {F : Nat → Nat → Bool} {c : Nat → Bool} {w v : Nat} (hw : c w = true) (hg : g w = true) (hF : F w v = true) : ∀ k, w < k → rrA g F k c v = true
  | 0, h => absurd h (Nat.not_lt_zero w)
  | k + 1, h => by
    show (rrA g F k c v || (rrA g F k c k && (g k && F k v))) = true
    by_cases e : w = k
    · subst e
      rw [rrA_mono hw w, hg, hF, Bool.and_self, Bool.and_self, Bool.or_true]
    · rw [rrA_step hw hg hF k (by omega), Bool.true_or]
theorem itA_in {g : Nat → Bool} {F : Nat → Nat → Bool} {n : Nat} {P : Nat → Prop} (hP : ∀ w v, P w → g w = true → F w v = true → P v) {c : Nat → Bool} (h : ∀ v, c v = true → P v) : ∀ k v, itA g F n k c v = true → P v
  | 0, v, hv => h v hv
  | k + 1, v, hv => rrA_in hP (fun v hv => itA_in hP h k v hv) n v hv
theorem itA_mono {g : Nat → Bool} {F : Nat → Nat → Bool} {n : Nat} {c : Nat → Bool} {v : Nat} (h : c v = true) : ∀ k, itA g F n k c v = true
  | 0 => h
  | k + 1 => rrA_mono (itA_mono h k) n
def ctA (c : Nat → Bool) : Nat := sB 8 (fun v => if c v = true then 1 else 0)
theorem ctA_lt {c d : Nat → Bool} (h : ∀ v, c v = true → d v = true) (hd : ∀ v, d v = true → v < 8) (hne : ¬ c = d) : ctA c < ctA d := by
  have key : ∀ n, sB n (fun v => if c v = true then 1 else 0) ≤ sB n (fun v => if d v = true then 1 else 0) ∧ ((∃ v, v < n ∧ c v = false ∧ d v = true) → sB n (fun v => if c v = true then 1 else 0) < sB n (fun v => if d v = true then 1 else 0)) := by
    intro n
    induction n with
    | zero => exact ⟨Nat.le_refl _, fun ⟨v, hv, _⟩ => absurd hv (Nat.not_lt_zero v)⟩
    | succ n ih =>
      rw [sB_s, sB_s]
      have hn : (if c n = true then 1 else 0) ≤ (if d n = true then 1 else 0) := by
        by_cases q : c n = true
        · rw [if_pos q, if_pos (h n q)]; exact Nat.le_refl 1
        · rw [if_neg q]; exact Nat.zero_le _
      refine ⟨by omega, fun ⟨v, hv, q1, q2⟩ => ?_⟩
      by_cases e : v = n
      · subst e
        rw [q1, q2]
        have := ih.1
        simp only [Bool.false_eq_true, if_false, if_true]
        omega
      · have := ih.2 ⟨v, by omega, q1, q2⟩
        omega
  apply (key 8).2
  by_cases q : ∃ v, v < 8 ∧ c v = false ∧ d v = true
  · exact q
  · exfalso
    apply hne
    funext v
    cases hdv : d v
    · cases hcv : c v
      · rfl
      · rw [h v hcv] at hdv; cases hdv
    · cases hcv : c v
      · exact absurd ⟨v, hd v hdv, hcv, hdv⟩ q
      · rfl
theorem ctA_le {c : Nat → Bool} {n : Nat} (hn : n ≤ 8) (hc : ∀ v, c v = true → v < n) : ctA c ≤ n := by
  have h1 : ctA c = sB n (fun v => if c v = true then 1 else 0) := by
    have := sB_up (f := fun v => if c v = true then 1 else 0) (n := n) (8 - n) (fun i hi => by
      show (if c i = true then 1 else 0) = 0
      rw [if_neg]
      intro q
      have := hc i q
      omega)
    rw [show n + (8 - n) = 8 by omega] at this
    exact this
  rw [h1]
  have := sB_le (f := fun v => if c v = true then 1 else 0) (k := 1) (n := n) (fun i _ => by
    show (if c i = true then 1 else 0) ≤ 1
    split <;> omega)
  omega
/-- closed: nobody new is come to -/
def clA (n : Nat) (g : Nat → Bool) (F : Nat → Nat → Bool) (c : Nat → Bool) : Prop := ∀ w v, w < n → c w = true → g w = true → F w v = true → c v = true
theorem clA_of {n : Nat} {g : Nat → Bool} {F : Nat → Nat → Bool} {c : Nat → Bool} (h : rrA g F n c = c) : clA n g F c := by
  intro w v hw hc hg hF
  have := rrA_step (v := v) hc hg hF n hw
  rw [h] at this
  exact this
theorem itA_closed {n : Nat} {g : Nat → Bool} {F : Nat → Nat → Bool} {c : Nat → Bool} (hn : n ≤ 8) (hF : ∀ w v, F w v = true → v < n) (hc : ∀ v, c v = true → v < n) (h0 : 1 ≤ ctA c) : clA n g F (itA g F n n c) := by
  have hsub : ∀ k v, itA g F n k c v = true → v < n := fun k v => itA_in (P := fun v => v < n) (fun w v _ _ q => hF w v q) hc k v
  have step : ∀ k, (∃ j, j ≤ k ∧ rrA g F n (itA g F n j c) = itA g F n j c) ∨ k + 2 ≤ ctA (itA g F n (k + 1) c) := by
    intro k
    induction k with
    | zero =>
      by_cases e : itA g F n 0 c = itA g F n 1 c
      · exact Or.inl ⟨0, Nat.le_refl 0, e.symm⟩
      · right
        have := ctA_lt (c := itA g F n 0 c) (d := itA g F n 1 c) (fun v hv => rrA_mono hv n) (fun v hv => by have := hsub 1 v hv; omega) e
        have e2 : itA g F n 0 c = c := rfl
        rw [e2] at this
        show 2 ≤ _
        exact Nat.le_trans (Nat.succ_le_succ h0) this
    | succ k ih =>
      rcases ih with ⟨j, hj, q⟩ | q
      · exact Or.inl ⟨j, by omega, q⟩
      · by_cases e : itA g F n (k + 1) c = itA g F n (k + 2) c
        · exact Or.inl ⟨k + 1, Nat.le_refl _, e.symm⟩
        · right
          have := ctA_lt (c := itA g F n (k + 1) c) (d := itA g F n (k + 2) c) (fun v hv => rrA_mono hv n) (fun v hv => by have := hsub (k + 2) v hv; omega) e
          show k + 1 + 2 ≤ ctA (itA g F n (k + 2) c)
          omega
  have stay : ∀ j, rrA g F n (itA g F n j c) = itA g F n j c → ∀ d, itA g F n (j + d) c = itA g F n j c := by
    intro j hj d
    induction d with
    | zero => rfl
    | succ d ih =>
      show rrA g F n (itA g F n (j + d) c) = _
      rw [ih, hj]
  cases n with
  | zero =>
    intro w v hw
    exact absurd hw (Nat.not_lt_zero w)
  | succ m =>
    rcases step m with ⟨j, hj, q⟩ | q
    · have e := stay j q (m + 1 - j)
      rw [show j + (m + 1 - j) = m + 1 by omega] at e
      rw [e]
      exact clA_of q
    · have := ctA_le hn (hsub (m + 1))
      omega
/-- what both find is the same -/
theorem reach_eq {n a b : Nat} {F : Nat → Nat → Bool} {cc cr c0 : Nat → Bool} (hF : ∀ w v, F w v = true → v < n) (hc0 : ∀ v, c0 v = true → v < n)
    (c1 : clA n (fun _ => true) F cc) (c2 : ∀ v, c0 v = true → cc v = true) (c3 : ∀ P : Nat → Prop, (∀ w v, P w → F w v = true → P v) → (∀ v, c0 v = true → P v) → ∀ v, cc v = true → P v)
    (r1 : clA n (fun w => decide (w ≠ b)) F cr) (r2 : ∀ v, c0 v = true → cr v = true) (r3 : ∀ P : Nat → Prop, (∀ w v, P w → w ≠ b → F w v = true → P v) → (∀ v, c0 v = true → P v) → ∀ v, cr v = true → P v) : cc b = cr b := by
  have hcn : ∀ v, cc v = true → v < n := c3 (fun v => v < n) (fun w v _ q => hF w v q) hc0
  have hrn : ∀ v, cr v = true → v < n := r3 (fun v => v < n) (fun w v _ _ q => hF w v q) hc0
  cases h1 : cr b
  · cases h2 : cc b
    · rfl
    · have := c3 (fun v => cr v = true) (fun w v q1 q2 => by
          have hwb : w ≠ b := fun e => by subst e; rw [h1] at q1; cases q1
          exact r1 w v (hrn w q1) q1 (by simp [hwb]) q2) r2 b h2
      rw [h1] at this; cases this
  · exact r3 (fun v => cc v = true) (fun w v q1 _ q2 => c1 w v (hcn w q1) q1 rfl q2) c2 b h1
theorem mk_andnN {n s : Nat} (hn : n ≤ 32) (hs : s < 2 ^ n) (c : Nat → Bool) : nI (bm n c) &&& (nI s ^^^ (-1)) = nI (bm n (fun i => c i && !(s.testBit i))) := by
  have e : nI s = nI (bm n s.testBit) := by rw [bm_self hs]
  rw [e, mk_andn hn]
/-- the edges that are left -/
def edA (n a b : Nat) (H : Nat → Nat → Bool) (s : Nat) (w v : Nat) : Bool := decide (v < n) && (H v w && !(decide (w = a) && decide (v = b))) && !(s.testBit v)
section AP
variable {N n a b s : Nat} {H : Nat → Nat → Bool} {aud hears bk : Nat → Int32}
theorem reached_ok (hN : 100 ≤ N) (hn : n ≤ 8) (ha : a < n) (hb : b < n) (hs : s < 256) (haud : ∀ w, w < n → aud w = nI (bm 8 (fun v => decide (v < n) && (H v w && !(decide (w = a) && decide (v = b)))))) :
    F_News_isReached N (nI a) (nI b) (nI s) aud (nI n) = some (bI (itA (fun _ => true) (edA n a b H s) n n (fun v => decide (v = a)) b)) := by
  have inner : ∀ c : Nat → Bool, News_isReached_L20 (nI n) aud (nI s) N (nI (bm 8 c)) 0 = some (nI (bm 8 (rrA (fun _ => true) (edA n a b H s) n c))) := by
    intro c
    refine lp0 (L := fun f j => News_isReached_L20 (nI n) aud (nI s) f (nI (bm 8 (rrA (fun _ => true) (edA n a b H s) j c))) (nI j)) (n := n) (fun f j hj => ?_) (fun f => ?_) (by omega)
    · show News_isReached_L20 (nI n) aud (nI s) (f + 1) (nI (bm 8 (rrA _ _ j c))) (nI j) = News_isReached_L20 (nI n) aud (nI s) f (nI (bm 8 (rrA (fun _ => true) (edA n a b H s) (j + 1) c))) (nI (j + 1))
      rw [News_isReached_L20, if_neg (nI_ge (by omega) (by omega)), mk_has (by omega) (by omega), gd_ix (by omega) (by omega), nI_clamp (by omega), haud j hj, nI_1]
      have e0 : rrA (fun _ => true) (edA n a b H s) (j + 1) c = fun v => rrA (fun _ => true) (edA n a b H s) j c v || (rrA (fun _ => true) (edA n a b H s) j c j && (true && edA n a b H s j v)) := rfl
      rw [e0]
      cases hq : rrA (fun _ => true) (edA n a b H s) j c j
      · rw [bI_f, if_pos rfl]
        simp only [Bool.false_and, Bool.or_false]
      · rw [bI_t, if_neg n10]
        rw [mk_andnN (by omega) hs, mk_or]
        simp only [Bool.true_and]
        rfl
    · show News_isReached_L20 (nI n) aud (nI s) (f + 1) _ (nI n) = _
      rw [News_isReached_L20, if_pos (nI_le (Nat.le_refl n) (by omega))]
  have outer : News_isReached_L8 N (nI n) aud (nI s) N (nI (bm 8 (fun v => decide (v = a)))) 0 = some (nI (bm 8 (itA (fun _ => true) (edA n a b H s) n n (fun v => decide (v = a))))) := by
    refine lp0 (L := fun f j => News_isReached_L8 N (nI n) aud (nI s) f (nI (bm 8 (itA (fun _ => true) (edA n a b H s) n j (fun v => decide (v = a))))) (nI j)) (n := n) (fun f j hj => ?_) (fun f => ?_) (by omega)
    · show News_isReached_L8 N (nI n) aud (nI s) (f + 1) (nI (bm 8 (itA _ _ n j _))) (nI j) = News_isReached_L8 N (nI n) aud (nI s) f (nI (bm 8 (itA (fun _ => true) (edA n a b H s) n (j + 1) (fun v => decide (v = a))))) (nI (j + 1))
      rw [News_isReached_L8, if_neg (nI_ge (by omega) (by omega)), inner, bO_s, nI_1]
      rfl
    · show News_isReached_L8 N (nI n) aud (nI s) (f + 1) _ (nI n) = _
      rw [News_isReached_L8, if_pos (nI_le (Nat.le_refl n) (by omega))]
  unfold F_News_isReached
  rw [mk_one (n := 8) (by omega) (by omega), outer, bO_s, mk_has (by omega) (by omega), nar_bI]
theorem joined_ok (hN : 100 ≤ N) (hn : n ≤ 8) (ha : a < n) (hb : b < n) (hs : s < 256) (hb1 : bk 1 = nI n) (hh : ∀ v u, v < n → u < n → hears (8 * v + u) = bI (H v u)) (hHH : ∀ v, H v v = false) :
    ∃ cr : Nat → Bool, F_R_isJoined N (nI a) (nI b) (nI s) bk hears = some (bI (cr b)) ∧ clA n (fun w => decide (w ≠ b)) (edA n a b H s) cr ∧ cr a = true ∧
      (∀ P : Nat → Prop, (∀ w v, P w → w ≠ b → edA n a b H s w v = true → P v) → P a → ∀ v, cr v = true → P v) := by
  have hmask : ∀ c : Nat → Bool, bm 8 c < 2 ^ 31 := fun c => by have := bm_lt c 8; omega
  have inner2 : ∀ (u : Nat) (c : Nat → Bool), u < n → R_isJoined_L36 bk (nI u) (nI a) (nI b) hears (nI s) N (nI (bm 8 c)) 0 = some (nI (bm 8 (exA (fun w => decide (w ≠ b)) (edA n a b H s) u c))) := by
    intro u c hu
    have tb : ∀ (j : Nat), (c u || (c u && (decide (u ≠ b) && (decide (u < j) && edA n a b H s u u)))) = c u := by
      intro j
      have : edA n a b H s u u = false := by unfold edA; rw [hHH]; simp
      rw [this]; simp
    have t := lp0 (L := fun f j => R_isJoined_L36 bk (nI u) (nI a) (nI b) hears (nI s) f (nI (bm 8 (fun v => c v || (c u && (decide (u ≠ b) && (decide (v < j) && edA n a b H s u v)))))) (nI j)) (n := n) (N := N) (r := nI (bm 8 (exA (fun w => decide (w ≠ b)) (edA n a b H s) u c))) (fun f j hj => by
        show R_isJoined_L36 bk (nI u) (nI a) (nI b) hears (nI s) (f + 1) (nI (bm 8 (fun v => c v || (c u && (decide (u ≠ b) && (decide (v < j) && edA n a b H s u v)))))) (nI j) = R_isJoined_L36 bk (nI u) (nI a) (nI b) hears (nI s) f (nI (bm 8 (fun v => c v || (c u && (decide (u ≠ b) && (decide (v < j + 1) && edA n a b H s u v)))))) (nI (j + 1))
        rw [R_isJoined_L36, hb1, if_neg (nI_ge (by omega) (by omega)), mk_bitR (by omega) (by omega), tb j, nI_1]
        have ey : (if nI u = nI a then if nI j = nI b then some (1 : Int32) else some 0 else some 0) = some (bI (decide (u = a) && decide (j = b))) := by
          by_cases q : u = a
          · rw [if_pos (by rw [q]), decide_eq_true q, Bool.true_and]
            by_cases q2 : j = b
            · rw [if_pos (by rw [q2]), decide_eq_true q2]; rfl
            · rw [if_neg (fun z => q2 ((nI_eq (by omega) (by omega)).mp z)), decide_eq_false q2]; rfl
          · rw [if_neg (fun z => q ((nI_eq (by omega) (by omega)).mp z)), decide_eq_false q]; rfl
        rw [ey, bO_s]
        -- the same, or one more
        have same : edA n a b H s u j = false ∨ c u = false ∨ u = b → bm 8 (fun v => c v || (c u && (decide (u ≠ b) && (decide (v < j) && edA n a b H s u v)))) = bm 8 (fun v => c v || (c u && (decide (u ≠ b) && (decide (v < j + 1) && edA n a b H s u v)))) := by
          intro hq
          apply bm_cong
          intro v hv
          by_cases e : v = j
          · subst e
            rcases hq with q | q | q
            · rw [q]; simp
            · rw [q]; simp
            · simp [q]
          · simp only [show v < j + 1 ↔ v < j by omega]
        cases hcu : c u
        · rw [hcu] at same
          rw [bI_f, if_neg n01, same (Or.inr (Or.inl rfl))]
        · rw [hcu] at same
          rw [bI_t, if_pos rfl]
          by_cases hub : u = b
          · rw [if_pos (by rw [hub]), same (Or.inr (Or.inr hub))]
          · have e8 : 8 * nI j + nI u = nI (8 * j + u) := by
              show nI 8 * nI j + nI u = _
              rw [pk_mul, nI_add]
            rw [if_neg (fun z => hub ((nI_eq (by omega) (by omega)).mp z)), e8, gd_ix (by omega) (by omega), nI_clamp (by omega), hh j u hj hu, bitR (by omega) (by omega)]
            have hedge : edA n a b H s u j = (H j u && !(decide (u = a) && decide (j = b)) && !(s.testBit j)) := by
              unfold edA; rw [decide_eq_true hj, Bool.true_and]
            cases hH : H j u
            · rw [bI_f, if_pos rfl, same (Or.inl (by rw [hedge, hH]; rfl))]
            · rw [bI_t, if_neg n10]
              cases hst : (decide (u = a) && decide (j = b))
              · rw [bI_f, if_pos rfl]
                cases hsj : s.testBit j
                · rw [bI_f, if_pos rfl]
                  congr 1
                  rw [mk_one (n := 8) (by omega) (by omega), mk_or]
                  congr 1
                  apply bm_cong
                  intro v hv
                  have he : edA n a b H s u j = true := by rw [hedge, hH, hst, hsj]; rfl
                  by_cases e : v = j
                  · subst e
                    simp [he, hub]
                  · simp only [show v < j + 1 ↔ v < j by omega, decide_eq_false e, Bool.or_false]
                · rw [bI_t, if_neg n10, same (Or.inl (by rw [hedge, hsj]; simp))]
              · rw [bI_t, if_neg n10, same (Or.inl (by rw [hedge, hst]; simp))]) (fun f => by
        show R_isJoined_L36 bk (nI u) (nI a) (nI b) hears (nI s) (f + 1) (nI (bm 8 (fun v => c v || (c u && (decide (u ≠ b) && (decide (v < n) && edA n a b H s u v)))))) (nI n) = _
        rw [R_isJoined_L36, hb1, if_pos (nI_le (Nat.le_refl n) (by omega))]
        congr 2
        apply bm_cong
        intro v hv
        show _ = (c v || (c u && (decide (u ≠ b) && edA n a b H s u v)))
        by_cases q : v < n
        · rw [decide_eq_true q, Bool.true_and]
        · have : edA n a b H s u v = false := by unfold edA; simp [q]
          rw [this]; simp) (by omega)
    have e0 : bm 8 (fun v => c v || (c u && (decide (u ≠ b) && (decide (v < 0) && edA n a b H s u v)))) = bm 8 c := by
      apply bm_cong; intro v hv; simp
    have t2 : R_isJoined_L36 bk (nI u) (nI a) (nI b) hears (nI s) N (nI (bm 8 (fun v => c v || (c u && (decide (u ≠ b) && (decide (v < 0) && edA n a b H s u v)))))) 0 = _ := t
    rw [e0] at t2
    exact t2
  have inner1 : ∀ c : Nat → Bool, R_isJoined_L22 N bk (nI a) (nI b) hears (nI s) N (nI (bm 8 c)) 0 = some (nI (bm 8 (rrA (fun w => decide (w ≠ b)) (edA n a b H s) n c))) := by
    intro c
    refine lp0 (L := fun f j => R_isJoined_L22 N bk (nI a) (nI b) hears (nI s) f (nI (bm 8 (rrA (fun w => decide (w ≠ b)) (edA n a b H s) j c))) (nI j)) (n := n) (fun f j hj => ?_) (fun f => ?_) (by omega)
    · show R_isJoined_L22 N bk (nI a) (nI b) hears (nI s) (f + 1) (nI (bm 8 (rrA _ _ j c))) (nI j) = R_isJoined_L22 N bk (nI a) (nI b) hears (nI s) f (nI (bm 8 (rrA (fun w => decide (w ≠ b)) (edA n a b H s) (j + 1) c))) (nI (j + 1))
      rw [R_isJoined_L22, hb1, if_neg (nI_ge (by omega) (by omega)), inner2 j _ hj, bO_s, nI_1]
      rfl
    · show R_isJoined_L22 N bk (nI a) (nI b) hears (nI s) (f + 1) _ (nI n) = _
      rw [R_isJoined_L22, hb1, if_pos (nI_le (Nat.le_refl n) (by omega))]
  have hFn : ∀ w v, edA n a b H s w v = true → v < n := by
    intro w v h
    unfold edA at h
    simp only [Bool.and_eq_true, decide_eq_true_eq] at h
    exact h.1.1
  have outer : ∀ (f : Nat) (c : Nat → Bool) (prev : Int32), (∀ v, c v = true → v < n) → c a = true → n + 3 - ctA c < f → (nI (bm 8 c) = prev → clA n (fun w => decide (w ≠ b)) (edA n a b H s) c) →
      ∃ cr : Nat → Bool, R_isJoined_L8 N bk (nI a) (nI b) hears (nI s) f (nI (bm 8 c)) prev = some (nI (bm 8 cr)) ∧ clA n (fun w => decide (w ≠ b)) (edA n a b H s) cr ∧ cr a = true ∧ (∀ P : Nat → Prop, (∀ w v, P w → w ≠ b → edA n a b H s w v = true → P v) → (∀ v, c v = true → P v) → ∀ v, cr v = true → P v) := by
    intro f
    induction f with
    | zero => intro c prev _ _ h; omega
    | succ f ih =>
      intro c prev hc hca hf hcl
      rw [R_isJoined_L8]
      by_cases e : nI (bm 8 c) = prev
      · rw [if_pos e]
        exact ⟨c, rfl, hcl e, hca, fun P _ h v hv => h v hv⟩
      · rw [if_neg e, inner1, bO_s]
        have hsub : ∀ v, rrA (fun w => decide (w ≠ b)) (edA n a b H s) n c v = true → v < n := rrA_in (P := fun v => v < n) (fun w v _ _ q => hFn w v q) hc n
        have hfun : nI (bm 8 (rrA (fun w => decide (w ≠ b)) (edA n a b H s) n c)) = nI (bm 8 c) → rrA (fun w => decide (w ≠ b)) (edA n a b H s) n c = c := by
          intro q
          have q2 := (nI_eq (hmask _) (hmask _)).mp q
          funext v
          by_cases hv : v < 8
          · have := congrArg (fun z => z.testBit v) q2
            simp only [bm_bit, decide_eq_true hv, Bool.true_and] at this
            exact this
          · cases h1 : c v
            · cases h2 : rrA (fun w => decide (w ≠ b)) (edA n a b H s) n c v
              · rfl
              · have := hsub v h2; omega
            · have := hc v h1; omega
        have hctle := ctA_le hn hc
        by_cases e2 : rrA (fun w => decide (w ≠ b)) (edA n a b H s) n c = c
        · rw [e2]
          obtain ⟨g, rfl⟩ : ∃ g, f = g + 1 := ⟨f - 1, by omega⟩
          rw [R_isJoined_L8, if_pos rfl]
          exact ⟨c, rfl, clA_of e2, hca, fun P _ h v hv => h v hv⟩
        · have hlt := ctA_lt (c := c) (d := rrA (fun w => decide (w ≠ b)) (edA n a b H s) n c) (fun v hv => rrA_mono hv n) (fun v hv => by have := hsub v hv; omega) (fun q => e2 q.symm)
          obtain ⟨cr, q1, q2, q3, q4⟩ := ih (rrA (fun w => decide (w ≠ b)) (edA n a b H s) n c) (nI (bm 8 c)) hsub (rrA_mono hca n) (by omega) (fun q => absurd (hfun q) e2)
          refine ⟨cr, q1, q2, q3, fun P hP h => q4 P hP (rrA_in (fun w v z1 z2 z3 => hP w v z1 (by simpa using z2) z3) h n)⟩
  obtain ⟨cr, q1, q2, q3, q4⟩ := outer N (fun v => decide (v = a)) 0 (fun v hv => by have : v = a := of_decide_eq_true hv; omega) (by simp) (by omega) (fun q => by
    have := (mk_eq0 (n := 8) (by omega)).mp q a (by omega)
    simp at this)
  unfold F_R_isJoined
  rw [mk_one (n := 8) (by omega) (by omega), q1, bO_s, mk_bitR (by omega) (by omega)]
  refine ⟨cr, ?_, q2, q3, fun P hP h => q4 P hP (fun v hv => by rw [show v = a from of_decide_eq_true hv]; exact h)⟩
  cases cr b <;> rfl
end AP
