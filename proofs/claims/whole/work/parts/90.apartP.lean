theorem pc8 : ∀ s, s < 256 → pc s ≤ 8 := by decide +kernel
theorem P_apart_ok {N : Nat} (hN : 300 ≤ N) : P_apart N Rel := by
  intro x y p q h
  obtain ⟨pil, n, hn, h1, h2, h3, h4, h5, h6, h7, h8⟩ := h.1.1.perc
  unfold F_S_apart F_R_apart
  rw [RareTwo_eq, h4, h3]
  rcases two_cases p q (n := n) (by omega) with e | ⟨e, a, b, ha, hb, hab, rfl, rfl⟩
  · rw [e, if_pos rfl, if_pos rfl]
    exact ⟨_, _, rfl, rfl, rfl, h⟩
  rw [e, if_neg n10, if_neg n10]
  -- who reads whom
  obtain ⟨hears', spies', l1, l2, l3⟩ := Rlooks_ok (N := N) (hears := R_hears y) (spies := R_spies y) (how := false) (by omega) hn h4 h2 rfl
  have l1' : F_R_looks N 0 (R_book y) (R_hears y) (R_spies y) = some (hears', spies') := l1
  rw [l1', bO_s]
  simp only [u2]
  obtain ⟨H, hH⟩ : ∃ H : Nat → Nat → Bool, H = fun v u => decide (v ≠ u) && pcI pil (fun i => R_book y (6 + i)) (fun w => R_book y (80 + 4 * w)) (fun w => R_book y (80 + 4 * w + 1)) false v u := ⟨_, rfl⟩
  have hh : ∀ v u, v < n → u < n → hears' (8 * v + u) = bI (H v u) := fun v u hv hu => by rw [l2 v u hv hu, hH]
  have hHH : ∀ v, H v v = false := fun v => by rw [hH]; simp
  unfold F_News_waysApart
  have hp1 : 2 ^ n ≤ 2 ^ 8 := p2 hn
  have hp2 : 0 < 2 ^ n := Nat.two_pow_pos n
  have hnC : jshl 1 (nI n) = nI (2 ^ n) := jshl1 n (by omega)
  have c1 : ∃ aud : Nat → Int32, News_waysApart_L3 N (nI n) (Floor_pillars (Shed_floor (S_now x))) (Floor_place (Shed_floor (S_now x))) (Floor_way (Shed_floor (S_now x))) (Floor_farSquare (Shed_floor (S_now x))) N 0 (News_audience (S_news x)) = some aud ∧ ∀ w, w < n → aud w = nI (bm 8 (fun v => decide (v < n) && H v w)) := by
    refine ⟨fun w => if w < n then nI (bm 8 (fun v => decide (v < n) && (decide (w < n) && (decide (v ≠ w) && pcI pil (Floor_farSquare (Shed_floor (S_now x))) (Floor_place (Shed_floor (S_now x))) (Floor_way (Shed_floor (S_now x))) false v w)))) else News_audience (S_news x) w, ?_, ?_⟩
    · refine lp0 (L := fun f j => News_waysApart_L3 N (nI n) (Floor_pillars (Shed_floor (S_now x))) (Floor_place (Shed_floor (S_now x))) (Floor_way (Shed_floor (S_now x))) (Floor_farSquare (Shed_floor (S_now x))) f (nI j) (fun w => if w < j then nI (bm 8 (fun v => decide (v < n) && (decide (w < n) && (decide (v ≠ w) && pcI pil (Floor_farSquare (Shed_floor (S_now x))) (Floor_place (Shed_floor (S_now x))) (Floor_way (Shed_floor (S_now x))) false v w)))) else News_audience (S_news x) w)) (n := n) (fun f j hj => ?_) (fun f => ?_) (by omega)
      · show News_waysApart_L3 N (nI n) _ _ _ _ (f + 1) (nI j) _ = News_waysApart_L3 N (nI n) _ _ _ _ f (nI (j + 1)) _
        have e1 : F_Floor_perceiversOf N (nI j) 0 (lN (bm 64 pil)) (nI n) (Floor_place (Shed_floor (S_now x))) (Floor_way (Shed_floor (S_now x))) (Floor_farSquare (Shed_floor (S_now x))) = _ := percOf_ok (how := false) (by omega) hn (by omega)
        rw [News_waysApart_L3, if_neg (nI_ge (by omega) (by omega)), h1, e1, bO_s, gd_ix (by omega) (by omega), nI_clamp (by omega), nI_1]
        congr 1
        funext v
        by_cases e : v = j
        · subst e; rw [pk_us, if_pos (by omega)]
        · rw [pk_un e]; simp only [show v < j + 1 ↔ v < j by omega]
      · show News_waysApart_L3 N (nI n) _ _ _ _ (f + 1) (nI n) _ = _
        rw [News_waysApart_L3, if_pos (nI_le (Nat.le_refl n) (by omega))]
    · intro w hw
      show (if w < n then _ else _) = _
      rw [if_pos hw]
      congr 1
      apply bm_cong
      intro v hv
      rw [decide_eq_true hw, Bool.true_and, hH]
      by_cases hvn : v < n
      · rw [pcI_eq (far' := fun i => R_book y (6 + i)) (place' := fun w => R_book y (80 + 4 * w)) (way' := fun w => R_book y (80 + 4 * w + 1)) h7 h8 (h5 v hvn) (h5 w hw) (h6 v hvn) (h6 w hw)]
      · simp [hvn]
  obtain ⟨aud, c2, c3⟩ := c1
  rw [c2, bO_s, gd_ix (by omega) (by omega), nI_clamp (by omega), c3 a ha, mk_has (by omega) (by omega), decide_eq_true hb, Bool.true_and, oneIf_bI]
  have e8 : 8 * nI b + nI a = nI (8 * b + a) := by
    show nI 8 * nI b + nI a = _
    rw [pk_mul, nI_add]
  rw [e8]
  -- the ends
  have eends : jshl 1 (nI a) ||| jshl 1 (nI b) = nI (bm 8 (fun i => decide (i = a) || decide (i = b))) := by
    rw [mk_one (n := 8) (by omega) (by omega), mk_one (n := 8) (by omega) (by omega), mk_or]
  have ecut : nI (bm 8 (fun v => decide (v < n) && H v a)) &&& (jshl 1 (nI b) ^^^ (-1)) = nI (bm 8 (fun v => (decide (v < n) && H v a) && !(decide (v = b)))) := by
    rw [mk_one (n := 8) (by omega) (by omega), mk_andn (by omega)]
  rw [eends, ecut]
  obtain ⟨aud', haud'⟩ : ∃ aud' : Nat → Int32, aud' = upd aud a (nI (bm 8 (fun v => (decide (v < n) && H v a) && !(decide (v = b))))) := ⟨_, rfl⟩
  rw [← haud']
  have hau : ∀ w, w < n → aud' w = nI (bm 8 (fun v => decide (v < n) && (H v w && !(decide (w = a) && decide (v = b))))) := by
    intro w hw
    rw [haud']
    by_cases q : w = a
    · subst q
      rw [pk_us]
      congr 1
      apply bm_cong
      intro v hv
      rw [decide_eq_true (rfl : w = w), Bool.true_and, Bool.and_assoc]
    · rw [pk_un q, c3 w hw]
      congr 1
      apply bm_cong
      intro v hv
      rw [decide_eq_false q, Bool.false_and, Bool.not_false, Bool.and_true]
  have key : ∀ (d s f g m : Nat), s + d = 2 ^ n → d < f → d < g → m ≤ 1000000 → ∃ l, News_waysApart_L77 N (nI n) (nI (bm 8 (fun i => decide (i = a) || decide (i = b)))) (nI a) (nI b) aud' f (nI (min 8 m)) (nI s) = some (nI (min 8 l)) ∧ R_apart_L23 N (R_book y) (nI a) (nI b) hears' g (nI m) (nI s) = some (nI l) ∧ l ≤ m ∧
      (∀ s', s ≤ s' → s' < 2 ^ n → s'.testBit a = false → s'.testBit b = false → itA (fun _ => true) (edA n a b H s') n n (fun v => decide (v = a)) b = false → l ≤ pc s') := by
    intro d
    induction d with
    | zero =>
      intro s f g m hs hf hg hm
      obtain ⟨f, rfl⟩ : ∃ z, f = z + 1 := ⟨f - 1, by omega⟩
      obtain ⟨g, rfl⟩ : ∃ z, g = z + 1 := ⟨g - 1, by omega⟩
      rw [News_waysApart_L77, R_apart_L23, h4, hnC, if_pos (nI_le (by omega) (by omega)), if_pos (nI_le (by omega) (by omega))]
      exact ⟨m, rfl, rfl, Nat.le_refl m, fun s' z1 z2 => by omega⟩
    | succ d ih =>
      intro s f g m hs hf hg hm
      obtain ⟨f, rfl⟩ : ∃ z, f = z + 1 := ⟨f - 1, by omega⟩
      obtain ⟨g, rfl⟩ : ∃ z, g = z + 1 := ⟨g - 1, by omega⟩
      have hs8 : s < 256 := by omega
      have hpc := pc8 s hs8
      rw [News_waysApart_L77, R_apart_L23, h4, hnC, if_neg (nI_ge (by omega) (by omega)), if_neg (nI_ge (by omega) (by omega)), bitR (by omega) (by omega), bitR (by omega) (by omega), nI_1, sizeOf_ok (by omega) (by omega), bO_s]
      have eand : (nI s &&& nI (bm 8 (fun i => decide (i = a) || decide (i = b))) = 0) ↔ (s.testBit a = false ∧ s.testBit b = false) := by
        have e1 : nI s = nI (bm 8 s.testBit) := by rw [bm_self (n := 8) hs8]
        rw [e1, mk_and, mk_eq0 (by omega)]
        constructor
        · intro z
          refine ⟨?_, ?_⟩
          · have := z a (by omega); simpa using this
          · have := z b (by omega); simpa using this
        · rintro ⟨z1, z2⟩ i hi
          by_cases q1 : i = a
          · subst q1; rw [z1]; rfl
          · by_cases q2 : i = b
            · subst q2; rw [z2]; rfl
            · simp [q1, q2]
      have emay : (if bI (s.testBit a) = 0 then if bI (s.testBit b) = 0 then some (1 : Int32) else some 0 else some 0) = some (bI (!(s.testBit a) && !(s.testBit b))) := by
        cases s.testBit a <;> cases s.testBit b <;> rfl
      rw [emay, bO_s]
      by_cases hmay : s.testBit a = false ∧ s.testBit b = false
      · rw [if_pos (eand.mpr hmay), hmay.1, hmay.2, show (!false && !false) = true from rfl, bI_t, if_neg n10, reached_ok (by omega) hn ha hb hs8 hau, bO_s, bitC s (by omega)]
        obtain ⟨cr, r1, r2, r3, r4⟩ := joined_ok (N := N) (s := s) (by omega) hn ha hb hs8 h4 hh hHH
        have hFn : ∀ w v, edA n a b H s w v = true → v < n := by
          intro w v z
          unfold edA at z
          simp only [Bool.and_eq_true, decide_eq_true_eq] at z
          exact z.1.1
        have hc0 : ∀ v, (fun v => decide (v = a)) v = true → v < n := fun v z => by have : v = a := of_decide_eq_true z; omega
        have hct : 1 ≤ ctA (fun v => decide (v = a)) := by
          have := ctA_lt (c := fun _ => false) (d := fun v => decide (v = a)) (fun v z => by cases z) (fun v z => by have : v = a := of_decide_eq_true z; omega) (fun z => by
            have := congrFun z a
            simp at this)
          have e0 : ctA (fun _ => false) = 0 := rfl
          omega
        have ereach : itA (fun _ => true) (edA n a b H s) n n (fun v => decide (v = a)) b = cr b :=
          reach_eq (a := a) (c0 := fun v => decide (v = a)) hFn hc0 (itA_closed hn hFn hc0 hct) (fun v z => itA_mono z n) (fun P hP z v hv => itA_in (fun w v z1 _ z3 => hP w v z1 z3) z n v hv)
            r2 (fun v z => by rw [show v = a from of_decide_eq_true z]; exact r3) (fun P hP z v hv => r4 P hP (z a (by simp)) v hv)
        by_cases hle : m ≤ pc s
        · rw [if_pos (nI_le hle (by omega))]
          have emin : jmin (nI (min 8 m)) (nI (pc s)) = nI (min 8 m) := by
            unfold jmin
            rw [if_neg (nI_nlt (by omega) (by omega))]
          rw [emin]
          obtain ⟨l, q1, q2, q3, q4⟩ := ih (s + 1) f g m (by omega) (by omega) (by omega) hm
          refine ⟨l, ?_, q2, q3, fun s' z1 z2 z3 z4 z5 => ?_⟩
          · cases itA (fun _ => true) (edA n a b H s) n n (fun v => decide (v = a)) b
            · rw [bI_f, if_pos rfl]; exact q1
            · rw [bI_t, if_neg n10]; exact q1
          · by_cases es : s' = s
            · subst es; omega
            · exact q4 s' (by omega) z2 z3 z4 z5
        · rw [if_neg (nI_ge (by omega) (by omega)), r1, bO_s, ← ereach]
          cases hJ : itA (fun _ => true) (edA n a b H s) n n (fun v => decide (v = a)) b
          · rw [bI_f, if_pos rfl, if_pos rfl, bO_s]
            have emin : jmin (nI (min 8 m)) (nI (pc s)) = nI (min 8 (pc s)) := by
              unfold jmin
              by_cases q : pc s < min 8 m
              · rw [if_pos (nI_lt q (by omega)), Nat.min_eq_right hpc]
              · rw [if_neg (nI_nlt (by omega) (by omega))]
                congr 1
                omega
            rw [emin]
            obtain ⟨l, q1, q2, q3, q4⟩ := ih (s + 1) f g (pc s) (by omega) (by omega) (by omega) (by omega)
            refine ⟨l, q1, q2, by omega, fun s' z1 z2 z3 z4 z5 => ?_⟩
            by_cases es : s' = s
            · subst es; exact q3
            · exact q4 s' (by omega) z2 z3 z4 z5
          · rw [bI_t, if_neg n10, if_neg n10]
            obtain ⟨l, q1, q2, q3, q4⟩ := ih (s + 1) f g m (by omega) (by omega) (by omega) hm
            refine ⟨l, q1, q2, q3, fun s' z1 z2 z3 z4 z5 => ?_⟩
            by_cases es : s' = s
            · subst es; rw [hJ] at z5; cases z5
            · exact q4 s' (by omega) z2 z3 z4 z5
      · rw [if_neg (fun z => hmay (eand.mp z))]
        have e0 : (!(s.testBit a) && !(s.testBit b)) = false := by
          cases z1 : s.testBit a
          · cases z2 : s.testBit b
            · exact absurd ⟨z1, z2⟩ hmay
            · rfl
          · rfl
        rw [e0, bI_f, if_pos rfl]
        obtain ⟨l, q1, q2, q3, q4⟩ := ih (s + 1) f g m (by omega) (by omega) (by omega) hm
        refine ⟨l, q1, q2, q3, fun s' z1 z2 z3 z4 z5 => ?_⟩
        by_cases es : s' = s
        · subst es; exact absurd ⟨z3, z4⟩ hmay
        · exact q4 s' (by omega) z2 z3 z4 z5
  obtain ⟨l, q1, q2, q3, q4⟩ := key (2 ^ n) 0 N N 1000000 (by omega) (by omega) (by omega) (Nat.le_refl _)
  have hl : l ≤ 8 := by
    have hb0 : bm n (fun v => decide (v ≠ a) && decide (v ≠ b)) < 2 ^ n := bm_lt _ n
    have := q4 (bm n (fun v => decide (v ≠ a) && decide (v ≠ b))) (Nat.zero_le _) hb0 (by rw [bm_bit]; simp) (by rw [bm_bit]; simp) (by
      cases hJ : itA (fun _ => true) (edA n a b H (bm n (fun v => decide (v ≠ a) && decide (v ≠ b)))) n n (fun v => decide (v = a)) b
      · rfl
      · exfalso
        have := itA_in (P := fun v => v = a) (fun w v z1 _ z3 => by
          unfold edA at z3
          simp only [Bool.and_eq_true, decide_eq_true_eq, Bool.not_eq_true', bm_bit] at z3
          obtain ⟨⟨z4, z5, z6⟩, z7⟩ := z3
          rw [decide_eq_true z4, Bool.true_and] at z7
          rw [decide_eq_true (show w = a from z1), Bool.true_and] at z6
          by_cases q : v = a
          · exact q
          · have hvb : ¬ v = b := of_decide_eq_false z6
            simp [q, hvb] at z7) (c := fun v => decide (v = a)) (fun v z => of_decide_eq_true z) n b hJ
        exact hab this.symm)
    have h9 := pc8 (bm n (fun v => decide (v ≠ a) && decide (v ≠ b))) (by omega)
    omega
  have q1' : News_waysApart_L77 N (nI n) (nI (bm 8 (fun i => decide (i = a) || decide (i = b)))) (nI a) (nI b) aud' N 8 0 = some (nI (min 8 l)) := q1
  have q2' : R_apart_L23 N (R_book y) (nI a) (nI b) hears' N 1000000 0 = some (nI l) := q2
  rw [q1', bO_s, bO_s, q2', bO_s, gd_ix (by omega) (by omega), nI_clamp (by omega), hh b a hb ha, show min 8 l = l by omega]
  cases H b a
  · rw [bI_f, if_pos rfl]
    refine ⟨_, _, rfl, rfl, ?_, h⟩
    show nI 0 + nI l = nI l + nI 0
    rw [nI_add, nI_add, Nat.add_comm]
  · rw [bI_t, if_neg n10]
    refine ⟨_, _, rfl, rfl, ?_, h⟩
    show nI 1 + nI l = nI l + nI 1
    rw [nI_add, nI_add, Nat.add_comm]
