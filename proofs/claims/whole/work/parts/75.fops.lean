-- THE FLOOR'S CALLS
theorem n10 : ¬ ((1 : Int32) = 0) := by decide
theorem nI1n : ¬ (nI 1 = 0) := by decide
theorem ifB (z : Bool) : (if bI z = 0 then some (0 : Int32) else some 1) = some (bI z) := by cases z <;> rfl
theorem n01 : ¬ ((0 : Int32) = 1) := by decide
theorem nft : ¬ (false = true) := by decide
theorem hasWeaver_ok {N n : Nat} {place : Nat → Int32} {p : Int32} (hN : 100 ≤ N) (hn : n ≤ 8) : F_Floor_hasWeaver N p (nI n) place = some (bI (aB n (fun w => decide (place w = p)))) := by
  unfold F_Floor_hasWeaver
  have h1 : Floor_hasWeaver_L2 (nI n) place p N 0 = _ := lpS (L := fun f j => Floor_hasWeaver_L2 (nI n) place p f (nI j)) (n := n) (c := fun w => decide (place w = p)) (r1 := .inl 1) (r0 := .inr ()) (fun f j hj hc => by
        have h5 : ¬ n ≤ j := by omega
        have h6 : ¬ place j = p := by simpa using hc
        show Floor_hasWeaver_L2 (nI n) place p (f + 1) (nI j) = _
        rw [Floor_hasWeaver_L2]
        simp (disch := omega) only [nI_leI, nI_ltI, nI_eq, nI_1, nI_add, pk_mul, nI_clamp, gd_ix, h5, h6, if_false]) (fun f j hj hc => by
        have h5 : ¬ n ≤ j := by omega
        have h6 : place j = p := by simpa using hc
        show Floor_hasWeaver_L2 (nI n) place p (f + 1) (nI j) = _
        rw [Floor_hasWeaver_L2]
        simp (disch := omega) only [nI_leI, nI_ltI, nI_eq, nI_1, nI_add, pk_mul, nI_clamp, gd_ix, h5, h6, if_false, if_true]) (fun f => by
        show Floor_hasWeaver_L2 (nI n) place p (f + 1) (nI n) = _
        rw [Floor_hasWeaver_L2]
        simp (disch := omega) only [nI_leI, nI_ltI, nI_eq, nI_1, nI_add, pk_mul, nI_clamp, Nat.le_refl, if_true]) N (by omega)
  rw [h1]
  cases aB n (fun w => decide (place w = p)) <;> rfl
theorem Rstands_ok {N n : Nat} {b : Nat → Int32} {p : Int32} (hN : 100 ≤ N) (hn : n ≤ 8) (hb : b 1 = nI n) : F_R_stands N p b = some (bI (aB n (fun w => decide (b (80 + 4 * w) = p)))) := by
  unfold F_R_stands
  have h1 : R_stands_L4 b p N 0 0 = some (bI (aB n (fun w => decide (b (80 + 4 * w) = p)))) := lp0 (L := fun f j => R_stands_L4 b p f (bI (aB j (fun w => decide (b (80 + 4 * w) = p)))) (nI j)) (n := n) (fun f j hj => by
        have h5 : ¬ n ≤ j := by omega
        show R_stands_L4 b p (f + 1) (bI (aB j (fun w => decide (b (80 + 4 * w) = p)))) (nI j) = R_stands_L4 b p f (bI (aB (j + 1) (fun w => decide (b (80 + 4 * w) = p)))) (nI (j + 1))
        rw [R_stands_L4, aB_s]
        cases aB j (fun w => decide (b (80 + 4 * w) = p))
        · simp (disch := omega) only [hb, nI_leI, nI_ltI, nI_eq, nI_1, nI_add, pk_mul, nI_clamp, h5, if_false, bI_f, if_true, RplaceOf_ok (show j < 8 by omega), bO_s, Bool.false_or]
          by_cases h : b (80 + 4 * j) = p
          · rw [if_pos h, decide_eq_true h]; rfl
          · rw [if_neg h, decide_eq_false h]; rfl
        · simp (disch := omega) only [hb, nI_leI, nI_ltI, nI_eq, nI_1, nI_add, pk_mul, nI_clamp, h5, if_false, bI_t, Bool.true_or]
          rfl) (fun f => by
        show R_stands_L4 b p (f + 1) (bI (aB n (fun w => decide (b (80 + 4 * w) = p)))) (nI n) = _
        rw [R_stands_L4, hb, if_pos (nI_le (Nat.le_refl n) (by omega))]) (by omega)
  rw [h1, bO_s, nar_bI]
theorem lmk_set {m j : Nat} (hj : j < 64) : lN m ||| jshlL 1 (nI j) = lN (m ||| 2 ^ j) := by
  have e : jshlL 1 (nI j) = lN (2 ^ j) := by
    have := wb_shl 1 hj
    rw [Nat.one_mul] at this
    exact this
  rw [e, fb_orL]
theorem sB_set {c : Nat → Bool} {j : Nat} (hc : c j = false) : ∀ {n : Nat}, j < n → sB n (fun p => if (c p || decide (p = j)) = true then 1 else 0) = sB n (fun p => if c p = true then 1 else 0) + 1
  | 0, h => absurd h (Nat.not_lt_zero j)
  | n + 1, h => by
    rw [sB_s, sB_s]
    by_cases e : j = n
    · subst e
      have h2 : sB j (fun p => if (c p || decide (p = j)) = true then 1 else 0) = sB j (fun p => if c p = true then 1 else 0) := sB_cong (fun i hi => by simp [show ¬ i = j by omega])
      rw [h2, hc]; simp
    · rw [sB_set hc (n := n) (by omega)]
      simp only [show ¬ n = j by omega, decide_false, Bool.or_false]
      omega
theorem pillar_ok {N : Nat} (hN : 100 ≤ N) {x : T_Floor} {b : Nat → Int32} (h : RFl x b) (p : Int32) : ∃ u v, F_Floor_putPillar N p (Floor_pillars x) (Floor_weavers x) (Floor_place x) = some u ∧ F_R_pillar N p b = some v ∧ u.1 = v.1 ∧ RFl (u.2, x.2) v.2 ∧ (∀ k, ¬ gF k → v.2 k = b k) := by
  have h0 := h
  obtain ⟨pil, n, pl, wy, te, lo, fr, hn, ⟨h1, h2, h3⟩, ⟨h4, h5⟩, h6, h7, h8, h9, h10⟩ := h
  unfold F_Floor_putPillar F_R_pillar F_R_isPlace
  rw [in_lit p (a' := 0) (b' := 63) (by decide) (by decide), nar_sw]
  rcases sw_cases p 0 63 (ia := 0) (ib := 63) rfl rfl (by omega) (by omega) with ⟨hw, _⟩ | ⟨hw, j, _, hj, rfl⟩
  · rw [hw, if_pos rfl, if_pos rfl]
    exact ⟨_, _, rfl, rfl, rfl, h0, fun _ _ => rfl⟩
  · rw [hw, if_neg n10, if_neg n10, h4, hasWeaver_ok hN hn, Rstands_ok hN hn h5, bO_s, bO_s]
    have e : aB n (fun w => decide (Floor_place x w = nI j)) = aB n (fun w => decide (b (80 + 4 * w) = nI j)) := aB_cong (fun w hw => by simp only [(h6 w hw).2.1, (h6 w hw).2.2])
    rw [e]
    cases aB n (fun w => decide (b (80 + 4 * w) = nI j))
    · rw [bI_f, if_pos rfl, if_pos rfl, h1, hasPilB (by omega)]
      simp (disch := omega) only [k10, nI_leI, nI_ltI, nI_eq, nI_1, nI_add, pk_mul, nI_clamp, gd_ix, h3 j (by omega), bI_1]
      cases hp : pil j
      · rw [bI_f, if_pos rfl, if_neg nft]
        refine ⟨_, _, rfl, rfl, rfl, ?_, ?_⟩
        · refine ⟨fun k => pil k || decide (k = j), n, pl, wy, te, lo, fr, hn, ⟨?_, ?_, ?_⟩, ⟨h4, ?_⟩, ?_, ?_, ?_, ?_, ?_⟩
          · show lN (bm 64 pil) ||| jshlL 1 (nI j) = _
            rw [lmk_set (by omega)]
            congr 1
            apply bm_ext (Nat.or_lt_two_pow (bm_lt pil 64) (p2l (by omega)))
            intro i hi
            rw [fb_bit_set, bm_bit]; simp [hi]
          · show upd (upd b (10 + j) 1) 0 (upd b (10 + j) 1 0 + 1) 0 = _
            rw [pk_us, pk_un (by omega), h2, nI_1, sB_set hp (by omega)]
          · intro k hk
            show upd (upd b (10 + j) 1) 0 (upd b (10 + j) 1 0 + 1) (10 + k) = _
            rw [pk_un (by omega)]
            by_cases e : k = j
            · subst e; rw [pk_us]; simp [bI]
            · rw [pk_un (by omega), h3 k hk]; simp [e]
          · show upd (upd b (10 + j) 1) 0 (upd b (10 + j) 1 0 + 1) 1 = _
            rw [pk_un (by omega), pk_un (by omega), h5]
          · intro w hw; obtain ⟨a, c, d⟩ := h6 w hw
            exact ⟨a, c, by simp only []; rw [pk_un (by omega), pk_un (by omega), d]⟩
          · intro w hw; obtain ⟨a, c, d⟩ := h7 w hw
            exact ⟨a, c, by simp only []; rw [pk_un (by omega), pk_un (by omega), d]⟩
          · intro w hw; obtain ⟨a, c, d⟩ := h8 w hw
            exact ⟨a, c, by simp only []; rw [pk_un (by omega), pk_un (by omega), d]⟩
          · intro w hw; obtain ⟨a, c, d⟩ := h9 w hw
            exact ⟨a, c, by simp only []; rw [pk_un (by omega), pk_un (by omega), d]⟩
          · intro w hw; obtain ⟨a, c, d, d2⟩ := h10 w hw
            exact ⟨a, c, d, by simp only []; rw [pk_un (by omega), pk_un (by omega), d2]⟩
        · intro k hk
          unfold gF at hk
          show upd (upd b (10 + j) 1) 0 (upd b (10 + j) 1 0 + 1) k = b k
          rw [pk_un (by omega), pk_un (by omega)]
      · rw [bI_t, if_neg n10, if_pos rfl]
        exact ⟨_, _, rfl, rfl, rfl, h1 ▸ h0, fun _ _ => rfl⟩
    · rw [bI_t, if_neg n10, if_neg n10]
      exact ⟨_, _, rfl, rfl, rfl, h0, fun _ _ => rfl⟩
theorem weaver_ok {N : Nat} (hN : 100 ≤ N) {x : T_Floor} {b : Nat → Int32} (h : RFl x b) (p q : Int32) : ∃ u v, F_Floor_putWeaver N p q (Floor_pillars x) (Floor_weavers x) (Floor_place x) (Floor_way x) (Floor_tell x) (Floor_look x) = some u ∧ F_R_weaver N p q b = some v ∧ u.1 = v.1 ∧ RFl (Floor_pillars x, u.2.1, u.2.2.1, u.2.2.2.1, u.2.2.2.2.1, u.2.2.2.2.2, Floor_farSquare x) v.2 ∧ (∀ k, ¬ gF k → v.2 k = b k) := by
  have h0 := h
  obtain ⟨pil, n, pl, wy, te, lo, fr, hn, ⟨h1, h2, h3⟩, ⟨h4, h5⟩, h6, h7, h8, h9, h10⟩ := h
  have hz : RFl (lN (bm 64 pil), nI n, x.2.2) b := by rw [← h1, ← h4]; exact h0
  unfold F_Floor_putWeaver F_R_weaver F_R_isPlace
  rw [in_lit p (a' := 0) (b' := 63) (by decide) (by decide), nar_sw, in_lit q (a' := 0) (b' := 3) (by decide) (by decide)]
  rcases sw_cases p 0 63 (ia := 0) (ib := 63) rfl rfl (by omega) (by omega) with ⟨hw, _⟩ | ⟨hw, j, _, hj, rfl⟩
  · rw [hw, if_pos rfl, if_pos rfl]
    exact ⟨_, _, rfl, rfl, rfl, h0, fun _ _ => rfl⟩
  · rw [hw, if_neg n10, if_neg n10]
    have e : aB n (fun w => decide (Floor_place x w = nI j)) = aB n (fun w => decide (b (80 + 4 * w) = nI j)) := aB_cong (fun w hw => by simp only [(h6 w hw).2.1, (h6 w hw).2.2])
    rw [h4, hasWeaver_ok hN hn, Rstands_ok hN hn h5, bO_s, bO_s, e, h1, hasPilB (by omega)]
    simp (disch := omega) only [k10, nI_leI, nI_ltI, nI_eq, nI_1, nI_add, pk_mul, nI_clamp, gd_ix, h3 j (by omega), bI_1, h5, k8]
    rcases sw_cases q 0 3 (ia := 0) (ib := 3) rfl rfl (by omega) (by omega) with ⟨hw2, _⟩ | ⟨hw2, f, _, hf, rfl⟩
    · rw [hw2, if_pos rfl]
      refine ⟨_, (-2, b), rfl, ?_, rfl, hz, fun _ _ => rfl⟩
      cases aB n (fun w => decide (b (80 + 4 * w) = nI j))
      · rw [if_pos rfl]
        cases pil j <;> rfl
      · rfl
    · rw [hw2, if_neg n10]
      cases pil j
      · rw [bI_f, if_pos rfl]
        cases aB n (fun w => decide (b (80 + 4 * w) = nI j))
        · rw [bI_f, if_pos rfl, if_pos rfl]
          by_cases hn8 : n = 8
          · subst hn8
            rw [if_neg (by omega), if_pos rfl]
            exact ⟨_, _, rfl, rfl, rfl, hz, fun _ _ => rfl⟩
          · rw [if_pos (by omega), if_neg hn8]
            simp (disch := omega) only [k80, k4, k2, k3, nI_leI, nI_ltI, nI_eq, nI_1, nI_add, pk_mul, nI_clamp, gd_ix]
            refine ⟨_, _, rfl, rfl, ?_, ?_, ?_⟩
            · simp only [pk_us]
              rw [pk_un (by omega), pk_un (by omega), pk_un (by omega), pk_un (by omega), h5, nI_1]
            · refine ⟨pil, n + 1, fun w => if w = n then j else pl w, fun w => if w = n then f else wy w, fun w => if w = n then 4095 else te w, fun w => if w = n then 4095 else lo w, fr, by omega, ⟨rfl, ?_, ?_⟩, ⟨rfl, ?_⟩, ?_, ?_, ?_, ?_, ?_⟩
              · simp only []
                rw [pk_un (by omega), pk_un (by omega), pk_un (by omega), pk_un (by omega), pk_un (by omega), h2]
              · intro k hk
                simp only []
                rw [pk_un (by omega), pk_un (by omega), pk_un (by omega), pk_un (by omega), pk_un (by omega), h3 k hk]
              · simp only []
                rw [pk_us, pk_un (by omega), pk_un (by omega), pk_un (by omega), pk_un (by omega), h5, nI_1]
              · intro w hw
                simp only [Floor_place]
                rw [pk_un (show 80 + 4 * w ≠ 1 by omega), pk_un (show 80 + 4 * w ≠ 80 + 4 * n + 3 by omega), pk_un (show 80 + 4 * w ≠ 80 + 4 * n + 2 by omega), pk_un (show 80 + 4 * w ≠ 80 + 4 * n + 1 by omega)]
                by_cases e : w = n
                · subst e; rw [if_pos rfl, pk_us, pk_us]; exact ⟨by omega, rfl, rfl⟩
                · rw [if_neg e, pk_un e, pk_un (by omega)]; exact h6 w (by omega)
              · intro w hw
                simp only [Floor_way]
                rw [pk_un (show 80 + 4 * w + 1 ≠ 1 by omega), pk_un (show 80 + 4 * w + 1 ≠ 80 + 4 * n + 3 by omega), pk_un (show 80 + 4 * w + 1 ≠ 80 + 4 * n + 2 by omega)]
                by_cases e : w = n
                · subst e; rw [if_pos rfl, pk_us, pk_us]; exact ⟨by omega, rfl, rfl⟩
                · rw [if_neg e, pk_un e, pk_un (by omega), pk_un (by omega)]; exact h7 w (by omega)
              · intro w hw
                simp only [Floor_tell]
                rw [pk_un (show 80 + 4 * w + 2 ≠ 1 by omega), pk_un (show 80 + 4 * w + 2 ≠ 80 + 4 * n + 3 by omega)]
                by_cases e : w = n
                · subst e; rw [if_pos rfl, pk_us, pk_us]; exact ⟨by omega, rfl, rfl⟩
                · rw [if_neg e, pk_un e, pk_un (by omega), pk_un (by omega), pk_un (by omega)]; exact h8 w (by omega)
              · intro w hw
                simp only [Floor_look]
                rw [pk_un (show 80 + 4 * w + 3 ≠ 1 by omega)]
                by_cases e : w = n
                · subst e; rw [if_pos rfl, pk_us, pk_us]; exact ⟨by omega, rfl, rfl⟩
                · rw [if_neg e, pk_un e, pk_un (by omega), pk_un (by omega), pk_un (by omega), pk_un (by omega)]; exact h9 w (by omega)
              · intro i hi
                obtain ⟨a, c, d, d2⟩ := h10 i hi
                refine ⟨a, c, d, ?_⟩
                simp only []
                rw [pk_un (by omega), pk_un (by omega), pk_un (by omega), pk_un (by omega), pk_un (by omega), d2]
            · intro k hk
              unfold gF at hk
              simp only []
              rw [pk_un (by omega), pk_un (by omega), pk_un (by omega), pk_un (by omega), pk_un (by omega)]
        · rw [bI_t, if_neg n10, if_neg n10]
          exact ⟨_, _, rfl, rfl, rfl, hz, fun _ _ => rfl⟩
      · rw [bI_t, if_neg n10, if_pos rfl]
        refine ⟨_, (-2, b), rfl, ?_, rfl, hz, fun _ _ => rfl⟩
        cases aB n (fun w => decide (b (80 + 4 * w) = nI j)) <;> rfl
