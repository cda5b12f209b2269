theorem turn_ok {x : T_Floor} {b : Nat → Int32} (h : RFl x b) (p q : Int32) : ∃ u v, F_Floor_turn p q (Floor_weavers x) (Floor_way x) = some u ∧ F_R_face p q b = some v ∧ u.1 = v.1 ∧ RFl (Floor_pillars x, Floor_weavers x, Floor_place x, u.2, Floor_tell x, Floor_look x, Floor_farSquare x) v.2 ∧ (∀ k, ¬ gF k → v.2 k = b k) := by
  have h0 := h
  obtain ⟨pil, n, pl, wy, te, lo, fr, hn, ⟨h1, h2, h3⟩, ⟨h4, h5⟩, h6, h7, h8, h9, h10⟩ := h
  unfold F_Floor_turn F_R_face
  rw [RisW_eq, isW_eq, isW_eq, h4, h5, in_lit q (a' := 0) (b' := 3) (by decide) (by decide)]
  rcases wv_cases p (n := n) (by omega) with ⟨hw, _⟩ | ⟨hw, j, hj, rfl⟩
  · rw [hw, if_pos rfl, if_pos rfl]
    exact ⟨_, _, rfl, rfl, rfl, by rw [← h4]; exact h0, fun _ _ => rfl⟩
  · rw [hw, if_neg n10, if_neg n10]
    rcases sw_cases q 0 3 (ia := 0) (ib := 3) rfl rfl (by omega) (by omega) with ⟨hw2, _⟩ | ⟨hw2, f, _, hf, rfl⟩
    · rw [hw2, if_pos rfl, if_pos rfl]
      exact ⟨_, _, rfl, rfl, rfl, by rw [← h4]; exact h0, fun _ _ => rfl⟩
    · rw [hw2, if_neg n10, if_neg n10]
      unfold F_R_puts
      simp (disch := omega) only [k80, k4, nI_leI, nI_ltI, nI_eq, nI_1, nI_add, pk_mul, nI_clamp, gd_ix, bO_s, u2]
      refine ⟨_, _, rfl, rfl, (h7 j hj).2.1.trans (h7 j hj).2.2.symm, ?_, ?_⟩
      · refine ⟨pil, n, pl, fun w => if w = j then f else wy w, te, lo, fr, hn, ⟨h1, ?_, ?_⟩, ⟨rfl, ?_⟩, ?_, ?_, ?_, ?_, ?_⟩
        · simp only []
          rw [pk_un (by omega), h2]
        · intro k hk
          simp only []
          rw [pk_un (by omega), h3 k hk]
        · simp only []
          rw [pk_un (by omega), h5]
        · intro w hw
          simp only [Floor_place]
          rw [pk_un (by omega)]; exact h6 w hw
        · intro w hw
          simp only [Floor_way]
          by_cases e : w = j
          · subst e; rw [if_pos rfl, pk_us, pk_us]; exact ⟨by omega, rfl, rfl⟩
          · rw [if_neg e, pk_un e, pk_un (by omega)]; exact h7 w hw
        · intro w hw
          simp only [Floor_tell]
          rw [pk_un (by omega)]; exact h8 w hw
        · intro w hw
          simp only [Floor_look]
          rw [pk_un (by omega)]; exact h9 w hw
        · intro i hi
          obtain ⟨a, c, d, d2⟩ := h10 i hi
          refine ⟨a, c, d, ?_⟩
          simp only []
          rw [pk_un (by omega), d2]
      · intro k hk
        unfold gF at hk
        simp only []
        rw [pk_un (by omega)]
theorem Rfree_loop {N a c : Nat} (hN : 100 ≤ N) (hac : a ≤ c) (hc : c ≤ 11) : R_free_L52 (nI c) N 0 (nI a) = some (nI (2 ^ (c + 1) - 2 ^ a)) := by
  have key : ∀ (f t : Nat), a ≤ t → t ≤ c + 1 → c + 1 - t < f → R_free_L52 (nI c) f (nI (2 ^ t - 2 ^ a)) (nI t) = some (nI (2 ^ (c + 1) - 2 ^ a)) := by
    intro f
    induction f with
    | zero => intro t _ _ h; omega
    | succ f ih =>
      intro t h1 h2 h3
      rw [R_free_L52]
      by_cases h : c < t
      · have e : t = c + 1 := by omega
        subst e
        rw [if_pos (nI_lt h (by omega))]
      · rw [if_neg (nI_nlt (by omega) (by omega)), nI_1, jshl1 t (by omega), fa_or]
        have h4 : 2 ^ a ≤ 2 ^ t := p2 h1
        have h5 : 1 ≤ 2 ^ a := Nat.two_pow_pos a
        have e : (2 ^ t - 2 ^ a) ||| 2 ^ t = 2 ^ (t + 1) - 2 ^ a := by
          rw [Nat.or_comm]
          have := Nat.two_pow_add_eq_or_of_lt (i := t) (b := 2 ^ t - 2 ^ a) (by omega) 1
          rw [Nat.mul_one] at this
          rw [← this, Nat.pow_succ]; omega
        rw [e]
        exact ih (t + 1) (by omega) (by omega) (by omega)
  have h := key N a (Nat.le_refl a) (by omega) (by omega)
  rw [Nat.sub_self] at h
  exact h
theorem setFree_ok {N : Nat} (hN : 100 ≤ N) {x : T_Floor} {b : Nat → Int32} (h : RFl x b) (p q r s : Int32) : ∃ u v, F_Floor_setFree p q r s (Floor_weavers x) (Floor_tell x) (Floor_look x) = some u ∧ F_R_free N p q r s b = some v ∧ u.1 = v.1 ∧ RFl (Floor_pillars x, Floor_weavers x, Floor_place x, Floor_way x, u.2.1, u.2.2, Floor_farSquare x) v.2 ∧ (∀ k, ¬ gF k → v.2 k = b k) := by
  have h0 := h
  obtain ⟨pil, n, pl, wy, te, lo, fr, hn, ⟨h1, h2, h3⟩, ⟨h4, h5⟩, h6, h7, h8, h9, h10⟩ := h
  unfold F_Floor_setFree F_R_free
  rw [RisW_eq, isW_eq, isW_eq, h4, h5, in_lit q (a' := 0) (b' := 1) (by decide) (by decide), in_lit s (a' := 0) (b' := 11) (by decide) (by decide), in_lit r (a' := 0) (b' := s) (by decide) rfl]
  rcases wv_cases p (n := n) (by omega) with ⟨hw, _⟩ | ⟨hw, j, hj, rfl⟩
  · rw [hw, if_pos rfl, if_pos rfl]
    exact ⟨_, _, rfl, rfl, rfl, by rw [← h4]; exact h0, fun _ _ => rfl⟩
  rw [hw, if_neg n10, if_neg n10]
  rcases sw_cases q 0 1 (ia := 0) (ib := 1) rfl rfl (by omega) (by omega) with ⟨hw2, _⟩ | ⟨hw2, m, _, hm, rfl⟩
  · rw [hw2, if_pos rfl, if_pos rfl]
    exact ⟨_, _, rfl, rfl, rfl, by rw [← h4]; exact h0, fun _ _ => rfl⟩
  rw [hw2, if_neg n10, if_neg n10]
  rcases sw_cases s 0 11 (ia := 0) (ib := 11) rfl rfl (by omega) (by omega) with ⟨hw3, hs⟩ | ⟨hw3, c, _, hc, rfl⟩
  · rw [hw3, if_pos rfl]
    refine ⟨(-2, Floor_tell x, Floor_look x), _, ?_, rfl, rfl, by rw [← h4]; exact h0, fun _ _ => rfl⟩
    rcases sw_cases r 0 11 (ia := 0) (ib := 11) rfl rfl (by omega) (by omega) with ⟨hw4, _⟩ | ⟨hw4, a, _, ha, rfl⟩
    · rw [hw4, if_pos rfl]
    · rw [hw4, if_neg n10]
      rcases sw_cases s a 11 (ia := nI a) (ib := 11) rfl rfl (by omega) (by omega) with ⟨hw5, _⟩ | ⟨hw5, c, _, hc, rfl⟩
      · rw [hw5, if_pos rfl]
      · exact absurd ⟨c, by omega, hc, rfl⟩ hs
  rw [hw3, if_neg n10]
  rcases sw_cases r 0 c (ia := 0) (ib := nI c) rfl rfl (by omega) (by omega) with ⟨hw4, hr⟩ | ⟨hw4, a, _, hac, rfl⟩
  · rw [hw4, if_pos rfl]
    refine ⟨(-2, Floor_tell x, Floor_look x), _, ?_, rfl, rfl, by rw [← h4]; exact h0, fun _ _ => rfl⟩
    rcases sw_cases r 0 11 (ia := 0) (ib := 11) rfl rfl (by omega) (by omega) with ⟨hw5, _⟩ | ⟨hw5, a, _, ha, rfl⟩
    · rw [hw5, if_pos rfl]
    · rw [hw5, if_neg n10]
      have e : F_S_within (nI c) (nI a) 11 = 0 := by
        have := sw_nn (j := c) (a := a) (b := 11) (by omega) (by omega) (by omega)
        rw [decide_eq_false (fun h => hr ⟨a, by omega, h.1, rfl⟩)] at this
        exact this
      rw [e, if_pos rfl]
  have e1 : F_S_within (nI a) 0 11 = 1 := by
    have := sw_nn (j := a) (a := 0) (b := 11) (by omega) (by omega) (by omega)
    rw [decide_eq_true (by omega)] at this
    exact this
  have e2 : F_S_within (nI c) (nI a) 11 = 1 := by
    have := sw_nn (j := c) (a := a) (b := 11) (by omega) (by omega) (by omega)
    rw [decide_eq_true (by omega)] at this
    exact this
  have h21 : 2 ^ a ≤ 2 ^ (c + 1) := p2 (by omega)
  have h22 : 2 ^ (c + 1) ≤ 2 ^ 12 := p2 (by omega)
  have h23 : 1 ≤ 2 ^ a := Nat.two_pow_pos a
  rw [hw4, if_neg n10, e1, e2, if_neg n10, if_neg n10, Rfree_loop hN hac hc, bO_s, nI_1, jshl1 (c + 1) (by omega), jshl1 a (by omega), pk_sub h21]
  have hv : 2 ^ (c + 1) - 2 ^ a < 4096 := by omega
  generalize 2 ^ (c + 1) - 2 ^ a = z at hv
  have hm2 : m = 0 ∨ m = 1 := by omega
  rcases hm2 with rfl | rfl
  · rw [if_pos nI_0]
    simp (disch := omega) only [k80, k4, k2, nI_leI, nI_ltI, nI_eq, nI_1, nI_add, pk_mul, nI_clamp, gd_ix]
    refine ⟨_, _, rfl, rfl, rfl, ?_, ?_⟩
    · refine ⟨pil, n, pl, wy, fun w => if w = j then z else te w, lo, fr, hn, ⟨h1, ?_, ?_⟩, ⟨rfl, ?_⟩, ?_, ?_, ?_, ?_, ?_⟩
      · simp only []
        rw [pk_un (by omega), h2]
      · intro k hk
        simp only []
        rw [pk_un (by omega), h3 k hk]
      · simp only []
        rw [pk_un (by omega), h5]
      · intro w hw
        simp only [Floor_place]
        rw [pk_un (by omega)]; exact h6 w hw
      · intro w hw
        simp only [Floor_way]
        rw [pk_un (by omega)]; exact h7 w hw
      · intro w hw
        simp only [Floor_tell]
        by_cases e : w = j
        · subst e; rw [if_pos rfl, pk_us]; refine ⟨by omega, rfl, ?_⟩; rw [Nat.add_zero, pk_us]
        · rw [if_neg e, pk_un e, pk_un (by omega)]; exact h8 w hw
      · intro w hw
        simp only [Floor_look]
        rw [pk_un (by omega)]; exact h9 w hw
      · intro i hi
        obtain ⟨a, c, d, d2⟩ := h10 i hi
        refine ⟨a, c, d, ?_⟩
        simp only []
        rw [pk_un (by omega), d2]
    · intro k hk
      unfold gF at hk
      simp only []
      rw [pk_un (by omega)]
  · rw [if_neg nI1n]
    simp (disch := omega) only [k80, k4, k2, nI_leI, nI_ltI, nI_eq, nI_1, nI_add, pk_mul, nI_clamp, gd_ix]
    refine ⟨_, _, rfl, rfl, rfl, ?_, ?_⟩
    · refine ⟨pil, n, pl, wy, te, fun w => if w = j then z else lo w, fr, hn, ⟨h1, ?_, ?_⟩, ⟨rfl, ?_⟩, ?_, ?_, ?_, ?_, ?_⟩
      · simp only []
        rw [pk_un (by omega), h2]
      · intro k hk
        simp only []
        rw [pk_un (by omega), h3 k hk]
      · simp only []
        rw [pk_un (by omega), h5]
      · intro w hw
        simp only [Floor_place]
        rw [pk_un (by omega)]; exact h6 w hw
      · intro w hw
        simp only [Floor_way]
        rw [pk_un (by omega)]; exact h7 w hw
      · intro w hw
        simp only [Floor_tell]
        rw [pk_un (by omega)]; exact h8 w hw
      · intro w hw
        simp only [Floor_look]
        by_cases e : w = j
        · subst e; rw [if_pos rfl, pk_us, pk_us]; exact ⟨by omega, rfl, rfl⟩
        · rw [if_neg e, pk_un e, pk_un (by omega)]; exact h9 w hw
      · intro i hi
        obtain ⟨a, c, d, d2⟩ := h10 i hi
        refine ⟨a, c, d, ?_⟩
        simp only []
        rw [pk_un (by omega), d2]
    · intro k hk
      unfold gF at hk
      simp only []
      rw [pk_un (by omega)]
theorem setFar_ok {x : T_Floor} {b : Nat → Int32} (h : RFl x b) (p q : Int32) : ∃ u v, F_Floor_setFar p q (Floor_farSquare x) = some u ∧ F_R_far p q b = some v ∧ u.1 = v.1 ∧ RFl (Floor_pillars x, Floor_weavers x, Floor_place x, Floor_way x, Floor_tell x, Floor_look x, u.2) v.2 ∧ (∀ k, ¬ gF k → v.2 k = b k) := by
  have h0 := h
  obtain ⟨pil, n, pl, wy, te, lo, fr, hn, ⟨h1, h2, h3⟩, ⟨h4, h5⟩, h6, h7, h8, h9, h10⟩ := h
  unfold F_Floor_setFar F_R_far
  rw [in_lit p (a' := 0) (b' := 1) (by decide) (by decide), in_lit q (a' := 1) (b' := 98) (by decide) (by decide)]
  rcases sw_cases p 0 1 (ia := 0) (ib := 1) rfl rfl (by omega) (by omega) with ⟨hw, _⟩ | ⟨hw, j, _, hj, rfl⟩
  · rw [hw, if_pos rfl, if_pos rfl]
    exact ⟨_, _, rfl, rfl, rfl, h0, fun _ _ => rfl⟩
  rw [hw, if_neg n10, if_neg n10]
  rcases sw_cases q 1 98 (ia := 1) (ib := 98) rfl rfl (by omega) (by omega) with ⟨hw2, _⟩ | ⟨hw2, f, hf1, hf, rfl⟩
  · rw [hw2, if_pos rfl, if_pos rfl]
    exact ⟨_, _, rfl, rfl, rfl, h0, fun _ _ => rfl⟩
  rw [hw2, if_neg n10, if_neg n10]
  unfold F_R_puts
  simp (disch := omega) only [k6, nI_leI, nI_ltI, nI_eq, nI_1, nI_add, pk_mul, nI_clamp, gd_ix, bO_s, u2]
  refine ⟨_, _, rfl, rfl, (h10 j (by omega)).2.2.1.trans (h10 j (by omega)).2.2.2.symm, ?_, ?_⟩
  · refine ⟨pil, n, pl, wy, te, lo, fun w => if w = j then f else fr w, hn, ⟨h1, ?_, ?_⟩, ⟨h4, ?_⟩, ?_, ?_, ?_, ?_, ?_⟩
    · simp only []
      rw [pk_un (by omega), h2]
    · intro k hk
      simp only []
      rw [pk_un (by omega), h3 k hk]
    · simp only []
      rw [pk_un (by omega), h5]
    · intro w hw
      simp only [Floor_place]
      rw [pk_un (by omega)]; exact h6 w hw
    · intro w hw
      simp only [Floor_way]
      rw [pk_un (by omega)]; exact h7 w hw
    · intro w hw
      simp only [Floor_tell]
      rw [pk_un (by omega)]; exact h8 w hw
    · intro w hw
      simp only [Floor_look]
      rw [pk_un (by omega)]; exact h9 w hw
    · intro i hi
      simp only [Floor_farSquare]
      by_cases e : i = j
      · subst e; rw [if_pos rfl, pk_us, pk_us]; exact ⟨by omega, by omega, rfl, rfl⟩
      · rw [if_neg e, pk_un e, pk_un (by omega)]; exact h10 i hi
  · intro k hk
    unfold gF at hk
    simp only []
    rw [pk_un (by omega)]
/-- what the floor's looking calls rest on -/
theorem RFl.perc {x : T_Floor} {b : Nat → Int32} (h : RFl x b) : ∃ (pil : Nat → Bool) (n : Nat), n ≤ 8 ∧ Floor_pillars x = lN (bm 64 pil) ∧ (∀ p, p < 64 → b (10 + p) = bI (pil p)) ∧ Floor_weavers x = nI n ∧ b 1 = nI n ∧
    (∀ w, w < n → Floor_place x w = b (80 + 4 * w)) ∧ (∀ w, w < n → Floor_way x w = b (80 + 4 * w + 1)) ∧ Floor_farSquare x 0 = b 6 ∧ Floor_farSquare x 1 = b 7 := by
  obtain ⟨pil, n, pl, wy, te, lo, fr, hn, ⟨h1, h2, h3⟩, ⟨h4, h5⟩, h6, h7, h8, h9, h10⟩ := h
  exact ⟨pil, n, hn, h1, h3, h4, h5, fun w hw => (h6 w hw).2.1.trans (h6 w hw).2.2.symm, fun w hw => (h7 w hw).2.1.trans (h7 w hw).2.2.symm, (h10 0 (by omega)).2.2.1.trans (h10 0 (by omega)).2.2.2.symm, (h10 1 (by omega)).2.2.1.trans (h10 1 (by omega)).2.2.2.symm⟩
theorem pcI_eq {pil : Nat → Bool} {far far' place place' way way' : Nat → Int32} {how : Bool} {a c : Nat} (f0 : far 0 = far' 0) (f1 : far 1 = far' 1) (pa : place a = place' a) (pc : place c = place' c) (wa : way a = way' a) (wc : way c = way' c) : pcI pil far place way how a c = pcI pil far' place' way' how a c := by
  unfold pcI
  rw [f0, f1, pa, pc, wa, wc]
theorem P_pillar_ok {N : Nat} (hN : 100 ≤ N) : P_pillar N Rel := by
  intro x y p h
  obtain ⟨u, v, e1, e2, e3, e4, e5⟩ := pillar_ok hN h.1.1 p
  refine ⟨u, v, ?_, e2, e3, h.floor e4 e5⟩
  unfold F_S_pillar
  rw [e1, bO_s]; rfl
theorem P_weaver_ok {N : Nat} (hN : 100 ≤ N) : P_weaver N Rel := by
  intro x y p q h
  obtain ⟨u, v, e1, e2, e3, e4, e5⟩ := weaver_ok hN h.1.1 p q
  refine ⟨u, v, ?_, e2, e3, h.floor e4 e5⟩
  unfold F_S_weaver
  rw [e1, bO_s]; rfl
theorem P_face_ok {N : Nat} : P_face N Rel := by
  intro x y p q h
  obtain ⟨u, v, e1, e2, e3, e4, e5⟩ := turn_ok h.1.1 p q
  refine ⟨u, v, ?_, e2, e3, h.floor e4 e5⟩
  unfold F_S_face
  rw [e1, bO_s]; rfl
theorem P_free_ok {N : Nat} (hN : 100 ≤ N) : P_free N Rel := by
  intro x y p q r s h
  obtain ⟨u, v, e1, e2, e3, e4, e5⟩ := setFree_ok hN h.1.1 p q r s
  refine ⟨u, v, ?_, e2, e3, h.floor e4 e5⟩
  unfold F_S_free
  rw [e1, bO_s]; rfl
theorem P_far_ok {N : Nat} : P_far N Rel := by
  intro x y p q h
  obtain ⟨u, v, e1, e2, e3, e4, e5⟩ := setFar_ok h.1.1 p q
  refine ⟨u, v, ?_, e2, e3, h.floor e4 e5⟩
  unfold F_S_far
  rw [e1, bO_s]; rfl
theorem P_sees_ok {N : Nat} (hN : 100 ≤ N) : P_sees N Rel := by
  intro x y p q r h
  obtain ⟨pil, n, hn, h1, h2, h3, h4, h5, h6, h7, h8⟩ := h.1.1.perc
  unfold F_S_sees F_R_sees
  rw [RareTwo_eq, h4, h3, in_lit r (a' := 0) (b' := 1) (by decide) (by decide)]
  rcases two_cases p q (n := n) (by omega) with e | ⟨e, i, j, hi, hj, hij, rfl, rfl⟩
  · rw [e, if_pos rfl, if_pos rfl]
    exact ⟨_, _, rfl, rfl, rfl, h⟩
  rw [e, if_neg n10, if_neg n10]
  rcases sw_cases r 0 1 (ia := 0) (ib := 1) rfl rfl (by omega) (by omega) with ⟨hw, _⟩ | ⟨hw, m, _, hm, rfl⟩
  · rw [hw, if_pos rfl, if_pos rfl]
    exact ⟨_, _, rfl, rfl, rfl, h⟩
  rw [hw, if_neg n10, if_neg n10]
  have hm2 : m = 0 ∨ m = 1 := by omega
  rcases hm2 with rfl | rfl
  · have e1 := perc_ok (N := N) (pil := pil) (place := Floor_place (Shed_floor (S_now x))) (way := Floor_way (Shed_floor (S_now x))) (far := Floor_farSquare (Shed_floor (S_now x))) (how := false) hN (show i < 8 by omega) (show j < 8 by omega)
    have e2 : nI 0 = bI false := rfl
    rw [if_pos nI_0, h1, e2, e1, RareFacing_ok hN h2 (show i < 8 by omega) (show j < 8 by omega), bO_s, bO_s, bO_s, oneIf_bI, ifB,
      pcI_eq (far' := fun i => R_book y (6 + i)) (place' := fun w => R_book y (80 + 4 * w)) (way' := fun w => R_book y (80 + 4 * w + 1)) h7 h8 (h5 i hi) (h5 j hj) (h6 i hi) (h6 j hj)]
    exact ⟨_, _, rfl, rfl, rfl, h⟩
  · have e1 := perc_ok (N := N) (pil := pil) (place := Floor_place (Shed_floor (S_now x))) (way := Floor_way (Shed_floor (S_now x))) (far := Floor_farSquare (Shed_floor (S_now x))) (how := true) hN (show i < 8 by omega) (show j < 8 by omega)
    have e2 : nI 1 = bI true := rfl
    rw [if_neg nI1n, h1, e2, e1, Rwatches_ok hN h2 (show i < 8 by omega) (show j < 8 by omega), bO_s, bO_s, bO_s, oneIf_bI, ifB,
      pcI_eq (far' := fun i => R_book y (6 + i)) (place' := fun w => R_book y (80 + 4 * w)) (way' := fun w => R_book y (80 + 4 * w + 1)) h7 h8 (h5 i hi) (h5 j hj) (h6 i hi) (h6 j hj)]
    exact ⟨_, _, rfl, rfl, rfl, h⟩
theorem P_clear_ok {N : Nat} (hN : 100 ≤ N) : P_clear N Rel := by
  intro x y p q h
  obtain ⟨pil, n, hn, h1, h2, h3, h4, h5, h6, h7, h8⟩ := h.1.1.perc
  unfold F_S_clear F_R_clear
  rw [RareTwo_eq, h4, h3]
  rcases two_cases p q (n := n) (by omega) with e | ⟨e, i, j, hi, hj, hij, rfl, rfl⟩
  · rw [e, if_pos rfl, if_pos rfl]
    exact ⟨_, _, rfl, rfl, rfl, h⟩
  rw [e, if_neg n10, if_neg n10, h1, isClear_ok hN (show i < 8 by omega) (show j < 8 by omega), bO_s, RplaceOf_ok (by omega), bO_s, RplaceOf_ok (by omega), bO_s, RisClear_ok hN h2, bO_s, h5 i hi, h5 j hj, oneIf_bI, ifB]
  exact ⟨_, _, rfl, rfl, rfl, h⟩
