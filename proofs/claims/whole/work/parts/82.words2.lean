theorem L33_ok {N m v : Nat} (hN : 100 ≤ N) (hm : m ≤ 6) (hv : v < 2 ^ 31) : Lexicon_addWord_L33 (nI m) N (nI v) 0 = some (nI (v / 6 ^ m)) := by
  have t := lp0 (L := fun f j => Lexicon_addWord_L33 (nI m) f (nI (v / 6 ^ j)) (nI j)) (n := m) (N := N) (r := nI (v / 6 ^ m)) (fun f j hj => by
      show Lexicon_addWord_L33 (nI m) (f + 1) (nI (v / 6 ^ j)) (nI j) = Lexicon_addWord_L33 (nI m) f (nI (v / 6 ^ (j + 1))) (nI (j + 1))
      have hd : v / 6 ^ j ≤ v := Nat.div_le_self _ _
      rw [Lexicon_addWord_L33, if_neg (nI_ge (by omega) (by omega)), nI_1, Nat.pow_succ, ← Nat.div_div_eq_div_mul]
      congr 1
      exact pk_div (d := 6) (by omega) (by omega) (by omega)) (fun f => by
      show Lexicon_addWord_L33 (nI m) (f + 1) (nI (v / 6 ^ m)) (nI m) = _
      rw [Lexicon_addWord_L33, if_pos (nI_le (Nat.le_refl m) (by omega))]) (by omega)
  have t2 : Lexicon_addWord_L33 (nI m) N (nI (v / 6 ^ 0)) (nI 0) = _ := t
  rw [Nat.pow_zero, Nat.div_one] at t2
  exact t2
/-- a word more -/
theorem word_ok {N : Nat} (hN : 100 ≤ N) {x : T_Lexicon} {b : Nat → Int32} (h : RLx x b) (p q r : Int32) : ∃ u v, F_Lexicon_addWord N p q r (Lexicon_words x) (Lexicon_length x) (Lexicon_number x) (Lexicon_weight x) (Lexicon_lipsOf x) = some u ∧ F_R_word N p q r b = some v ∧ u.1 = v.1 ∧
    RLx (u.2.1, u.2.2.1, u.2.2.2.1, u.2.2.2.2.1, Lexicon_leastLike x, Lexicon_row x, Lexicon_rowLips x, Lexicon_girlKnows x, u.2.2.2.2.2, Lexicon_others x) v.2 ∧ (∀ k, ¬ gL k → v.2 k = b k) := by
  have h0 := h
  obtain ⟨n, ln, nu, wt, ll, nr, ro, gi, hn, hnr, hgi, h1, h2, h3, h7, h8, h9, h10, h11, h12⟩ := h
  unfold F_Lexicon_addWord F_R_word
  rw [in_lit p (a' := 1) (b' := 6) (by decide) (by decide), in_lit r (a' := 1) (b' := 9) (by decide) (by decide)]
  rcases sw_cases p 1 6 (ia := 1) (ib := 6) rfl rfl (by omega) (by omega) with ⟨hp, _⟩ | ⟨hp, m, hm1, hm, rfl⟩
  · rw [hp, if_pos rfl, if_pos rfl]; exact ⟨_, _, rfl, rfl, rfl, h0, fun _ _ => rfl⟩
  have hp6 := p6 hm
  have hp0 : 0 < 6 ^ m := Nat.pow_pos (by decide)
  rw [hp, if_neg n10, if_neg n10, Rpower_ok hN hm, bO_s]
  have e1 : nI (6 ^ m) - 1 = nI (6 ^ m - 1) := pk_sub (a := 6 ^ m) (b := 1) (by omega)
  rw [e1, in_lit q (a' := 0) (b' := nI (6 ^ m - 1)) (by decide) rfl]
  rcases sw_cases q 0 (6 ^ m - 1) (ia := 0) (ib := nI (6 ^ m - 1)) rfl rfl (by omega) (by omega) with ⟨hq, hqn⟩ | ⟨hq, v, _, hv, rfl⟩
  · rw [hq, if_pos rfl]
    refine ⟨(-2, Lexicon_words x, Lexicon_length x, Lexicon_number x, Lexicon_weight x, Lexicon_lipsOf x), _, ?_, rfl, rfl, h0, fun _ _ => rfl⟩
    by_cases hr : F_S_within r 1 9 = 0
    · rw [if_pos hr]
    rw [if_neg hr]
    by_cases h00 : 0 ≤ q
    · rw [if_pos h00]
      have hnlt : ¬ q < 0 := by
        intro hh; rw [fa_lt] at hh; rw [fa_le] at h00; omega
      obtain ⟨v, hv, rfl⟩ := nI_of hnlt
      have hbig : 6 ^ m ≤ v := by
        rcases Nat.lt_or_ge v (6 ^ m) with z | z
        · exact absurd ⟨v, by omega, by omega, rfl⟩ hqn
        · exact z
      have c1 := L33_ok (N := N) (m := m) (v := v) hN hm (by omega)
      rw [c1, bO_s, if_neg (nI_ne0 (Nat.div_pos hbig hp0) (by have := Nat.div_le_self v (6 ^ m); omega))]
    · rw [if_neg h00]
  rw [hq, if_neg n10, if_pos (nI_pos' (by omega))]
  have c1 := L33_ok (N := N) (m := m) (v := v) hN hm (by omega)
  rw [c1, bO_s, Nat.div_eq_of_lt (by omega), nI_0, if_pos rfl]
  rcases sw_cases r 1 9 (ia := 1) (ib := 9) rfl rfl (by omega) (by omega) with ⟨hr, _⟩ | ⟨hr, z, hz1, hz, rfl⟩
  · rw [hr, if_pos rfl, if_pos rfl]; exact ⟨_, _, rfl, rfl, rfl, h0, fun _ _ => rfl⟩
  rw [hr, if_neg n10, if_neg n10, h1.1, h1.2]
  by_cases h10' : n = 10
  · subst h10'
    rw [if_neg (show ¬ nI 10 < 10 by decide), if_pos (show nI 10 = 10 from rfl)]
    exact ⟨_, _, rfl, rfl, rfl, by rw [← h1.1]; exact h0, fun _ _ => rfl⟩
  have hlt : nI n < 10 := nI_lt (b := 10) (by omega) (by omega)
  have hne : ¬ nI n = 10 := fun q => h10' ((nI_eq (b := 10) (by omega) (by omega)).mp q)
  rw [if_pos hlt, if_neg hne]
  have c2 : ∃ lips', Lexicon_addWord_L110 (nI n) N (nI v) (nI m - 1) (Lexicon_lipsOf x) = some lips' ∧ (∀ k, k < 6 * n → lips' k = Lexicon_lipsOf x k) ∧ (∀ i, i < m → lips' (6 * n + i) = nI (v / 6 ^ (m - 1 - i) % 6)) := by
    refine ⟨fun k => if 6 * n ≤ k ∧ k < 6 * n + m then nI (v / 6 ^ (m - 1 - (k - 6 * n)) % 6) else Lexicon_lipsOf x k, ?_, ?_, ?_⟩
    · have t := lpDn (L := fun f j => Lexicon_addWord_L110 (nI n) f (nI (v / 6 ^ (m - j))) (nI j - 1) (fun k => if 6 * n + j ≤ k ∧ k < 6 * n + m then nI (v / 6 ^ (m - 1 - (k - 6 * n)) % 6) else Lexicon_lipsOf x k)) (n := m) (N := N) (r := fun k => if 6 * n ≤ k ∧ k < 6 * n + m then nI (v / 6 ^ (m - 1 - (k - 6 * n)) % 6) else Lexicon_lipsOf x k) (fun f j hj => by
          show Lexicon_addWord_L110 (nI n) (f + 1) (nI (v / 6 ^ (m - (j + 1)))) (nI (j + 1) - 1) _ = Lexicon_addWord_L110 (nI n) f (nI (v / 6 ^ (m - j))) (nI j - 1) _
          have hd : v / 6 ^ (m - (j + 1)) ≤ v := Nat.div_le_self _ _
          rw [Lexicon_addWord_L110, nI_pred, if_neg (nI_pos (by omega)), dec1]
          simp (disch := omega) only [k6, nI_leI, nI_ltI, nI_eq, nI_1, nI_add, pk_mul, nI_clamp, gd_ix]
          have e2 : nI (v / 6 ^ (m - (j + 1))) / nI 6 = nI (v / 6 ^ (m - j)) := by
            rw [pk_div (by omega) (by omega) (by omega), Nat.div_div_eq_div_mul, ← Nat.pow_succ, show (m - (j + 1)).succ = m - j by omega]
          have e3 : jrem (nI (v / 6 ^ (m - (j + 1)))) (nI 6) = nI (v / 6 ^ (m - 1 - j) % 6) := by
            have := pk_rem (a := v / 6 ^ (m - (j + 1))) (d := 6) (by omega) (by omega) (by omega)
            rw [show m - 1 - j = m - (j + 1) by omega]
            exact this
          rw [e2, e3]
          congr 1
          funext k
          by_cases e4 : k = n * 6 + j
          · subst e4
            rw [pk_us, if_pos (by omega), show m - 1 - (n * 6 + j - 6 * n) = m - 1 - j by omega]
          · rw [pk_un e4]
            simp only [show (6 * n + (j + 1) ≤ k ∧ k < 6 * n + m) ↔ (6 * n + j ≤ k ∧ k < 6 * n + m) by omega]) (fun f => by
          show Lexicon_addWord_L110 (nI n) (f + 1) _ (nI 0 - 1) _ = _
          rw [Lexicon_addWord_L110, if_pos m1_lt0]
          rfl) (by omega)
      have t2 : Lexicon_addWord_L110 (nI n) N (nI (v / 6 ^ (m - m))) (nI m - 1) (fun k => if 6 * n + m ≤ k ∧ k < 6 * n + m then nI (v / 6 ^ (m - 1 - (k - 6 * n)) % 6) else Lexicon_lipsOf x k) = _ := t
      rw [Nat.sub_self, Nat.pow_zero, Nat.div_one] at t2
      have e : (fun k => if 6 * n + m ≤ k ∧ k < 6 * n + m then nI (v / 6 ^ (m - 1 - (k - 6 * n)) % 6) else Lexicon_lipsOf x k) = Lexicon_lipsOf x := by
        funext k; rw [if_neg (by omega)]
      rw [e] at t2
      exact t2
    · intro k hk; simp only []; rw [if_neg (by omega)]
    · intro i hi; simp only []; rw [if_pos (by omega), show 6 * n + i - 6 * n = i by omega]
  obtain ⟨lips', c3, c4, c5⟩ := c2
  have c3' : Lexicon_addWord_L110 (nI n) N (nI v) (nI m - 1) (Lexicon_lipsOf x) = some lips' := c3
  simp (disch := omega) only [gd_ix, nI_clamp]
  rw [c3', bO_s]
  simp (disch := omega) only [k160, k3, k2, nI_leI, nI_ltI, nI_eq, nI_1, nI_add, pk_mul, nI_clamp, gd_ix]
  refine ⟨_, _, rfl, rfl, ?_, ?_, ?_⟩
  · simp only [pk_us]
    rw [pk_un (by omega), pk_un (by omega), pk_un (by omega), h1.2, nI_1]
  · refine ⟨n + 1, fun w => if w = n then m else ln w, fun w => if w = n then v else nu w, fun w => if w = n then z else wt w, ll, nr, ro, gi, by omega, hnr, ?_, ⟨rfl, ?_⟩, ⟨h2.1, ?_⟩, ⟨h3.1, ?_⟩, ?_, ?_, ?_, ?_, ?_, ?_⟩
    · have := p2 (show n ≤ n + 1 by omega); omega
    · simp only [pk_us]
      rw [pk_un (by omega), pk_un (by omega), pk_un (by omega), h1.2, nI_1]
    · simp only []
      rw [pk_un (by omega), pk_un (by omega), pk_un (by omega), pk_un (by omega), h2.2]
    · simp only []
      rw [pk_un (by omega), pk_un (by omega), pk_un (by omega), pk_un (by omega), h3.2]
    · intro w hw
      simp only [Lexicon_length]
      rw [pk_un (show 160 + 3 * w ≠ 3 by omega), pk_un (show 160 + 3 * w ≠ 160 + 3 * n + 2 by omega), pk_un (show 160 + 3 * w ≠ 160 + 3 * n + 1 by omega)]
      by_cases e : w = n
      · subst e; rw [if_pos rfl, pk_us, pk_us]; exact ⟨hm1, hm, rfl, rfl⟩
      · rw [if_neg e, pk_un e, pk_un (by omega)]; exact h7 w (by omega)
    · intro w hw
      simp only [Lexicon_number]
      rw [pk_un (show 160 + 3 * w + 1 ≠ 3 by omega), pk_un (show 160 + 3 * w + 1 ≠ 160 + 3 * n + 2 by omega)]
      by_cases e : w = n
      · subst e; rw [if_pos rfl, if_pos rfl, pk_us, pk_us]; exact ⟨by omega, rfl, rfl⟩
      · rw [if_neg e, if_neg e, pk_un e, pk_un (by omega), pk_un (by omega)]; exact h8 w (by omega)
    · intro w hw
      simp only [Lexicon_weight]
      rw [pk_un (show 160 + 3 * w + 2 ≠ 3 by omega)]
      by_cases e : w = n
      · subst e; rw [if_pos rfl, pk_us, pk_us]; exact ⟨hz1, hz, rfl, rfl⟩
      · rw [if_neg e, pk_un e, pk_un (by omega), pk_un (by omega), pk_un (by omega)]; exact h9 w (by omega)
    · intro w i hw hi
      show lips' (6 * w + i) = _
      by_cases e : w = n
      · subst e
        simp only [if_true] at hi ⊢
        exact c5 i hi
      · simp only [e, if_false] at hi ⊢
        have := (h7 w (by omega)).2.1
        rw [c4 _ (by omega)]
        exact h10 w i (by omega) hi
    · intro l hl
      simp only []
      rw [pk_un (by omega), pk_un (by omega), pk_un (by omega), pk_un (by omega)]; exact h11 l hl
    · intro k hk
      simp only []
      rw [pk_un (by omega), pk_un (by omega), pk_un (by omega), pk_un (by omega)]; exact h12 k hk
  · intro k hk
    unfold gL at hk
    simp only []
    rw [pk_un (by omega), pk_un (by omega), pk_un (by omega), pk_un (by omega)]
theorem P_word_ok {N : Nat} (hN : 100 ≤ N) : P_word N Rel := by
  intro x y p q r h
  obtain ⟨u, v, e1, e2, e3, e4, e5⟩ := word_ok hN h.1.2.2.1 p q r
  refine ⟨u, v, ?_, e2, e3, h.lex e4 e5⟩
  unfold F_S_word
  rw [e1, bO_s]; rfl
theorem P_lip_ok {N : Nat} : P_lip N Rel := by
  intro x y p h
  have h0 := h.1.2.2.1
  obtain ⟨n, ln, nu, wt, ll, nr, ro, gi, hn, hnr, hgi, h1, h2, h3, h7, h8, h9, h10, h11, h12⟩ := h0
  unfold F_S_lip F_Lexicon_addLip F_R_lip
  rw [in_lit p (a' := 0) (b' := 5) (by decide) (by decide)]
  rcases sw_cases p 0 5 (ia := 0) (ib := 5) rfl rfl (by omega) (by omega) with ⟨hp, _⟩ | ⟨hp, a, _, ha, rfl⟩
  · rw [hp, if_pos rfl, if_pos rfl, bO_s]; exact ⟨_, _, rfl, rfl, rfl, h⟩
  rw [hp, if_neg n10, if_neg n10, h2.1, h2.2]
  by_cases e : nr = 24
  · subst e
    rw [if_neg (show ¬ nI 24 < 24 by decide), if_pos (show nI 24 = 24 from rfl), bO_s]
    exact ⟨_, _, rfl, rfl, rfl, by rw [← h2.1]; exact h⟩
  have hlt : nI nr < 24 := nI_lt (b := 24) (by omega) (by omega)
  have hne : ¬ nI nr = 24 := fun q => e ((nI_eq (b := 24) (by omega) (by omega)).mp q)
  rw [if_pos hlt, if_neg hne]
  simp (disch := omega) only [k190, nI_leI, nI_ltI, nI_eq, nI_1, nI_add, pk_mul, nI_clamp, gd_ix, bO_s, u3]
  refine ⟨_, _, rfl, rfl, ?_, h.lex (f := (_, _, _, _, _, _, _, _, _, _)) ?_ ?_⟩
  · simp only [pk_us]
    rw [pk_un (by omega), h2.2, nI_1]
  · refine ⟨n, ln, nu, wt, ll, nr + 1, fun k => if k = nr then a else ro k, gi, hn, by omega, hgi, ⟨h1.1, ?_⟩, ⟨rfl, ?_⟩, ⟨h3.1, ?_⟩, ?_, ?_, ?_, h10, ?_, ?_⟩
    · simp only []; rw [pk_un (by omega), pk_un (by omega), h1.2]
    · simp only [pk_us]; rw [pk_un (by omega), h2.2, nI_1]
    · simp only []; rw [pk_un (by omega), pk_un (by omega), h3.2]
    · intro w hw; simp only []; rw [pk_un (by omega), pk_un (by omega)]; exact h7 w hw
    · intro w hw; simp only []; rw [pk_un (by omega), pk_un (by omega)]; exact h8 w hw
    · intro w hw; simp only []; rw [pk_un (by omega), pk_un (by omega)]; exact h9 w hw
    · intro w hw; simp only []; rw [pk_un (by omega), pk_un (by omega)]; exact h11 w hw
    · intro k hk
      simp only [Lexicon_row]
      rw [pk_un (show 190 + k ≠ 4 by omega)]
      by_cases e : k = nr
      · subst e; rw [if_pos rfl, pk_us, pk_us]; exact ⟨by omega, rfl, rfl⟩
      · rw [if_neg e, pk_un e, pk_un (by omega)]; exact h12 k (by omega)
  · intro k hk
    unfold gL at hk
    simp only []
    rw [pk_un (by omega), pk_un (by omega)]
theorem P_hush_ok {N : Nat} : P_hush N Rel := by
  intro x y h
  have h0 := h.1.2.2.1
  obtain ⟨n, ln, nu, wt, ll, nr, ro, gi, hn, hnr, hgi, h1, h2, h3, h7, h8, h9, h10, h11, h12⟩ := h0
  unfold F_S_hush F_R_hush F_R_puts
  simp (disch := omega) only [k4, nI_leI, nI_ltI, nI_eq, nI_1, nI_add, pk_mul, nI_clamp, gd_ix, bO_s, u2]
  refine ⟨_, _, rfl, rfl, h2.1.trans h2.2.symm, h.lex (f := (_, _, _, _, _, _, _, _, _, _)) ?_ ?_⟩
  · refine ⟨n, ln, nu, wt, ll, 0, ro, gi, hn, by omega, hgi, ⟨h1.1, ?_⟩, ⟨rfl, ?_⟩, ⟨h3.1, ?_⟩, ?_, ?_, ?_, h10, ?_, ?_⟩
    · simp only []; rw [pk_un (by omega), h1.2]
    · simp only [pk_us]; rfl
    · simp only []; rw [pk_un (by omega), h3.2]
    · intro w hw; simp only []; rw [pk_un (by omega)]; exact h7 w hw
    · intro w hw; simp only []; rw [pk_un (by omega)]; exact h8 w hw
    · intro w hw; simp only []; rw [pk_un (by omega)]; exact h9 w hw
    · intro w hw; simp only []; rw [pk_un (by omega)]; exact h11 w hw
    · intro k hk; exact absurd hk (Nat.not_lt_zero k)
  · intro k hk
    unfold gL at hk
    simp only []
    rw [pk_un (by omega)]
