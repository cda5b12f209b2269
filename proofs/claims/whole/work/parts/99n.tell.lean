-- AN ITEM TOLD
theorem gFL {k : Nat} (h : gL k) : ¬ gF k := by unfold gL gF at *; omega
theorem gLF {k : Nat} (h : gF k) : ¬ gL k := by unfold gL gF at *; omega
theorem jmin0 (a b : Int32) : 0 ≤ jmin a b ↔ 0 ≤ a ∧ 0 ≤ b := by
  unfold jmin
  have e : (0 : Int32).toInt = 0 := rfl
  split <;> rename_i h <;> simp only [fa_le, fa_lt, e] at * <;> omega
def wvl (v : Nat → Nat) : Nat → Nat
  | 0 => 0
  | j + 1 => if j = 0 then 0 else 6 * wvl v j + v j
theorem tellWord_ok {N x m : Nat} {nu : Nat → Nat → Int32} {mn ns : Nat → Int32} (hN : 1000 ≤ N) (hx : x < 34) (h1 : 1 ≤ m) (hm : m ≤ 7) (hmn : mn x = nI m) (hV : VR nu ns x m) {lx : T_Lexicon} {b : Nat → Int32} (hL : RLx lx b) :
    ∃ u v, F_Text_tellWord N (nI m - 1) (nu x) 7 (Lexicon_words lx) (Lexicon_length lx) (Lexicon_number lx) (Lexicon_weight lx) (Lexicon_lipsOf lx) = some u ∧ F_R_tellsWord N (nI x) b mn ns = some v ∧ u.1 = v.1 ∧
      RLx (u.2.1, u.2.2.1, u.2.2.2.1, u.2.2.2.2.1, Lexicon_leastLike lx, Lexicon_row lx, Lexicon_rowLips lx, Lexicon_girlKnows lx, u.2.2.2.2.2, Lexicon_others lx) v.2 ∧ (∀ k, ¬ gL k → v.2 k = b k) := by
  have em : nI m - 1 = nI (m - 1) := pk_sub (b := 1) h1
  obtain ⟨vv, hvv⟩ : ∃ vv : Nat → Nat, ∀ j, j < m → vv j ≤ 999 ∧ nu x j = nI (vv j) ∧ ns (7 * x + j) = nI (vv j) := by
    refine ⟨fun j => if h : j < m then (hV j h).choose else 0, fun j hj => ?_⟩
    dsimp only
    rw [dif_pos hj]
    exact (hV j hj).choose_spec
  have hC : ∀ (d f j : Nat), j + d = m → 1 ≤ j → d < f → (∀ l, 1 ≤ l → l < j → vv l < 6) → ∃ r, Text_tellWord_L5 (nI (m - 1)) 7 (nu x) (Lexicon_words lx) (Lexicon_length lx) (Lexicon_number lx) (Lexicon_weight lx) (Lexicon_lipsOf lx) f (nI (wvl vv j)) (nI j) = some r ∧
      ((r = .inr (nI (wvl vv m)) ∧ ∀ l, 1 ≤ l → l < m → vv l < 6) ∨ (r = .inl (-2, Lexicon_words lx, Lexicon_length lx, Lexicon_number lx, Lexicon_weight lx, Lexicon_lipsOf lx) ∧ ¬ ∀ l, 1 ≤ l → l < m → vv l < 6)) := by
    intro d
    induction d with
    | zero =>
      intro f j hj h1j hf hal
      obtain ⟨f, rfl⟩ : ∃ z, f = z + 1 := ⟨f - 1, by omega⟩
      have hjm : j = m := by omega
      subst hjm
      rw [Text_tellWord_L5, if_pos (by simp (disch := omega) only [nI_leI, nI_ltI, nI_eq, nI_1, nI_add, pk_mul, nI_clamp]; omega)]
      exact ⟨_, rfl, Or.inl ⟨rfl, hal⟩⟩
    | succ d ih =>
      intro f j hj h1j hf hal
      obtain ⟨f, rfl⟩ : ∃ z, f = z + 1 := ⟨f - 1, by omega⟩
      obtain ⟨b1, b2, b3⟩ := hvv j (by omega)
      rw [Text_tellWord_L5, if_neg (by simp (disch := omega) only [nI_leI, nI_ltI, nI_eq, nI_1, nI_add, pk_mul, nI_clamp]; omega), gd_ix (by omega) (by omega), nI_clamp (by omega), b2]
      by_cases z : vv j < 6
      · have ew : wvl vv (j + 1) = wvl vv j * 6 + vv j := by
          show (if j = 0 then 0 else 6 * wvl vv j + vv j) = _
          rw [if_neg (by omega), Nat.mul_comm]
        rw [if_pos (by simp (disch := omega) only [k6, nI_leI, nI_ltI, nI_eq, nI_1, nI_add, pk_mul, nI_clamp]; omega), k6, pk_mul, nI_add, nI_1, ← ew]
        exact ih f (j + 1) (by omega) (by omega) (by omega) (fun l l1 l2 => by
          by_cases q : l = j
          · rw [q]; exact z
          · exact hal l l1 (by omega))
      · rw [if_neg (by simp (disch := omega) only [k6, nI_leI, nI_ltI, nI_eq, nI_1, nI_add, pk_mul, nI_clamp]; omega)]
        exact ⟨_, rfl, Or.inr ⟨rfl, fun q => z (q j h1j (by omega))⟩⟩
  have hR : ∀ (d f j : Nat) (x2 fl : Int32), j + d = m → 1 ≤ j → d < f → ((fl = 1 ∧ x2 = nI (wvl vv j) ∧ ∀ l, 1 ≤ l → l < j → vv l < 6) ∨ (fl = 0 ∧ ¬ ∀ l, 1 ≤ l → l < j → vv l < 6)) → ∃ y fl', R_tellsWord_L7 (nI x) mn ns f x2 fl (nI j) = some (y, fl') ∧
      ((fl' = 1 ∧ y = nI (wvl vv m) ∧ ∀ l, 1 ≤ l → l < m → vv l < 6) ∨ (fl' = 0 ∧ ¬ ∀ l, 1 ≤ l → l < m → vv l < 6)) := by
    intro d
    induction d with
    | zero =>
      intro f j x2 fl hj h1j hf hal
      obtain ⟨f, rfl⟩ : ∃ z, f = z + 1 := ⟨f - 1, by omega⟩
      have hjm : j = m := by omega
      subst hjm
      rw [R_tellsWord_L7, gd_ix (by omega) (by omega), nI_clamp (by omega), hmn, if_pos (by simp (disch := omega) only [nI_leI, nI_ltI, nI_eq, nI_1, nI_add, pk_mul, nI_clamp]; omega)]
      exact ⟨_, _, rfl, hal⟩
    | succ d ih =>
      intro f j x2 fl hj h1j hf hal
      obtain ⟨f, rfl⟩ : ∃ z, f = z + 1 := ⟨f - 1, by omega⟩
      obtain ⟨b1, b2, b3⟩ := hvv j (by omega)
      have hj2 : ¬ nI m ≤ nI j := by simp (disch := omega) only [nI_leI, nI_ltI, nI_eq, nI_1, nI_add, pk_mul, nI_clamp]; omega
      rw [R_tellsWord_L7, gd_ix (by omega) (by omega), nI_clamp (by omega), hmn, if_neg hj2, k7, pk_mul, nI_add, gd_ix (by omega) (by omega), nI_clamp (by omega), b3, nI_1]
      rcases hal with ⟨rfl, rfl, hal⟩ | ⟨rfl, hal⟩
      · rw [if_neg n10]
        by_cases z : vv j < 6
        · have ew : wvl vv (j + 1) = 6 * wvl vv j + vv j := by
            show (if j = 0 then 0 else 6 * wvl vv j + vv j) = _
            rw [if_neg (by omega)]
          rw [if_neg (by simp (disch := omega) only [k6, nI_leI, nI_ltI, nI_eq, nI_1, nI_add, pk_mul, nI_clamp]; omega), bO_s, gd_ix (by omega) (by omega), k6, pk_mul, nI_add, ← ew]
          exact ih f (j + 1) _ _ (by omega) (by omega) (by omega) (Or.inl ⟨rfl, rfl, fun l l1 l2 => by
            by_cases q : l = j
            · rw [q]; exact z
            · exact hal l l1 (by omega)⟩)
        · rw [if_pos (by simp (disch := omega) only [k6, nI_leI, nI_ltI, nI_eq, nI_1, nI_add, pk_mul, nI_clamp]; omega), bO_s, gd_ix (by omega) (by omega)]
          exact ih f (j + 1) _ _ (by omega) (by omega) (by omega) (Or.inr ⟨rfl, fun q => z (q j h1j (by omega))⟩)
      · rw [if_pos rfl, bO_s, gd_ix (by omega) (by omega)]
        exact ih f (j + 1) _ _ (by omega) (by omega) (by omega) (Or.inr ⟨rfl, fun q => hal (fun l l1 l2 => q l l1 (by omega))⟩)
  obtain ⟨r, c1, c2⟩ := hC (m - 1) N 1 (by omega) (by omega) (by omega) (fun l l1 l2 => by omega)
  obtain ⟨y, fl', d1, d2⟩ := hR (m - 1) N 1 0 1 (by omega) (by omega) (by omega) (Or.inl ⟨rfl, rfl, fun l l1 l2 => by omega⟩)
  unfold F_Text_tellWord F_R_tellsWord
  rw [em, show Text_tellWord_L5 (nI (m - 1)) 7 (nu x) (Lexicon_words lx) (Lexicon_length lx) (Lexicon_number lx) (Lexicon_weight lx) (Lexicon_lipsOf lx) N 0 1 = _ from c1, show R_tellsWord_L7 (nI x) mn ns N 0 1 1 = _ from d1, bO_s]
  dsimp only [u2]
  rcases d2 with ⟨rfl, rfl, hal⟩ | ⟨rfl, hal⟩
  · rcases c2 with ⟨rfl, _⟩ | ⟨rfl, q⟩
    · obtain ⟨b1, b2, b3⟩ := hvv 0 (by omega)
      obtain ⟨u, v, w1, w2, w3, w4, w5⟩ := word_ok (N := N) (by omega) hL (nI (m - 1)) (nI (wvl vv m)) (nI (vv 0))
      rw [Nat.add_zero] at b3
      rw [bT_r, show (0 : Int32) = nI 0 from rfl, gd_ix (by omega) (by omega), b2, w1, bO_s, if_neg (show ¬ (1 : Int32) = nI 0 by decide), gd_ix (by omega) (by omega), k7, pk_mul, gd_ix (by omega) (by omega), nI_clamp (by omega), nI_clamp (by omega), hmn, em, b3, w2, bO_s]
      exact ⟨u, v, rfl, rfl, w3, w4, w5⟩
    · exact absurd hal q
  · rcases c2 with ⟨rfl, q⟩ | ⟨rfl, _⟩
    · exact absurd q hal
    · rw [bT_l, if_pos rfl]
      exact ⟨_, _, rfl, rfl, rfl, hL, fun _ _ => rfl⟩
