-- THE GIRL, THE DEAF
def btr (wt : Nat → Nat) (c a : Nat) : Bool := decide (wt a < wt c) || (decide (wt c = wt a) && decide (c < a))
def gtM (n : Nat) (ln nu ll wt : Nat → Nat) (k : Nat) : Nat := bm n (fun a => k.testBit a && lB n (fun c => !(k.testBit c) || (!(btr wt c a) || !(alD ln nu ll a c))))
section GI
variable {N n : Nat} {ln nu wt ll : Nat → Nat} {length weight least lipsOf b : Nat → Int32}
theorem better_ok (hN : 100 ≤ N) (h : LxC n ln nu wt ll length weight least lipsOf) (others : Nat → Int32) : ∃ o', F_Lexicon_findBetterAlike N (nI n) length weight least lipsOf others = some o' ∧ ∀ a, a < n → o' a = nI (bm n (fun c => btr wt c a && alD ln nu ll a c)) := by
  have h0 := h.1
  have cmp : ∀ a c, a < n → c < n → (if weight a < weight c then some (1 : Int32) else if weight c = weight a then if nI a ≤ nI c then some 0 else some 1 else some 0) = some (bI (btr wt c a)) := by
    intro a c ha hc
    have w1 := h.2.2.1 a ha
    have w2 := h.2.2.1 c hc
    rw [w1.2.2, w2.2.2]
    unfold btr
    by_cases e : wt a < wt c
    · rw [if_pos (nI_lt e (by omega)), decide_eq_true e]; rfl
    · rw [if_neg (nI_nlt (by omega) (by omega)), decide_eq_false e, Bool.false_or]
      by_cases e2 : wt c = wt a
      · rw [if_pos (by rw [e2]), decide_eq_true e2, Bool.true_and]
        by_cases e3 : c < a
        · rw [if_neg (nI_ge e3 (by omega)), decide_eq_true e3]; rfl
        · rw [if_pos (nI_le (by omega) (by omega)), decide_eq_false e3]; rfl
      · rw [if_neg (fun q => e2 ((nI_eq (by omega) (by omega)).mp q)), decide_eq_false e2]; rfl
  have inner : ∀ (a : Nat), a < n → ∀ (f j : Nat) (o : Nat → Int32), j ≤ n → n - j < f → o a = nI (bm j (fun c => btr wt c a && alD ln nu ll a c)) → ∃ o', Lexicon_findBetterAlike_L19 N (nI n) weight (nI a) length least lipsOf f (nI j) o = some o' ∧ o' a = nI (bm n (fun c => btr wt c a && alD ln nu ll a c)) ∧ ∀ k, k ≠ a → o' k = o k := by
    intro a ha f
    induction f with
    | zero => intro j _ _ h; omega
    | succ f ih =>
      intro j o hj hf ho
      rw [Lexicon_findBetterAlike_L19]
      by_cases e : j = n
      · subst e
        rw [if_pos (nI_le (Nat.le_refl _) (by omega))]
        exact ⟨o, rfl, ho, fun _ _ => rfl⟩
      · have hjn : j < n := by omega
        rw [if_neg (nI_ge (by omega) (by omega)), gd_ix (by omega) (by omega), nI_clamp (show a < 2 ^ 31 by omega), nI_clamp (show j < 2 ^ 31 by omega), cmp a j ha hjn, bO_s, alike_ok hN h ha hjn, bO_s, nI_1, ho]
        cases hb : btr wt j a
        · rw [bI_f, if_pos rfl]
          exact ih (j + 1) o (by omega) (by omega) (by rw [mk_skip (j := j) (by simp [hb])]; exact ho)
        · rw [bI_t, if_neg n10]
          cases hal : alD ln nu ll a j
          · rw [bI_f, if_pos rfl]
            exact ih (j + 1) o (by omega) (by omega) (by rw [mk_skip (j := j) (by simp [hal])]; exact ho)
          · rw [bI_t, if_neg n10, mk_set (by omega) (by simp [hal, hb])]
            obtain ⟨o', q1, q2, q3⟩ := ih (j + 1) (upd o a (nI (bm (j + 1) (fun c => btr wt c a && alD ln nu ll a c)))) (by omega) (by omega) pk_us
            exact ⟨o', q1, q2, fun k hk => (q3 k hk).trans (pk_un hk)⟩
  have outer : ∀ (f a : Nat) (o : Nat → Int32), a ≤ n → n - a < f → (∀ k, k < a → o k = nI (bm n (fun c => btr wt c k && alD ln nu ll k c))) → ∃ o', Lexicon_findBetterAlike_L2 N (nI n) weight length least lipsOf f (nI a) o = some o' ∧ ∀ k, k < n → o' k = nI (bm n (fun c => btr wt c k && alD ln nu ll k c)) := by
    intro f
    induction f with
    | zero => intro a _ _ h; omega
    | succ f ih =>
      intro a o ha hf ho
      rw [Lexicon_findBetterAlike_L2]
      by_cases e : a = n
      · subst e
        rw [if_pos (nI_le (Nat.le_refl _) (by omega))]
        exact ⟨o, rfl, ho⟩
      · rw [if_neg (nI_ge (by omega) (by omega)), gd_ix (by omega) (by omega), nI_1, nI_clamp (by omega)]
        obtain ⟨o', q1, q2, q3⟩ := inner a (by omega) N 0 (upd o a 0) (by omega) (by omega) (by rw [pk_us]; rfl)
        have q1' : Lexicon_findBetterAlike_L19 N (nI n) weight (nI a) length least lipsOf N 0 (upd o a 0) = some o' := q1
        rw [q1', bO_s]
        apply ih (a + 1) o' (by omega) (by omega)
        intro k hk
        by_cases e2 : k = a
        · subst e2; exact q2
        · rw [q3 k e2, pk_un e2]; exact ho k (by omega)
  unfold F_Lexicon_findBetterAlike
  obtain ⟨o', q1, q2⟩ := outer N 0 others (by omega) (by omega) (fun k hk => absurd hk (Nat.not_lt_zero k))
  have q1' : Lexicon_findBetterAlike_L2 N (nI n) weight length least lipsOf N 0 others = some o' := q1
  rw [q1', bO_s]
  exact ⟨o', rfl, q2⟩
theorem gottenOf_ok (hN : 100 ≤ N) (h : LxC n ln nu wt ll length weight least lipsOf) {others : Nat → Int32} (ho : ∀ a, a < n → others a = nI (bm n (fun c => btr wt c a && alD ln nu ll a c))) {k : Nat} (hk : k < 1024) : F_Lexicon_gottenOf N (nI k) (nI n) others = some (nI (gtM n ln nu ll wt k)) := by
  have h0 := h.1
  unfold F_Lexicon_gottenOf
  have c : Lexicon_gottenOf_L4 (nI n) (nI k) others N 0 0 = some (nI (gtM n ln nu ll wt k)) := by
    refine lp0 (L := fun f j => Lexicon_gottenOf_L4 (nI n) (nI k) others f (nI (bm j (fun a => k.testBit a && lB n (fun c => !(k.testBit c) || (!(btr wt c a) || !(alD ln nu ll a c)))))) (nI j)) (n := n) (fun f j hj => ?_) (fun f => ?_) (by omega)
    · show Lexicon_gottenOf_L4 (nI n) (nI k) others (f + 1) (nI (bm j _)) (nI j) = Lexicon_gottenOf_L4 (nI n) (nI k) others f (nI (bm (j + 1) _)) (nI (j + 1))
      rw [Lexicon_gottenOf_L4, if_neg (nI_ge (by omega) (by omega)), hasB (by omega) (by omega), gd_ix (by omega) (by omega), nI_clamp (by omega), ho j hj, nI_1]
      have em : nI (bm n (fun c => btr wt c j && alD ln nu ll j c)) &&& nI k = nI (bm 10 (fun c => (decide (c < n) && (btr wt c j && alD ln nu ll j c)) && k.testBit c)) := by
        have e1 : k = bm 10 k.testBit := (bm_self (n := 10) hk).symm
        have e2 : bm n (fun c => btr wt c j && alD ln nu ll j c) = bm 10 (fun c => decide (c < n) && (btr wt c j && alD ln nu ll j c)) := mk_wide h0
        rw [e2]
        conv => lhs; rw [e1]
        rw [mk_and]
      rw [em]
      cases hkj : k.testBit j
      · rw [bI_f, if_pos rfl, mk_skip (j := j) (by simp [hkj])]
      · rw [bI_t, if_neg n10]
        by_cases e : ∀ i, i < 10 → ((decide (i < n) && (btr wt i j && alD ln nu ll j i)) && k.testBit i) = false
        · rw [if_pos ((mk_eq0 (by omega)).mpr e), mk_set (by omega)]
          rw [hkj, Bool.true_and]
          apply lB_t.mpr
          intro i hi
          have := e i (by omega)
          rw [decide_eq_true hi, Bool.true_and] at this
          revert this
          cases k.testBit i <;> cases btr wt i j <;> cases alD ln nu ll j i <;> simp
        · rw [if_neg (fun q => e ((mk_eq0 (by omega)).mp q)), mk_skip (j := j)]
          rw [hkj, Bool.true_and]
          cases hq : lB n (fun c => !(k.testBit c) || (!(btr wt c j) || !(alD ln nu ll j c)))
          · rfl
          · exfalso
            apply e
            intro i hi
            by_cases hin : i < n
            · have := lB_t.mp hq i hin
              revert this
              rw [decide_eq_true hin]
              cases k.testBit i <;> cases btr wt i j <;> cases alD ln nu ll j i <;> simp
            · simp [hin]
    · show Lexicon_gottenOf_L4 (nI n) (nI k) others (f + 1) _ (nI n) = _
      rw [Lexicon_gottenOf_L4, if_pos (nI_le (Nat.le_refl n) (by omega))]
      rfl
  rw [c, bO_s]
theorem RgetsOf_ok (hN : 100 ≤ N) (h : LxR n ln nu wt ll b) {k : Nat} (hk : k < 1024) : F_R_getsOf N (nI k) b = some (nI (gtM n ln nu ll wt k)) := by
  have h0 := h.1
  have cmp : ∀ a c, a < n → c < n → (if nI (wt a) < nI (wt c) then some (1 : Int32) else bO (F_R_weightOf (nI c) b) (fun r66 => bO (F_R_weightOf (nI a) b) (fun r71 => if r66 = r71 then if nI a ≤ nI c then some 0 else some 1 else some 0))) = some (bI (btr wt c a)) := by
    intro a c ha hc
    have w1 := h.2.2.2.2.1 a ha
    have w2 := h.2.2.2.2.1 c hc
    rw [RweightOf_ok h ha, RweightOf_ok h hc, bO_s, bO_s]
    unfold btr
    by_cases e : wt a < wt c
    · rw [if_pos (nI_lt e (by omega)), decide_eq_true e]; rfl
    · rw [if_neg (nI_nlt (by omega) (by omega)), decide_eq_false e, Bool.false_or]
      by_cases e2 : wt c = wt a
      · rw [if_pos (by rw [e2]), decide_eq_true e2, Bool.true_and]
        by_cases e3 : c < a
        · rw [if_neg (nI_ge e3 (by omega)), decide_eq_true e3]; rfl
        · rw [if_pos (nI_le (by omega) (by omega)), decide_eq_false e3]; rfl
      · rw [if_neg (fun q => e2 ((nI_eq (by omega) (by omega)).mp q)), decide_eq_false e2]; rfl
  have inner : ∀ (a : Nat), a < n → R_getsOf_L33 N b (nI a) (nI k) N (bI (k.testBit a)) 0 = some (bI (k.testBit a && lB n (fun c => !(k.testBit c) || (!(btr wt c a) || !(alD ln nu ll a c))))) := by
    intro a ha
    have key : ∀ (f j : Nat), j ≤ n → n - j < f → R_getsOf_L33 N b (nI a) (nI k) f (bI (k.testBit a && lB j (fun c => !(k.testBit c) || (!(btr wt c a) || !(alD ln nu ll a c))))) (nI j) = some (bI (k.testBit a && lB n (fun c => !(k.testBit c) || (!(btr wt c a) || !(alD ln nu ll a c))))) := by
      intro f
      induction f with
      | zero => intro j _ h; omega
      | succ f ih =>
        intro j hj hf
        rw [R_getsOf_L33, h.2.1]
        by_cases e : j = n
        · subst e
          rw [if_pos (nI_le (Nat.le_refl _) (by omega))]
        · have hjn : j < n := by omega
          rw [if_neg (nI_ge (by omega) (by omega))]
          cases hq : (k.testBit a && lB j (fun c => !(k.testBit c) || (!(btr wt c a) || !(alD ln nu ll a c))))
          · rw [bI_f, if_pos rfl]
            have : (k.testBit a && lB n (fun c => !(k.testBit c) || (!(btr wt c a) || !(alD ln nu ll a c)))) = false := by
              cases hka : k.testBit a
              · rfl
              · rw [hka, Bool.true_and] at hq
                obtain ⟨i, hi, h3⟩ := lB_f.mp hq
                rw [Bool.true_and]
                exact lB_f.mpr ⟨i, by omega, h3⟩
            rw [this]; rfl
          · have hka : k.testBit a = true := (Bool.and_eq_true_iff.mp hq).1
            have hl : lB j (fun c => !(k.testBit c) || (!(btr wt c a) || !(alD ln nu ll a c))) = true := (Bool.and_eq_true_iff.mp hq).2
            rw [bI_t, if_neg n10, RweightOf_ok h hjn, bO_s, RweightOf_ok h ha, bO_s]
            have cm := cmp a j ha hjn
            rw [RweightOf_ok h hjn, RweightOf_ok h ha] at cm
            rw [cm, bO_s, bitR (by omega) (by omega), Ralike_ok hN h ha hjn, bO_s, nI_1]
            have nx := ih (j + 1) (by omega) (by omega)
            rw [lB_s, hka, hl, Bool.true_and, Bool.true_and] at nx
            rw [hka, Bool.true_and]
            rw [Bool.true_and] at nx
            cases hkj : k.testBit j
            · rw [hkj] at nx
              rw [bI_f, if_pos rfl]
              exact nx
            · rw [hkj] at nx
              rw [bI_t, if_neg n10]
              cases hb : btr wt j a
              · rw [hb] at nx
                rw [bI_f, if_pos rfl]
                exact nx
              · rw [hb] at nx
                rw [bI_t, if_neg n10]
                cases hal : alD ln nu ll a j
                · rw [hal] at nx
                  rw [bI_f, if_pos rfl]
                  exact nx
                · rw [hal] at nx
                  rw [bI_t, if_neg n10]
                  exact nx
    have := key N 0 (by omega) (by omega)
    rw [show (k.testBit a && lB 0 (fun c => !(k.testBit c) || (!(btr wt c a) || !(alD ln nu ll a c)))) = k.testBit a by rw [show lB 0 (fun c => !(k.testBit c) || (!(btr wt c a) || !(alD ln nu ll a c))) = true from rfl, Bool.and_true]] at this
    exact this
  unfold F_R_getsOf
  have c : R_getsOf_L4 N b (nI k) N 0 0 = some (nI (gtM n ln nu ll wt k)) := by
    refine lp0 (L := fun f j => R_getsOf_L4 N b (nI k) f (nI (bm j (fun a => k.testBit a && lB n (fun c => !(k.testBit c) || (!(btr wt c a) || !(alD ln nu ll a c)))))) (nI j)) (n := n) (fun f j hj => ?_) (fun f => ?_) (by omega)
    · show R_getsOf_L4 N b (nI k) (f + 1) (nI (bm j _)) (nI j) = R_getsOf_L4 N b (nI k) f (nI (bm (j + 1) _)) (nI (j + 1))
      rw [R_getsOf_L4, h.2.1, if_neg (nI_ge (by omega) (by omega)), bitR (by omega) (by omega)]
      have e1 : (if bI (k.testBit j) = 1 then some (1 : Int32) else some 0) = some (bI (k.testBit j)) := by cases k.testBit j <;> rfl
      rw [e1, bO_s, inner j hj, bO_s, nI_1]
      cases hq : (k.testBit j && lB n (fun c => !(k.testBit c) || (!(btr wt c j) || !(alD ln nu ll j c))))
      · rw [bI_f, if_pos rfl, mk_skip (j := j) hq]
        congr 1
        show _ ||| nI 0 = _
        rw [fa_or, Nat.or_zero]
      · rw [bI_t, if_neg n10, mk_set (by omega) hq]
    · show R_getsOf_L4 N b (nI k) (f + 1) _ (nI n) = _
      rw [R_getsOf_L4, h.2.1, if_pos (nI_le (Nat.le_refl n) (by omega))]
      rfl
  rw [c, bO_s]
end GI
theorem gtM_lt {n : Nat} {ln nu ll wt : Nat → Nat} {k : Nat} (hn : n ≤ 10) : gtM n ln nu ll wt k < 1024 := by
  have h1 := bm_lt (fun a => k.testBit a && lB n (fun c => !(k.testBit c) || (!(btr wt c a) || !(alD ln nu ll a c)))) n
  have h2 := p2 hn
  unfold gtM
  omega
theorem P_girl_ok {N : Nat} : P_girl N Rel := by
  intro x y p h
  have h0 := h.1.2.2.1
  obtain ⟨n, ln, nu, wt, ll, nr, ro, gi, hn, hnr, hgi, h1, h2, h3, h7, h8, h9, h10, h11, h12⟩ := h0
  unfold F_S_girl F_R_girl
  rw [RareW_eq, h1.2]
  have hw : F_Lexicon_areWords p (Lexicon_words (Shed_lexicon (S_now x))) = F_Lexicon_areWords p (nI n) := by rw [h1.1]
  rw [hw]
  rcases areW_cases p hn with e | ⟨e, s, hs, hs2, rfl⟩
  · rw [e, if_pos rfl, if_pos rfl]; exact ⟨_, _, rfl, rfl, rfl, h⟩
  rw [e, if_neg n10, if_neg n10]
  unfold F_R_puts
  simp (disch := omega) only [k9, nI_leI, nI_ltI, nI_eq, nI_1, nI_add, pk_mul, nI_clamp, gd_ix, bO_s, u2]
  refine ⟨_, _, rfl, rfl, h3.1.trans h3.2.symm, h.lex (f := (_, _, _, _, _, _, _, _, _, _)) ?_ ?_⟩
  · refine ⟨n, ln, nu, wt, ll, nr, ro, s, hn, hnr, hs, ⟨h1.1, ?_⟩, ⟨h2.1, ?_⟩, ⟨rfl, ?_⟩, ?_, ?_, ?_, h10, ?_, ?_⟩
    · simp only []; rw [pk_un (by omega), h1.2]
    · simp only []; rw [pk_un (by omega), h2.2]
    · simp only [pk_us]
    · intro w hw; simp only []; rw [pk_un (by omega)]; exact h7 w hw
    · intro w hw; simp only []; rw [pk_un (by omega)]; exact h8 w hw
    · intro w hw; simp only []; rw [pk_un (by omega)]; exact h9 w hw
    · intro w hw; simp only []; rw [pk_un (by omega)]; exact h11 w hw
    · intro k hk; simp only []; rw [pk_un (by omega)]; exact h12 k hk
  · intro k hk
    unfold gL at hk
    simp only []
    rw [pk_un (by omega)]
theorem P_gets_ok {N : Nat} (hN : 100 ≤ N) : P_gets N Rel := by
  intro x y h
  obtain ⟨n, ln, nu, wt, ll, nr, ro, gi, hn, hnr, hgi, hC, hR, h1, h2, h3, h4⟩ := h.1.2.2.1.both
  have hp := p2 hn
  unfold F_S_gets F_R_gets F_Lexicon_gotten
  obtain ⟨o', q1, q2⟩ := better_ok hN hC (Lexicon_others (Shed_lexicon (S_now x)))
  rw [h1.1, h3.1, h3.2, q1, bO_s, gottenOf_ok hN hC q2 (by omega), bO_s, bO_s, RgetsOf_ok hN hR (by omega), bO_s]
  exact ⟨_, _, rfl, rfl, rfl, by rw [← h1.1, ← h3.1]; exact h⟩
/-- how many she doesn't know -/
theorem pc_sub : ∀ n g : Nat, n ≤ 10 → g < 2 ^ n → pc ((2 ^ n - 1) &&& (g ^^^ (2 ^ 32 - 1))) = n - pc g ∧ pc g ≤ n := by
  have h : ∀ n, n < 11 → ∀ g, g < 1024 → g < 2 ^ n → pc ((2 ^ n - 1) &&& (g ^^^ (2 ^ 32 - 1))) = n - pc g ∧ pc g ≤ n := by decide +kernel
  intro n g hn hg
  have := p2 hn
  exact h n (by omega) g (by omega) hg
theorem P_teach_ok {N : Nat} (hN : 2000 ≤ N) : P_teach N Rel := by
  intro x y p h
  obtain ⟨n, ln, nu, wt, ll, nr, ro, gi, hn, hnr, hgi, hC, hR, h1, h2, h3, h4⟩ := h.1.2.2.1.both
  have hp1 : 2 ^ n ≤ 2 ^ 10 := p2 hn
  have hp2 : 0 < 2 ^ n := Nat.two_pow_pos n
  have hall : F_Lexicon_allWords (nI n) = nI (2 ^ n - 1) := by unfold F_Lexicon_allWords; rw [mk_all (show n ≤ 31 by omega), bm_allN]
  have hRall : F_R_allWords (R_book y) = nI (2 ^ n - 1) := by unfold F_R_allWords; rw [h1.2, mk_all (show n ≤ 31 by omega), bm_allN]
  obtain ⟨ps1, ps2⟩ := pc_sub n gi hn hgi
  have hless : (2 ^ n - 1) &&& (gi ^^^ (2 ^ 32 - 1)) < 1024 := by
    have : (2 ^ n - 1) &&& (gi ^^^ (2 ^ 32 - 1)) ≤ 2 ^ n - 1 := Nat.and_le_left
    omega
  unfold F_S_teach F_R_teach
  rw [hRall, h3.2, m1_nI, fb_xorI, fa_and, sizeOf_ok (by omega) hless, bO_s, ps1, in_lit p (a' := 0) (b' := nI (n - pc gi)) (by decide) rfl, h1.1, h3.1, bitC gi (by omega), pk_sub ps2]
  by_cases hp : F_S_within p 0 (nI (n - pc gi)) = 0
  · rw [if_pos hp, if_pos hp]; exact ⟨_, _, rfl, rfl, rfl, by rw [← h1.1, ← h3.1]; exact h⟩
  rw [if_neg hp, if_neg hp]
  unfold F_Lexicon_bestTaught
  obtain ⟨o', q1, q2⟩ := better_ok (N := N) (by omega) hC (Lexicon_others (Shed_lexicon (S_now x)))
  rw [q1, bO_s]
  have key : ∀ (d s f g : Nat) (best lc lr : Int32), s + d = 2 ^ n → d < f → d < g → ((best = -1 ∧ lr = -1) ∨ (best ≠ -1 ∧ lc = lr)) → ∃ u, Lexicon_bestTaught_L11 N (nI n) (nI gi) p o' (Lexicon_weight (Shed_lexicon (S_now x))) f best lc (nI s) = some u ∧ R_teach_L37 N (R_book y) p g best lr (nI s) = some u := by
    intro d
    induction d with
    | zero =>
      intro s f g best lc lr hs hf hg hb
      obtain ⟨f, rfl⟩ : ∃ z, f = z + 1 := ⟨f - 1, by omega⟩
      obtain ⟨g, rfl⟩ : ∃ z, g = z + 1 := ⟨g - 1, by omega⟩
      rw [Lexicon_bestTaught_L11, R_teach_L37, hall, hRall, if_pos (nI_lt (by omega) (by omega)), if_pos (nI_lt (by omega) (by omega))]
      exact ⟨best, rfl, rfl⟩
    | succ d ih =>
      intro s f g best lc lr hs hf hg hb
      obtain ⟨f, rfl⟩ : ∃ z, f = z + 1 := ⟨f - 1, by omega⟩
      obtain ⟨g, rfl⟩ : ∃ z, g = z + 1 := ⟨g - 1, by omega⟩
      have hs2 : s < 1024 := by omega
      have same := ih (s + 1) f g best lc lr (by omega) (by omega) (by omega) hb
      rw [Lexicon_bestTaught_L11, R_teach_L37, hall, hRall, h3.2, if_neg (nI_nlt (by omega) (by omega)), if_neg (nI_nlt (by omega) (by omega)), bitC s hs2, sizeOf_ok (by omega) hs2, bO_s, nI_1]
      by_cases e0 : nI s &&& nI gi = 0
      · rw [if_pos e0, if_pos e0]
        by_cases e : nI (pc s) = p
        · have hor : gi ||| s < 1024 := Nat.or_lt_two_pow (n := 10) (by omega) hs2
          have hg := gtM_lt (ln := ln) (nu := nu) (ll := ll) (wt := wt) (k := gi ||| s) hn
          rw [if_pos e, if_pos e, fa_or, gottenOf_ok (by omega) hC q2 hor, bO_s, weightOf_ok (by omega) hC (by omega), bO_s, RgetsOf_ok (by omega) hR hor, bO_s, Rweights_ok (by omega) hR (by omega), bO_s]
          have hwb : wgS n wt (gtM n ln nu ll wt (gi ||| s)) ≤ 90 := by
            have := sB_le (n := n) (k := 9) (f := fun w => if (gtM n ln nu ll wt (gi ||| s)).testBit w = true then wt w else 0) (fun i hi => by
              have := (hC.2.2.1 i hi).2.1
              show (if _ then wt i else 0) ≤ 9
              split <;> omega)
            unfold wgS
            omega
          generalize wgS n wt (gtM n ln nu ll wt (gi ||| s)) = z at hwb
          have new := ih (s + 1) f g (nI s) (nI z) (nI z) (by omega) (by omega) (by omega) (Or.inr ⟨nI_nm1 (by omega), rfl⟩)
          rcases hb with ⟨b1, b2⟩ | ⟨b1, b2⟩
          · have c : ¬ nI z ≤ -1 := by
              rw [fa_le, nI_toInt (by omega), show (-1 : Int32).toInt = -1 by decide]; omega
            rw [if_pos b1, b2, if_neg c]
            exact new
          · rw [if_neg b1, b2]
            by_cases c : nI z ≤ lr
            · rw [if_pos c, if_pos c]
              rw [b2] at same
              exact same
            · rw [if_neg c, if_neg c]
              exact new
        · rw [if_neg e, if_neg e]
          exact same
      · rw [if_neg e0, if_neg e0]
        exact same
  obtain ⟨u, e1, e2⟩ := key (2 ^ n) 0 N N (-1) 0 (-1) (by omega) (by omega) (by omega) (Or.inl ⟨rfl, rfl⟩)
  have e1' : Lexicon_bestTaught_L11 N (nI n) (nI gi) p o' _ N (-1) 0 0 = _ := e1
  have e2' : R_teach_L37 N (R_book y) p N (-1) (-1) 0 = _ := e2
  rw [← m1_nI, e1', bO_s, bO_s, e2', bO_s]
  exact ⟨_, _, rfl, rfl, rfl, by rw [← h1.1, ← h3.1]; exact h⟩
theorem P_band_ok {N : Nat} : P_band N Rel := by
  intro x y p q r h
  obtain ⟨lv, ls, cl, a1, a2, ⟨h4, h5⟩, h6, h7⟩ := h.1.2.2.2
  unfold F_S_band F_R_band
  rw [in_lit p (a' := 0) (b' := 5) (by decide) (by decide), in_lit q (a' := 0) (b' := 99) (by decide) (by decide), in_lit r (a' := 0) (b' := 9) (by decide) (by decide)]
  rcases sw_cases p 0 5 (ia := 0) (ib := 5) rfl rfl (by omega) (by omega) with ⟨hp, _⟩ | ⟨hp, i, _, hi, rfl⟩
  · rw [hp, if_pos rfl, if_pos rfl]; exact ⟨_, _, rfl, rfl, rfl, h⟩
  rw [hp, if_neg n10, if_neg n10]
  rcases sw_cases q 0 99 (ia := 0) (ib := 99) rfl rfl (by omega) (by omega) with ⟨hq, _⟩ | ⟨hq, v, _, hv, rfl⟩
  · rw [hq, if_pos rfl, if_pos rfl]; exact ⟨_, _, rfl, rfl, rfl, h⟩
  rw [hq, if_neg n10, if_neg n10]
  rcases sw_cases r 0 9 (ia := 0) (ib := 9) rfl rfl (by omega) (by omega) with ⟨hr, _⟩ | ⟨hr, w, _, hw, rfl⟩
  · rw [hr, if_pos rfl, if_pos rfl]; exact ⟨_, _, rfl, rfl, rfl, h⟩
  rw [hr, if_neg n10, if_neg n10]
  simp (disch := omega) only [k220, k2, nI_leI, nI_ltI, nI_eq, nI_1, nI_add, pk_mul, nI_clamp, gd_ix]
  refine ⟨_, _, rfl, rfl, rfl, h.band ⟨fun k => if k = i then v else lv k, fun k => if k = i then w else ls k, cl, a1, a2, ⟨h4, ?_⟩, ?_, ?_⟩ ?_⟩
  · simp only []; rw [pk_un (by omega), pk_un (by omega), h5]
  · intro k hk
    simp only [Shed_level]
    rw [pk_un (show 220 + 2 * k ≠ 220 + 2 * i + 1 by omega)]
    by_cases e : k = i
    · subst e; rw [if_pos rfl, pk_us, pk_us]; exact ⟨hv, rfl, rfl⟩
    · rw [if_neg e, pk_un e, pk_un (by omega)]; exact h6 k hk
  · intro k hk
    simp only [Shed_loss]
    by_cases e : k = i
    · subst e; rw [if_pos rfl, pk_us, pk_us]; exact ⟨hw, rfl, rfl⟩
    · rw [if_neg e, pk_un e, pk_un (by omega), pk_un (by omega)]; exact h7 k hk
  · intro k hk
    unfold gB at hk
    simp only []
    rw [pk_un (by omega), pk_un (by omega)]
theorem P_heard_ok {N : Nat} (hN : 100 ≤ N) : P_heard N Rel := by
  intro x y p q h
  obtain ⟨lv, ls, cl, a1, a2, ⟨h4, h5⟩, h6, h7⟩ := h.1.2.2.2
  unfold F_S_heard F_R_heard
  rw [in_lit p (a' := 0) (b' := 60) (by decide) (by decide), in_lit q (a' := 0) (b' := 99) (by decide) (by decide)]
  by_cases hp : F_S_within p 0 60 = 0
  · rw [if_pos hp, if_pos hp]; exact ⟨_, _, rfl, rfl, rfl, h⟩
  by_cases hq : F_S_within q 0 99 = 0
  · rw [if_neg hp, if_neg hp, if_pos hq, if_pos hq]; exact ⟨_, _, rfl, rfl, rfl, h⟩
  rw [if_neg hp, if_neg hp, if_neg hq, if_neg hq]
  have key : ∀ (d j f g : Nat) (m : Int32), j + d = 6 → d < f → d < g → ∃ u, S_heard_L28 (Shed_level (S_now x)) (Shed_loss (S_now x)) p q f m (nI j) = some u ∧ R_heard_L32 (R_book y) p q g m (nI j) = some u := by
    intro d
    induction d with
    | zero =>
      intro j f g m hj hf hg
      obtain ⟨f, rfl⟩ : ∃ z, f = z + 1 := ⟨f - 1, by omega⟩
      obtain ⟨g, rfl⟩ : ∃ z, g = z + 1 := ⟨g - 1, by omega⟩
      have : j = 6 := by omega
      subst this
      rw [S_heard_L28, R_heard_L32]
      exact ⟨m, rfl, rfl⟩
    | succ d ih =>
      intro j f g m hj hf hg
      obtain ⟨f, rfl⟩ : ∃ z, f = z + 1 := ⟨f - 1, by omega⟩
      obtain ⟨g, rfl⟩ : ∃ z, g = z + 1 := ⟨g - 1, by omega⟩
      have h8 : ¬ (6 : Nat) ≤ j := by omega
      obtain ⟨b1, b2, b3⟩ := h6 j (by omega)
      obtain ⟨c1, c2, c3⟩ := h7 j (by omega)
      rw [S_heard_L28, R_heard_L32]
      simp (disch := omega) only [k6, k220, k2, nI_leI, nI_ltI, nI_eq, nI_1, nI_add, pk_mul, nI_clamp, gd_ix, h8, if_false, b2, b3, c2, c3]
      have e0 : m ||| 0 = m := by
        obtain ⟨k, _, rfl⟩ := wb_of32 m
        show nI k ||| nI 0 = nI k
        rw [fa_or, Nat.or_zero]
      by_cases e : nI (lv j) - nI (ls j) * p ≤ q
      · rw [if_pos e, if_pos e, e0]
        exact ih (j + 1) f g m (by omega) (by omega) (by omega)
      · rw [if_neg e, if_neg e]
        exact ih (j + 1) f g _ (by omega) (by omega) (by omega)
  obtain ⟨u, e1, e2⟩ := key 6 0 N N 0 (by omega) (by omega) (by omega)
  have e1' : S_heard_L28 (Shed_level (S_now x)) (Shed_loss (S_now x)) p q N 0 0 = _ := e1
  have e2' : R_heard_L32 (R_book y) p q N 0 0 = _ := e2
  rw [e1', bO_s, e2', bO_s]
  exact ⟨_, _, rfl, rfl, rfl, h⟩
