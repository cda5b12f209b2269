-- MISTAKEN, SIGNS, PLAIN
def pcF : Nat → Nat → Nat
  | 0, _ => 0
  | f + 1, s => s % 2 + pcF f (s / 2)
def pc (s : Nat) : Nat := pcF 10 s
theorem bitC : ∀ s, s < 1024 → F_Integer_bitCount (nI s) = nI (pc s) := by decide +kernel
theorem pcF_0 : ∀ f, pcF f 0 = 0
  | 0 => rfl
  | f + 1 => by show 0 % 2 + pcF f (0 / 2) = 0; rw [pcF_0 f]
theorem pcF_le : ∀ f s, pcF f s ≤ f
  | 0, _ => Nat.le_refl 0
  | f + 1, s => by
    have := pcF_le f (s / 2)
    show s % 2 + pcF f (s / 2) ≤ f + 1
    omega
theorem sizeOf_ok {N s : Nat} (hN : 100 ≤ N) (hs : s < 1024) : F_R_sizeOf N (nI s) = some (nI (pc s)) := by
  have key : ∀ (d f s a : Nat), s < 2 ^ d → d ≤ 10 → d < f → R_sizeOf_L4 f (nI a) (nI s) = some (nI (a + pcF d s)) := by
    intro d
    induction d with
    | zero =>
      intro f s a hs _ hf
      obtain ⟨f, rfl⟩ : ∃ z, f = z + 1 := ⟨f - 1, by omega⟩
      have : s = 0 := by rw [Nat.pow_zero] at hs; omega
      subst this
      rw [R_sizeOf_L4]; rfl
    | succ d ih =>
      intro f s a hs hd hf
      obtain ⟨f, rfl⟩ : ∃ z, f = z + 1 := ⟨f - 1, by omega⟩
      rw [R_sizeOf_L4]
      have hp : 2 ^ (d + 1) ≤ 2 ^ 10 := p2 hd
      by_cases e : s = 0
      · subst e
        rw [pcF_0]; rfl
      · have c : ¬ nI s ≤ 0 := nI_nle (by omega) (by omega)
        have e1 : jshr (nI s) 1 = nI (s / 2 ^ 1) := jshrN (j := 1) (by omega) (by omega)
        rw [if_neg c, and1, e1, nI_add, Nat.pow_one, ih f (s / 2) (a + s % 2) (by rw [Nat.pow_succ] at hs; omega) (by omega) (by omega)]
        congr 2
        show _ = a + (s % 2 + pcF d (s / 2))
        omega
  unfold F_R_sizeOf
  have := key 10 N s 0 hs (Nat.le_refl 10) (by omega)
  have t : R_sizeOf_L4 N 0 (nI s) = some (nI (0 + pcF 10 s)) := this
  rw [t, bO_s, Nat.zero_add]; rfl
/-- the weights of a mask -/
def wgS (n : Nat) (wt : Nat → Nat) (m : Nat) : Nat := sB n (fun w => if m.testBit w = true then wt w else 0)
theorem sB_swap {F : Nat → Nat → Nat} : ∀ (n m : Nat), sB n (fun a => sB m (fun c => F a c)) = sB m (fun c => sB n (fun a => F a c))
  | 0, m => by
    have : ∀ m, sB m (fun c => sB 0 (fun a => F a c)) = 0 := by
      intro m
      induction m with
      | zero => rfl
      | succ m ih => rw [sB_s, ih]; rfl
    rw [this m]; rfl
  | n + 1, m => by
    rw [sB_s, sB_swap n m]
    have : ∀ m, sB m (fun c => sB (n + 1) (fun a => F a c)) = sB m (fun c => sB n (fun a => F a c)) + sB m (fun c => F n c) := by
      intro m
      induction m with
      | zero => rfl
      | succ m ih => rw [sB_s, sB_s, sB_s, ih, sB_s]; omega
    rw [this m]
theorem sB_mul {f : Nat → Nat} {c : Nat} : ∀ n, c * sB n f = sB n (fun i => c * f i)
  | 0 => Nat.mul_zero c
  | n + 1 => by rw [sB_s, sB_s, Nat.mul_add, sB_mul n]
theorem sB_up {f : Nat → Nat} {n : Nat} : ∀ (d : Nat), (∀ i, n ≤ i → f i = 0) → sB (n + d) f = sB n f
  | 0, _ => rfl
  | d + 1, h => by
    have e : sB (n + (d + 1)) f = sB (n + d) f + f (n + d) := rfl
    rw [e, sB_up d h, h (n + d) (by omega), Nat.add_zero]
theorem unD_sym {ln nu ll : Nat → Nat} {a c : Nat} (h : ln a = ln c) : unD ln nu ll a c = unD ln nu ll c a := by
  unfold unD
  rw [h]
  apply sB_cong
  intro i hi
  by_cases e : ll (lpD ln nu a i) = ll (lpD ln nu c i)
  · rw [if_pos e, if_pos e.symm]
  · rw [if_neg e, if_neg (fun q => e q.symm)]
theorem alD_sym {ln nu ll : Nat → Nat} {a c : Nat} : alD ln nu ll a c = alD ln nu ll c a := by
  unfold alD
  by_cases e : ln a = ln c
  · rw [decide_eq_true e, decide_eq_true e.symm, unD_sym e]
  · rw [decide_eq_false e, decide_eq_false (show ¬ ln c = ln a from fun q => e q.symm)]; rfl
/-- what one set of signs leaves mistaken -/
def miS (n : Nat) (ln nu ll wt : Nat → Nat) (s : Nat) : Nat := sB n (fun a => sB a (fun c => if (!(s.testBit a) && (!(s.testBit c) && alD ln nu ll a c)) = true then wt a * wt c else 0))
section MI
variable {N n : Nat} {ln nu wt ll : Nat → Nat} {length weight least lipsOf b : Nat → Int32}
theorem weightOf_ok (hN : 100 ≤ N) (h : LxC n ln nu wt ll length weight least lipsOf) {m : Nat} (hm : m < 2 ^ 31) : F_Lexicon_weightOf N (nI m) (nI n) weight = some (nI (wgS n wt m)) := by
  have h0 := h.1
  unfold F_Lexicon_weightOf
  have c : Lexicon_weightOf_L4 (nI n) (nI m) weight N 0 0 = some (nI (wgS n wt m)) := by
    refine lp0 (L := fun f j => Lexicon_weightOf_L4 (nI n) (nI m) weight f (nI (sB j (fun w => if m.testBit w = true then wt w else 0))) (nI j)) (n := n) (fun f j hj => ?_) (fun f => ?_) (by omega)
    · have h5 : ¬ n ≤ j := by omega
      show Lexicon_weightOf_L4 (nI n) (nI m) weight (f + 1) (nI (sB j _)) (nI j) = Lexicon_weightOf_L4 (nI n) (nI m) weight f (nI (sB (j + 1) _)) (nI (j + 1))
      rw [Lexicon_weightOf_L4, sB_s, hasB (by omega) (by omega)]
      simp (disch := omega) only [nI_leI, nI_ltI, nI_eq, nI_1, nI_add, pk_mul, nI_clamp, gd_ix, h5, if_false, (h.2.2.1 j hj).2.2]
      cases m.testBit j
      · rw [bI_f, if_pos rfl, if_neg nft]
        rfl
      · rw [bI_t, if_neg n10, if_pos rfl]
    · show Lexicon_weightOf_L4 (nI n) (nI m) weight (f + 1) _ (nI n) = _
      rw [Lexicon_weightOf_L4, if_pos (nI_le (Nat.le_refl n) (by omega))]
      rfl
  rw [c, bO_s]
theorem Rweights_ok (hN : 100 ≤ N) (h : LxR n ln nu wt ll b) {m : Nat} (hm : m < 2 ^ 31) : F_R_weights N (nI m) b = some (nI (wgS n wt m)) := by
  have h0 := h.1
  unfold F_R_weights
  have c : R_weights_L4 b (nI m) N 0 0 = some (nI (wgS n wt m)) := by
    refine lp0 (L := fun f j => R_weights_L4 b (nI m) f (nI (sB j (fun w => if m.testBit w = true then wt w else 0))) (nI j)) (n := n) (fun f j hj => ?_) (fun f => ?_) (by omega)
    · show R_weights_L4 b (nI m) (f + 1) (nI (sB j _)) (nI j) = R_weights_L4 b (nI m) f (nI (sB (j + 1) _)) (nI (j + 1))
      rw [R_weights_L4, sB_s, h.2.1, if_neg (nI_ge (by omega) (by omega)), bitR hm (by omega), RweightOf_ok h hj, bO_s, nI_add, nI_1]
      cases m.testBit j
      · rw [bI_f, if_neg n01, if_neg nft]
        congr 1
        exact nI_add _ 0
      · rw [bI_t, if_pos rfl, if_pos rfl]
    · show R_weights_L4 b (nI m) (f + 1) _ (nI n) = _
      rw [R_weights_L4, h.2.1, if_pos (nI_le (Nat.le_refl n) (by omega))]
      rfl
  rw [c, bO_s]
theorem Rmistakes_ok (hN : 100 ≤ N) (h : LxR n ln nu wt ll b) {s : Nat} (hs : s < 1024) : F_R_mistakes N (nI s) b = some (nI (miS n ln nu ll wt s)) := by
  have h0 := h.1
  unfold F_R_mistakes
  have inner : ∀ (a z : Nat), a < n → R_mistakes_L17 N (nI a) (nI s) b N (nI z) 0 = some (nI (z + sB a (fun c => if (!(s.testBit a) && (!(s.testBit c) && alD ln nu ll a c)) = true then wt a * wt c else 0))) := by
    intro a z ha
    have t := lp0 (L := fun f j => R_mistakes_L17 N (nI a) (nI s) b f (nI (z + sB j (fun c => if (!(s.testBit a) && (!(s.testBit c) && alD ln nu ll a c)) = true then wt a * wt c else 0))) (nI j)) (n := a) (N := N) (r := nI (z + sB a (fun c => if (!(s.testBit a) && (!(s.testBit c) && alD ln nu ll a c)) = true then wt a * wt c else 0))) (fun f j hj => by
        show R_mistakes_L17 N (nI a) (nI s) b (f + 1) (nI (z + sB j _)) (nI j) = R_mistakes_L17 N (nI a) (nI s) b f (nI (z + sB (j + 1) _)) (nI (j + 1))
        rw [R_mistakes_L17, sB_s, if_neg (nI_ge (by omega) (by omega)), bitR (by omega) (by omega), bitR (by omega) (by omega), nI_1]
        have e0 : ∀ q : Nat, nI q + 0 = nI (q + 0) := fun q => nI_add q 0
        cases s.testBit a
        · cases s.testBit j
          · rw [bI_f, if_pos rfl, if_pos rfl, bO_s, if_neg n10, Ralike_ok hN h ha (by omega), bO_s]
            cases alD ln nu ll a j
            · rw [bI_f, if_pos rfl, e0]; rfl
            · rw [bI_t, if_neg n10, RweightOf_ok h ha, bO_s, RweightOf_ok h (by omega), bO_s, pk_mul, nI_add, Nat.add_assoc]; rfl
          · rw [bI_f, if_pos rfl, bI_t, if_neg n10, bO_s, if_pos rfl, e0]; rfl
        · rw [bI_t, if_neg n10, bO_s, if_pos rfl, e0]; rfl) (fun f => by
        show R_mistakes_L17 N (nI a) (nI s) b (f + 1) _ (nI a) = _
        rw [R_mistakes_L17, if_pos (nI_le (Nat.le_refl a) (by omega))]) (by omega)
    have t2 : R_mistakes_L17 N (nI a) (nI s) b N (nI (z + 0)) 0 = _ := t
    rw [Nat.add_zero] at t2
    exact t2
  have c : R_mistakes_L4 N b (nI s) N 0 0 = some (nI (miS n ln nu ll wt s)) := by
    refine lp0 (L := fun f j => R_mistakes_L4 N b (nI s) f (nI (sB j (fun a => sB a (fun c => if (!(s.testBit a) && (!(s.testBit c) && alD ln nu ll a c)) = true then wt a * wt c else 0)))) (nI j)) (n := n) (fun f j hj => ?_) (fun f => ?_) (by omega)
    · show R_mistakes_L4 N b (nI s) (f + 1) (nI (sB j _)) (nI j) = R_mistakes_L4 N b (nI s) f (nI (sB (j + 1) _)) (nI (j + 1))
      rw [R_mistakes_L4, sB_s, h.2.1, if_neg (nI_ge (by omega) (by omega)), inner j _ hj, bO_s, nI_1]
    · show R_mistakes_L4 N b (nI s) (f + 1) _ (nI n) = _
      rw [R_mistakes_L4, h.2.1, if_pos (nI_le (Nat.le_refl n) (by omega))]
      rfl
  rw [c, bO_s]
theorem later_ok (hN : 100 ≤ N) (h : LxC n ln nu wt ll length weight least lipsOf) (others : Nat → Int32) : ∃ o', F_Lexicon_findLaterAlike N (nI n) length least lipsOf others = some o' ∧ ∀ a, a < n → o' a = nI (bm n (fun c => decide (a < c) && alD ln nu ll a c)) := by
  have h0 := h.1
  have inner : ∀ (a : Nat), a < n → ∀ (f j : Nat) (o : Nat → Int32), a < j → j ≤ n → n - j < f → o a = nI (bm j (fun c => decide (a < c) && alD ln nu ll a c)) → ∃ o', Lexicon_findLaterAlike_L21 N (nI n) (nI a) length least lipsOf f (nI j) o = some o' ∧ o' a = nI (bm n (fun c => decide (a < c) && alD ln nu ll a c)) ∧ ∀ k, k ≠ a → o' k = o k := by
    intro a ha f
    induction f with
    | zero => intro j _ _ _ h; omega
    | succ f ih =>
      intro j o hj1 hj hf ho
      rw [Lexicon_findLaterAlike_L21]
      by_cases e : j = n
      · subst e
        rw [if_pos (nI_le (Nat.le_refl _) (by omega))]
        exact ⟨o, rfl, ho, fun _ _ => rfl⟩
      · rw [if_neg (nI_ge (by omega) (by omega)), alike_ok hN h ha (by omega), bO_s, nI_1, nI_clamp (by omega), ho]
        cases hal : alD ln nu ll a j
        · rw [bI_f, if_pos rfl]
          exact ih (j + 1) o (by omega) (by omega) (by omega) (by rw [mk_skip (j := j) (by simp [hal])]; exact ho)
        · rw [bI_t, if_neg n10, mk_set (by omega) (by simp [hal, hj1])]
          obtain ⟨o', q1, q2, q3⟩ := ih (j + 1) (upd o a (nI (bm (j + 1) (fun c => decide (a < c) && alD ln nu ll a c)))) (by omega) (by omega) (by omega) pk_us
          exact ⟨o', q1, q2, fun k hk => (q3 k hk).trans (pk_un hk)⟩
  have outer : ∀ (f a : Nat) (o : Nat → Int32), a ≤ n → n - a < f → (∀ k, k < a → o k = nI (bm n (fun c => decide (k < c) && alD ln nu ll k c))) → ∃ o', Lexicon_findLaterAlike_L2 N (nI n) length least lipsOf f (nI a) o = some o' ∧ ∀ k, k < n → o' k = nI (bm n (fun c => decide (k < c) && alD ln nu ll k c)) := by
    intro f
    induction f with
    | zero => intro a _ _ h; omega
    | succ f ih =>
      intro a o ha hf ho
      rw [Lexicon_findLaterAlike_L2]
      by_cases e : a = n
      · subst e
        rw [if_pos (nI_le (Nat.le_refl _) (by omega))]
        exact ⟨o, rfl, ho⟩
      · rw [if_neg (nI_ge (by omega) (by omega)), gd_ix (by omega) (by omega), nI_1, nI_clamp (by omega)]
        obtain ⟨o', q1, q2, q3⟩ := inner a (by omega) N (a + 1) (upd o a 0) (by omega) (by omega) (by omega) (by
          rw [pk_us, (bm_zero (n := a + 1)).mpr (fun i hi => by simp [show ¬ a < i by omega])]; rfl)
        rw [q1, bO_s]
        apply ih (a + 1) o' (by omega) (by omega)
        intro k hk
        by_cases e2 : k = a
        · subst e2; exact q2
        · rw [q3 k e2, pk_un e2]; exact ho k (by omega)
  unfold F_Lexicon_findLaterAlike
  obtain ⟨o', q1, q2⟩ := outer N 0 others (by omega) (by omega) (fun k hk => absurd hk (Nat.not_lt_zero k))
  have q1' : Lexicon_findLaterAlike_L2 N (nI n) length least lipsOf N 0 others = some o' := q1
  rw [q1', bO_s]
  exact ⟨o', rfl, q2⟩
theorem miS_alt {s : Nat} : sB n (fun a => if s.testBit a = false then wt a * wgS n wt (bm n (fun c => decide (a < c) && alD ln nu ll a c && !(s.testBit c))) else 0) = miS n ln nu ll wt s := by
  unfold miS wgS
  have e1 : sB n (fun a => sB a (fun c => if (!(s.testBit a) && (!(s.testBit c) && alD ln nu ll a c)) = true then wt a * wt c else 0)) = sB n (fun a => sB n (fun c => if (decide (c < a) && (!(s.testBit a) && (!(s.testBit c) && alD ln nu ll a c))) = true then wt a * wt c else 0)) := by
    apply sB_cong
    intro a ha
    have := sB_up (f := fun c => if (decide (c < a) && (!(s.testBit a) && (!(s.testBit c) && alD ln nu ll a c))) = true then wt a * wt c else 0) (n := a) (n - a) (fun i hi => by simp [show ¬ i < a by omega])
    rw [show a + (n - a) = n by omega] at this
    rw [this]
    apply sB_cong
    intro c hc
    simp [hc]
  rw [e1, sB_swap n n]
  apply sB_cong
  intro a ha
  by_cases hs : s.testBit a = false
  · rw [if_pos hs, sB_mul]
    apply sB_cong
    intro c hc
    rw [bm_bit, decide_eq_true hc, Bool.true_and, hs, alD_sym (a := a)]
    by_cases h1 : a < c
    · cases s.testBit c
      · cases alD ln nu ll c a
        · simp [h1]
        · simp [h1, Nat.mul_comm]
      · simp [h1]
    · simp [h1]
  · rw [if_neg hs]
    have hs2 : s.testBit a = true := by simpa using hs
    symm
    have : ∀ k, sB k (fun c => if (decide (a < c) && (!(s.testBit c) && (!(s.testBit a) && alD ln nu ll c a))) = true then wt c * wt a else 0) = 0 := by
      intro k
      induction k with
      | zero => rfl
      | succ k ih => rw [sB_s, ih, hs2]; simp
    exact this n
theorem mistakenBy_ok (hN : 100 ≤ N) (h : LxC n ln nu wt ll length weight least lipsOf) {others : Nat → Int32} (ho : ∀ a, a < n → others a = nI (bm n (fun c => decide (a < c) && alD ln nu ll a c))) {s : Nat} (hs : s < 1024) : F_Lexicon_mistakenBy N (nI s) (nI n) weight others = some (nI (miS n ln nu ll wt s)) := by
  have h0 := h.1
  unfold F_Lexicon_mistakenBy
  have c : Lexicon_mistakenBy_L4 N (nI n) (nI s) others weight N 0 0 = some (nI (miS n ln nu ll wt s)) := by
    rw [← miS_alt]
    refine lp0 (L := fun f j => Lexicon_mistakenBy_L4 N (nI n) (nI s) others weight f (nI (sB j (fun a => if s.testBit a = false then wt a * wgS n wt (bm n (fun c => decide (a < c) && alD ln nu ll a c && !(s.testBit c))) else 0))) (nI j)) (n := n) (fun f j hj => ?_) (fun f => ?_) (by omega)
    · show Lexicon_mistakenBy_L4 N (nI n) (nI s) others weight (f + 1) (nI (sB j _)) (nI j) = Lexicon_mistakenBy_L4 N (nI n) (nI s) others weight f (nI (sB (j + 1) _)) (nI (j + 1))
      rw [Lexicon_mistakenBy_L4, sB_s, if_neg (nI_ge (by omega) (by omega)), hasB (by omega) (by omega), gd_ix (by omega) (by omega), nI_clamp (by omega), ho j hj, (h.2.2.1 j hj).2.2, nI_1]
      have em : nI (bm n (fun c => decide (j < c) && alD ln nu ll j c)) &&& (nI s ^^^ (-1)) = nI (bm n (fun c => decide (j < c) && alD ln nu ll j c && !(s.testBit c))) := by
        have e1 : s = bm 10 s.testBit := (bm_self (n := 10) hs).symm
        have e2 : bm n (fun c => decide (j < c) && alD ln nu ll j c) = bm 10 (fun c => decide (c < n) && (decide (j < c) && alD ln nu ll j c)) := mk_wide h0
        have e3 : bm n (fun c => decide (j < c) && alD ln nu ll j c && !(s.testBit c)) = bm 10 (fun c => decide (c < n) && (decide (j < c) && alD ln nu ll j c && !(s.testBit c))) := mk_wide h0
        rw [e2, e3]
        conv => lhs; rw [e1]
        rw [mk_andn (by omega)]
        congr 1
        apply bm_cong
        intro i hi
        rw [Bool.and_assoc]
      rw [em]
      have hl := bm_lt (fun c => decide (j < c) && alD ln nu ll j c && !(s.testBit c)) n
      have hl2 := p2 (show n ≤ 10 from h0)
      rw [weightOf_ok hN h (by omega), bO_s, pk_mul, nI_add]
      cases s.testBit j
      · rw [bI_f, if_pos rfl, if_pos rfl]
      · rw [bI_t, if_neg n10, if_neg (show ¬ true = false by decide)]
        rfl
    · show Lexicon_mistakenBy_L4 N (nI n) (nI s) others weight (f + 1) _ (nI n) = _
      rw [Lexicon_mistakenBy_L4, if_pos (nI_le (Nat.le_refl n) (by omega))]
  rw [c, bO_s]
theorem miS_lt (h : LxC n ln nu wt ll length weight least lipsOf) {s : Nat} : miS n ln nu ll wt s < 100000 := by
  have h0 := h.1
  unfold miS
  have := sB_le (n := n) (k := 810) (f := fun a => sB a (fun c => if (!(s.testBit a) && (!(s.testBit c) && alD ln nu ll a c)) = true then wt a * wt c else 0)) (fun a ha => by
    have h2 := sB_le (n := a) (k := 81) (f := fun c => if (!(s.testBit a) && (!(s.testBit c) && alD ln nu ll a c)) = true then wt a * wt c else 0) (fun c hc => by
      have w1 := (h.2.2.1 a ha).2.1
      have w2 := (h.2.2.1 c (by omega)).2.1
      have : wt a * wt c ≤ 9 * 9 := Nat.mul_le_mul w1 w2
      show (if _ = _ then wt a * wt c else 0) ≤ 81
      split <;> omega)
    omega)
  omega
end MI
/-- the words' mask -/
theorem areW_cases (p : Int32) {n : Nat} (hn : n ≤ 10) : (F_Lexicon_areWords p (nI n) = 0) ∨ (F_Lexicon_areWords p (nI n) = 1 ∧ ∃ s, s < 2 ^ n ∧ s < 1024 ∧ p = nI s) := by
  unfold F_Lexicon_areWords F_Lexicon_allWords
  rw [nar_sw, mk_all (show n ≤ 31 by omega), bm_allN]
  have h1 : 2 ^ n ≤ 2 ^ 10 := p2 hn
  have h2 : 0 < 2 ^ n := Nat.two_pow_pos n
  rcases sw_cases p 0 (2 ^ n - 1) (ia := 0) (ib := nI (2 ^ n - 1)) rfl rfl (by omega) (by omega) with ⟨h, _⟩ | ⟨h, s, _, hs, rfl⟩
  · exact Or.inl h
  · exact Or.inr ⟨h, s, by omega, by omega, rfl⟩
theorem RareW_eq (p : Int32) (b : Nat → Int32) : F_R_in p.toInt64 0 (F_R_allWords b).toInt64 = F_Lexicon_areWords p (b 3) := by
  unfold F_Lexicon_areWords F_Lexicon_allWords F_R_allWords
  rw [nar_sw, in_lit p (a' := 0) (b' := jshl 1 (b 3) - 1) (by decide) rfl]
theorem P_mistaken_ok {N : Nat} (hN : 100 ≤ N) : P_mistaken N Rel := by
  intro x y p h
  obtain ⟨n, ln, nu, wt, ll, nr, ro, gi, hn, hnr, hgi, hC, hR, h1, h2, h3, h4⟩ := h.1.2.2.1.both
  unfold F_S_mistaken F_R_mistaken
  rw [RareW_eq, h1.1, h1.2]
  rcases areW_cases p hn with e | ⟨e, s, hs, hs2, rfl⟩
  · rw [e, if_pos rfl, if_pos rfl]; exact ⟨_, _, rfl, rfl, rfl, by rw [← h1.1]; exact h⟩
  rw [e, if_neg n10, if_neg n10]
  unfold F_Lexicon_mistakenWith
  obtain ⟨o', q1, q2⟩ := later_ok hN hC (Lexicon_others (Shed_lexicon (S_now x)))
  rw [q1, bO_s, mistakenBy_ok hN hC q2 hs2, bO_s, bO_s, Rmistakes_ok hN hR hs2, bO_s]
  exact ⟨_, _, rfl, rfl, rfl, by rw [← h1.1]; exact h⟩
theorem P_signs_ok {N : Nat} (hN : 2000 ≤ N) : P_signs N Rel := by
  intro x y p h
  obtain ⟨n, ln, nu, wt, ll, nr, ro, gi, hn, hnr, hgi, hC, hR, h1, h2, h3, h4⟩ := h.1.2.2.1.both
  unfold F_S_signs F_R_signs
  rw [h1.1, h1.2, in_lit p (a' := 0) (b' := nI n) (by decide) rfl]
  by_cases hp : F_S_within p 0 (nI n) = 0
  · rw [if_pos hp, if_pos hp]; exact ⟨_, _, rfl, rfl, rfl, by rw [← h1.1]; exact h⟩
  rw [if_neg hp, if_neg hp]
  unfold F_Lexicon_bestSigns
  obtain ⟨o', q1, q2⟩ := later_ok (N := N) (by omega) hC (Lexicon_others (Shed_lexicon (S_now x)))
  rw [q1, bO_s]
  have hall : F_Lexicon_allWords (nI n) = nI (2 ^ n - 1) := by unfold F_Lexicon_allWords; rw [mk_all (show n ≤ 31 by omega), bm_allN]
  have hRall : F_R_allWords (R_book y) = nI (2 ^ n - 1) := by unfold F_R_allWords; rw [h1.2, mk_all (show n ≤ 31 by omega), bm_allN]
  have hp1 : 2 ^ n ≤ 2 ^ 10 := p2 hn
  have hp2 : 0 < 2 ^ n := Nat.two_pow_pos n
  have key : ∀ (d s f g : Nat) (best lc lr : Int32), s + d = 2 ^ n → d < f → d < g → ((best = -1 ∧ lr = 1000000) ∨ (best ≠ -1 ∧ lc = lr)) → ∃ u, Lexicon_bestSigns_L11 N (nI n) p (Lexicon_weight (Shed_lexicon (S_now x))) o' f best lc (nI s) = some u ∧ R_signs_L27 N (R_book y) p g best lr (nI s) = some u := by
    intro d
    induction d with
    | zero =>
      intro s f g best lc lr hs hf hg hb
      obtain ⟨f, rfl⟩ : ∃ z, f = z + 1 := ⟨f - 1, by omega⟩
      obtain ⟨g, rfl⟩ : ∃ z, g = z + 1 := ⟨g - 1, by omega⟩
      rw [Lexicon_bestSigns_L11, R_signs_L27, hall, hRall, if_pos (nI_lt (by omega) (by omega)), if_pos (nI_lt (by omega) (by omega))]
      exact ⟨best, rfl, rfl⟩
    | succ d ih =>
      intro s f g best lc lr hs hf hg hb
      obtain ⟨f, rfl⟩ : ∃ z, f = z + 1 := ⟨f - 1, by omega⟩
      obtain ⟨g, rfl⟩ : ∃ z, g = z + 1 := ⟨g - 1, by omega⟩
      have hs2 : s < 1024 := by omega
      have hm := miS_lt hC (s := s)
      rw [Lexicon_bestSigns_L11, R_signs_L27, hall, hRall, if_neg (nI_nlt (by omega) (by omega)), if_neg (nI_nlt (by omega) (by omega)), bitC s hs2, sizeOf_ok (by omega) hs2, bO_s, nI_1]
      by_cases e : nI (pc s) = p
      · rw [if_pos e, if_pos e, mistakenBy_ok (by omega) hC q2 hs2, bO_s, Rmistakes_ok (by omega) hR hs2, bO_s, bO_s]
        have new := ih (s + 1) f g (nI s) (nI (miS n ln nu ll wt s)) (nI (miS n ln nu ll wt s)) (by omega) (by omega) (by omega) (Or.inr ⟨nI_nm1 (by omega), rfl⟩)
        rcases hb with ⟨b1, b2⟩ | ⟨b1, b2⟩
        · have c : ¬ 1000000 ≤ nI (miS n ln nu ll wt s) := nI_ge (b := 1000000) (by omega) (by omega)
          rw [if_pos b1, b2, if_neg c]
          exact new
        · rw [if_neg b1, b2]
          by_cases c : lr ≤ nI (miS n ln nu ll wt s)
          · rw [if_pos c, if_pos c]
            exact ih (s + 1) f g best lr lr (by omega) (by omega) (by omega) (Or.inr ⟨b1, rfl⟩)
          · rw [if_neg c, if_neg c]
            exact new
      · rw [if_neg e, if_neg e]
        exact ih (s + 1) f g best lc lr (by omega) (by omega) (by omega) hb
  obtain ⟨u, e1, e2⟩ := key (2 ^ n) 0 N N (-1) 0 1000000 (by omega) (by omega) (by omega) (Or.inl ⟨rfl, rfl⟩)
  have e1' : Lexicon_bestSigns_L11 N (nI n) p _ o' N (-1) 0 0 = _ := e1
  have e2' : R_signs_L27 N (R_book y) p N (-1) 1000000 0 = _ := e2
  rw [e1', bO_s, bO_s, e2', bO_s]
  exact ⟨_, _, rfl, rfl, rfl, by rw [← h1.1]; exact h⟩
theorem P_plain_ok {N : Nat} : P_plain N Rel := by
  intro x y p h
  obtain ⟨lv, ls, cl, a1, a2, ⟨h4, h5⟩, h6, h7⟩ := h.1.2.2.2
  unfold F_S_plain F_R_plain
  rw [in_lit p (a' := 1) (b' := 99) (by decide) (by decide)]
  rcases sw_cases p 1 99 (ia := 1) (ib := 99) rfl rfl (by omega) (by omega) with ⟨hp, _⟩ | ⟨hp, v, hv1, hv, rfl⟩
  · rw [hp, if_pos rfl, if_pos rfl]; exact ⟨_, _, rfl, rfl, rfl, h⟩
  rw [hp, if_neg n10, if_neg n10]
  unfold F_R_puts
  simp (disch := omega) only [k8, nI_leI, nI_ltI, nI_eq, nI_1, nI_add, pk_mul, nI_clamp, gd_ix, bO_s, u2]
  refine ⟨_, _, rfl, rfl, h4.trans h5.symm, h.band ⟨lv, ls, v, hv1, hv, ⟨rfl, by simp only [pk_us]⟩, ?_, ?_⟩ ?_⟩
  · intro k hk; simp only []; rw [pk_un (by omega)]; exact h6 k hk
  · intro k hk; simp only []; rw [pk_un (by omega)]; exact h7 k hk
  · intro k hk
    unfold gB at hk
    simp only []
    rw [pk_un (by omega)]
