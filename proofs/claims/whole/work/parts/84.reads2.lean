theorem dpI_cong {ln nu ll wt ro fe he fe' he' : Nat → Nat} {nr k w fk hk : Nat} {fi : Int32} (e : ∀ i, k ≤ i → fe' i = fe i ∧ he' i = he i) (h : dpI ln nu ll wt nr ro fe he k w fk hk fi) : dpI ln nu ll wt nr ro fe' he' k w fk hk fi := by
  have e1 : ∀ i, fe' (k + i) = fe (k + i) := fun i => (e (k + i) (by omega)).1
  have e2 : ∀ i, he' (k + i) = he (k + i) := fun i => (e (k + i) (by omega)).2
  unfold dpI at h ⊢
  simp only [e1, e2]
  exact h
theorem dpI_B {ln nu ll wt ro fe he : Nat → Nat} {nr k w : Nat} {fi : Int32} (h : dpI ln nu ll wt nr ro fe he k w (fe k) (he k) fi) : dpB nr fe he k := by
  rcases h with ⟨a1, a2, _⟩ | ⟨a1, a2, _⟩
  · exact Or.inl ⟨a1, a2⟩
  · exact Or.inr ⟨a1, a2⟩
section RF
variable {N n nr : Nat} {ln nu wt ll ro : Nat → Nat} {length weight least lipsOf row b : Nat → Int32}
theorem R55_skip (hb3 : b 3 = nI n) (hn : n ≤ 10) {rw' rf rh : Nat → Int32} : ∀ (d w g : Nat), w + d = n → d < g → R_readsRow_L55 N b (nI nr) (nI nr) g (nI w) rw' rf rh = some (rw', rf, rh)
  | 0, w, 0, _, h => absurd h (Nat.not_lt_zero _)
  | 0, w, g + 1, hw, _ => by
    have : w = n := by omega
    subst this
    rw [R_readsRow_L55, hb3, if_pos (nI_le (Nat.le_refl _) (by omega))]
  | d + 1, w, 0, _, h => absurd h (Nat.not_lt_zero _)
  | d + 1, w, g + 1, hw, hg => by
    have e : nI nr ≤ nI nr := by rw [fa_le]; omega
    rw [R_readsRow_L55, hb3, if_neg (nI_ge (by omega) (by omega)), if_pos e, nI_1]
    exact R55_skip hb3 hn d (w + 1) g (by omega) (by omega)
theorem reck_out (hN : 100 ≤ N) (h : LxC n ln nu wt ll length weight least lipsOf) (h' : LxR n ln nu wt ll b) (hnr : nr ≤ 24) (hr : ∀ k, k < nr → ro k < 6 ∧ row k = nI (ro k)) (hb4 : b 4 = nI nr) (hr' : ∀ k, k < nr → ro k < 6 ∧ b (190 + k) = nI (ro k)) :
    ∀ (k f g : Nat) (cw cf ch ci rw' rf rh : Nat → Int32) (fe he : Nat → Nat), k ≤ nr → k < f → k < g → (∀ j, k ≤ j → j ≤ nr → dpR fe he cw cf ch rw' rf rh j) → (∀ j, k ≤ j → j ≤ nr → dpB nr fe he j) → (∀ j, k ≤ j → j < nr → dpI ln nu ll wt nr ro fe he j n (fe j) (he j) (ci j)) → ci nr = -1 →
      ∃ cw' cf' ch' ci' rw'' rf' rh' fe' he', Readings_reckon_L37 N (nI n) (nI nr) length least row lipsOf weight f (nI k - 1) cw cf ch ci = some (cw', cf', ch', ci') ∧ R_readsRow_L9 N (nI nr) b g (nI k - 1) rw' rf rh = some (rw'', rf', rh') ∧
        (∀ j, j ≤ nr → dpR fe' he' cw' cf' ch' rw'' rf' rh' j) ∧ (∀ j, j ≤ nr → dpB nr fe' he' j) ∧ (∀ j, j < nr → dpI ln nu ll wt nr ro fe' he' j n (fe' j) (he' j) (ci' j)) ∧ ci' nr = -1 := by
  have h0 := h.1
  intro k
  induction k with
  | zero =>
    intro f g cw cf ch ci rw' rf rh fe he hk hf hg hR hB hI hc
    obtain ⟨f, rfl⟩ : ∃ z, f = z + 1 := ⟨f - 1, by omega⟩
    obtain ⟨g, rfl⟩ : ∃ z, g = z + 1 := ⟨g - 1, by omega⟩
    refine ⟨cw, cf, ch, ci, rw', rf, rh, fe, he, ?_, ?_, fun j hj => hR j (by omega) hj, fun j hj => hB j (by omega) hj, fun j hj => hI j (by omega) hj, hc⟩
    · rw [Readings_reckon_L37, if_pos m1_lt0]
    · rw [R_readsRow_L9, if_pos m1_lt0]
  | succ k ih =>
    intro f g cw cf ch ci rw' rf rh fe he hk hf hg hR hB hI hc
    obtain ⟨f, rfl⟩ : ∃ z, f = z + 1 := ⟨f - 1, by omega⟩
    obtain ⟨g, rfl⟩ : ∃ z, g = z + 1 := ⟨g - 1, by omega⟩
    have hne : ¬ nI k = nI nr := fun q => by have := (nI_eq (by omega) (by omega)).mp q; omega
    rw [Readings_reckon_L37, R_readsRow_L9, nI_pred, if_neg (nI_pos (by omega)), if_neg (nI_pos (by omega)), if_neg hne, if_neg hne, bO_s, gd_ix (by omega) (by omega), gd_ix (by omega) (by omega), bO_s, nI_clamp (by omega), dec1]
    have nz : ∀ w', w' < n → k + ln w' ≠ k := by intro w' hw'; have := (h.2.1 w' hw').1; omega
    obtain ⟨cw1, cf1, ch1, ci1, rw1, rf1, rh1, fe1, he1, q1, q2, q3, q4, q5⟩ := reck_in hN h h' hnr hr hb4 hr' (show k < nr by omega) n 0 N N (upd cw k 0) (upd cf k (-1)) (upd ch k 0) (upd ci k (-1)) (upd rw' k 0) (upd rf k 1000000) (upd rh k 0) (fun j => if j = k then 1000000 else fe j) (fun j => if j = k then 0 else he j) (by omega) (by omega) (by omega) (by
        intro j hj hj2
        by_cases e : j = k
        · subst e
          unfold dpR
          rw [pk_us, pk_us, pk_us, pk_us, pk_us, pk_us]
          dsimp only
          rw [if_pos rfl, if_pos rfl]
          exact ⟨rfl, rfl, rfl, rfl, rfl⟩
        · unfold dpR
          rw [pk_un e, pk_un e, pk_un e, pk_un e, pk_un e, pk_un e]
          dsimp only
          rw [if_neg e, if_neg e]
          exact hR j (by omega) hj2) (by
        intro j hj hj2
        unfold dpB
        dsimp only
        rw [if_neg (show ¬ j = k by omega), if_neg (show ¬ j = k by omega)]
        exact hB j (by omega) hj2) (by
        refine Or.inl ⟨if_pos rfl, if_pos rfl, pk_us, fun w' hw' => absurd hw' (Nat.not_lt_zero w')⟩)
    have q1' : Readings_reckon_L72 N (nI n) (nI k) (nI nr) length least row lipsOf weight N 0 (upd cw k 0) (upd cf k (-1)) (upd ch k 0) (upd ci k (-1)) = some (cw1, cf1, ch1, ci1) := q1
    have q2' : R_readsRow_L55 N b (nI nr) (nI k) N 0 (upd rw' k 0) (upd rf k 1000000) (upd rh k 0) = some (rw1, rf1, rh1) := q2
    rw [q1', bO_s, q2', bO_s]
    have hoth : ∀ i, k < i → fe1 i = fe i ∧ he1 i = he i := by
      intro i hi
      have := q4 i (by omega)
      rw [if_neg (by omega), if_neg (by omega)] at this
      exact ⟨this.1, this.2.1⟩
    show ∃ cw' cf' ch' ci' rw'' rf' rh' fe' he', Readings_reckon_L37 N (nI n) (nI nr) length least row lipsOf weight f (nI k - 1) cw1 cf1 ch1 ci1 = _ ∧ R_readsRow_L9 N (nI nr) b g (nI k - 1) rw1 rf1 rh1 = _ ∧ _
    apply ih f g cw1 cf1 ch1 ci1 rw1 rf1 rh1 fe1 he1 (by omega) (by omega) (by omega) q3
    · intro j hj hj2
      by_cases e : j = k
      · subst e; exact dpI_B q5
      · have := hoth j (by omega)
        unfold dpB
        rw [this.1, this.2]
        exact hB j (by omega) hj2
    · intro j hj hj2
      by_cases e : j = k
      · subst e; exact q5
      · have e1 := hoth j (by omega)
        rw [e1.1, e1.2, (q4 j e).2.2, pk_un e]
        exact dpI_cong (fun i hi => hoth i (by omega)) (hI j (by omega) hj2)
    · rw [(q4 nr (by omega)).2.2, pk_un (by omega)]; exact hc
theorem R87_ok (hN : 100 ≤ N) (h' : LxR n ln nu wt ll b) (hnr : nr ≤ 24) (hb4 : b 4 = nI nr) (hr' : ∀ k, k < nr → ro k < 6 ∧ b (190 + k) = nI (ro k)) {fe he : Nat → Nat} {rf rh : Nat → Int32} (hB : ∀ j, j ≤ nr → dpB nr fe he j ∧ rf j = nI (fe j) ∧ rh j = nI (he j)) {at0 : Nat} (hat : at0 < nr) (hfe : fe at0 ≠ 1000000) :
    ∀ (j f : Nat) (last : Int32), j ≤ n → j < f → R_reads_L87 N b (nI at0) rf rh f last (nI j - 1) = R_reads_L87 N b (nI at0) rf rh f last (nI j - 1) ∧
      ((∀ w, w < j → ¬ (fiD ln nu ll nr ro w at0 = true ∧ fe (at0 + ln w) + 1 = fe at0 ∧ he (at0 + ln w) + wt w = he at0)) → R_reads_L87 N b (nI at0) rf rh f last (nI j - 1) = some last) ∧
      (∀ w0, w0 < j → (fiD ln nu ll nr ro w0 at0 = true ∧ fe (at0 + ln w0) + 1 = fe at0 ∧ he (at0 + ln w0) + wt w0 = he at0) → (∀ w, w < w0 → ¬ (fiD ln nu ll nr ro w at0 = true ∧ fe (at0 + ln w) + 1 = fe at0 ∧ he (at0 + ln w) + wt w = he at0)) → R_reads_L87 N b (nI at0) rf rh f last (nI j - 1) = some (nI w0)) := by
  have h0 := h'.1
  intro j
  induction j with
  | zero =>
    intro f last hj hf
    obtain ⟨f, rfl⟩ : ∃ z, f = z + 1 := ⟨f - 1, by omega⟩
    refine ⟨rfl, fun _ => ?_, fun w0 h => absurd h (Nat.not_lt_zero w0)⟩
    rw [R_reads_L87, if_pos m1_lt0]
  | succ j ih =>
    intro f last hj hf
    obtain ⟨f, rfl⟩ : ∃ z, f = z + 1 := ⟨f - 1, by omega⟩
    have hjn : j < n := by omega
    have l1 := h'.2.2.1 j hjn
    have w1 := h'.2.2.2.2.1 j hjn
    have step : R_reads_L87 N b (nI at0) rf rh (f + 1) last (nI (j + 1) - 1) = R_reads_L87 N b (nI at0) rf rh f (if (fiD ln nu ll nr ro j at0 = true ∧ fe (at0 + ln j) + 1 = fe at0 ∧ he (at0 + ln j) + wt j = he at0) then nI j else last) (nI j - 1) := by
      rw [R_reads_L87, nI_pred, if_neg (nI_pos (by omega)), hb4, if_neg (nI_ge hat (by omega)), RisAtRow_ok hN h' hnr hb4 hr' hjn (by omega), bO_s, dec1]
      cases hfit : fiD ln nu ll nr ro j at0
      · rw [bI_f, if_pos rfl, bO_s, if_pos rfl, if_neg (fun z => by cases z.1)]
      · have hto : at0 + ln j ≤ nr := by
          unfold fiD at hfit
          have := (Bool.and_eq_true_iff.mp hfit).1
          simpa using this
        obtain ⟨t1, t2, t3⟩ := hB (at0 + ln j) hto
        obtain ⟨s1, s2, s3⟩ := hB at0 (by omega)
        have hs : fe at0 + at0 ≤ nr ∧ he at0 ≤ 9 * fe at0 := by
          rcases s1 with ⟨z, _⟩ | z
          · exact absurd z hfe
          · exact z
        have ht : fe (at0 + ln j) ≤ 1000000 ∧ he (at0 + ln j) ≤ 9 * 24 := by
          rcases t1 with ⟨z1, z2⟩ | z
          · omega
          · omega
        rw [bI_t, if_neg n10, RlengthOf_ok h' hjn, bO_s, nI_add, gd_ix (by omega) (by omega), gd_ix (by omega) (by omega), nI_clamp (by omega), nI_clamp (by omega), t2, s2, nI_1]
        by_cases c1 : fe (at0 + ln j) + 1 = fe at0
        · rw [if_pos (by rw [c1]), bO_s, nI_add, gd_ix (by omega) (by omega), RweightOf_ok h' hjn, bO_s, nI_clamp (by omega), t3, s3, nI_add]
          by_cases c2 : he (at0 + ln j) + wt j = he at0
          · rw [if_pos (by rw [c2]), bO_s, if_neg n10, if_pos ⟨rfl, c1, c2⟩]
          · rw [if_neg (fun q => c2 ((nI_eq (by omega) (by omega)).mp q)), bO_s, if_pos rfl, if_neg (fun z => c2 z.2.2)]
        · rw [if_neg (fun q => c1 ((nI_eq (by omega) (by omega)).mp q)), bO_s, if_pos rfl, if_neg (fun z => c1 z.2.1)]
    refine ⟨rfl, fun hno => ?_, fun w0 hw0 hmay hmin => ?_⟩
    · rw [step, if_neg (hno j (by omega))]
      exact (ih f last (by omega) (by omega)).2.1 (fun w hw => hno w (by omega))
    · rw [step]
      by_cases e : w0 = j
      · subst e
        rw [if_pos hmay]
        exact (ih f (nI w0) (by omega) (by omega)).2.1 hmin
      · exact (ih f _ (by omega) (by omega)).2.2 w0 (by omega) hmay hmin
theorem R87_end (hb4 : b 4 = nI nr) {last : Int32} {rf rh : Nat → Int32} {x : Int32} (f : Nat) : R_reads_L87 N b (nI nr) rf rh (f + 1) last x = some last := by
  rw [R_reads_L87]
  by_cases e : x < 0
  · rw [if_pos e]
  · have e2 : nI nr ≤ nI nr := by rw [fa_le]; omega
    rw [if_neg e, hb4, if_pos e2]
/-- the word in a place -/
theorem walk_ok (hN : 100 ≤ N) (h : LxC n ln nu wt ll length weight least lipsOf) (h' : LxR n ln nu wt ll b) (hnr : nr ≤ 24) (hb4 : b 4 = nI nr) (hr' : ∀ k, k < nr → ro k < 6 ∧ b (190 + k) = nI (ro k)) {fe he : Nat → Nat} {ci rw' rf rh : Nat → Int32} (hB : ∀ j, j ≤ nr → dpB nr fe he j ∧ rf j = nI (fe j) ∧ rh j = nI (he j)) (hI : ∀ j, j < nr → dpI ln nu ll wt nr ro fe he j n (fe j) (he j) (ci j)) (hc : ci nr = -1) {what : Nat} (hwh : what ≤ 24) :
    ∀ (d i f g at0 : Nat) (last : Int32), i + d = what → d < f → d + 1 < g → at0 ≤ nr → fe at0 ≠ 1000000 →
      ∃ a', Readings_wordInPlace_L5 (nI what) ci length f (nI at0) (nI i) = some (nI a') ∧ a' ≤ nr ∧
        ((ci a' = -1 ∧ R_reads_L68 N (nI what) b rf rh rw' g (nI at0) last (nI i) = some (.inl (-5, rw', rf, rh))) ∨ ((∃ w0, w0 < n ∧ ci a' = nI w0) ∧ R_reads_L68 N (nI what) b rf rh rw' g (nI at0) last (nI i) = some (.inr (ci a')))) := by
  have h0 := h.1
  have m5 : ¬ (0 : Int32) ≤ -5 := by decide
  have step : ∀ (g at0 i : Nat) (last : Int32), i ≤ what → at0 ≤ nr → fe at0 ≠ 1000000 → (ci at0 = -1 ∧ R_reads_L68 N (nI what) b rf rh rw' (g + 1) (nI at0) last (nI i) = some (.inl (-5, rw', rf, rh))) ∨ (at0 < nr ∧ ∃ w0, w0 < n ∧ ci at0 = nI w0 ∧ at0 + ln w0 ≤ nr ∧ fe (at0 + ln w0) ≠ 1000000 ∧ R_reads_L68 N (nI what) b rf rh rw' (g + 1) (nI at0) last (nI i) = R_reads_L68 N (nI what) b rf rh rw' g (nI (at0 + ln w0)) (nI w0) (nI (i + 1))) := by
    intro g at0 i last hi hat hfe
    rw [R_reads_L68, if_neg (nI_nlt hi (by omega)), h'.2.1]
    by_cases e : at0 = nr
    · subst e
      left
      obtain ⟨M, rfl⟩ : ∃ z, N = z + 1 := ⟨N - 1, by omega⟩
      rw [R87_end hb4, bO_s, if_neg m5]
      exact ⟨hc, rfl⟩
    · rcases hI at0 (by omega) with ⟨a1, _⟩ | ⟨a1, a2, w0, a3, a4, a5, a6, a7, a8, a9⟩
      · exact absurd a1 hfe
      right
      have hto : at0 + ln w0 ≤ nr := by
        unfold fiD at a5
        have := (Bool.and_eq_true_iff.mp a5).1
        simpa using this
      refine ⟨by omega, w0, a3, a4, hto, by omega, ?_⟩
      have q := (R87_ok hN h' hnr hb4 hr' hB (show at0 < nr by omega) hfe n N (-5) (Nat.le_refl n) (by omega)).2.2 w0 a3 ⟨a5, a6, a7⟩ (fun w hw hm => a8 w hw hm.1 hm.2)
      rw [q, bO_s, if_pos (nI_pos' (by omega)), RlengthOf_ok h' a3, bO_s, nI_add, nI_1]
  intro d
  induction d with
  | zero =>
    intro i f g at0 last hi hf hg hat hfe
    obtain ⟨f, rfl⟩ : ∃ z, f = z + 1 := ⟨f - 1, by omega⟩
    obtain ⟨g, rfl⟩ : ∃ z, g = z + 2 := ⟨g - 2, by omega⟩
    have : i = what := by omega
    subst this
    refine ⟨at0, by rw [Readings_wordInPlace_L5, if_pos (nI_le (Nat.le_refl _) (by omega))], hat, ?_⟩
    rcases step (g + 1) at0 i last (Nat.le_refl i) hat hfe with q | ⟨q1, w0, q2, q3, q4, q5, q6⟩
    · exact Or.inl q
    · refine Or.inr ⟨⟨w0, q2, q3⟩, ?_⟩
      rw [q6, R_reads_L68, if_pos (nI_lt (by omega) (by omega)), q3]
  | succ d ih =>
    intro i f g at0 last hi hf hg hat hfe
    obtain ⟨f, rfl⟩ : ∃ z, f = z + 1 := ⟨f - 1, by omega⟩
    obtain ⟨g, rfl⟩ : ∃ z, g = z + 1 := ⟨g - 1, by omega⟩
    rw [Readings_wordInPlace_L5, if_neg (nI_ge (by omega) (by omega)), gd_ix (by omega) (by omega), nI_clamp (by omega)]
    rcases step g at0 i last (by omega) hat hfe with ⟨q1, q2⟩ | ⟨q1, w0, q2, q3, q4, q5, q6⟩
    · rw [if_pos q1]
      exact ⟨at0, rfl, hat, Or.inl ⟨q1, q2⟩⟩
    · have l1 := h.2.1 w0 q2
      rw [q3, if_neg (nI_nm1 (by omega)), gd_ix (by omega) (by omega), nI_clamp (by omega), l1.2.2, nI_add, nI_1, q6]
      exact ih (i + 1) f g (at0 + ln w0) (nI w0) (by omega) (by omega) (by omega) q4 q5
end RF
theorem P_reads_ok {N : Nat} (hN : 100 ≤ N) : P_reads N Rel := by
  intro x y p h
  obtain ⟨n, ln, nu, wt, ll, nr, ro, gi, hn, hnr, hgi, hC, hR, h1, h2, h3, h4⟩ := h.1.2.2.1.both
  unfold F_S_reads F_R_reads
  rw [in_lit p (a' := -1) (b' := 24) (by decide) (by decide), h1.1, h2.1]
  by_cases hp : F_S_within p (-1) 24 = 0
  · rw [if_pos hp, if_pos hp]
    exact ⟨_, _, rfl, rfl, rfl, h⟩
  rw [if_neg hp, if_neg hp]
  have hcase : p = -1 ∨ ∃ j, j ≤ 24 ∧ p = nI j := by
    have h5 : ¬ p < -1 ∧ ¬ 24 < p := by
      unfold F_S_within at hp
      constructor
      · intro q; rw [if_pos q] at hp; exact hp rfl
      · intro q
        by_cases q2 : p < -1
        · rw [if_pos q2] at hp; exact hp rfl
        · rw [if_neg q2, if_pos q] at hp; exact hp rfl
    rw [fa_lt, fa_lt, show (-1 : Int32).toInt = -1 by decide, show (24 : Int32).toInt = 24 by decide] at h5
    by_cases e : p = -1
    · exact Or.inl e
    · right
      have e2 : p.toInt ≠ -1 := fun q => e ((fa_eq p (-1)).mpr (q.trans (by decide)))
      refine ⟨p.toInt.toNat, by omega, ?_⟩
      rw [fa_eq, nI_toInt (by omega)]
      omega
  unfold F_Readings_reckon F_R_readsRow
  rw [gd_ix (by omega) (by omega), nI_clamp (by omega), h2.2]
  have start : R_readsRow_L9 N (nI nr) (R_book y) N (nI nr) (R_ways y) (R_fewest y) (R_heavy y) = R_readsRow_L9 N (nI nr) (R_book y) (N - 1) (nI nr - 1) (upd (R_ways y) nr 1) (upd (R_fewest y) nr 0) (upd (R_heavy y) nr 0) := by
    obtain ⟨M, rfl⟩ : ∃ z, N = z + 1 := ⟨N - 1, by omega⟩
    rw [R_readsRow_L9, if_neg (nI_pos (by omega)), if_pos rfl, bO_s, gd_ix (by omega) (by omega), if_pos rfl, bO_s, nI_clamp (by omega), dec1]
    have := R55_skip (N := M + 1) (nr := nr) (b := R_book y) (rw' := upd (R_ways y) nr 1) (rf := upd (R_fewest y) nr 0) (rh := upd (R_heavy y) nr 0) h1.2 hn n 0 (M + 1) (by omega) (by omega)
    have this' : R_readsRow_L55 (M + 1) (R_book y) (nI nr) (nI nr) (M + 1) 0 (upd (R_ways y) nr 1) (upd (R_fewest y) nr 0) (upd (R_heavy y) nr 0) = _ := this
    rw [this', bO_s]
    rfl
  rw [start]
  obtain ⟨cw1, cf1, ch1, ci1, rw1, rf1, rh1, fe, he, q1, q2, q3, q4, q5, q6⟩ := reck_out hN hC hR hnr (fun k hk => ⟨(h4 k hk).1, (h4 k hk).2.1⟩) h2.2 (fun k hk => ⟨(h4 k hk).1, (h4 k hk).2.2⟩) nr N (N - 1) (upd (Readings_ways (S_readings x)) nr 1) (upd (Readings_fewest (S_readings x)) nr 0) (upd (Readings_weights (S_readings x)) nr 0) (upd (Readings_first (S_readings x)) nr (-1)) (upd (R_ways y) nr 1) (upd (R_fewest y) nr 0) (upd (R_heavy y) nr 0) (fun _ => 0) (fun _ => 0) (Nat.le_refl nr) (by omega) (by omega) (by
      intro j hj hj2
      have : j = nr := by omega
      subst this
      unfold dpR
      rw [pk_us, pk_us, pk_us, pk_us, pk_us, pk_us]
      exact ⟨rfl, rfl, rfl, rfl, rfl⟩) (by
      intro j hj hj2
      exact Or.inr ⟨by dsimp only; omega, by dsimp only; omega⟩) (by intro j hj hj2; omega) pk_us
  have q1' : Readings_reckon_L37 N (nI n) (nI nr) (Lexicon_length (Shed_lexicon (S_now x))) (Lexicon_leastLike (Shed_lexicon (S_now x))) (Lexicon_row (Shed_lexicon (S_now x))) (Lexicon_lipsOf (Shed_lexicon (S_now x))) (Lexicon_weight (Shed_lexicon (S_now x))) N (nI nr - 1) _ _ _ _ = _ := q1
  rw [q1', bO_s, q2, bO_s]
  simp only [u4, u3]
  rw [bO_s, bO_s]
  simp only [u4, u3]
  obtain ⟨r1, r2, r3, r4, r5⟩ := q3 0 (by omega)
  rcases hcase with rfl | ⟨j, hj, rfl⟩
  · simp only [if_true]
    exact ⟨_, _, rfl, rfl, r1, h⟩
  rw [if_neg (nI_nm1 (by omega)), if_neg (nI_nm1 (by omega)), r4]
  have b0 := q4 0 (by omega)
  by_cases hM : fe 0 = 1000000
  · have c1 : ¬ nI (fe 0) < 1000000 := nI_nlt (a := fe 0) (b := 1000000) (by omega) (by omega)
    rw [if_neg c1]
    have hcf : cf1 0 = -1 := by rw [r2]; unfold sI; rw [if_pos hM]
    have e24 : ∃ y0 : Int32, y0 = -1 ∧ (if nI j = 24 then some (F_Readings_fewestWords cf1) else bO (F_Readings_wordInPlace N (nI j) ci1 (Lexicon_length (Shed_lexicon (S_now x)))) (fun r68 => some r68)) = some y0 := by
      by_cases e : nI j = 24
      · rw [if_pos e]; exact ⟨_, hcf, rfl⟩
      · rw [if_neg e]
        unfold F_Readings_wordInPlace
        have hci : ci1 0 = -1 := by
          by_cases e0 : nr = 0
          · rw [← e0]; exact q6
          · rcases q5 0 (by omega) with ⟨a1, a2, a3, a4⟩ | ⟨a1, _⟩
            · exact a3
            · omega
        have l5 : Readings_wordInPlace_L5 (nI j) ci1 (Lexicon_length (Shed_lexicon (S_now x))) N 0 0 = some 0 := by
          obtain ⟨M, rfl⟩ : ∃ z, N = z + 1 := ⟨N - 1, by omega⟩
          rw [Readings_wordInPlace_L5]
          by_cases e2 : nI j ≤ 0
          · rw [if_pos e2]
          · rw [if_neg e2]
            have g0 : gd (ixb (0 : Int32) 25) (if ci1 (0 : Int32).toNatClampNeg = -1 then some (0 : Int32) else gd (ixb (ci1 (0 : Int32).toNatClampNeg) 10) (Readings_wordInPlace_L5 (nI j) ci1 (Lexicon_length (Shed_lexicon (S_now x))) M (0 + Lexicon_length (Shed_lexicon (S_now x)) (ci1 (0 : Int32).toNatClampNeg).toNatClampNeg) (0 + 1))) = some 0 := by
              have := gd_ix (j := 0) (n := 25) (k := (if ci1 (0 : Int32).toNatClampNeg = -1 then some (0 : Int32) else gd (ixb (ci1 (0 : Int32).toNatClampNeg) 10) (Readings_wordInPlace_L5 (nI j) ci1 (Lexicon_length (Shed_lexicon (S_now x))) M (0 + Lexicon_length (Shed_lexicon (S_now x)) (ci1 (0 : Int32).toNatClampNeg).toNatClampNeg) (0 + 1)))) (by omega) (by omega)
              refine Eq.trans this ?_
              exact if_pos hci
            exact g0
        rw [l5, bO_s]
        have g1 : gd (ixb (0 : Int32) 25) (some (ci1 (0 : Int32).toNatClampNeg)) = some (ci1 0) := gd_ix (j := 0) (n := 25) (by omega) (by omega)
        rw [g1, bO_s]
        exact ⟨_, hci, rfl⟩
    obtain ⟨y0, e1, e2⟩ := e24
    rw [e2, bO_s, if_pos e1]
    exact ⟨_, _, rfl, rfl, rfl, h⟩
  · have b1 : fe 0 + 0 ≤ nr ∧ he 0 ≤ 9 * fe 0 := by
      rcases b0 with ⟨z, _⟩ | z
      · exact absurd z hM
      · exact z
    have c1 : nI (fe 0) < 1000000 := nI_lt (a := fe 0) (b := 1000000) (by omega) (by omega)
    rw [if_pos c1]
    by_cases e : nI j = 24
    · rw [if_pos e, if_pos e, bO_s]
      have hcf : F_Readings_fewestWords cf1 = nI (fe 0) := by
        show cf1 0 = _
        rw [r2]; unfold sI; rw [if_neg hM]
      rw [hcf, if_neg (nI_nm1 (by omega))]
      exact ⟨_, _, rfl, rfl, rfl, h⟩
    · rw [if_neg e, if_neg e]
      unfold F_Readings_wordInPlace
      obtain ⟨a', w1, w2, w3⟩ := walk_ok (rw' := rw1) hN hC hR hnr h2.2 (fun k hk => ⟨(h4 k hk).1, (h4 k hk).2.2⟩) (fun j hj => ⟨q4 j hj, (q3 j hj).2.2.2.1, (q3 j hj).2.2.2.2⟩) q5 q6 hj j 0 N N 0 (-5) (by omega) (by omega) (by omega) (by omega) hM
      have w1' : Readings_wordInPlace_L5 (nI j) ci1 (Lexicon_length (Shed_lexicon (S_now x))) N 0 0 = _ := w1
      rw [w1', bO_s, gd_ix (by omega) (by omega), nI_clamp (by omega), bO_s, bO_s]
      rcases w3 with ⟨v1, v2⟩ | ⟨⟨w0, v1, v2⟩, v3⟩
      · have v2' : R_reads_L68 N (nI j) (R_book y) rf1 rh1 rw1 N 0 (-5) 0 = _ := v2
        rw [if_pos v1, v2', bT_l]
        exact ⟨_, _, rfl, rfl, rfl, h⟩
      · have v3' : R_reads_L68 N (nI j) (R_book y) rf1 rh1 rw1 N 0 (-5) 0 = _ := v3
        rw [v3', bT_r, v2, if_neg (nI_nm1 (by omega))]
        exact ⟨_, _, rfl, rfl, rfl, h⟩
