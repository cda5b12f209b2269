-- READINGS
def fiD (ln nu ll : Nat → Nat) (nr : Nat) (ro : Nat → Nat) (w k : Nat) : Bool := decide (k + ln w ≤ nr) && lB (ln w) (fun i => decide (ll (lpD ln nu w i) = ll (ro (k + i))))
section RD
variable {N n nr : Nat} {ln nu wt ll ro : Nat → Nat} {length weight least lipsOf row b : Nat → Int32}
theorem fits_ok (hN : 100 ≤ N) (h : LxC n ln nu wt ll length weight least lipsOf) (hnr : nr ≤ 24) (hr : ∀ k, k < nr → ro k < 6 ∧ row k = nI (ro k)) {w k : Nat} (hw : w < n) (hk : k ≤ nr) : F_Lexicon_fitsRow N (nI w) (nI k) (nI nr) length least row lipsOf = some (bI (fiD ln nu ll nr ro w k)) := by
  have h0 := h.1
  have h1 := h.2.1 w hw
  unfold F_Lexicon_fitsRow fiD
  simp (disch := omega) only [gd_ix, nI_clamp, h1.2.2, nI_add, nI_leI]
  by_cases e : k + ln w ≤ nr
  · rw [if_pos e, decide_eq_true e, Bool.true_and]
    have c1 : Lexicon_fitsRow_L19 length (nI w) (nI k) lipsOf row least N 0 = some (if aB (ln w) (fun i => !(decide (ll (lpD ln nu w i) = ll (ro (k + i))))) = true then .inl 0 else .inr ()) := by
      refine lpS (L := fun f j => Lexicon_fitsRow_L19 length (nI w) (nI k) lipsOf row least f (nI j)) (fun f j hj hc => ?_) (fun f j hj hc => ?_) (fun f => ?_) N (by omega)
      · have h5 : ¬ ln w ≤ j := by omega
        have d1 := h.2.2.2.1 w j hw hj
        have d2 := hr (k + j) (by omega)
        show Lexicon_fitsRow_L19 length (nI w) (nI k) lipsOf row least (f + 1) (nI j) = _
        rw [Lexicon_fitsRow_L19]
        simp (disch := omega) only [k6, nI_leI, nI_ltI, nI_eq, nI_1, nI_add, pk_mul, nI_clamp, gd_ix, h1.2.2, h5, if_false]
        rw [show w * 6 + j = 6 * w + j by omega, d1, d2.2, look_ok h (lpD_lt _ _ _ _) d2.1, bO_s]
        have e2 : ll (lpD ln nu w j) = ll (ro (k + j)) := by simpa using hc
        rw [decide_eq_true e2, bI_t, if_neg n10]
      · have h5 : ¬ ln w ≤ j := by omega
        have d1 := h.2.2.2.1 w j hw hj
        have d2 := hr (k + j) (by omega)
        show Lexicon_fitsRow_L19 length (nI w) (nI k) lipsOf row least (f + 1) (nI j) = _
        rw [Lexicon_fitsRow_L19]
        simp (disch := omega) only [k6, nI_leI, nI_ltI, nI_eq, nI_1, nI_add, pk_mul, nI_clamp, gd_ix, h1.2.2, h5, if_false]
        rw [show w * 6 + j = 6 * w + j by omega, d1, d2.2, look_ok h (lpD_lt _ _ _ _) d2.1, bO_s]
        have e2 : ¬ ll (lpD ln nu w j) = ll (ro (k + j)) := by simpa using hc
        rw [decide_eq_false e2, bI_f, if_pos rfl]
      · show Lexicon_fitsRow_L19 length (nI w) (nI k) lipsOf row least (f + 1) (nI (ln w)) = _
        rw [Lexicon_fitsRow_L19]
        simp (disch := omega) only [nI_clamp, h1.2.2, nI_leI, Nat.le_refl, if_true]
    rw [c1]
    have e2 : aB (ln w) (fun i => !(decide (ll (lpD ln nu w i) = ll (ro (k + i))))) = !(lB (ln w) (fun i => decide (ll (lpD ln nu w i) = ll (ro (k + i))))) := by
      cases hq : lB (ln w) (fun i => decide (ll (lpD ln nu w i) = ll (ro (k + i))))
      · obtain ⟨i, hi, q⟩ := lB_f.mp hq
        exact aB_t.mpr ⟨i, hi, by rw [q]; rfl⟩
      · exact aB_f.mpr (fun i hi => by rw [lB_t.mp hq i hi]; rfl)
    rw [e2]
    cases lB (ln w) (fun i => decide (ll (lpD ln nu w i) = ll (ro (k + i)))) <;> rfl
  · rw [if_neg e, decide_eq_false e]; rfl
theorem RisAtRow_ok (hN : 100 ≤ N) (h : LxR n ln nu wt ll b) (hnr : nr ≤ 24) (hb4 : b 4 = nI nr) (hr : ∀ k, k < nr → ro k < 6 ∧ b (190 + k) = nI (ro k)) {w k : Nat} (hw : w < n) (hk : k ≤ nr) : F_R_isAtRow N (nI w) (nI k) b = some (bI (fiD ln nu ll nr ro w k)) := by
  have h0 := h.1
  have h1 := h.2.2.1 w hw
  unfold F_R_isAtRow
  rw [RlengthOf_ok h hw, bO_s, hb4, nI_add]
  have e1 : (if nI nr < nI (k + ln w) then some (0 : Int32) else some 1) = some (bI (decide (k + ln w ≤ nr))) := by
    by_cases e : k + ln w ≤ nr
    · rw [if_neg (nI_nlt e (by omega)), decide_eq_true e]; rfl
    · rw [if_pos (nI_lt (by omega) (by omega)), decide_eq_false e]; rfl
  rw [e1, bO_s]
  have c1 : R_isAtRow_L25 N (nI w) b (nI k) N (bI (decide (k + ln w ≤ nr))) 0 = some (bI (fiD ln nu ll nr ro w k)) := by
    have key : ∀ (f j : Nat), j ≤ ln w → ln w - j < f → R_isAtRow_L25 N (nI w) b (nI k) f (bI (decide (k + ln w ≤ nr) && lB j (fun i => decide (ll (lpD ln nu w i) = ll (ro (k + i)))))) (nI j) = some (bI (fiD ln nu ll nr ro w k)) := by
      intro f
      induction f with
      | zero => intro j _ h; omega
      | succ f ih =>
        intro j hj hf
        rw [R_isAtRow_L25, RlengthOf_ok h hw, bO_s]
        by_cases e : j = ln w
        · subst e
          rw [if_pos (nI_le (Nat.le_refl _) (by omega))]; rfl
        · rw [if_neg (nI_ge (by omega) (by omega))]
          cases hq : (decide (k + ln w ≤ nr) && lB j (fun i => decide (ll (lpD ln nu w i) = ll (ro (k + i)))))
          · rw [bI_f, if_pos rfl]
            have : fiD ln nu ll nr ro w k = false := by
              unfold fiD
              by_cases e2 : k + ln w ≤ nr
              · rw [decide_eq_true e2, Bool.true_and] at hq ⊢
                obtain ⟨i, hi, q⟩ := lB_f.mp hq
                exact lB_f.mpr ⟨i, by omega, q⟩
              · rw [decide_eq_false e2]; rfl
            rw [this]; rfl
          · have hq2 := Bool.and_eq_true_iff.mp hq
            have e2 : k + ln w ≤ nr := by simpa using hq2.1
            have d2 := hr (k + j) (by omega)
            rw [bI_t, if_neg n10, RlipOf_ok hN h hw (by omega), bO_s]
            simp (disch := omega) only [k190, k150, nI_leI, nI_ltI, nI_eq, nI_1, nI_add, pk_mul, nI_clamp, gd_ix]
            rw [show 190 + k + j = 190 + (k + j) by omega, d2.2]
            simp (disch := omega) only [nI_leI, nI_ltI, nI_eq, nI_1, nI_add, pk_mul, nI_clamp, gd_ix]
            rw [(h.2.2.2.2.2 (ro (k + j)) d2.1).2]
            have l1 := (h.2.2.2.2.2 _ (lpD_lt ln nu w j)).1
            have l2 := (h.2.2.2.2.2 _ d2.1).1
            have := ih (j + 1) (by omega) (by omega)
            rw [lB_s, ← Bool.and_assoc, hq, Bool.true_and] at this
            by_cases e3 : ll (lpD ln nu w j) = ll (ro (k + j))
            · rw [decide_eq_true e3] at this
              rw [if_pos (by rw [e3])]
              exact this
            · rw [decide_eq_false e3] at this
              rw [if_neg (fun q => e3 ((nI_eq (by omega) (by omega)).mp q))]
              exact this
    have := key N 0 (by omega) (by omega)
    rw [show (decide (k + ln w ≤ nr) && lB 0 (fun i => decide (ll (lpD ln nu w i) = ll (ro (k + i))))) = decide (k + ln w ≤ nr) by rw [show lB 0 (fun i => decide (ll (lpD ln nu w i) = ll (ro (k + i)))) = true from rfl, Bool.and_true]] at this
    exact this
  rw [c1, bO_s, nar_bI]
end RD
/-- what the words below w give at place k -/
def dpI (ln nu ll wt : Nat → Nat) (nr : Nat) (ro fe he : Nat → Nat) (k w fk hk : Nat) (fi : Int32) : Prop :=
  (fk = 1000000 ∧ hk = 0 ∧ fi = -1 ∧ ∀ w', w' < w → fiD ln nu ll nr ro w' k = true → fe (k + ln w') = 1000000) ∨
  (fk + k ≤ nr ∧ hk ≤ 9 * fk ∧ ∃ w0, w0 < w ∧ fi = nI w0 ∧ fiD ln nu ll nr ro w0 k = true ∧ fe (k + ln w0) + 1 = fk ∧ he (k + ln w0) + wt w0 = hk ∧
    (∀ w', w' < w0 → fiD ln nu ll nr ro w' k = true → ¬ (fe (k + ln w') + 1 = fk ∧ he (k + ln w') + wt w' = hk)) ∧
    (∀ w', w' < w → fiD ln nu ll nr ro w' k = true → fk < fe (k + ln w') + 1 ∨ (fk = fe (k + ln w') + 1 ∧ he (k + ln w') + wt w' ≤ hk)))
/-- one place of the row in both -/
def dpR (fe he : Nat → Nat) (cw cf ch rw' rf rh : Nat → Int32) (j : Nat) : Prop := cw j = rw' j ∧ cf j = sI (fe j) ∧ ch j = nI (he j) ∧ rf j = nI (fe j) ∧ rh j = nI (he j)
def dpB (nr : Nat) (fe he : Nat → Nat) (j : Nat) : Prop := (fe j = 1000000 ∧ he j = 0) ∨ (fe j + j ≤ nr ∧ he j ≤ 9 * fe j)
section RE
variable {N n nr : Nat} {ln nu wt ll ro : Nat → Nat} {length weight least lipsOf row b : Nat → Int32}
theorem reck_in (hN : 100 ≤ N) (h : LxC n ln nu wt ll length weight least lipsOf) (h' : LxR n ln nu wt ll b) (hnr : nr ≤ 24) (hr : ∀ k, k < nr → ro k < 6 ∧ row k = nI (ro k)) (hb4 : b 4 = nI nr) (hr' : ∀ k, k < nr → ro k < 6 ∧ b (190 + k) = nI (ro k)) {k : Nat} (hk : k < nr) :
    ∀ (d w f g : Nat) (cw cf ch ci rw' rf rh : Nat → Int32) (fe he : Nat → Nat), w + d = n → d < f → d < g → (∀ j, k ≤ j → j ≤ nr → dpR fe he cw cf ch rw' rf rh j) → (∀ j, k < j → j ≤ nr → dpB nr fe he j) → dpI ln nu ll wt nr ro fe he k w (fe k) (he k) (ci k) →
      ∃ cw' cf' ch' ci' rw'' rf' rh' fe' he', Readings_reckon_L72 N (nI n) (nI k) (nI nr) length least row lipsOf weight f (nI w) cw cf ch ci = some (cw', cf', ch', ci') ∧ R_readsRow_L55 N b (nI nr) (nI k) g (nI w) rw' rf rh = some (rw'', rf', rh') ∧
        (∀ j, k ≤ j → j ≤ nr → dpR fe' he' cw' cf' ch' rw'' rf' rh' j) ∧ (∀ j, j ≠ k → fe' j = fe j ∧ he' j = he j ∧ ci' j = ci j) ∧ dpI ln nu ll wt nr ro fe' he' k n (fe' k) (he' k) (ci' k) := by
  have h0 := h.1
  intro d
  induction d with
  | zero =>
    intro w f g cw cf ch ci rw' rf rh fe he hw hf hg hR hB hI
    obtain ⟨f, rfl⟩ : ∃ z, f = z + 1 := ⟨f - 1, by omega⟩
    obtain ⟨g, rfl⟩ : ∃ z, g = z + 1 := ⟨g - 1, by omega⟩
    have : w = n := by omega
    subst this
    refine ⟨cw, cf, ch, ci, rw', rf, rh, fe, he, ?_, ?_, hR, fun _ _ => ⟨rfl, rfl, rfl⟩, hI⟩
    · rw [Readings_reckon_L72, if_pos (nI_le (Nat.le_refl _) (by omega))]
    · rw [R_readsRow_L55, h'.2.1, if_pos (nI_le (Nat.le_refl _) (by omega))]
  | succ d ih =>
    intro w f g cw cf ch ci rw' rf rh fe he hw hf hg hR hB hI
    obtain ⟨f, rfl⟩ : ∃ z, f = z + 1 := ⟨f - 1, by omega⟩
    obtain ⟨g, rfl⟩ : ∃ z, g = z + 1 := ⟨g - 1, by omega⟩
    have hwn : w < n := by omega
    have l1 := h.2.1 w hwn
    have w1 := h.2.2.1 w hwn
    rw [Readings_reckon_L72, R_readsRow_L55, h'.2.1, if_neg (nI_ge (by omega) (by omega)), if_neg (nI_ge (by omega) (by omega)), if_neg (nI_ge (by omega) (by omega)), fits_ok hN h hnr hr hwn (by omega), RisAtRow_ok hN h' hnr hb4 hr' hwn (by omega), bO_s, bO_s, nI_1]
    cases hfit : fiD ln nu ll nr ro w k
    · rw [bI_f, if_pos rfl, if_pos rfl]
      apply ih (w + 1) f g cw cf ch ci rw' rf rh fe he (by omega) (by omega) (by omega) hR hB
      rcases hI with ⟨a1, a2, a3, a4⟩ | ⟨a1, a2, w0, a3, a4, a5, a6, a7, a8, a9⟩
      · refine Or.inl ⟨a1, a2, a3, fun w' hw' hf' => ?_⟩
        by_cases e : w' = w
        · subst e; rw [hfit] at hf'; cases hf'
        · exact a4 w' (by omega) hf'
      · refine Or.inr ⟨a1, a2, w0, by omega, a4, a5, a6, a7, a8, fun w' hw' hf' => ?_⟩
        by_cases e : w' = w
        · subst e; rw [hfit] at hf'; cases hf'
        · exact a9 w' (by omega) hf'
    · have hto : k + ln w ≤ nr := by
        unfold fiD at hfit
        have := (Bool.and_eq_true_iff.mp hfit).1
        simpa using this
      rw [bI_t, if_neg n10, if_neg n10, gd_ix (by omega) (by omega), nI_clamp (by omega), l1.2.2, w1.2.2, RlengthOf_ok h' hwn, bO_s, RweightOf_ok h' hwn, nI_add]
      rw [gd_ix (by omega) (by omega), bO_s, nI_clamp (by omega), nI_clamp (by omega)]
      obtain ⟨r1, r2, r3, r4, r5⟩ := hR k (Nat.le_refl k) (by omega)
      obtain ⟨t1, t2, t3, t4, t5⟩ := hR (k + ln w) (by omega) hto
      have tb := hB (k + ln w) (by omega) hto
      have kb : (fe k = 1000000 ∧ he k = 0) ∨ (fe k + k ≤ nr ∧ he k ≤ 9 * fe k) := by
        rcases hI with ⟨a1, a2, _⟩ | ⟨a1, a2, _⟩
        · exact Or.inl ⟨a1, a2⟩
        · exact Or.inr ⟨a1, a2⟩
      unfold F_Readings_begin
      rw [gd_ix (by omega) (by omega), gd_ix (by omega) (by omega), nI_clamp (by omega), nI_clamp (by omega), t2, t3, t4, t5, r4, r5, ← t1, ← r1, r2, r3]
      -- the new ways
      have rst : ∀ (fe' he' : Nat → Nat) (cf' ch' ci' rf' rh' : Nat → Int32), (∀ j, j ≠ k → fe' j = fe j ∧ he' j = he j ∧ ci' j = ci j) → (∀ j, k ≤ j → j ≤ nr → cf' j = sI (fe' j) ∧ ch' j = nI (he' j) ∧ rf' j = nI (fe' j) ∧ rh' j = nI (he' j)) → dpI ln nu ll wt nr ro fe' he' k (w + 1) (fe' k) (he' k) (ci' k) →
          ∃ cw'' cf'' ch'' ci'' rw''' rf'' rh'' fe'' he'', Readings_reckon_L72 N (nI n) (nI k) (nI nr) length least row lipsOf weight f (nI (w + 1)) (upd cw k (jrem (cw k + cw (k + ln w)) 1000000007)) cf' ch' ci' = some (cw'', cf'', ch'', ci'') ∧ R_readsRow_L55 N b (nI nr) (nI k) g (nI (w + 1)) (upd rw' k (jrem (cw k + cw (k + ln w)) 1000000007)) rf' rh' = some (rw''', rf'', rh'') ∧
            (∀ j, k ≤ j → j ≤ nr → dpR fe'' he'' cw'' cf'' ch'' rw''' rf'' rh'' j) ∧ (∀ j, j ≠ k → fe'' j = fe j ∧ he'' j = he j ∧ ci'' j = ci j) ∧ dpI ln nu ll wt nr ro fe'' he'' k n (fe'' k) (he'' k) (ci'' k) := by
        intro fe' he' cf' ch' ci' rf' rh' hoth hall hI'
        obtain ⟨cw'', cf'', ch'', ci'', rw''', rf'', rh'', fe'', he'', q1, q2, q3, q4, q5⟩ := ih (w + 1) f g (upd cw k (jrem (cw k + cw (k + ln w)) 1000000007)) cf' ch' ci' (upd rw' k (jrem (cw k + cw (k + ln w)) 1000000007)) rf' rh' fe' he' (by omega) (by omega) (by omega) (by
            intro j hj hj2
            obtain ⟨s1, s2, s3, s4⟩ := hall j hj hj2
            refine ⟨?_, s1, s2, s3, s4⟩
            by_cases e : j = k
            · subst e; rw [pk_us, pk_us]
            · rw [pk_un e, pk_un e]; exact (hR j hj hj2).1) (by
            intro j hj hj2
            have := hoth j (by omega)
            unfold dpB
            rw [this.1, this.2.1]
            exact hB j hj hj2) hI'
        exact ⟨cw'', cf'', ch'', ci'', rw''', rf'', rh'', fe'', he'', q1, q2, q3, fun j hj => ⟨(q4 j hj).1.trans (hoth j hj).1, (q4 j hj).2.1.trans (hoth j hj).2.1, (q4 j hj).2.2.trans (hoth j hj).2.2⟩, q5⟩
      have keep : (∀ w', w' < w + 1 → fiD ln nu ll nr ro w' k = true → fe k = 1000000 → fe (k + ln w') = 1000000) → (fe k ≠ 1000000 → fe k < fe (k + ln w) + 1 ∨ (fe k = fe (k + ln w) + 1 ∧ he (k + ln w) + wt w ≤ he k)) → dpI ln nu ll wt nr ro fe he k (w + 1) (fe k) (he k) (ci k) := by
        intro c1 c2
        rcases hI with ⟨a1, a2, a3, a4⟩ | ⟨a1, a2, w0, a3, a4, a5, a6, a7, a8, a9⟩
        · exact Or.inl ⟨a1, a2, a3, fun w' hw' hf' => c1 w' hw' hf' a1⟩
        · refine Or.inr ⟨a1, a2, w0, by omega, a4, a5, a6, a7, a8, fun w' hw' hf' => ?_⟩
          by_cases e : w' = w
          · subst e; exact c2 (by omega)
          · exact a9 w' (by omega) hf'
      have same := rst fe he cf ch ci rf rh (fun _ _ => ⟨rfl, rfl, rfl⟩) (fun j hj hj2 => ⟨(hR j hj hj2).2.1, (hR j hj hj2).2.2.1, (hR j hj hj2).2.2.2.1, (hR j hj hj2).2.2.2.2⟩)
      by_cases hM : fe (k + ln w) = 1000000
      · -- nothing goes on from there
        have e1 : sI (fe (k + ln w)) = -1 := by unfold sI; rw [if_pos hM]
        have c1 : ¬ (nI (fe (k + ln w)) + 1 < nI (fe k)) := by
          rw [nI_1, hM]; exact nI_nlt (by omega) (by omega)
        have c2 : ¬ (nI (fe (k + ln w)) + 1 = nI (fe k)) := by
          rw [nI_1, hM]
          intro q
          have := (nI_eq (by omega) (by omega)).mp q
          omega
        rw [if_pos e1, if_neg c1, if_neg c2, bO_s]
        apply same
        apply keep
        · intro w' hw' hf' hk1
          by_cases e : w' = w
          · subst e; exact hM
          · rcases hI with ⟨a1, a2, a3, a4⟩ | ⟨a1, a2, w0, a3, a4, a5, a6, a7, a8, a9⟩
            · exact a4 w' (by omega) hf'
            · omega
        · intro hk1
          left; omega
      · have tb2 : fe (k + ln w) + (k + ln w) ≤ nr ∧ he (k + ln w) ≤ 9 * fe (k + ln w) := by
          rcases tb with ⟨z, _⟩ | z
          · exact absurd z hM
          · exact z
        have e1 : sI (fe (k + ln w)) = nI (fe (k + ln w)) := by unfold sI; rw [if_neg hM]
        rw [e1, if_neg (nI_nm1 (by omega)), nI_1, nI_add]
        -- the update itself
        have new : (fe k = 1000000 ∨ fe (k + ln w) + 1 < fe k ∨ (fe (k + ln w) + 1 = fe k ∧ he k < he (k + ln w) + wt w)) → _ := fun hc => rst (fun j => if j = k then fe (k + ln w) + 1 else fe j) (fun j => if j = k then he (k + ln w) + wt w else he j) (upd cf k (nI (fe (k + ln w) + 1))) (upd ch k (nI (he (k + ln w) + wt w))) (upd ci k (nI w)) (upd rf k (nI (fe (k + ln w) + 1))) (upd rh k (nI (he (k + ln w) + wt w))) (fun j hj => ⟨if_neg hj, if_neg hj, pk_un hj⟩) (fun j hj hj2 => by
            by_cases e : j = k
            · subst e
              rw [pk_us, pk_us, pk_us, pk_us, if_pos rfl, if_pos rfl]
              refine ⟨?_, rfl, rfl, rfl⟩
              unfold sI; rw [if_neg (by omega)]
            · rw [pk_un e, pk_un e, pk_un e, pk_un e, if_neg e, if_neg e]
              exact ⟨(hR j hj hj2).2.1, (hR j hj hj2).2.2.1, (hR j hj hj2).2.2.2.1, (hR j hj hj2).2.2.2.2⟩) (by
            have ne : ∀ w', w' < n → k + ln w' ≠ k := by intro w' hw'; have := (h.2.1 w' hw').1; omega
            rw [pk_us]
            refine Or.inr ⟨by rw [if_pos rfl]; omega, by rw [if_pos rfl, if_pos rfl]; omega, w, by omega, rfl, hfit, by dsimp only; rw [if_neg (ne w hwn), if_pos rfl], by dsimp only; rw [if_neg (ne w hwn), if_pos rfl], ?_, ?_⟩
            · intro w' hw' hf'
              dsimp only
              rw [if_neg (ne w' (by omega)), if_neg (ne w' (by omega)), if_pos rfl, if_pos rfl]
              rcases hI with ⟨a1, a2, a3, a4⟩ | ⟨a1, a2, w0, a3, a4, a5, a6, a7, a8, a9⟩
              · have := a4 w' (by omega) hf'; omega
              · have := a9 w' (by omega) hf'; omega
            · intro w' hw' hf'
              dsimp only
              rw [if_neg (ne w' (by omega)), if_neg (ne w' (by omega)), if_pos rfl, if_pos rfl]
              by_cases e : w' = w
              · subst e; right; exact ⟨rfl, Nat.le_refl _⟩
              · rcases hI with ⟨a1, a2, a3, a4⟩ | ⟨a1, a2, w0, a3, a4, a5, a6, a7, a8, a9⟩
                · have := a4 w' (by omega) hf'; left; omega
                · have := a9 w' (by omega) hf'; omega)
        by_cases hkM : fe k = 1000000
        · have q1 : sI (fe k) = -1 := by unfold sI; rw [if_pos hkM]
          have c1 : nI (fe (k + ln w) + 1) < nI (fe k) := nI_lt (by omega) (by omega)
          rw [if_pos q1, bT_r, if_pos c1]
          simp only [u0]
          rw [bO_s]
          exact new (Or.inl hkM)
        · have q1 : sI (fe k) = nI (fe k) := by unfold sI; rw [if_neg hkM]
          have kb2 : fe k + k ≤ nr ∧ he k ≤ 9 * fe k := by
            rcases kb with ⟨z, _⟩ | z
            · exact absurd z hkM
            · exact z
          rw [q1, if_neg (nI_nm1 (by omega))]
          by_cases c1 : fe (k + ln w) + 1 < fe k
          · have c2 : nI (fe (k + ln w) + 1) < nI (fe k) := nI_lt c1 (by omega)
            rw [if_pos c2, if_pos c2, bT_r]
            simp only [u0]
            rw [bO_s]
            exact new (Or.inr (Or.inl c1))
          · have c2 : ¬ nI (fe (k + ln w) + 1) < nI (fe k) := nI_nlt (by omega) (by omega)
            rw [if_neg c2, if_neg c2]
            by_cases c3 : fe (k + ln w) + 1 = fe k
            · have c4 : nI (fe (k + ln w) + 1) = nI (fe k) := by rw [c3]
              rw [if_pos c4, if_pos c4]
              by_cases c5 : he (k + ln w) + wt w ≤ he k
              · have c6 : nI (he (k + ln w) + wt w) ≤ nI (he k) := nI_le c5 (by omega)
                rw [if_pos c6, if_pos c6, bT_l, bO_s]
                exact same (keep (fun _ _ _ z => absurd z hkM) (fun _ => Or.inr ⟨c3.symm, c5⟩))
              · have c6 : ¬ nI (he (k + ln w) + wt w) ≤ nI (he k) := nI_ge (by omega) (by omega)
                rw [if_neg c6, if_neg c6, bT_r]
                simp only [u0]
                rw [bO_s]
                exact new (Or.inr (Or.inr ⟨c3, by omega⟩))
            · have c4 : ¬ nI (fe (k + ln w) + 1) = nI (fe k) := fun q => c3 ((nI_eq (by omega) (by omega)).mp q)
              rw [if_neg c4, if_neg c4, bT_l, bO_s]
              exact same (keep (fun _ _ _ z => absurd z hkM) (fun _ => Or.inl (by omega)))
end RE
