-- NEWS: the reference's loops
theorem Rcan_ok {n w t : Nat} {te lo : Nat → Nat} {b : Nat → Int32} {what : Bool} (hn : n ≤ 8) (hw : w < n) (ht : t < 1000) (hte : ∀ w, w < n → te w < 4096 ∧ b (80 + 4 * w + 2) = nI (te w)) (hlo : ∀ w, w < n → lo w < 4096 ∧ b (80 + 4 * w + 3) = nI (lo w)) : F_R_can (nI w) (bI what) (nI t) b = some (bI (if what = true then (lo w).testBit (t % 12) else (te w).testBit (t % 12))) := by
  unfold F_R_can
  have h1 := hte w hw
  have h2 := hlo w hw
  have h2' : b (80 + 4 * w + 2 + 1) = nI (lo w) := h2.2
  cases what
  · rw [show bI false = nI 0 from rfl]
    simp (disch := omega) only [k80, k4, k2, nI_leI, nI_ltI, nI_eq, nI_1, nI_add, pk_mul, nI_clamp, gd_ix, rem12, Nat.add_zero, h1.2]
    rw [bitR (by omega) (by omega)]
    cases (te w).testBit (t % 12) <;> rfl
  · rw [show bI true = nI 1 from rfl]
    simp (disch := omega) only [k80, k4, k2, nI_leI, nI_ltI, nI_eq, nI_1, nI_add, pk_mul, nI_clamp, gd_ix, rem12, h2']
    rw [bitR (by omega) (by omega)]
    cases (lo w).testBit (t % 12) <;> rfl
/-- whom the reference looks at -/
theorem Rlooks_ok {N n : Nat} {pil : Nat → Bool} {b hears spies : Nat → Int32} {how : Bool} (hN : 100 ≤ N) (hn : n ≤ 8) (hb1 : b 1 = nI n) (hb : ∀ k, k < 64 → b (10 + k) = bI (pil k)) {P : Bool → Nat → Nat → Bool} (hP : P = pcI pil (fun i => b (6 + i)) (fun w => b (80 + 4 * w)) (fun w => b (80 + 4 * w + 1))) :
    ∃ hears' spies', F_R_looks N (bI how) b hears spies = some (hears', spies') ∧ (∀ a c, a < n → c < n → hears' (8 * a + c) = bI (decide (a ≠ c) && P how a c)) ∧ (∀ a c, a < n → c < n → spies' (8 * a + c) = bI (decide (a ≠ c) && (P false a c || P true a c))) := by
  have inner : ∀ (a : Nat), a < n → ∀ (f c : Nat) (h s : Nat → Int32), c ≤ n → n - c < f → (∀ a' c', (a' < a ∨ (a' = a ∧ c' < c)) → c' < n → h (8 * a' + c') = bI (decide (a' ≠ c') && P how a' c') ∧ s (8 * a' + c') = bI (decide (a' ≠ c') && (P false a' c' || P true a' c'))) →
      ∃ h' s', R_looks_L14 N b (nI a) (bI how) f (nI c) h s = some (h', s') ∧ (∀ a' c', a' < a + 1 → c' < n → h' (8 * a' + c') = bI (decide (a' ≠ c') && P how a' c') ∧ s' (8 * a' + c') = bI (decide (a' ≠ c') && (P false a' c' || P true a' c'))) := by
    intro a ha f
    induction f with
    | zero => intro c _ _ _ h; omega
    | succ f ih =>
      intro c h s hc hf hi
      rw [R_looks_L14]
      by_cases e : c = n
      · subst e
        rw [if_pos (by rw [hb1]; exact nI_le (Nat.le_refl c) (by omega))]
        exact ⟨h, s, rfl, fun a' c' h1 h2 => hi a' c' (by omega) h2⟩
      · have h5 : ¬ n ≤ c := by omega
        rw [if_neg (by rw [hb1]; exact nI_ge (by omega) (by omega))]
        have e0 : (if nI a = nI c then some (0 : Int32) else bO (F_R_areFacing N (nI a) (nI c) b) (fun r32 => if r32 = 0 then some 0 else some 1)) = some (bI (decide (a ≠ c) && P false a c)) := by
          by_cases hac : a = c
          · subst hac; rw [if_pos rfl]; simp [bI]
          · rw [if_neg (fun q => hac ((nI_eq (by omega) (by omega)).mp q)), RareFacing_ok hN hb (by omega) (by omega), bO_s, hP]
            simp only [decide_eq_true (show a ≠ c from hac), Bool.true_and]
            cases pcI pil (fun i => b (6 + i)) (fun w => b (80 + 4 * w)) (fun w => b (80 + 4 * w + 1)) false a c <;> rfl
        have e1 : (if nI a = nI c then some (0 : Int32) else bO (F_R_watches N (nI a) (nI c) b) (fun r53 => if r53 = 0 then some 0 else some 1)) = some (bI (decide (a ≠ c) && P true a c)) := by
          by_cases hac : a = c
          · subst hac; rw [if_pos rfl]; simp [bI]
          · rw [if_neg (fun q => hac ((nI_eq (by omega) (by omega)).mp q)), Rwatches_ok hN hb (by omega) (by omega), bO_s, hP]
            simp only [decide_eq_true (show a ≠ c from hac), Bool.true_and]
            cases pcI pil (fun i => b (6 + i)) (fun w => b (80 + 4 * w)) (fun w => b (80 + 4 * w + 1)) true a c <;> rfl
        have e2 : (if bI how = 0 then some (bI (decide (a ≠ c) && P false a c)) else some (bI (decide (a ≠ c) && P true a c))) = some (bI (decide (a ≠ c) && P how a c)) := by
          cases how <;> rfl
        rw [e0, bO_s, e1, bO_s, e2, bO_s]
        simp (disch := omega) only [k8, nI_leI, nI_ltI, nI_eq, nI_1, nI_add, pk_mul, nI_clamp, gd_ix, nar_bI]
        have fin : ∀ z : Bool, (z = (decide (a ≠ c) && (P false a c || P true a c))) → ∃ h' s', R_looks_L14 N b (nI a) (bI how) f (nI (c + 1)) (upd h (8 * a + c) (bI (decide (a ≠ c) && P how a c))) (upd s (8 * a + c) (bI z)) = some (h', s') ∧ (∀ a' c', a' < a + 1 → c' < n → h' (8 * a' + c') = bI (decide (a' ≠ c') && P how a' c') ∧ s' (8 * a' + c') = bI (decide (a' ≠ c') && (P false a' c' || P true a' c'))) := by
          intro z hz
          apply ih (c + 1) _ _ (by omega) (by omega)
          intro a' c' h1 h2
          by_cases q : a' = a ∧ c' = c
          · obtain ⟨rfl, rfl⟩ := q
            rw [pk_us, pk_us, hz]; exact ⟨rfl, rfl⟩
          · rw [pk_un (by omega), pk_un (by omega)]
            exact hi a' c' (by omega) h2
        cases hf0 : (decide (a ≠ c) && P false a c)
        · rw [bI_f, if_pos rfl]
          cases hf1 : (decide (a ≠ c) && P true a c)
          · rw [bI_f, if_pos rfl, nar_0]
            exact fin false (by rw [Bool.and_or_distrib_left, hf0, hf1]; rfl)
          · rw [bI_t, if_neg n10, nar_1]
            exact fin true (by rw [Bool.and_or_distrib_left, hf0, hf1]; rfl)
        · rw [bI_t, if_neg n10, nar_1]
          exact fin true (by rw [Bool.and_or_distrib_left, hf0]; rfl)
  have outer : ∀ (f a : Nat) (h s : Nat → Int32), a ≤ n → n - a < f → (∀ a' c', a' < a → c' < n → h (8 * a' + c') = bI (decide (a' ≠ c') && P how a' c') ∧ s (8 * a' + c') = bI (decide (a' ≠ c') && (P false a' c' || P true a' c'))) →
      ∃ h' s', R_looks_L2 N b (bI how) f (nI a) h s = some (h', s') ∧ (∀ a' c', a' < n → c' < n → h' (8 * a' + c') = bI (decide (a' ≠ c') && P how a' c') ∧ s' (8 * a' + c') = bI (decide (a' ≠ c') && (P false a' c' || P true a' c'))) := by
    intro f
    induction f with
    | zero => intro a _ _ _ h; omega
    | succ f ih =>
      intro a h s ha hf hi
      rw [R_looks_L2]
      by_cases e : a = n
      · subst e
        rw [if_pos (by rw [hb1]; exact nI_le (Nat.le_refl a) (by omega))]
        exact ⟨h, s, rfl, hi⟩
      · rw [if_neg (by rw [hb1]; exact nI_ge (by omega) (by omega))]
        obtain ⟨h', s', q1, q2⟩ := inner a (by omega) N 0 h s (by omega) (by omega) (fun a' c' h1 h2 => hi a' c' (by omega) h2)
        have q1' : R_looks_L14 N b (nI a) (bI how) N 0 h s = some (h', s') := q1
        rw [q1', bO_s]
        show ∃ h'' s'', R_looks_L2 N b (bI how) f (nI a + 1) h' s' = some (h'', s'') ∧ _
        rw [nI_1]
        exact ih (a + 1) h' s' (by omega) (by omega) (fun a' c' h1 h2 => q2 a' c' h1 h2)
  unfold F_R_looks
  obtain ⟨h', s', q1, q2⟩ := outer N 0 hears spies (by omega) (by omega) (fun a' c' h1 h2 => absurd h1 (Nat.not_lt_zero a'))
  have q1' : R_looks_L2 N b (bI how) N 0 hears spies = some (h', s') := q1
  rw [q1', bO_s]
  exact ⟨h', s', rfl, fun a c h1 h2 => (q2 a c h1 h2).1, fun a c h1 h2 => (q2 a c h1 h2).2⟩
/-- one teller of one second -/
theorem Rtell_ok {N t u : Nat} {W : n_W} {K0 : Nat → Nat} {B0 : Nat → Int32} {b hears known bys : Nat → Int32} {y0 y1 : Bool} (hN : 100 ≤ N) (hW : nok W) (ht : t < 240) (hu : u < n_n W) (hb1 : b 1 = nI (n_n W))
    (hte : ∀ w, w < n_n W → n_te W w < 4096 ∧ b (80 + 4 * w + 2) = nI (n_te W w)) (hlo : ∀ w, w < n_n W → n_lo W w < 4096 ∧ b (80 + 4 * w + 3) = nI (n_lo W w)) (hh : ∀ a c, a < n_n W → c < n_n W → hears (8 * a + c) = bI (n_H W a c)) (hT : (y0 && !y1) = nT W K0 t u) (hK : nK W K0 t)
    (hk : ∀ v, v < 8 → known v = nI ((nin W K0 B0 t u).1 v)) (hy : ∀ v, v < 8 → bys v = (nin W K0 B0 t u).2 v) :
    ∃ known' bys', R_spreads_L166 b (bI y0) (bI y1) (xI (n_x W)) (nI u) hears (nI t) N 0 known bys = some (known', bys') ∧ (∀ v, v < 8 → known' v = nI ((nin W K0 B0 t (u + 1)).1 v)) ∧ (∀ v, v < 8 → bys' v = (nin W K0 B0 t (u + 1)).2 v) := by
  have hn := hW.1
  have hfix : ∀ v, n_n W ≤ v → nC W (nin W K0 B0 t u).1 t v u = false := by
    intro v hv; unfold nC; simp [Nat.not_lt.mpr hv]
  have key : ∀ (f j : Nat) (known bys : Nat → Int32), j ≤ n_n W → n_n W - j < f → (∀ v, v < 8 → known v = nI (if (decide (v < j) && (nT W K0 t u && nC W (nin W K0 B0 t u).1 t v u)) = true then t + 1 else (nin W K0 B0 t u).1 v)) → (∀ v, v < 8 → bys v = (if (decide (v < j) && (nT W K0 t u && nC W (nin W K0 B0 t u).1 t v u)) = true then nI u else (nin W K0 B0 t u).2 v)) →
      ∃ known' bys', R_spreads_L166 b (bI y0) (bI y1) (xI (n_x W)) (nI u) hears (nI t) f (nI j) known bys = some (known', bys') ∧ (∀ v, v < 8 → known' v = nI ((nin W K0 B0 t (u + 1)).1 v)) ∧ (∀ v, v < 8 → bys' v = (nin W K0 B0 t (u + 1)).2 v) := by
    intro f
    induction f with
    | zero => intro j _ _ _ h; omega
    | succ f ih =>
      intro j known bys hj hf hk hy
      have done : (j = n_n W ∨ nT W K0 t u = false) → (∀ v, v < 8 → known v = nI ((nin W K0 B0 t (u + 1)).1 v)) ∧ (∀ v, v < 8 → bys v = (nin W K0 B0 t (u + 1)).2 v) := by
        intro hd
        have e : ∀ v, (decide (v < j) && (nT W K0 t u && nC W (nin W K0 B0 t u).1 t v u)) = (nT W K0 t u && nC W (nin W K0 B0 t u).1 t v u) := by
          intro v
          rcases hd with hd | hd
          · by_cases hv : v < j
            · simp [hv]
            · rw [hfix v (by omega)]; simp
          · rw [hd]; simp
        refine ⟨fun v hv => ?_, fun v hv => ?_⟩
        · rw [hk v hv, e]; rfl
        · rw [hy v hv, e]; rfl
      rw [R_spreads_L166]
      by_cases e : j = n_n W
      · rw [if_pos (by rw [hb1, e]; exact nI_le (Nat.le_refl _) (by omega))]
        exact ⟨known, bys, rfl, done (Or.inl e)⟩
      rw [if_neg (by rw [hb1]; exact nI_ge (by omega) (by omega))]
      cases y0
      · rw [bI_f, if_pos rfl]
        exact ⟨known, bys, rfl, done (Or.inr (by rw [← hT]; rfl))⟩
      rw [bI_t, if_neg n10]
      cases y1
      · rw [bI_f, if_pos rfl]
        have hT2 : nT W K0 t u = true := by rw [← hT]; rfl
        simp (disch := omega) only [k8, nI_leI, nI_ltI, nI_eq, nI_1, nI_add, pk_mul, nI_clamp, gd_ix]
        have hKj : known j = nI ((nin W K0 B0 t u).1 j) := by
          rw [hk j (by omega), if_neg (by simp)]
        have hKb : (nin W K0 B0 t u).1 j < 2000000 := by
          have := (nin_K (u := u) (B0 := B0) hK j).1
          omega
        have skip : nC W (nin W K0 B0 t u).1 t j u = false → ∃ known' bys', R_spreads_L166 b 1 0 (xI (n_x W)) (nI u) hears (nI t) f (nI (j + 1)) known bys = some (known', bys') ∧ (∀ v, v < 8 → known' v = nI ((nin W K0 B0 t (u + 1)).1 v)) ∧ (∀ v, v < 8 → bys' v = (nin W K0 B0 t (u + 1)).2 v) := by
          intro hc
          apply ih (j + 1) known bys (by omega) (by omega)
          · intro v hv
            rw [hk v hv]
            by_cases q : v = j
            · subst q; rw [hc]; simp
            · simp only [show v < j + 1 ↔ v < j by omega]
          · intro v hv
            rw [hy v hv]
            by_cases q : v = j
            · subst q; rw [hc]; simp
            · simp only [show v < j + 1 ↔ v < j by omega]
        have hjn : j < n_n W := by omega
        by_cases hM : (nin W K0 B0 t u).1 j = 1000000
        · rw [if_pos (by rw [hKj, hM]; rfl)]
          by_cases hx : nI j = xI (n_x W)
          · rw [if_pos hx]
            apply skip
            have : n_x W = some j := by
              cases hxx : n_x W with
              | none =>
                rw [hxx] at hx
                exact absurd hx (nI_nm1 (by omega))
              | some i =>
                rw [hxx] at hx
                have hi := hW.2.1 i hxx
                rw [(nI_eq (by omega) (by omega)).mp hx]
            unfold nC
            simp [this]
          · rw [if_neg hx]
            have hx2 : ¬ n_x W = some j := by
              intro q; rw [q] at hx; exact hx rfl
            rw [hh j u hjn hu]
            cases hH : n_H W j u
            · rw [bI_f, if_pos rfl]
              apply skip
              unfold nC
              simp [hH]
            · rw [bI_t, if_neg n10]
              have ec : F_R_can (nI j) 1 (nI t) b = _ := Rcan_ok (what := true) hn hjn (by omega) hte hlo
              rw [ec, bO_s, if_pos rfl]
              cases hlk : (n_lo W j).testBit (t % 12)
              · rw [bI_f, if_pos rfl]
                apply skip
                unfold nC
                simp [hlk]
              · rw [bI_t, if_neg n10]
                have hC : nC W (nin W K0 B0 t u).1 t j u = true := by
                  unfold nC
                  simp [hjn, hM, hx2, hH, hlk]
                apply ih (j + 1) _ _ (by omega) (by omega)
                · intro v hv
                  by_cases q : v = j
                  · subst q; rw [pk_us, hC, hT2]; simp
                  · rw [pk_un q, hk v hv]; simp only [show v < j + 1 ↔ v < j by omega]
                · intro v hv
                  by_cases q : v = j
                  · subst q; rw [pk_us, hC, hT2]; simp
                  · rw [pk_un q, hy v hv]; simp only [show v < j + 1 ↔ v < j by omega]
        · rw [if_neg (by
            rw [hKj]
            intro q
            exact hM ((nI_eq (by omega) (by omega)).mp q))]
          apply skip
          unfold nC
          simp [hM]
      · rw [bI_t, if_neg n10]
        exact ⟨known, bys, rfl, done (Or.inr (by rw [← hT]; rfl))⟩
  obtain ⟨k', y', q1, q2⟩ := key N 0 known bys (by omega) (by omega) (by intro v hv; rw [hk v hv]; simp) (by intro v hv; rw [hy v hv]; simp)
  exact ⟨k', y', q1, q2⟩
theorem Rsecond_ok {N t : Nat} {W : n_W} {K0 : Nat → Nat} {B0 : Nat → Int32} {b hears spies known bys : Nat → Int32} (hN : 100 ≤ N) (hW : nok W) (ht : t < 240) (hb1 : b 1 = nI (n_n W))
    (hte : ∀ w, w < n_n W → n_te W w < 4096 ∧ b (80 + 4 * w + 2) = nI (n_te W w)) (hlo : ∀ w, w < n_n W → n_lo W w < 4096 ∧ b (80 + 4 * w + 3) = nI (n_lo W w)) (hh : ∀ a c, a < n_n W → c < n_n W → hears (8 * a + c) = bI (n_H W a c)) (hsp : ∀ a c, a < n_n W → c < n_n W → spies (8 * a + c) = bI (n_S W a c)) (hK : nK W K0 t)
    (hk : ∀ v, v < 8 → known v = nI (K0 v)) (hy : ∀ v, v < 8 → bys v = B0 v) :
    ∃ known' bys', R_spreads_L62 N b (nI t) (xI (n_x W)) spies hears N 0 known bys = some (known', bys') ∧ (∀ v, v < 8 → known' v = nI ((nin W K0 B0 t 8).1 v)) ∧ (∀ v, v < 8 → bys' v = (nin W K0 B0 t 8).2 v) := by
  have hn := hW.1
  have key : ∀ (f u : Nat) (known bys : Nat → Int32), u ≤ n_n W → n_n W - u < f → (∀ v, v < 8 → known v = nI ((nin W K0 B0 t u).1 v)) → (∀ v, v < 8 → bys v = (nin W K0 B0 t u).2 v) →
      ∃ known' bys', R_spreads_L62 N b (nI t) (xI (n_x W)) spies hears f (nI u) known bys = some (known', bys') ∧ (∀ v, v < 8 → known' v = nI ((nin W K0 B0 t 8).1 v)) ∧ (∀ v, v < 8 → bys' v = (nin W K0 B0 t 8).2 v) := by
    intro f
    induction f with
    | zero => intro u _ _ _ h; omega
    | succ f ih =>
      intro u known bys hu hf hk hy
      rw [R_spreads_L62]
      by_cases e : u = n_n W
      · rw [if_pos (by rw [hb1, e]; exact nI_le (Nat.le_refl _) (by omega))]
        have e8 : nin W K0 B0 t 8 = nin W K0 B0 t u := by
          have := nin_tail (W := W) (K0 := K0) (B0 := B0) (t := t) (8 - n_n W)
          rw [show n_n W + (8 - n_n W) = 8 by omega] at this
          rw [this, e]
        rw [e8]
        exact ⟨known, bys, rfl, hk, hy⟩
      rw [if_neg (by rw [hb1]; exact nI_ge (by omega) (by omega))]
      have hun : u < n_n W := by omega
      simp (disch := omega) only [nI_leI, nI_ltI, nI_eq, nI_1, nI_add, pk_mul, nI_clamp, gd_ix]
      have hKb : (nin W K0 B0 t u).1 u < 2000000 := by
        have := (nin_K (u := u) (B0 := B0) hK u).1
        omega
      have ec0 : F_R_can (nI u) 0 (nI t) b = _ := Rcan_ok (what := false) hn hun (by omega) hte hlo
      have e1 : (if nI t < known u then some (0 : Int32) else bO (F_R_can (nI u) 0 (nI t) b) (fun r91 => if r91 = 0 then some 0 else some 1)) = some (bI (decide (K0 u ≤ t) && (n_te W u).testBit (t % 12))) := by
        rw [hk u (by omega)]
        have hle := nin_le (W := W) (K0 := K0) (B0 := B0) (u := u) (v := u) ht
        by_cases q : K0 u ≤ t
        · have q2 : (nin W K0 B0 t u).1 u ≤ t := hle ▸ q
          rw [if_neg (nI_nlt q2 (by omega)), ec0, bO_s, decide_eq_true q, Bool.true_and]
          simp only [Bool.false_eq_true, if_false]
          cases (n_te W u).testBit (t % 12) <;> rfl
        · have q2 : ¬ (nin W K0 B0 t u).1 u ≤ t := hle ▸ q
          rw [if_pos (nI_lt (by omega) (by omega)), decide_eq_false q]; rfl
      have e2 : (if xI (n_x W) = -1 then some (0 : Int32) else bO (if 0 ≤ xI (n_x W) then some (xI (n_x W)) else some 0) (fun y2 => gd (ixb (8 * y2 + nI u) 64) (if spies (8 * y2 + nI u).toNatClampNeg = 0 then some 0 else bO (if 0 ≤ xI (n_x W) then some (xI (n_x W)) else some 0) (fun y1 => bO (F_R_can y1 1 (nI t) b) (fun r150 => if r150 = 0 then some 0 else some 1))))) = some (bI (nSp W t u)) := by
        unfold nSp
        cases hxx : n_x W with
        | none => rfl
        | some i =>
          have hi := hW.2.1 i hxx
          show (if nI i = -1 then _ else bO (if 0 ≤ nI i then some (nI i) else some 0) _) = some (bI (n_S W i u && (n_lo W i).testBit (t % 12)))
          rw [if_neg (nI_nm1 (by omega)), if_pos (nI_pos' (by omega)), bO_s]
          simp (disch := omega) only [k8, nI_leI, nI_ltI, nI_eq, nI_1, nI_add, pk_mul, nI_clamp, gd_ix]
          have ec1 : F_R_can (nI i) 1 (nI t) b = _ := Rcan_ok (what := true) hn hi (by omega) hte hlo
          rw [hsp i u hi hun]
          cases n_S W i u
          · rfl
          · rw [bI_t, if_neg n10]
            show bO (if 0 ≤ nI i then some (nI i) else some 0) _ = _
            rw [if_pos (nI_pos' (by omega)), bO_s, ec1, bO_s, if_pos rfl, ifB]
            rfl
      have e2' := e2
      simp only [k8] at e2'
      rw [e1, bO_s]
      first | rw [e2, bO_s] | rw [e2', bO_s]
      obtain ⟨k', y', q1, q2, q3⟩ := Rtell_ok (N := N) (u := u) (y0 := decide (K0 u ≤ t) && (n_te W u).testBit (t % 12)) (y1 := nSp W t u) hN hW ht hun hb1 hte hlo hh (by unfold nT; rw [decide_eq_true hun, Bool.true_and, Bool.and_assoc]) hK hk hy
      rw [q1, bO_s]
      show ∃ known' bys', R_spreads_L62 N b (nI t) (xI (n_x W)) spies hears f _ k' y' = _ ∧ _
      exact ih (u + 1) k' y' (by omega) (by omega) q2 q3
  exact key N 0 known bys (by omega) (by omega) hk hy
theorem RspreadL_ok {N : Nat} {W : n_W} {b hears spies : Nat → Int32} (hN : 300 ≤ N) (hW : nok W) (hb1 : b 1 = nI (n_n W))
    (hte : ∀ w, w < n_n W → n_te W w < 4096 ∧ b (80 + 4 * w + 2) = nI (n_te W w)) (hlo : ∀ w, w < n_n W → n_lo W w < 4096 ∧ b (80 + 4 * w + 3) = nI (n_lo W w)) (hh : ∀ a c, a < n_n W → c < n_n W → hears (8 * a + c) = bI (n_H W a c)) (hsp : ∀ a c, a < n_n W → c < n_n W → spies (8 * a + c) = bI (n_S W a c)) :
    ∀ (d f t : Nat) (K : Nat → Nat) (B : Nat → Int32) (known bys : Nat → Int32), t + d = 240 → d < f → nK W K t → (∀ v, v < 8 → known v = nI (K v)) → (∀ v, v < 8 → bys v = B v) →
      ∃ known' bys', R_spreads_L51 N b (xI (n_x W)) spies hears f (nI t) known bys = some (known', bys') ∧ (∀ v, v < 8 → known' v = nI ((nrun W d t (K, B)).1 v)) ∧ (∀ v, v < 8 → bys' v = (nrun W d t (K, B)).2 v) := by
  intro d
  induction d with
  | zero =>
    intro f t K B known bys h1 h2 hK hs hb
    obtain ⟨f, rfl⟩ : ∃ g, f = g + 1 := ⟨f - 1, by omega⟩
    have : t = 240 := by omega
    subst this
    exact ⟨known, bys, by rw [R_spreads_L51]; rfl, hs, hb⟩
  | succ d ih =>
    intro f t K B known bys h1 h2 hK hs hb
    obtain ⟨f, rfl⟩ : ∃ g, f = g + 1 := ⟨f - 1, by omega⟩
    have h5 : ¬ (240 : Nat) ≤ t := by omega
    rw [R_spreads_L51]
    simp (disch := omega) only [k240, nI_leI, nI_ltI, nI_eq, nI_1, nI_add, pk_mul, nI_clamp, h5, if_false]
    obtain ⟨k', y', q1, q2, q3⟩ := Rsecond_ok (N := N) (by omega) hW (show t < 240 by omega) hb1 hte hlo hh hsp hK hs hb
    rw [q1, bO_s]
    exact ih f (t + 1) (nin W K B t 8).1 (nin W K B t 8).2 k' y' (by omega) (by omega) (nin_K hK) q2 q3
theorem nrun_K {W : n_W} : ∀ (d t : Nat) (s : (Nat → Nat) × (Nat → Int32)), nK W s.1 t → nK W (nrun W d t s).1 (t + d)
  | 0, _, _, h => h
  | d + 1, t, s, h => by
    have := nrun_K d (t + 1) (nin W s.1 s.2 t 8) (nin_K h)
    rw [show t + (d + 1) = t + 1 + d by omega]
    exact this
/-- the whole spread of the reference -/
theorem Rspread_ok {N n a s : Nat} {x : Option Nat} {how : Bool} {pil : Nat → Bool} {b hears spies known bys : Nat → Int32} {te lo : Nat → Nat} (hN : 300 ≤ N) (hn : n ≤ 8) (ha : a < n) (hs : s ≤ 240) (hx : ∀ i, x = some i → i < n) (hb1 : b 1 = nI n) (hb : ∀ k, k < 64 → b (10 + k) = bI (pil k))
    (hte : ∀ w, w < n → te w < 4096 ∧ b (80 + 4 * w + 2) = nI (te w)) (hlo : ∀ w, w < n → lo w < 4096 ∧ b (80 + 4 * w + 3) = nI (lo w)) {P : Bool → Nat → Nat → Bool} (hP : P = pcI pil (fun i => b (6 + i)) (fun w => b (80 + 4 * w)) (fun w => b (80 + 4 * w + 1))) {W : n_W} (hW : W = (n, x, (fun v u => decide (v ≠ u) && P how v u), (fun v u => decide (v ≠ u) && (P false v u || P true v u)), te, lo)) :
    ∃ hears' spies' known' bys', F_R_spreads N (nI a) (nI s) (bI how) (xI x) b hears spies known bys = some (hears', spies', known', bys') ∧
      (∀ v, v < 8 → known' v = nI ((nrun W (240 - s) s ((fun v => if v = a then s else 1000000), fun _ => -1)).1 v)) ∧ (∀ v, v < 8 → bys' v = (nrun W (240 - s) s ((fun v => if v = a then s else 1000000), fun _ => -1)).2 v) := by
  have hok : nok W := by
    subst hW
    refine ⟨hn, hx, fun v u h => ?_, fun w hw => ⟨(hte w hw).1, (hlo w hw).1⟩⟩
    show (decide (v ≠ u) && (P false v u || P true v u)) = true
    have h2 : (decide (v ≠ u) && P how v u) = true := h
    revert h2
    cases how <;> cases decide (v ≠ u) <;> cases P false v u <;> cases P true v u <;> simp
  have hK : nK W (fun v => if v = a then s else 1000000) s := by subst hW; exact nK0 ha
  unfold F_R_spreads
  obtain ⟨h', s', e1, e2, e3⟩ := Rlooks_ok (N := N) (hears := hears) (spies := spies) (how := how) (by omega) hn hb1 hb hP
  rw [e1, bO_s]
  have e4 : R_spreads_L8 (nI a) (nI s) N 0 known bys = some ((fun v => if v < 8 then nI (if v = a then s else 1000000) else known v), (fun v => if v < 8 then -1 else bys v)) := by
    refine lp0 (L := fun f j => R_spreads_L8 (nI a) (nI s) f (nI j) (fun v => if v < j then nI (if v = a then s else 1000000) else known v) (fun v => if v < j then -1 else bys v)) (n := 8) (fun f j hj => ?_) (fun f => ?_) (by omega)
    · have h5 : ¬ (8 : Nat) ≤ j := by omega
      show R_spreads_L8 (nI a) (nI s) (f + 1) (nI j) _ _ = R_spreads_L8 (nI a) (nI s) f (nI (j + 1)) _ _
      rw [R_spreads_L8]
      simp (disch := omega) only [k8, nI_leI, nI_ltI, nI_eq, nI_1, nI_add, pk_mul, nI_clamp, gd_ix, h5, if_false]
      by_cases q : j = a
      · rw [if_pos q]
        congr 1
        · funext v
          by_cases e : v = j
          · subst e; rw [pk_us, if_pos (by omega), if_pos q]
          · rw [pk_un e]; simp [show v < j + 1 ↔ v < j by omega]
        · funext v
          by_cases e : v = j
          · subst e; rw [pk_us, if_pos (by omega)]
          · rw [pk_un e]; simp [show v < j + 1 ↔ v < j by omega]
      · rw [if_neg q]
        congr 1
        · funext v
          by_cases e : v = j
          · subst e; rw [pk_us, if_pos (by omega), if_neg q]; rfl
          · rw [pk_un e]; simp [show v < j + 1 ↔ v < j by omega]
        · funext v
          by_cases e : v = j
          · subst e; rw [pk_us, if_pos (by omega)]
          · rw [pk_un e]; simp [show v < j + 1 ↔ v < j by omega]
    · show R_spreads_L8 (nI a) (nI s) (f + 1) (nI 8) _ _ = _
      rw [R_spreads_L8]; rfl
  show ∃ hears' spies' known' bys', bO (R_spreads_L8 (nI a) (nI s) N 0 known bys) _ = _ ∧ _
  rw [e4, bO_s]
  obtain ⟨k', y', q1, q2, q3⟩ := RspreadL_ok (N := N) (W := W) (b := b) (hears := h') (spies := s') hN hok (by subst hW; exact hb1) (by subst hW; exact hte) (by subst hW; exact hlo) (by subst hW; exact e2) (by subst hW; exact e3) (240 - s) N s (fun v => if v = a then s else 1000000) (fun _ => -1) (fun v => if v < 8 then nI (if v = a then s else 1000000) else known v) (fun v => if v < 8 then -1 else bys v) (by omega) (by omega) hK (by intro v hv; rw [if_pos hv]) (by intro v hv; rw [if_pos hv])
  have e7 : n_x W = x := by subst hW; rfl
  rw [e7] at q1
  show ∃ hears' spies' known' bys', bO (R_spreads_L51 N b (xI x) s' h' N (nI s) _ _) _ = _ ∧ _
  rw [q1, bO_s]
  exact ⟨h', s', k', y', rfl, q2, q3⟩
