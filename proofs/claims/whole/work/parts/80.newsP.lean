-- NEWS: the calls
theorem ask_cases (p q r s : Int32) {n : Nat} (hn : n ≤ 8) : (F_S_canAskNews p q r s (nI n) = 0) ∨ (F_S_canAskNews p q r s (nI n) = 1 ∧ ∃ (a w : Nat) (how : Bool) (x : Option Nat), a < n ∧ w < n ∧ p = nI a ∧ q = nI w ∧ r = bI how ∧ s = xI x ∧ (∀ i, x = some i → i < n)) := by
  unfold F_S_canAskNews
  rw [isW_eq, isW_eq, isW_eq]
  rcases wv_cases p (n := n) (by omega) with ⟨h1, _⟩ | ⟨h1, a, ha, rfl⟩
  · left; rw [h1]; rfl
  rcases wv_cases q (n := n) (by omega) with ⟨h2, _⟩ | ⟨h2, w, hw, rfl⟩
  · left; rw [h1, h2]; rfl
  rcases sw_cases r 0 1 (ia := 0) (ib := 1) rfl rfl (by omega) (by omega) with ⟨h3, _⟩ | ⟨h3, m, _, hm, rfl⟩
  · left; rw [h1, h2, h3]; rfl
  have hr : ∃ how : Bool, nI m = bI how := by
    have hm2 : m = 0 ∨ m = 1 := by omega
    rcases hm2 with rfl | rfl
    · exact ⟨false, rfl⟩
    · exact ⟨true, rfl⟩
  obtain ⟨how, hhow⟩ := hr
  rw [h1, h2, h3, if_neg n10, if_neg n10, if_neg n10]
  by_cases hs : s = -1
  · right
    rw [if_pos hs]
    exact ⟨rfl, a, w, how, none, ha, hw, rfl, rfl, hhow, hs, fun i h => by cases h⟩
  rw [if_neg hs]
  rcases wv_cases s (n := n) (by omega) with ⟨h4, _⟩ | ⟨h4, i, hi, rfl⟩
  · left; rw [h4]; rfl
  rw [h4, if_neg n10]
  by_cases e : nI i = nI a
  · left; rw [if_pos e]
  · right
    rw [if_neg e]
    exact ⟨rfl, a, w, how, some i, ha, hw, rfl, rfl, hhow, rfl, fun j h => by cases h; exact hi⟩
/-- what the news rest on, and both spreads side by side -/
theorem both_ok {N : Nat} (hN : 300 ≤ N) {x : T_Floor} {b : Nat → Int32} (h : RFl x b) : ∃ n, n ≤ 8 ∧ Floor_weavers x = nI n ∧ b 1 = nI n ∧
    ∀ (a s : Nat) (xx : Option Nat) (how : Bool), a < n → s ≤ 240 → (∀ i, xx = some i → i < n) → ∀ (since told aud hears spies known bys : Nat → Int32),
      ∃ (since' told' aud' hears' spies' known' bys' : Nat → Int32) (K : Nat → Nat), F_News_spread N (nI a) (nI s) (bI how) (xI xx) since told aud (Floor_pillars x) (Floor_weavers x) (Floor_place x) (Floor_way x) (Floor_tell x) (Floor_look x) (Floor_farSquare x) = some (since', told', aud') ∧
        F_R_spreads N (nI a) (nI s) (bI how) (xI xx) b hears spies known bys = some (hears', spies', known', bys') ∧
        (∀ v : Nat, K v = 1000000 ∨ K v ≤ 240) ∧ (∀ v, v < 8 → since' v = sI (K v) ∧ known' v = nI (K v) ∧ told' v = bys' v) := by
  obtain ⟨pil, n, pl, wy, te, lo, fr, hn, ⟨h1, h2, h3⟩, ⟨h4, h5⟩, h6, h7, h8, h9, h10⟩ := h
  refine ⟨n, hn, h4, h5, ?_⟩
  intro a s xx how ha hs hx since told aud hears spies known bys
  have hP : ∀ how v u, v < n → u < n → (pcI pil (fun i => b (6 + i)) (fun w => b (80 + 4 * w)) (fun w => b (80 + 4 * w + 1))) how v u = pcI pil (Floor_farSquare x) (Floor_place x) (Floor_way x) how v u := by
    intro how v u hv hu
    exact (pcI_eq ((h10 0 (by omega)).2.2.1.trans (h10 0 (by omega)).2.2.2.symm) ((h10 1 (by omega)).2.2.1.trans (h10 1 (by omega)).2.2.2.symm) ((h6 v hv).2.1.trans (h6 v hv).2.2.symm) ((h6 u hu).2.1.trans (h6 u hu).2.2.symm) ((h7 v hv).2.1.trans (h7 v hv).2.2.symm) ((h7 u hu).2.1.trans (h7 u hu).2.2.symm)).symm
  obtain ⟨s', t', a', e1, e2, e3⟩ := spread_ok (N := N) (since := since) (told := told) (aud := aud) (pil := pil) (how := how) (place := Floor_place x) (way := Floor_way x) (tell := Floor_tell x) (look := Floor_look x) (far := Floor_farSquare x) (te := te) (lo := lo) hN hn ha hs hx (fun w hw => ⟨(h8 w hw).1, (h8 w hw).2.1⟩) (fun w hw => ⟨(h9 w hw).1, (h9 w hw).2.1⟩) hP rfl
  obtain ⟨hh', sp', k', y', q1, q2, q3⟩ := Rspread_ok (N := N) (hears := hears) (spies := spies) (known := known) (bys := bys) (how := how) hN hn ha hs hx h5 h3 (fun w hw => ⟨(h8 w hw).1, (h8 w hw).2.2⟩) (fun w hw => ⟨(h9 w hw).1, (h9 w hw).2.2⟩) rfl rfl
  rw [h1, h4]
  refine ⟨s', t', a', hh', sp', k', y', _, e1, q1, ?_, fun v hv => ⟨e2 v hv, q2 v hv, (e3 v hv).trans (q3 v hv).symm⟩⟩
  intro v
  have := nrun_K (W := (n, xx, (fun v u => decide (v ≠ u) && pcI pil (fun i => b (6 + i)) (fun w => b (80 + 4 * w)) (fun w => b (80 + 4 * w + 1)) how v u), (fun v u => decide (v ≠ u) && (pcI pil (fun i => b (6 + i)) (fun w => b (80 + 4 * w)) (fun w => b (80 + 4 * w + 1)) false v u || pcI pil (fun i => b (6 + i)) (fun w => b (80 + 4 * w)) (fun w => b (80 + 4 * w + 1)) true v u)), te, lo)) (240 - s) s ((fun v => if v = a then s else 1000000), fun _ => -1) (nK0 ha) v
  have h9 := this.1
  rw [show s + (240 - s) = 240 by omega] at h9
  exact h9
theorem P_knows_ok {N : Nat} (hN : 300 ≤ N) : P_knows N Rel := by
  intro x y p q r s h
  obtain ⟨n, hn, h4, h5, hsp⟩ := both_ok hN h.1.1
  unfold F_S_knows F_R_knows
  rw [RisNews_eq, h5, h4]
  rcases ask_cases p q r s hn with e | ⟨e, a, w, how, xx, ha, hw, rfl, rfl, rfl, rfl, hx⟩
  · rw [e, if_pos rfl, if_pos rfl]
    exact ⟨_, _, rfl, rfl, rfl, h⟩
  rw [e, if_neg n10, if_neg n10]
  obtain ⟨s', t', a', hh', sp', k', y', K, e1, e2, e3, e4⟩ := hsp a 0 xx how ha (by omega) hx (News_since (S_news x)) (News_toldBy (S_news x)) (News_audience (S_news x)) (R_hears y) (R_spies y) (R_known y) (R_by y)
  rw [h4] at e1
  have e1' : F_News_spread N (nI a) 0 (bI how) (xI xx) _ _ _ _ _ _ _ _ _ _ = _ := e1
  have e2' : F_R_spreads N (nI a) 0 (bI how) (xI xx) _ _ _ _ _ = _ := e2
  rw [e1', bO_s, e2', bO_s]
  simp only [u3, u4]
  rw [gd_ix (by omega) (by omega), gd_ix (by omega) (by omega), nI_clamp (by omega), (e4 w (by omega)).1, (e4 w (by omega)).2.1]
  have hk := e3 w
  by_cases hM : K w = 1000000
  · rw [hM]
    refine ⟨_, _, rfl, if_pos (by decide), rfl, h⟩
  · refine ⟨_, _, rfl, if_neg (nI_ge (b := 1000000) (by omega) (by omega)), ?_, h⟩
    unfold sI
    exact if_neg hM
theorem P_teller_ok {N : Nat} (hN : 300 ≤ N) : P_teller N Rel := by
  intro x y p q r s h
  obtain ⟨n, hn, h4, h5, hsp⟩ := both_ok hN h.1.1
  unfold F_S_teller F_R_teller
  rw [RisNews_eq, h5, h4]
  rcases ask_cases p q r s hn with e | ⟨e, a, w, how, xx, ha, hw, rfl, rfl, rfl, rfl, hx⟩
  · rw [e, if_pos rfl, if_pos rfl]
    exact ⟨_, _, rfl, rfl, rfl, h⟩
  rw [e, if_neg n10, if_neg n10]
  obtain ⟨s', t', a', hh', sp', k', y', K, e1, e2, e3, e4⟩ := hsp a 0 xx how ha (by omega) hx (News_since (S_news x)) (News_toldBy (S_news x)) (News_audience (S_news x)) (R_hears y) (R_spies y) (R_known y) (R_by y)
  rw [h4] at e1
  have e1' : F_News_spread N (nI a) 0 (bI how) (xI xx) _ _ _ _ _ _ _ _ _ _ = _ := e1
  have e2' : F_R_spreads N (nI a) 0 (bI how) (xI xx) _ _ _ _ _ = _ := e2
  rw [e1', bO_s, e2', bO_s]
  simp only [u3, u4]
  rw [gd_ix (by omega) (by omega), gd_ix (by omega) (by omega), nI_clamp (by omega)]
  exact ⟨_, _, rfl, rfl, (e4 w (by omega)).2.2, h⟩
theorem P_meet_ok {N : Nat} (hN : 300 ≤ N) : P_meet N Rel := by
  intro x y p q r s h
  obtain ⟨n, hn, h4, h5, hsp⟩ := both_ok hN h.1.1
  unfold F_S_meet F_R_meet
  rw [RareTwo_eq, RisW_eq, isW_eq, isW_eq, h5, h4, in_lit r (a' := 0) (b' := 240) (by decide) (by decide)]
  rcases two_cases p q (n := n) (by omega) with e | ⟨e, a, c, ha, hc, hac, rfl, rfl⟩
  · rw [e, if_pos rfl, if_pos rfl]
    exact ⟨_, _, rfl, rfl, rfl, h⟩
  rw [e, if_neg n10, if_neg n10]
  rcases sw_cases r 0 240 (ia := 0) (ib := 240) rfl rfl (by omega) (by omega) with ⟨hr, _⟩ | ⟨hr, m, _, hm, rfl⟩
  · rw [hr]
    refine ⟨(-10, _), (-10, R_hears y, R_spies y, R_known y, R_by y), if_pos rfl, ?_, rfl, h⟩
    rcases wv_cases s (n := n) (by omega) with ⟨hs, _⟩ | ⟨hs, w, hw, rfl⟩
    · rw [hs, if_pos rfl]
    · rw [hs, if_neg n10, if_pos rfl]
  rw [hr, if_neg n10, if_neg n10]
  rcases wv_cases s (n := n) (by omega) with ⟨hs, _⟩ | ⟨hs, w, hw, rfl⟩
  · rw [hs, if_pos rfl, if_pos rfl]
    exact ⟨_, _, rfl, rfl, rfl, h⟩
  rw [hs, if_neg n10, if_neg n10]
  obtain ⟨s', t', a', hh', sp', k', y', K, e1, e2, e3, e4⟩ := hsp a 0 none false ha (by omega) (fun i h => by cases h) (News_since (S_news x)) (News_toldBy (S_news x)) (News_audience (S_news x)) (R_hears y) (R_spies y) (R_known y) (R_by y)
  obtain ⟨s2, t2, a2, hh2, sp2, k2', y2, K2, f1, f2, f3, f4⟩ := hsp c m none false hc hm (fun i h => by cases h) (News_since (S_otherNews x)) (News_toldBy (S_otherNews x)) (News_audience (S_otherNews x)) hh' sp' k' y'
  rw [h4] at e1 f1
  have e1' : F_News_spread N (nI a) 0 0 (-1) _ _ _ _ _ _ _ _ _ _ = _ := e1
  have e2' : F_R_spreads N (nI a) 0 0 (-1) _ _ _ _ _ = _ := e2
  have f1' : F_News_spread N (nI c) (nI m) 0 (-1) _ _ _ _ _ _ _ _ _ _ = _ := f1
  have f2' : F_R_spreads N (nI c) (nI m) 0 (-1) _ _ _ _ _ = _ := f2
  rw [e1', bO_s, e2', bO_s]
  simp only [u3, u4]
  rw [f1', bO_s, gd_ix (by omega) (by omega), f2', bO_s]
  simp only [u3, u4]
  rw [gd_ix (by omega) (by omega), nI_clamp (by omega), (e4 w (by omega)).1, (f4 w (by omega)).1, (e4 w (by omega)).2.1, (f4 w (by omega)).2.1]
  have b1 := e3 w
  have b2 := f3 w
  unfold F_S_firstOf sI
  by_cases c1 : K w = 1000000
  · rw [if_pos c1, c1]
    by_cases c2 : K2 w = 1000000
    · rw [if_pos c2, c2]
      refine ⟨_, _, rfl, rfl, ?_, h⟩
      rfl
    · have c3 : ¬ nI (K2 w) = -1 := nI_nm1 (by omega)
      have c4 : ¬ nI 1000000 = nI (K2 w) := fun q => c2 ((nI_eq (by omega) (by omega)).mp q).symm
      have c5 : nI (K2 w) ≤ nI 1000000 := nI_le (by omega) (by omega)
      rw [if_neg c2, if_pos rfl, if_neg c3, bT_r]
      simp only [u0]
      rw [if_neg c3]
      simp only [if_true]
      rw [bO_s, if_neg c4, if_pos c5]
      exact ⟨_, _, rfl, rfl, rfl, h⟩
  · have c1' : ¬ nI (K w) = -1 := nI_nm1 (by omega)
    rw [if_neg c1, if_neg c1', bT_r]
    simp only [u0]
    by_cases c2 : K2 w = 1000000
    · have c4 : ¬ nI (K w) = nI 1000000 := fun q => c1 ((nI_eq (by omega) (by omega)).mp q)
      have c5 : ¬ nI 1000000 ≤ nI (K w) := nI_ge (by omega) (by omega)
      rw [if_pos c2, c2, if_pos rfl, bO_s, if_neg c4, if_neg c5]
      exact ⟨_, _, rfl, rfl, rfl, h⟩
    · have c3 : ¬ nI (K2 w) = -1 := nI_nm1 (by omega)
      rw [if_neg c2, if_neg c3, if_neg c1']
      have c6 : ¬ nI (K w) = 1000000 := fun q => c1 ((nI_eq (b := 1000000) (by omega) (by omega)).mp q)
      by_cases c7 : nI (K w) = nI (K2 w)
      · rw [if_pos c7, bO_s, if_pos c7, if_neg c6]
        exact ⟨_, _, rfl, rfl, rfl, h⟩
      · rw [if_neg c7, if_neg c7]
        by_cases c8 : nI (K2 w) ≤ nI (K w)
        · rw [if_pos c8, if_pos c8, bO_s]
          exact ⟨_, _, rfl, rfl, rfl, h⟩
        · rw [if_neg c8, if_neg c8, bO_s]
          exact ⟨_, _, rfl, rfl, rfl, h⟩
theorem seen_ok {x : T_Sightings} {b : Nat → Int32} (h : RSi x b) {w : Nat} (hw : w < 8) (q r : Int32) : ∃ u v, F_Sightings_add (nI w) q r (Sightings_many x) (Sightings_weaver x) (Sightings_second x) (Sightings_knew x) = some u ∧ (∀ n : Nat, b 1 = nI n → w < n → n ≤ 8 → F_R_seen (nI w) q r b = some v) ∧ u.1 = v.1 ∧ RSi u.2 v.2 ∧ (∀ k, ¬ gS k → v.2 k = b k) := by
  have h0 := h
  obtain ⟨n, sw, ss, sk, hn, ⟨h4, h5⟩, h6, h7, h8⟩ := h
  unfold F_Sightings_add F_R_seen
  have hq := in_lit q (a' := 0) (b' := 240) (a := 0) (b := 240) (by decide) (by decide)
  rw [hq]
  rcases sw_cases q 0 240 (ia := 0) (ib := 240) rfl rfl (by omega) (by omega) with ⟨hr, _⟩ | ⟨hr, m, _, hm, rfl⟩
  · rw [hr, if_pos rfl]
    refine ⟨_, (-2, b), rfl, ?_, rfl, h0, fun _ _ => rfl⟩
    intro k e1 e2 e3
    rw [RisW_eq, isW_eq, e1, wv_t e2 (by omega), if_neg n10, if_pos rfl]
  rw [hr, if_neg n10, h4, h5]
  by_cases h10 : n = 10
  · subst h10
    rw [if_neg n10]
    refine ⟨_, (-4, b), rfl, ?_, rfl, by rw [← h4]; exact h0, fun _ _ => rfl⟩
    intro k e1 e2 e3
    rw [RisW_eq, isW_eq, e1, wv_t e2 (by omega), if_neg n10, if_pos (show nI 10 = 10 from rfl)]
  have hlt : nI n < 10 := nI_lt (b := 10) (by omega) (by omega)
  have hne : ¬ nI n = 10 := fun q => h10 ((nI_eq (b := 10) (by omega) (by omega)).mp q)
  rw [if_pos hlt, gd_ix (by omega) (by omega), nI_clamp (by omega)]
  have hko : ∃ z : Bool, (if r = 0 then some (0 : Int32) else some 1) = some (bI z) ∧ F_S_oneIf r = bI z := by
    unfold F_S_oneIf
    by_cases e : r = 0
    · rw [if_pos e, if_pos e]; exact ⟨false, rfl, rfl⟩
    · rw [if_neg e, if_neg e]; exact ⟨true, rfl, rfl⟩
  obtain ⟨z, hz1, hz2⟩ := hko
  rw [hz2]
  refine ⟨_, (nI (n + 1), upd (upd (upd (upd b (120 + 3 * n) (nI w)) (120 + 3 * n + 1) (nI m)) (120 + 3 * n + 2) (bI z)) 2 (nI (n + 1))), rfl, ?_, by rw [nI_1], ?_, ?_⟩
  · intro k e1 e2 e3
    rw [RisW_eq, isW_eq, e1, wv_t e2 (by omega), if_neg n10, if_neg hne, hz1, bO_s]
    simp (disch := omega) only [k120, k3, k2, nI_leI, nI_ltI, nI_eq, nI_1, nI_add, pk_mul, nI_clamp, gd_ix]
    simp only [pk_us]
    rw [pk_un (by omega), pk_un (by omega), pk_un (by omega), h5, nI_1, if_neg n10]
  · refine ⟨n + 1, fun k => if k = n then w else sw k, fun k => if k = n then m else ss k, fun k => if k = n then z else sk k, by omega, ⟨by rw [nI_1], by simp only [pk_us]⟩, ?_, ?_, ?_⟩
    · intro k hk
      simp only [Sightings_weaver]
      rw [pk_un (show 120 + 3 * k ≠ 2 by omega), pk_un (show 120 + 3 * k ≠ 120 + 3 * n + 2 by omega), pk_un (show 120 + 3 * k ≠ 120 + 3 * n + 1 by omega)]
      by_cases e : k = n
      · subst e; rw [if_pos rfl, pk_us, pk_us]; exact ⟨hw, rfl, rfl⟩
      · rw [if_neg e, pk_un e, pk_un (by omega)]; exact h6 k (by omega)
    · intro k hk
      simp only [Sightings_second]
      rw [pk_un (show 120 + 3 * k + 1 ≠ 2 by omega), pk_un (show 120 + 3 * k + 1 ≠ 120 + 3 * n + 2 by omega)]
      by_cases e : k = n
      · subst e; rw [if_pos rfl, pk_us, pk_us]; exact ⟨hm, rfl, rfl⟩
      · rw [if_neg e, pk_un e, pk_un (by omega), pk_un (by omega)]; exact h7 k (by omega)
    · intro k hk
      simp only [Sightings_knew]
      rw [pk_un (show 120 + 3 * k + 2 ≠ 2 by omega)]
      by_cases e : k = n
      · subst e; rw [if_pos rfl, pk_us, pk_us]; exact ⟨rfl, rfl⟩
      · rw [if_neg e, pk_un e, pk_un (by omega), pk_un (by omega), pk_un (by omega)]; exact h8 k (by omega)
  · intro k hk
    unfold gS at hk
    simp only []
    rw [pk_un (by omega), pk_un (by omega), pk_un (by omega), pk_un (by omega)]
theorem P_seen_ok {N : Nat} : P_seen N Rel := by
  intro x y p q r _ h
  obtain ⟨pil, n, hn, h1, h2, h3, h4, h5, h6, h7, h8⟩ := h.1.1.perc
  unfold F_S_seen
  rw [isW_eq, h3]
  rcases wv_cases p (n := n) (by omega) with ⟨hp, _⟩ | ⟨hp, w, hw, rfl⟩
  · rw [hp, if_pos rfl]
    refine ⟨_, (-2, R_book y), rfl, ?_, rfl, h⟩
    unfold F_R_seen
    rw [RisW_eq, isW_eq, h4, hp, if_pos rfl]
  · rw [hp, if_neg n10]
    obtain ⟨u, v, e1, e2, e3, e4, e5⟩ := seen_ok h.1.2.1 (w := w) (by omega) q r
    refine ⟨u, v, ?_, e2 n h4 hw hn, e3, h.sight e4 e5⟩
    rw [e1, bO_s]; rfl
/-- who bears what was seen -/
theorem borne_ok {N : Nat} (hN : 300 ≤ N) {x : T_Sightings} {b : Nat → Int32} (h : RSi x b) {since known : Nat → Int32} {K : Nat → Nat} (hK : ∀ v : Nat, K v = 1000000 ∨ K v ≤ 240) (hs : ∀ v, v < 8 → since v = sI (K v) ∧ known v = nI (K v)) :
    ∃ z : Bool, F_Sightings_areBorneBy N (Sightings_many x) (Sightings_weaver x) (Sightings_second x) (Sightings_knew x) since = some (bI z) ∧ R_source_L27 b known N 1 0 = some (bI z) := by
  obtain ⟨n, sw, ss, sk, hn, ⟨h4, h5⟩, h6, h7, h8⟩ := h
  have ec : ∀ j, j < n → (if since (sw j) = -1 then some (0 : Int32) else if nI (ss j) < since (sw j) then some 0 else some 1) = some (bI (decide (K (sw j) ≤ ss j))) := by
    intro j hj
    have a1 := (h6 j hj).1
    have a2 := (h7 j hj).1
    have a3 := hK (sw j)
    rw [(hs (sw j) a1).1]
    unfold sI
    by_cases e : K (sw j) = 1000000
    · rw [if_pos e, if_pos rfl, decide_eq_false (by omega)]; rfl
    · rw [if_neg e, if_neg (nI_nm1 (by omega))]
      by_cases e2 : K (sw j) ≤ ss j
      · rw [if_neg (nI_nlt e2 (by omega)), decide_eq_true e2]; rfl
      · rw [if_pos (nI_lt (by omega) (by omega)), decide_eq_false e2]; rfl
  have er : ∀ j, j < n → (if nI (ss j) < known (sw j) then some (0 : Int32) else some 1) = some (bI (decide (K (sw j) ≤ ss j))) := by
    intro j hj
    have a1 := (h6 j hj).1
    have a2 := (h7 j hj).1
    have a3 := hK (sw j)
    rw [(hs (sw j) a1).2]
    by_cases e2 : K (sw j) ≤ ss j
    · rw [if_neg (nI_nlt e2 (by omega)), decide_eq_true e2]; rfl
    · rw [if_pos (nI_lt (by omega) (by omega)), decide_eq_false e2]; rfl
  refine ⟨lB n (fun j => decide (K (sw j) ≤ ss j) == sk j), ?_, ?_⟩
  · unfold F_Sightings_areBorneBy
    rw [h4]
    have h1 : Sightings_areBorneBy_L2 (nI n) (Sightings_weaver x) since (Sightings_second x) (Sightings_knew x) N 0 = some (if aB n (fun j => !(decide (K (sw j) ≤ ss j) == sk j)) = true then .inl 0 else .inr ()) := by
      refine lpS (L := fun f j => Sightings_areBorneBy_L2 (nI n) (Sightings_weaver x) since (Sightings_second x) (Sightings_knew x) f (nI j)) (fun f j hj hc => ?_) (fun f j hj hc => ?_) (fun f => ?_) N (by omega)
      · have q5 : ¬ n ≤ j := by omega
        have a1 := (h6 j hj).1
        show Sightings_areBorneBy_L2 (nI n) _ since _ _ (f + 1) (nI j) = _
        rw [Sightings_areBorneBy_L2]
        simp (disch := omega) only [nI_leI, nI_ltI, nI_eq, nI_1, nI_add, pk_mul, nI_clamp, gd_ix, q5, if_false, (h6 j hj).2.1, (h7 j hj).2.1, (h8 j hj).1]
        rw [ec j hj, bO_s, oneIf_bI]
        have e : decide (K (sw j) ≤ ss j) = sk j := by simpa using hc
        rw [e, if_pos rfl]
      · have q5 : ¬ n ≤ j := by omega
        have a1 := (h6 j hj).1
        show Sightings_areBorneBy_L2 (nI n) _ since _ _ (f + 1) (nI j) = _
        rw [Sightings_areBorneBy_L2]
        simp (disch := omega) only [nI_leI, nI_ltI, nI_eq, nI_1, nI_add, pk_mul, nI_clamp, gd_ix, q5, if_false, (h6 j hj).2.1, (h7 j hj).2.1, (h8 j hj).1]
        rw [ec j hj, bO_s, oneIf_bI]
        have e : ¬ decide (K (sw j) ≤ ss j) = sk j := by simpa using hc
        rw [if_neg (fun q => e (bI_inj.mp q))]
      · show Sightings_areBorneBy_L2 (nI n) _ since _ _ (f + 1) (nI n) = _
        rw [Sightings_areBorneBy_L2, if_pos (nI_le (Nat.le_refl n) (by omega))]
    rw [h1]
    have e2 : aB n (fun j => !(decide (K (sw j) ≤ ss j) == sk j)) = !(lB n (fun j => decide (K (sw j) ≤ ss j) == sk j)) := by
      cases hq : lB n (fun j => decide (K (sw j) ≤ ss j) == sk j)
      · obtain ⟨i, hi, q⟩ := lB_f.mp hq
        exact aB_t.mpr ⟨i, hi, by rw [q]; rfl⟩
      · exact aB_f.mpr (fun i hi => by rw [lB_t.mp hq i hi]; rfl)
    rw [e2]
    cases lB n (fun j => decide (K (sw j) ≤ ss j) == sk j) <;> rfl
  · refine lp0 (L := fun f j => R_source_L27 b known f (bI (lB j (fun j => decide (K (sw j) ≤ ss j) == sk j))) (nI j)) (n := n) (fun f j hj => ?_) (fun f => ?_) (by omega)
    · have a1 := (h6 j hj).1
      have q5 : ¬ n ≤ j := by omega
      show R_source_L27 b known (f + 1) (bI (lB j _)) (nI j) = R_source_L27 b known f (bI (lB (j + 1) _)) (nI (j + 1))
      rw [R_source_L27, lB_s]
      simp (disch := omega) only [h5, k120, k3, nI_leI, nI_ltI, nI_eq, nI_1, nI_add, pk_mul, nI_clamp, gd_ix, q5, if_false, (h6 j hj).2.2, (h7 j hj).2.2]
      rw [er j hj, bO_s]
      cases lB j (fun j => decide (K (sw j) ≤ ss j) == sk j)
      · rfl
      · rw [bI_t, if_neg n10, Bool.true_and]
        simp (disch := omega) only [k120, k3, k2, nI_leI, nI_ltI, nI_eq, nI_1, nI_add, pk_mul, nI_clamp, gd_ix, (h8 j hj).2]
        have e3 : (if bI (sk j) = 1 then some (1 : Int32) else some 0) = some (bI (sk j)) := by cases sk j <;> rfl
        rw [e3, bO_s]
        by_cases e : decide (K (sw j) ≤ ss j) = sk j
        · rw [if_pos (by rw [e]), e, beq_self_eq_true]; rfl
        · rw [if_neg (fun q => e (bI_inj.mp q))]
          have : (decide (K (sw j) ≤ ss j) == sk j) = false := by simpa using e
          rw [this]; rfl
    · show R_source_L27 b known (f + 1) _ (nI n) = _
      rw [R_source_L27, h5, if_pos (nI_le (Nat.le_refl n) (by omega))]
theorem P_source_ok {N : Nat} (hN : 300 ≤ N) : P_source N Rel := by
  intro x y h
  obtain ⟨n, hn, h4, h5, hsp⟩ := both_ok hN h.1.1
  have key : ∀ (f j : Nat) (m : Int32) (since told aud hears spies known bys : Nat → Int32), j ≤ n → n - j < f → ∃ u v, S_source_L4 N (Floor_weavers (Shed_floor (S_now x))) (Floor_pillars (Shed_floor (S_now x))) (Floor_place (Shed_floor (S_now x))) (Floor_way (Shed_floor (S_now x))) (Floor_tell (Shed_floor (S_now x))) (Floor_look (Shed_floor (S_now x))) (Floor_farSquare (Shed_floor (S_now x))) (Sightings_many (Shed_sightings (S_now x))) (Sightings_weaver (Shed_sightings (S_now x))) (Sightings_second (Shed_sightings (S_now x))) (Sightings_knew (Shed_sightings (S_now x))) f m (nI j) since told aud = some u ∧
      R_source_L4 N (R_book y) f m (nI j) hears spies known bys = some v ∧ u.1 = v.1 := by
    intro f
    induction f with
    | zero => intro j _ _ _ _ _ _ _ _ _ h; omega
    | succ f ih =>
      intro j m since told aud hears spies known bys hj hf
      rw [S_source_L4, R_source_L4, h4, h5]
      by_cases e : j = n
      · subst e
        rw [if_pos (nI_le (Nat.le_refl j) (by omega)), if_pos (nI_le (Nat.le_refl j) (by omega))]
        exact ⟨_, _, rfl, rfl, rfl⟩
      · rw [if_neg (nI_ge (by omega) (by omega)), if_neg (nI_ge (by omega) (by omega))]
        obtain ⟨s', t', a', hh', sp', k', y', K, e1, e2, e3, e4⟩ := hsp j 0 none false (by omega) (by omega) (fun i h => by cases h) since told aud hears spies known bys
        rw [h4] at e1
        have e1' : F_News_spread N (nI j) 0 0 (-1) _ _ _ _ _ _ _ _ _ _ = _ := e1
        have e2' : F_R_spreads N (nI j) 0 0 (-1) _ _ _ _ _ = _ := e2
        rw [e1', bO_s, e2', bO_s]
        simp only [u3, u4]
        obtain ⟨z, z1, z2⟩ := borne_ok hN h.1.2.1 (since := s') (known := k') (K := K) e3 (fun v hv => ⟨(e4 v hv).1, (e4 v hv).2.1⟩)
        rw [z1, bO_s, z2, bO_s, nI_1]
        have e0 : m ||| 0 = m := by
          obtain ⟨k, _, rfl⟩ := wb_of32 m
          show nI k ||| nI 0 = nI k
          rw [fa_or, Nat.or_zero]
        cases z
        · rw [bI_f, if_pos rfl, if_pos rfl, e0]
          have := ih (j + 1) m s' t' a' hh' sp' k' y' (by omega) (by omega)
          rw [h4] at this
          exact this
        · rw [bI_t, if_neg n10, if_neg n10]
          have := ih (j + 1) (m ||| jshl 1 (nI j)) s' t' a' hh' sp' k' y' (by omega) (by omega)
          rw [h4] at this
          exact this
  unfold F_S_source F_R_source
  obtain ⟨u, v, e1, e2, e3⟩ := key N 0 0 (News_since (S_news x)) (News_toldBy (S_news x)) (News_audience (S_news x)) (R_hears y) (R_spies y) (R_known y) (R_by y) (by omega) (by omega)
  have e1' : S_source_L4 N _ _ _ _ _ _ _ _ _ _ _ N 0 0 _ _ _ = _ := e1
  have e2' : R_source_L4 N (R_book y) N 0 0 _ _ _ _ = _ := e2
  rw [e1', bO_s, e2', bO_s]
  exact ⟨_, _, rfl, rfl, e3, h⟩
