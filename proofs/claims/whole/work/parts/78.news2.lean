-- NEWS: the class's loops
theorem jshlb {j : Nat} (hj : j < 32) {c : Nat → Bool} : nI (bm j c) ||| jshl (bI (c j)) (nI j) = nI (bm (j + 1) c) := by
  cases h : c j
  · have e : ∀ j, j < 32 → jshl (bI false) (nI j) = nI 0 := by decide +kernel
    rw [e j hj, fa_or, Nat.or_zero, mk_skip (j := j) h]
  · exact mk_set hj h
theorem rem12 {t : Nat} (ht : t < 2 ^ 31) : jrem (nI t) 12 = nI (t % 12) := pk_rem (d := 12) ht (by omega) (by omega)
theorem lookers_ok {N n t : Nat} {look : Nat → Int32} {lo : Nat → Nat} (hN : 100 ≤ N) (hn : n ≤ 8) (ht : t < 1000) (hl : ∀ w, w < n → lo w < 4096 ∧ look w = nI (lo w)) : F_Floor_lookersIn N (nI t) (nI n) look = some (nI (bm 8 (fun w => decide (w < n) && (lo w).testBit (t % 12)))) := by
  unfold F_Floor_lookersIn
  have h1 : Floor_lookersIn_L4 (nI n) look (nI t) N 0 0 = some (nI (bm n (fun w => (lo w).testBit (t % 12)))) := lp0 (L := fun f j => Floor_lookersIn_L4 (nI n) look (nI t) f (nI (bm j (fun w => (lo w).testBit (t % 12)))) (nI j)) (n := n) (fun f j hj => by
        have h5 : ¬ n ≤ j := by omega
        show Floor_lookersIn_L4 (nI n) look (nI t) (f + 1) (nI (bm j (fun w => (lo w).testBit (t % 12)))) (nI j) = Floor_lookersIn_L4 (nI n) look (nI t) f (nI (bm (j + 1) (fun w => (lo w).testBit (t % 12)))) (nI (j + 1))
        rw [Floor_lookersIn_L4]
        have h6 := hl j hj
        simp (disch := omega) only [nI_leI, nI_ltI, nI_eq, nI_1, nI_add, pk_mul, nI_clamp, gd_ix, h5, if_false, rem12, h6.2]
        rw [bitU (by omega) (by omega), jshlb (c := fun w => (lo w).testBit (t % 12)) (by omega)]) (fun f => by
        show Floor_lookersIn_L4 (nI n) look (nI t) (f + 1) _ (nI n) = _
        rw [Floor_lookersIn_L4, if_pos (nI_le (Nat.le_refl n) (by omega))]) (by omega)
  rw [h1, bO_s, mk_wide (show n ≤ 8 from hn)]
theorem tellers_ok {N n t : Nat} {tell : Nat → Int32} {te : Nat → Nat} (hN : 100 ≤ N) (hn : n ≤ 8) (ht : t < 1000) (hl : ∀ w, w < n → te w < 4096 ∧ tell w = nI (te w)) : F_Floor_tellersIn N (nI t) (nI n) tell = some (nI (bm 8 (fun w => decide (w < n) && (te w).testBit (t % 12)))) := by
  unfold F_Floor_tellersIn
  have h1 : Floor_tellersIn_L4 (nI n) tell (nI t) N 0 0 = some (nI (bm n (fun w => (te w).testBit (t % 12)))) := lp0 (L := fun f j => Floor_tellersIn_L4 (nI n) tell (nI t) f (nI (bm j (fun w => (te w).testBit (t % 12)))) (nI j)) (n := n) (fun f j hj => by
        have h5 : ¬ n ≤ j := by omega
        show Floor_tellersIn_L4 (nI n) tell (nI t) (f + 1) (nI (bm j (fun w => (te w).testBit (t % 12)))) (nI j) = Floor_tellersIn_L4 (nI n) tell (nI t) f (nI (bm (j + 1) (fun w => (te w).testBit (t % 12)))) (nI (j + 1))
        rw [Floor_tellersIn_L4]
        have h6 := hl j hj
        simp (disch := omega) only [nI_leI, nI_ltI, nI_eq, nI_1, nI_add, pk_mul, nI_clamp, gd_ix, h5, if_false, rem12, h6.2]
        rw [bitU (by omega) (by omega), jshlb (c := fun w => (te w).testBit (t % 12)) (by omega)]) (fun f => by
        show Floor_tellersIn_L4 (nI n) tell (nI t) (f + 1) _ (nI n) = _
        rw [Floor_tellersIn_L4, if_pos (nI_le (Nat.le_refl n) (by omega))]) (by omega)
  rw [h1, bO_s, mk_wide (show n ≤ 8 from hn)]
theorem percOf_ok {N n w : Nat} {pil : Nat → Bool} {place way far : Nat → Int32} {how : Bool} (hN : 100 ≤ N) (hn : n ≤ 8) (hw : w < 8) : F_Floor_perceiversOf N (nI w) (bI how) (lN (bm 64 pil)) (nI n) place way far = some (nI (bm 8 (fun v => decide (v < n) && (decide (w < n) && (decide (v ≠ w) && pcI pil far place way how v w))))) := by
  unfold F_Floor_perceiversOf
  rw [isW_eq]
  by_cases hwn : w < n
  · rw [wv_t hwn (by omega), if_neg n10]
    have h1 : Floor_perceiversOf_L15 N (nI n) (nI w) (bI how) (lN (bm 64 pil)) place way far N 0 0 = some (nI (bm n (fun v => decide (v ≠ w) && pcI pil far place way how v w))) := lp0 (L := fun f j => Floor_perceiversOf_L15 N (nI n) (nI w) (bI how) (lN (bm 64 pil)) place way far f (nI (bm j (fun v => decide (v ≠ w) && pcI pil far place way how v w))) (nI j)) (n := n) (fun f j hj => by
          have h5 : ¬ n ≤ j := by omega
          show Floor_perceiversOf_L15 N (nI n) (nI w) (bI how) (lN (bm 64 pil)) place way far (f + 1) (nI (bm j (fun v => decide (v ≠ w) && pcI pil far place way how v w))) (nI j) = Floor_perceiversOf_L15 N (nI n) (nI w) (bI how) (lN (bm 64 pil)) place way far f (nI (bm (j + 1) (fun v => decide (v ≠ w) && pcI pil far place way how v w))) (nI (j + 1))
          rw [Floor_perceiversOf_L15]
          simp (disch := omega) only [nI_leI, nI_ltI, nI_eq, nI_1, nI_add, pk_mul, nI_clamp, h5, if_false]
          by_cases e : j = w
          · rw [if_pos e, mk_skip (j := j) (by simp [e])]
          · rw [if_neg e, perc_ok hN (by omega) hw, bO_s]
            cases hp : pcI pil far place way how j w
            · rw [bI_f, if_pos rfl, mk_skip (j := j) (by simp [hp])]
            · rw [bI_t, if_neg n10, mk_set (by omega) (by simp [e, hp])]) (fun f => by
          show Floor_perceiversOf_L15 N (nI n) (nI w) (bI how) (lN (bm 64 pil)) place way far (f + 1) _ (nI n) = _
          rw [Floor_perceiversOf_L15, if_pos (nI_le (Nat.le_refl n) (by omega))]) (by omega)
    rw [h1, bO_s, mk_wide hn]
    simp only [decide_eq_true hwn, Bool.true_and]
  · have e : F_S_within (nI w) 0 (nI n - 1) = 0 := by
      rcases wv_cases (nI w) (n := n) (by omega) with ⟨h, _⟩ | ⟨_, j, hj, e⟩
      · exact h
      · have := (nI_eq (by omega) (by omega)).mp e
        omega
    rw [e, if_pos rfl, (bm_zero (n := 8) (c := fun v => decide (v < n) && (decide (w < n) && (decide (v ≠ w) && pcI pil far place way how v w)))).mpr (fun i _ => by simp [hwn])]
    rfl
theorem seenBy_ok {N n w : Nat} {pil : Nat → Bool} {place way far : Nat → Int32} (hN : 100 ≤ N) (hn : n ≤ 8) (hwn : w < n) : F_Floor_seenBy N (nI w) (lN (bm 64 pil)) (nI n) place way far = some (nI (bm 8 (fun u => decide (u < n) && (decide (w ≠ u) && (pcI pil far place way false w u || pcI pil far place way true w u))))) := by
  unfold F_Floor_seenBy
  rw [isW_eq, wv_t hwn (by omega), if_neg n10]
  have h1 : Floor_seenBy_L14 N (nI n) (nI w) (lN (bm 64 pil)) place way far N 0 0 = some (nI (bm n (fun u => decide (w ≠ u) && (pcI pil far place way false w u || pcI pil far place way true w u)))) := lp0 (L := fun f j => Floor_seenBy_L14 N (nI n) (nI w) (lN (bm 64 pil)) place way far f (nI (bm j (fun u => decide (w ≠ u) && (pcI pil far place way false w u || pcI pil far place way true w u)))) (nI j)) (n := n) (fun f j hj => by
        have h5 : ¬ n ≤ j := by omega
        show Floor_seenBy_L14 N (nI n) (nI w) (lN (bm 64 pil)) place way far (f + 1) (nI (bm j (fun u => decide (w ≠ u) && (pcI pil far place way false w u || pcI pil far place way true w u)))) (nI j) = Floor_seenBy_L14 N (nI n) (nI w) (lN (bm 64 pil)) place way far f (nI (bm (j + 1) (fun u => decide (w ≠ u) && (pcI pil far place way false w u || pcI pil far place way true w u)))) (nI (j + 1))
        rw [Floor_seenBy_L14]
        simp (disch := omega) only [nI_leI, nI_ltI, nI_eq, nI_1, nI_add, pk_mul, nI_clamp, h5, if_false]
        by_cases e : w = j
        · rw [if_pos e, mk_skip (j := j) (by simp [e])]
        · rw [if_neg e]
          have p0 : F_Floor_perceives N (nI w) (nI j) 0 (lN (bm 64 pil)) place way far = _ := perc_ok (how := false) hN (by omega) (by omega)
          have p1 : F_Floor_perceives N (nI w) (nI j) 1 (lN (bm 64 pil)) place way far = _ := perc_ok (how := true) hN (by omega) (by omega)
          rw [p0, p1, bO_s, bO_s]
          cases hp : pcI pil far place way false w j
          · rw [bI_f, if_pos rfl]
            cases hq : pcI pil far place way true w j
            · rw [bI_f, if_pos rfl, mk_skip (j := j) (by simp [hp, hq])]
            · rw [bI_t, if_neg n10, mk_set (by omega) (by simp [e, hq])]
          · rw [bI_t, if_neg n10, mk_set (by omega) (by simp [e, hp])]) (fun f => by
        show Floor_seenBy_L14 N (nI n) (nI w) (lN (bm 64 pil)) place way far (f + 1) _ (nI n) = _
        rw [Floor_seenBy_L14, if_pos (nI_le (Nat.le_refl n) (by omega))]) (by omega)
  rw [h1, bO_s, mk_wide hn]
def xI (x : Option Nat) : Int32 := match x with
  | none => -1
  | some i => nI i
theorem nI_nm1 {i : Nat} (h : i < 2 ^ 31) : ¬ nI i = -1 := by
  intro e
  have h1 := nI_toInt h
  rw [e] at h1
  have : (-1 : Int32).toInt = -1 := by decide
  omega
theorem spreadL_ok {N : Nat} {W : n_W} {look tell aud : Nat → Int32} (hN : 300 ≤ N) (hW : nok W) (hl : ∀ w, w < n_n W → look w = nI (n_lo W w)) (ht : ∀ w, w < n_n W → tell w = nI (n_te W w))
    (ha : ∀ w, w < 8 → aud w = nI (bm 8 (fun v => decide (v < n_n W) && (decide (w < n_n W) && n_H W v w)))) (r57 : Int32) (hr : ∀ i, n_x W = some i → r57 = nI (bm 8 (fun u => decide (u < n_n W) && n_S W i u))) :
    ∀ (d f t : Nat) (K : Nat → Nat) (B : Nat → Int32) (since told : Nat → Int32), t + d = 240 → d < f → nK W K t → (∀ v, v < 8 → since v = sI (K v)) → (∀ v, v < 8 → told v = B v) →
      ∃ since' told', News_spread_L80 N (jshl 1 (nI (n_n W)) - 1) (nI (n_n W)) look (xI (n_x W)) r57 tell aud f (nI (bm 8 (fun v => decide (K v ≠ 1000000)))) (nI t) since told = some (since', told') ∧
        (∀ v, v < 8 → since' v = sI ((nrun W d t (K, B)).1 v)) ∧ (∀ v, v < 8 → told' v = (nrun W d t (K, B)).2 v) := by
  intro d
  induction d with
  | zero =>
    intro f t K B since told h1 h2 hK hs hb
    obtain ⟨f, rfl⟩ : ∃ g, f = g + 1 := ⟨f - 1, by omega⟩
    have : t = 240 := by omega
    subst this
    exact ⟨since, told, by rw [News_spread_L80]; rfl, hs, hb⟩
  | succ d ih =>
    intro f t K B since told h1 h2 hK hs hb
    obtain ⟨f, rfl⟩ : ∃ g, f = g + 1 := ⟨f - 1, by omega⟩
    have h5 : ¬ (240 : Nat) ≤ t := by omega
    obtain ⟨hn, hx, hHS, hb12⟩ := hW
    rw [News_spread_L80]
    simp (disch := omega) only [k240, nI_leI, nI_ltI, nI_eq, nI_1, nI_add, pk_mul, nI_clamp, h5, if_false]
    by_cases hall : nI (bm 8 (fun v => decide (K v ≠ 1000000))) = jshl 1 (nI (n_n W)) - 1
    · rw [if_pos hall]
      have hfull : ∀ v, v < n_n W → K v ≠ 1000000 := by
        intro v hv
        rw [mk_all (show n_n W ≤ 31 by omega)] at hall
        have a1 := bm_lt (fun v => decide (K v ≠ 1000000)) 8
        have a2 := bm_lt (fun _ => true) (n_n W)
        have a3 := p2 hn
        have e := (nI_eq (by omega) (by omega)).mp hall
        have e2 := congrArg (fun z => z.testBit v) e
        simp only [bm_bit] at e2
        rw [decide_eq_true (show v < 8 by omega), decide_eq_true hv] at e2
        simpa using e2
      refine ⟨since, told, rfl, ?_, ?_⟩
      · rw [nrun_full (d + 1) t (K, B) hfull]; exact hs
      · rw [nrun_full (d + 1) t (K, B) hfull]; exact hb
    · rw [if_neg hall, lookers_ok (by omega) hn (by omega) (fun w hw => ⟨(hb12 w hw).2, hl w hw⟩), bO_s]
      have ey : (if xI (n_x W) = -1 then some (0 : Int32) else if F_S_hasBit (nI (bm 8 (fun w => decide (w < n_n W) && (n_lo W w).testBit (t % 12)))) (xI (n_x W)) = 0 then some 0 else some r57) = some (nI (bm 8 (fun u => decide (u < n_n W) && nSp W t u))) := by
        cases hxx : n_x W with
        | none =>
          rw [if_pos (show xI none = -1 from rfl)]
          have : ∀ u, nSp W t u = false := by intro u; unfold nSp; rw [hxx]
          simp only [this, Bool.and_false]
          rw [← mk_none]
        | some i =>
          have hi := hx i hxx
          show (if nI i = -1 then _ else if F_S_hasBit _ (nI i) = 0 then _ else _) = _
          have : ∀ u, nSp W t u = (n_S W i u && (n_lo W i).testBit (t % 12)) := by intro u; unfold nSp; rw [hxx]
          simp only [this]
          rw [if_neg (nI_nm1 (by omega)), mk_has (by omega) (by omega), decide_eq_true hi, Bool.true_and]
          cases (n_lo W i).testBit (t % 12)
          · rw [bI_f, if_pos rfl]
            simp only [Bool.and_false]
            rw [← mk_none]
          · rw [bI_t, if_neg n10, hr i hxx]
            simp only [Bool.and_true]
      rw [ey, bO_s, tellers_ok (by omega) hn (by omega) (fun w hw => ⟨(hb12 w hw).1, ht w hw⟩), bO_s]
      have e1 : (nI (bm 8 (fun v => decide (K v ≠ 1000000))) &&& nI (bm 8 (fun w => decide (w < n_n W) && (n_te W w).testBit (t % 12)))) &&& (nI (bm 8 (fun u => decide (u < n_n W) && nSp W t u)) ^^^ (-1)) = nI (bm 8 (nT W K t)) := by
        rw [mk_and, mk_andn (by omega)]
        congr 1
        apply bm_cong
        intro u hu
        unfold nT
        have hk := (hK u).1
        have e2 : decide (K u ≤ t) = decide (K u ≠ 1000000) := by
          apply decide_eq_decide.mpr
          omega
        rw [e2]
        cases decide (u < n_n W) <;> cases decide (K u ≠ 1000000) <;> cases (n_te W u).testBit (t % 12) <;> cases nSp W t u <;> rfl
      have e3 : nI (bm 8 (fun w => decide (w < n_n W) && (n_lo W w).testBit (t % 12))) &&& (nI (bm 8 (fun v => decide (K v ≠ 1000000))) ^^^ (-1)) = nI (bm 8 (fun v => decide (v < n_n W) && ((n_lo W v).testBit (t % 12) && decide (K v = 1000000)))) := by
        rw [mk_andn (by omega)]
        congr 1
        apply bm_cong
        intro v hv
        have e4 : (!(decide (K v ≠ 1000000))) = decide (K v = 1000000) := by simp
        rw [e4, Bool.and_assoc]
      rw [e1, e3]
      obtain ⟨s', t', q1, q2, q3⟩ := tell_ok (N := N) (by omega) ⟨hn, hx, hHS, hb12⟩ (show t < 240 by omega) hK hs hb ha
      rw [q1, bO_s]
      have e5 : nI (bm 8 (fun v => decide (K v ≠ 1000000))) ||| nI (bm 8 (fun v => decide ((nin W K B t 8).1 v ≠ K v))) = nI (bm 8 (fun v => decide ((nin W K B t 8).1 v ≠ 1000000))) := by
        rw [mk_or]
        congr 1
        apply bm_cong
        intro v hv
        rcases nin_or W K B t 8 v with z | ⟨z1, z2, z3⟩
        · rw [z]; simp
        · rw [z2, z1]
          have : t + 1 ≠ 1000000 := by omega
          simp [this]
      show ∃ since' told', News_spread_L80 N _ _ look _ r57 tell aud f (_ ||| _) _ s' t' = _ ∧ _
      rw [e5]
      exact ih f (t + 1) (nin W K B t 8).1 (nin W K B t 8).2 s' t' (by omega) (by omega) (nin_K hK) q2 q3
/-- the whole spread of the class -/
theorem spread_ok {N n a s : Nat} {x : Option Nat} {how : Bool} {pil : Nat → Bool} {place way tell look far since told aud : Nat → Int32} {te lo : Nat → Nat} (hN : 300 ≤ N) (hn : n ≤ 8) (ha : a < n) (hs : s ≤ 240) (hx : ∀ i, x = some i → i < n)
    (hte : ∀ w, w < n → te w < 4096 ∧ tell w = nI (te w)) (hlo : ∀ w, w < n → lo w < 4096 ∧ look w = nI (lo w)) {P : Bool → Nat → Nat → Bool} (hP : ∀ how v u, v < n → u < n → P how v u = pcI pil far place way how v u) {W : n_W} (hW : W = (n, x, (fun v u => decide (v ≠ u) && P how v u), (fun v u => decide (v ≠ u) && (P false v u || P true v u)), te, lo)) :
    ∃ since' told' aud', F_News_spread N (nI a) (nI s) (bI how) (xI x) since told aud (lN (bm 64 pil)) (nI n) place way tell look far = some (since', told', aud') ∧
      (∀ v, v < 8 → since' v = sI ((nrun W (240 - s) s ((fun v => if v = a then s else 1000000), fun _ => -1)).1 v)) ∧ (∀ v, v < 8 → told' v = (nrun W (240 - s) s ((fun v => if v = a then s else 1000000), fun _ => -1)).2 v) := by
  have hok : nok W := by
    subst hW
    refine ⟨hn, hx, fun v u h => ?_, fun w hw => ⟨(hte w hw).1, (hlo w hw).1⟩⟩
    show (decide (v ≠ u) && (P false v u || P true v u)) = true
    have h2 : (decide (v ≠ u) && P how v u) = true := h
    revert h2
    cases how <;> cases decide (v ≠ u) <;> cases P false v u <;> cases P true v u <;> simp
  unfold F_News_spread
  have h1 : ∃ aud', News_spread_L3 N (bI how) (lN (bm 64 pil)) (nI n) place way far N 0 since told aud = some ((fun v => if v < 8 then -1 else since v), (fun v => if v < 8 then -1 else told v), aud') ∧ (∀ w, w < 8 → aud' w = nI (bm 8 (fun v => decide (v < n_n W) && (decide (w < n_n W) && n_H W v w)))) := by
    refine ⟨fun w => if w < 8 then nI (bm 8 (fun v => decide (v < n) && (decide (w < n) && (decide (v ≠ w) && pcI pil far place way how v w)))) else aud w, ?_, ?_⟩
    · refine lp0 (L := fun f j => News_spread_L3 N (bI how) (lN (bm 64 pil)) (nI n) place way far f (nI j) (fun v => if v < j then -1 else since v) (fun v => if v < j then -1 else told v) (fun w => if w < j then nI (bm 8 (fun v => decide (v < n) && (decide (w < n) && (decide (v ≠ w) && pcI pil far place way how v w)))) else aud w)) (n := 8) (fun f j hj => ?_) (fun f => ?_) (by omega)
      · have h5 : ¬ (8 : Nat) ≤ j := by omega
        show News_spread_L3 N (bI how) (lN (bm 64 pil)) (nI n) place way far (f + 1) (nI j) _ _ _ = News_spread_L3 N (bI how) (lN (bm 64 pil)) (nI n) place way far f (nI (j + 1)) _ _ _
        rw [News_spread_L3]
        simp (disch := omega) only [k8, nI_leI, nI_ltI, nI_eq, nI_1, nI_add, pk_mul, nI_clamp, gd_ix, h5, if_false]
        rw [percOf_ok (by omega) hn hj, bO_s]
        congr 1
        · funext v
          by_cases e : v = j
          · subst e; rw [pk_us, if_pos (by omega)]
          · rw [pk_un e]; simp [show v < j + 1 ↔ v < j by omega]
        · funext v
          by_cases e : v = j
          · subst e; rw [pk_us, if_pos (by omega)]
          · rw [pk_un e]; simp [show v < j + 1 ↔ v < j by omega]
        · funext v
          by_cases e : v = j
          · subst e; rw [pk_us, if_pos (by omega)]
          · rw [pk_un e]; simp [show v < j + 1 ↔ v < j by omega]
      · show News_spread_L3 N (bI how) (lN (bm 64 pil)) (nI n) place way far (f + 1) (nI 8) _ _ _ = _
        rw [News_spread_L3]; rfl
    · intro w hw
      show (if w < 8 then _ else _) = _
      rw [if_pos hw]
      subst hW
      congr 1
      apply bm_cong
      intro v hv
      show (decide (v < n) && (decide (w < n) && (decide (v ≠ w) && pcI pil far place way how v w))) = (decide (v < n) && (decide (w < n) && (decide (v ≠ w) && P how v w)))
      by_cases q1 : v < n
      · by_cases q2 : w < n
        · rw [hP how v w q1 q2]
        · simp [q2]
      · simp [q1]
  obtain ⟨aud', e1, ha'⟩ := h1
  rw [e1, bO_s]
  show ∃ since' told' aud'', gd (ixb (nI a) 8) (bO (F_Floor_seenBy N (xI x) (lN (bm 64 pil)) (nI n) place way far) _) = _ ∧ _
  rw [gd_ix (by omega) (by omega), nI_clamp (by omega)]
  have h2 : ∃ r57, F_Floor_seenBy N (xI x) (lN (bm 64 pil)) (nI n) place way far = some r57 ∧ (∀ i, n_x W = some i → r57 = nI (bm 8 (fun u => decide (u < n_n W) && n_S W i u))) := by
    cases hxx : x with
    | none =>
      refine ⟨0, ?_, ?_⟩
      · unfold F_Floor_seenBy
        rw [isW_eq]
        have : F_S_within (xI none) 0 (nI n - 1) = 0 := by
          rcases wv_cases (xI none) (n := n) (by omega) with ⟨h, _⟩ | ⟨_, j, hj, e⟩
          · exact h
          · exact absurd e.symm (nI_nm1 (by omega))
        rw [this, if_pos rfl]
      · intro i hi
        subst hW
        have hi2 : x = some i := hi
        rw [hxx] at hi2
        cases hi2
    | some i =>
      have hi := hx i hxx
      refine ⟨_, seenBy_ok (by omega) hn hi, ?_⟩
      intro i' hi'
      subst hW
      have hi2 : x = some i' := hi'
      rw [hxx] at hi2
      cases hi2
      congr 1
      apply bm_cong
      intro u hu
      show (decide (u < n) && (decide (i ≠ u) && (pcI pil far place way false i u || pcI pil far place way true i u))) = (decide (u < n) && (decide (i ≠ u) && (P false i u || P true i u)))
      by_cases q1 : u < n
      · rw [hP false i u hi q1, hP true i u hi q1]
      · simp [q1]
  obtain ⟨r57, e2, hr⟩ := h2
  rw [e2, bO_s]
  have hK : nK W (fun v => if v = a then s else 1000000) s := by subst hW; exact nK0 ha
  have e0 : jshl 1 (nI a) = nI (bm 8 (fun v => decide ((if v = a then s else 1000000) ≠ 1000000))) := by
    rw [mk_one (n := 8) (by omega) (by omega)]
    congr 1
    apply bm_cong
    intro i hi
    by_cases e : i = a
    · subst e; rw [if_pos rfl, decide_eq_true rfl, decide_eq_true (by omega)]
    · rw [if_neg e, decide_eq_false e]; rfl
  obtain ⟨s', t', e3, e4, e5⟩ := spreadL_ok (N := N) (W := W) (look := look) (tell := tell) (aud := aud') hN hok (by subst hW; exact fun w hw => (hlo w hw).2) (by subst hW; exact fun w hw => (hte w hw).2) ha' r57 hr (240 - s) N s (fun v => if v = a then s else 1000000) (fun _ => -1) (upd (fun v => if v < 8 then -1 else since v) a (nI s)) (fun v => if v < 8 then -1 else told v) (by omega) (by omega) hK (by
      intro v hv
      by_cases e : v = a
      · subst e; rw [pk_us, if_pos rfl]; unfold sI; rw [if_neg (by omega)]
      · rw [pk_un e, if_neg e, if_pos hv]; rfl) (by intro v hv; rw [if_pos hv])
  rw [e0]
  have e6 : n_n W = n := by subst hW; rfl
  have e7 : n_x W = x := by subst hW; rfl
  rw [e6, e7] at e3
  rw [e3, bO_s]
  exact ⟨s', t', aud', rfl, e4, e5⟩
