-- ONE TOKEN, ON BOTH SIDES
theorem skip_ok {N n i s : Nat} {tx : Nat → Nat} {text : Nat → Int32} (hN : 1000 ≤ N) (h : TxC n tx text) (hi : i < 500) (hr : IsRun n tx 32 32 i s) : R_scans_L0 (nI n) text N (nI i) = some (nI s) := by
  have hn := h.1
  obtain ⟨r1, r2, r3, r4⟩ := hr
  have key : ∀ (d f j : Nat), j + d = s → i ≤ j → d < f → R_scans_L0 (nI n) text f (nI j) = some (nI s) := by
    intro d
    induction d with
    | zero =>
      intro f j hj hij hf
      obtain ⟨f, rfl⟩ : ∃ z, f = z + 1 := ⟨f - 1, by omega⟩
      have hje : j = s := by omega
      subst hje
      rw [R_scans_L0, k32, isAt_ok h (by omega) (by omega) (by omega), bO_s, bI_if, if_neg (fun q => r4 q.1 q.2)]
    | succ d ih =>
      intro f j hj hij hf
      obtain ⟨f, rfl⟩ : ∃ z, f = z + 1 := ⟨f - 1, by omega⟩
      rw [R_scans_L0, k32, isAt_ok h (by omega) (by omega) (by omega), bO_s, bI_if, if_pos ⟨by omega, r3 j hij (by omega)⟩, nI_1]
      exact ih f (j + 1) (by omega) (by omega) (by omega)
  exact key (s - i) N i (by omega) (Nat.le_refl _) (by omega)
theorem readNum_ok {N n s e : Nat} {tx : Nat → Nat} {row : Nat → Int32} (hN : 1000 ≤ N) (h : TxC n tx row) (hse : s ≤ e) (hen : e ≤ n) (hl : ∀ j, s ≤ j → j < e → 48 ≤ tx j ∧ tx j ≤ 57) (h3 : e - s ≤ 3) : F_Text_readNumber N (nI n) (nI e) (-3) (nI s) row = some (nI (nv tx s (e - s))) := by
  have hn := h.1
  have key : ∀ (d f j : Nat), j + d = e → s ≤ j → d < f → Text_readNumber_L10 (nI e) (-3) (nI n) row f (nI j) (nI (nv tx s (j - s))) = some (nI (nv tx s (e - s))) := by
    intro d
    induction d with
    | zero =>
      intro f j hj hij hf
      obtain ⟨f, rfl⟩ : ∃ z, f = z + 1 := ⟨f - 1, by omega⟩
      have hje : j = e := by omega
      subst hje
      rw [Text_readNumber_L10, if_pos (by simp (disch := omega) only [nI_leI, nI_ltI, nI_eq, nI_1, nI_add, pk_mul, nI_clamp]; omega)]
    | succ d ih =>
      intro f j hj hij hf
      obtain ⟨f, rfl⟩ : ∃ z, f = z + 1 := ⟨f - 1, by omega⟩
      have hz : j < n := by omega
      have ht := (h.2 j hz).1
      have hd := hl j hij (by omega)
      have ev : nv tx s (j + 1 - s) = 10 * nv tx s (j - s) + (tx j - 48) := by
        rw [show j + 1 - s = (j - s) + 1 by omega]
        show 10 * nv tx s (j - s) + (tx (s + (j - s)) - 48) = _
        rw [show s + (j - s) = j by omega]
      rw [Text_readNumber_L10, if_neg (by simp (disch := omega) only [nI_leI, nI_ltI, nI_eq, nI_1, nI_add, pk_mul, nI_clamp]; omega), if_pos rfl, byteAt_ok h (by omega), bO_s, if_pos hz, nI_1, k10, k48, pk_mul, nI_add, pk_sub (by omega), show 10 * nv tx s (j - s) + tx j - 48 = nv tx s (j + 1 - s) by omega]
      exact ih f (j + 1) (by omega) (by omega) (by omega)
  have := key (e - s) N s (by omega) (Nat.le_refl _) (by omega)
  rw [Nat.sub_self] at this
  unfold F_Text_readNumber
  rw [show Text_readNumber_L10 (nI e) (-3) (nI n) row N (nI s) 0 = _ from this, bO_s]
theorem scanNum_ok {N n s e : Nat} {tx : Nat → Nat} {text : Nat → Int32} (hN : 1000 ≤ N) (h : TxC n tx text) (hs : s < 500) (hr : IsRun n tx 48 57 s e) : ∃ v, R_scans_L170 (nI n) text (nI s) N (nI s) 0 = some (nI e, v) ∧ (e - s ≤ 3 → v = nI (nv tx s (e - s))) := by
  have hn := h.1
  obtain ⟨r1, r2, r3, r4⟩ := hr
  have key : ∀ (d f j : Nat) (v : Int32), j + d = e → s ≤ j → d < f → (j - s ≤ 3 → v = nI (nv tx s (j - s))) → ∃ v', R_scans_L170 (nI n) text (nI s) f (nI j) v = some (nI e, v') ∧ (e - s ≤ 3 → v' = nI (nv tx s (e - s))) := by
    intro d
    induction d with
    | zero =>
      intro f j v hj hij hf hv
      obtain ⟨f, rfl⟩ : ∃ z, f = z + 1 := ⟨f - 1, by omega⟩
      have hje : j = e := by omega
      subst hje
      rw [R_scans_L170, k48, k57, isAt_ok h (by omega) (by omega) (by omega), bO_s, bI_if, if_neg (fun q => r4 q.1 q.2)]
      exact ⟨v, rfl, hv⟩
    | succ d ih =>
      intro f j v hj hij hf hv
      obtain ⟨f, rfl⟩ : ∃ z, f = z + 1 := ⟨f - 1, by omega⟩
      have hz : j < n := by omega
      have ht := h.2 j hz
      have hd := r3 j hij (by omega)
      have ev : nv tx s (j + 1 - s) = 10 * nv tx s (j - s) + (tx j - 48) := by
        rw [show j + 1 - s = (j - s) + 1 by omega]
        show 10 * nv tx s (j - s) + (tx (s + (j - s)) - 48) = _
        rw [show s + (j - s) = j by omega]
      rw [R_scans_L170, k48, k57, isAt_ok h (by omega) (by omega) (by omega), bO_s, bI_if, if_pos ⟨hz, hd⟩, pk_sub hij, nI_1, gd_ix (by omega) (by omega), nI_clamp (by omega), ht.2]
      by_cases q : 3 ≤ j - s
      · rw [if_pos (by simp (disch := omega) only [k3, nI_leI, nI_ltI, nI_eq, nI_1, nI_add, pk_mul, nI_clamp]; omega)]
        exact ih f (j + 1) v (by omega) (by omega) (by omega) (fun t => by omega)
      · rw [if_neg (by simp (disch := omega) only [k3, nI_leI, nI_ltI, nI_eq, nI_1, nI_add, pk_mul, nI_clamp]; omega), hv (by omega), k10, pk_mul, nI_add, pk_sub (by omega), show 10 * nv tx s (j - s) + tx j - 48 = nv tx s (j + 1 - s) by omega]
        exact ih f (j + 1) _ (by omega) (by omega) (by omega) (fun _ => rfl)
  exact key (e - s) N s 0 (by omega) (Nat.le_refl _) (by omega) (fun _ => by rw [Nat.sub_self]; rfl)
theorem scanWord_ok {N n s e : Nat} {tx : Nat → Nat} {text : Nat → Int32} (hN : 1000 ≤ N) (h : TxC n tx text) (hs : s < 500) (hr : IsRun n tx 97 122 s e) : ∃ v, R_scans_L62 (nI n) text (nI s) N 0 (nI s) = some (v, nI e) ∧ (e - s ≤ 6 → v = lN (bv tx s (e - s))) := by
  have hn := h.1
  obtain ⟨r1, r2, r3, r4⟩ := hr
  have key : ∀ (d f j : Nat) (v : Int64), j + d = e → s ≤ j → d < f → (j - s ≤ 7 → v = lN (bv tx s (j - s))) → ∃ v', R_scans_L62 (nI n) text (nI s) f v (nI j) = some (v', nI e) ∧ (e - s ≤ 6 → v' = lN (bv tx s (e - s))) := by
    intro d
    induction d with
    | zero =>
      intro f j v hj hij hf hv
      obtain ⟨f, rfl⟩ : ∃ z, f = z + 1 := ⟨f - 1, by omega⟩
      have hje : j = e := by omega
      subst hje
      rw [R_scans_L62, k97, k122, isAt_ok h (by omega) (by omega) (by omega), bO_s, bI_if, if_neg (fun q => r4 q.1 q.2)]
      exact ⟨v, rfl, fun t => hv (by omega)⟩
    | succ d ih =>
      intro f j v hj hij hf hv
      obtain ⟨f, rfl⟩ : ∃ z, f = z + 1 := ⟨f - 1, by omega⟩
      have hz : j < n := by omega
      have ht := h.2 j hz
      have hd := r3 j hij (by omega)
      have ev : bv tx s (j + 1 - s) = 32 * bv tx s (j - s) + (tx j - 96) := by
        rw [show j + 1 - s = (j - s) + 1 by omega]
        show 32 * bv tx s (j - s) + (tx (s + (j - s)) - 96) = _
        rw [show s + (j - s) = j by omega]
      rw [R_scans_L62, k97, k122, isAt_ok h (by omega) (by omega) (by omega), bO_s, bI_if, if_pos ⟨hz, hd⟩, pk_sub hij, nI_1, gd_ix (by omega) (by omega), nI_clamp (by omega), ht.2, nIL (by omega)]
      by_cases q : j - s ≤ 6
      · rw [if_pos (by simp (disch := omega) only [k6, nI_leI, nI_ltI, nI_eq, nI_1, nI_add, pk_mul, nI_clamp]; omega), hv (by omega), show (32 : Int64) = lN 32 from rfl, lN_mul, lN_add, show (97 : Int64) = lN 97 from rfl, lN_sub (by omega), lN_1, show 32 * bv tx s (j - s) + tx j - 97 + 1 = bv tx s (j + 1 - s) by omega]
        exact ih f (j + 1) _ (by omega) (by omega) (by omega) (fun _ => rfl)
      · rw [if_neg (by simp (disch := omega) only [k6, nI_leI, nI_ltI, nI_eq, nI_1, nI_add, pk_mul, nI_clamp]; omega)]
        exact ih f (j + 1) 0 (by omega) (by omega) (by omega) (fun t => by omega)
  exact key (e - s) N s 0 (by omega) (Nat.le_refl _) (by omega) (fun _ => by rw [Nat.sub_self]; rfl)
/-- a token: its code, start, end, number -/
def Tk (n : Nat) (tx : Nat → Nat) (i c s e v : Nat) : Prop := i ≤ s ∧ s ≤ n ∧ e ≤ n ∧ s ≤ e ∧ c ≤ 10 ∧ (c = 0 → s = n ∧ e = n) ∧ (c ≠ 0 → s < e) ∧ (c = 2 → v ≤ 999 ∧ 48 ≤ tx s ∧ tx s ≤ 57 ∧ (e < n → ¬ (48 ≤ tx e ∧ tx e ≤ 57))) ∧ (c = 4 → s + 6 ≤ e) ∧ (4 ≤ c → s + 3 ≤ e)
theorem kOf_le (v : Nat) : 3 ≤ kOf v ∧ kOf v ≤ 10 := by
  unfold kOf
  split
  · omega
  split
  · omega
  split
  · omega
  split
  · omega
  split
  · omega
  split
  · omega
  split <;> omega
theorem kOf_len {v : Nat} (h : kOf v ≠ 3) : ∃ k, k < 7 ∧ v = kV k ∧ kOf v = k + 4 := by
  unfold kOf at h ⊢
  by_cases z0 : v = kV 0
  · exact ⟨0, by omega, z0, by rw [if_pos z0]⟩
  rw [if_neg z0] at h ⊢
  by_cases z1 : v = kV 1
  · exact ⟨1, by omega, z1, by rw [if_pos z1]⟩
  rw [if_neg z1] at h ⊢
  by_cases z2 : v = kV 2
  · exact ⟨2, by omega, z2, by rw [if_pos z2]⟩
  rw [if_neg z2] at h ⊢
  by_cases z3 : v = kV 3
  · exact ⟨3, by omega, z3, by rw [if_pos z3]⟩
  rw [if_neg z3] at h ⊢
  by_cases z4 : v = kV 4
  · exact ⟨4, by omega, z4, by rw [if_pos z4]⟩
  rw [if_neg z4] at h ⊢
  by_cases z5 : v = kV 5
  · exact ⟨5, by omega, z5, by rw [if_pos z5]⟩
  rw [if_neg z5] at h ⊢
  by_cases z6 : v = kV 6
  · exact ⟨6, by omega, z6, by rw [if_pos z6]⟩
  rw [if_neg z6] at h
  exact absurd rfl h
theorem tok_ok {N n i : Nat} {tx : Nat → Nat} {row text : Nat → Int32} (hN : 1000 ≤ N) (h : TxC n tx row) (ht : TxC n tx text) (hi : i ≤ n) : ∃ c s e v, Tk n tx i c s e v ∧
    (∀ num, ∃ a num', F_Text_nextToken N (nI n) (nI i) num row = some (a, ctok c, nI s, num') ∧ (c ≠ 0 → a = nI e) ∧ (c = 2 → num' = nI v)) ∧
    (∀ val, ∃ val', F_R_scans N (nI n) (nI i) val text = some (nI e, nI s, rtok c, val') ∧ (c = 2 → val' = nI v)) := by
  have hn := h.1
  obtain ⟨s, hs⟩ := run_ex n tx 32 32 (n - i) i (by omega)
  have hs' := hs
  obtain ⟨s1, s2, s3, s4⟩ := hs'
  have hsn : s ≤ n := by omega
  have eE := endOfRun_ok hN h (by omega) (by omega) (by omega) hs
  have eS := skip_ok hN ht (by omega) hs
  have eB := byteAt_ok h (show s < 1000 by omega)
  by_cases z : s = n
  · refine ⟨0, s, n, 0, ⟨s1, hsn, Nat.le_refl _, hsn, by omega, fun _ => ⟨z, rfl⟩, fun q => absurd rfl q, fun q => by omega, fun q => by omega, fun q => by omega⟩, fun num => ?_, fun val => ?_⟩
    · unfold F_Text_nextToken
      rw [k32, eE, bO_s, eB, bO_s, if_neg (show ¬ s < n by omega), if_pos rfl]
      exact ⟨_, _, rfl, fun q => absurd rfl q, fun q => by omega⟩
    · unfold F_R_scans
      rw [eS, bO_s, if_pos (by rw [z]), z]
      exact ⟨_, rfl, fun q => by omega⟩
  have hz : s < n := by omega
  have htx := (h.2 s hz).1
  rw [if_pos hz] at eB
  have n32 := s4 hz
  have rneg : ¬ nI s = nI n := by simp (disch := omega) only [nI_leI, nI_ltI, nI_eq, nI_1, nI_add, pk_mul, nI_clamp]; omega
  have cneg : ¬ nI (tx s) = -1 := nI_nm1 (by omega)
  have eW := isAt_ok (lo := 97) (hi := 122) ht (by omega) (by omega) (show s < 1000 by omega)
  have eD := isAt_ok (lo := 48) (hi := 57) ht (by omega) (by omega) (show s < 1000 by omega)
  have eSt := isAt_ok (lo := 59) (hi := 59) ht (by omega) (by omega) (show s < 1000 by omega)
  have wD := swD (t := tx s) (a := 48) (b := 57) (by omega) (by omega) (by omega)
  have wW := swD (t := tx s) (a := 97) (b := 122) (by omega) (by omega) (by omega)
  by_cases z59 : tx s = 59
  · refine ⟨1, s, s + 1, 0, ⟨s1, hsn, by omega, by omega, by omega, fun q => by omega, fun _ => by omega, fun q => by omega, fun q => by omega, fun q => by omega⟩, fun num => ?_, fun val => ?_⟩
    · unfold F_Text_nextToken
      rw [k32, eE, bO_s, eB, bO_s, if_neg cneg, if_pos (by rw [z59]; rfl), nI_1]
      exact ⟨_, _, rfl, fun _ => rfl, fun q => by omega⟩
    · unfold F_R_scans
      rw [eS, bO_s, if_neg rneg, k97, k122, eW, bO_s, bI_if, if_neg (by omega), k48, k57, eD, bO_s, bI_if, if_neg (by omega), k59, eSt, bO_s, bI_if, if_pos (by omega), nI_1]
      exact ⟨_, rfl, fun q => by omega⟩
  have c59 : ¬ nI (tx s) = 59 := by simp (disch := omega) only [k59, nI_leI, nI_ltI, nI_eq, nI_1, nI_add, pk_mul, nI_clamp]; omega
  by_cases zD : 48 ≤ tx s ∧ tx s ≤ 57
  · obtain ⟨e, he⟩ := run_ex n tx 48 57 (n - s) s (by omega)
    have he' := he
    obtain ⟨e1, e2, e3, e4⟩ := he'
    have hse : s < e := by
      rcases Nat.lt_or_ge s e with q | q
      · exact q
      · exact absurd zD (by have : e = s := by omega
                            rw [← this]; exact e4 (by omega))
    have hen : e ≤ n := by omega
    have eN := endOfRun_ok hN h (by omega) (by omega) (show s < 500 by omega) he
    obtain ⟨v', q1, q2⟩ := scanNum_ok hN ht (by omega) he
    by_cases z3 : e - s ≤ 3
    · have hv : nv tx s (e - s) < 10 ^ (e - s) := nv_lt _ (fun j hj => (e3 (s + j) (by omega) (by omega)).2)
      have hv2 : 10 ^ (e - s) ≤ 10 ^ 3 := Nat.pow_le_pow_right (by decide) z3
      refine ⟨2, s, e, nv tx s (e - s), ⟨s1, hsn, hen, by omega, by omega, fun q => by omega, fun _ => hse, fun _ => ⟨by omega, zD.1, zD.2, e4⟩, fun q => by omega, fun q => by omega⟩, fun num => ?_, fun val => ?_⟩
      · unfold F_Text_nextToken
        rw [k32, eE, bO_s, eB, bO_s, if_neg cneg, if_neg c59, k48, k57, wD, bI_if, if_pos zD, eN, bO_s, pk_sub (by omega), if_neg (by simp (disch := omega) only [k3, nI_leI, nI_ltI, nI_eq, nI_1, nI_add, pk_mul, nI_clamp]; omega), bO_s, readNum_ok hN h (by omega) hen e3 z3, bO_s]
        exact ⟨_, _, rfl, fun _ => rfl, fun _ => rfl⟩
      · unfold F_R_scans
        rw [eS, bO_s, if_neg rneg, k97, k122, eW, bO_s, bI_if, if_neg (by omega), k48, k57, eD, bO_s, bI_if, if_pos ⟨hz, zD⟩, q1, bO_s]
        show ∃ val', (if nI e - nI s ≤ 3 then _ else _) = _ ∧ _
        rw [pk_sub (by omega), if_pos (by simp (disch := omega) only [k3, nI_leI, nI_ltI, nI_eq, nI_1, nI_add, pk_mul, nI_clamp]; omega)]
        exact ⟨_, rfl, fun _ => q2 z3⟩
    · refine ⟨3, s, e, 0, ⟨s1, hsn, hen, by omega, by omega, fun q => by omega, fun _ => hse, fun q => by omega, fun q => by omega, fun q => by omega⟩, fun num => ?_, fun val => ?_⟩
      · have er : F_Text_readNumber N (nI n) (nI e) (-4) (nI s) row = some 0 := by
          obtain ⟨f, rfl⟩ : ∃ f, N = f + 1 := ⟨N - 1, by omega⟩
          unfold F_Text_readNumber
          rw [Text_readNumber_L10, if_neg (by simp (disch := omega) only [nI_leI, nI_ltI, nI_eq, nI_1, nI_add, pk_mul, nI_clamp]; omega), if_neg (by decide), bO_s]
        unfold F_Text_nextToken
        rw [k32, eE, bO_s, eB, bO_s, if_neg cneg, if_neg c59, k48, k57, wD, bI_if, if_pos zD, eN, bO_s, pk_sub (by omega), if_pos (by simp (disch := omega) only [k3, nI_leI, nI_ltI, nI_eq, nI_1, nI_add, pk_mul, nI_clamp]; omega), bO_s, er, bO_s]
        exact ⟨_, _, rfl, fun _ => rfl, fun q => by omega⟩
      · unfold F_R_scans
        rw [eS, bO_s, if_neg rneg, k97, k122, eW, bO_s, bI_if, if_neg (by omega), k48, k57, eD, bO_s, bI_if, if_pos ⟨hz, zD⟩, q1, bO_s]
        show ∃ val', (if nI e - nI s ≤ 3 then _ else _) = _ ∧ _
        rw [pk_sub (by omega), if_neg (by simp (disch := omega) only [k3, nI_leI, nI_ltI, nI_eq, nI_1, nI_add, pk_mul, nI_clamp]; omega)]
        exact ⟨_, rfl, fun q => by omega⟩
  by_cases zW : 97 ≤ tx s ∧ tx s ≤ 122
  · obtain ⟨e, he⟩ := run_ex n tx 97 122 (n - s) s (by omega)
    have he' := he
    obtain ⟨e1, e2, e3, e4⟩ := he'
    have hse : s < e := by
      rcases Nat.lt_or_ge s e with q | q
      · exact q
      · exact absurd zW (by have : e = s := by omega
                            rw [← this]; exact e4 (by omega))
    have hen : e ≤ n := by omega
    have eN := endOfRun_ok hN h (by omega) (by omega) (show s < 500 by omega) he
    obtain ⟨v', q1, q2⟩ := scanWord_ok hN ht (by omega) he
    have kl := kOf_le (bv tx s (e - s))
    have klen : kOf (bv tx s (e - s)) ≠ 3 → 3 ≤ e - s ∧ e - s ≤ 6 ∧ (kOf (bv tx s (e - s)) = 4 → e - s = 6) := by
      intro q
      obtain ⟨k, hk, hv, ho⟩ := kOf_len q
      obtain ⟨f1, f2, f0, f3⟩ := nm_facts k hk
      have hbe : bv tx s (e - s) = bv (nm k) 0 (sLen k) := hv
      have := ((bv_eq (tx := tx) (ty := nm k) (s := s) (t := 0) (e - s) (sLen k) (fun j hj => e3 (s + j) (by omega) (by omega)) (fun j hj => (f3 j hj).2)).mp hbe).1
      exact ⟨by omega, by omega, fun q4 => by rw [this]; exact f0 (by omega)⟩
    refine ⟨kOf (bv tx s (e - s)), s, e, 0, ⟨s1, hsn, hen, by omega, by omega, fun q => by omega, fun _ => hse, fun q => by omega, fun q => by have := klen (by omega); have := this.2.2 q; omega, fun q => by have := klen (by omega); omega⟩, fun num => ?_, fun val => ?_⟩
    · unfold F_Text_nextToken
      rw [k32, eE, bO_s, eB, bO_s, if_neg cneg, if_neg c59, k48, k57, wD, bI_if, if_neg zD, k97, k122, wW, bI_if, if_pos zW, eN, bO_s, kindNamed_ok hN h (by omega) hen e3, bO_s]
      exact ⟨_, _, rfl, fun _ => rfl, fun q => by omega⟩
    · unfold F_R_scans
      rw [eS, bO_s, if_neg rneg, k97, k122, eW, bO_s, bI_if, if_pos ⟨hz, zW⟩, q1, bO_s]
      show ∃ val', (if nI e - nI s ≤ 6 then some (nI e, nI s, F_R_wordOf v', val) else _) = _ ∧ _
      rw [pk_sub (by omega)]
      by_cases z6 : e - s ≤ 6
      · have hv : bv tx s (e - s) < 32 ^ (e - s) := bv_lt _ (fun j hj => (e3 (s + j) (by omega) (by omega)).2)
        have hv2 : 32 ^ (e - s) ≤ 32 ^ 6 := Nat.pow_le_pow_right (by decide) z6
        rw [if_pos (by simp (disch := omega) only [k6, nI_leI, nI_ltI, nI_eq, nI_1, nI_add, pk_mul, nI_clamp]; omega), q2 z6, wordOf_ok (Nat.lt_of_lt_of_le hv (Nat.le_trans hv2 (by decide)))]
        exact ⟨_, rfl, fun q => by omega⟩
      · have k3' : kOf (bv tx s (e - s)) = 3 := by
          apply Classical.byContradiction
          intro q
          have := klen q
          omega
        rw [if_neg (by simp (disch := omega) only [k6, nI_leI, nI_ltI, nI_eq, nI_1, nI_add, pk_mul, nI_clamp]; omega), k3']
        exact ⟨_, rfl, fun q => by omega⟩
  · refine ⟨3, s, s + 1, 0, ⟨s1, hsn, by omega, by omega, by omega, fun q => by omega, fun _ => by omega, fun q => by omega, fun q => by omega, fun q => by omega⟩, fun num => ?_, fun val => ?_⟩
    · unfold F_Text_nextToken
      rw [k32, eE, bO_s, eB, bO_s, if_neg cneg, if_neg c59, k48, k57, wD, bI_if, if_neg zD, k97, k122, wW, bI_if, if_neg zW, nI_1]
      exact ⟨_, _, rfl, fun _ => rfl, fun q => by omega⟩
    · unfold F_R_scans
      rw [eS, bO_s, if_neg rneg, k97, k122, eW, bO_s, bI_if, if_neg (fun q => zW q.2), k48, k57, eD, bO_s, bI_if, if_neg (fun q => zD q.2), k59, eSt, bO_s, bI_if, if_neg (by omega), nI_1]
      exact ⟨_, rfl, fun q => by omega⟩
