-- ONE TOKEN, ON BOTH SIDES
theorem skip_ok {N n i s : Nat} {tx : Nat → Nat} {text : Nat → Int32} (hN : 1000 ≤ N) (h : TxC n tx text) (hi : i < 500) (hr : IsRun n tx 32 32 i s) : R_scans_L0 (nI n) text N (nI i) = some (nI s) := by
  have hn := h.1
  obtain ⟨r1, r2, r3, r4⟩ := hr
  have key : ∀ (d f j : Nat), j + d = s → i ≤ j → d < f → R_scans_L0 (nI n) text f (nI j) = some (nI s) := by
    intro d
    induction d with
    | zero =>
      intro f j hj hij hf
      obtain ⟨f, rfl⟩ : ∃ z, f = z + 1 := ⟨f - 1, by omega⟩
      have hje : j = s := by omega
      subst hje
      rw [R_scans_L0, k32, isAt_ok h (by omega) (by omega) (by omega), bO_s, bI_if, if_neg (fun q => r4 q.1 q.2)]
    | succ d ih =>
      intro f j hj hij hf
      obtain ⟨f, rfl⟩ : ∃ z, f = z + 1 := ⟨f - 1, by omega⟩
      rw [R_scans_L0, k32, isAt_ok h (by omega) (by omega) (by omega), bO_s, bI_if, if_pos ⟨by omega, r3 j hij (by omega)⟩, nI_1]
      exact ih f (j + 1) (by omega) (by omega) (by omega)
  exact key (s - i) N i (by omega) (Nat.le_refl _) (by omega)
theorem readNum_ok {N n s e : Nat} {tx : Nat → Nat} {row : Nat → Int32} (hN : 1000 ≤ N) (h : TxC n tx row) (hse : s ≤ e) (hen : e ≤ n) (hl : ∀ j, s ≤ j → j < e → 48 ≤ tx j ∧ tx j ≤ 57) (h3 : e - s ≤ 3) : F_Text_readNumber N (nI n) (nI e) (-3) (nI s) row = some (nI (nv tx s (e - s))) := by
  have hn := h.1
  have key : ∀ (d f j : Nat), j + d = e → s ≤ j → d < f → Text_readNumber_L10 (nI e) (-3) (nI n) row f (nI j) (nI (nv tx s (j - s))) = some (nI (nv tx s (e - s))) := by
    intro d
    induction d with
    | zero =>
      intro f j hj hij hf
      obtain ⟨f, rfl⟩ : ∃ z, f = z + 1 := ⟨f - 1, by omega⟩
      have hje : j = e := by omega
      subst hje
      rw [Text_readNumber_L10, if_pos (by simp (disch := omega) only [nI_leI, nI_ltI, nI_eq, nI_1, nI_add, pk_mul, nI_clamp]; omega)]
    | succ d ih =>
      intro f j hj hij hf
      obtain ⟨f, rfl⟩ : ∃ z, f = z + 1 := ⟨f - 1, by omega⟩
      have hz : j < n := by omega
      have ht := (h.2 j hz).1
      have hd := hl j hij (by omega)
      have ev : nv tx s (j + 1 - s) = 10 * nv tx s (j - s) + (tx j - 48) := by
        rw [show j + 1 - s = (j - s) + 1 by omega]
        show 10 * nv tx s (j - s) + (tx (s + (j - s)) - 48) = _
        rw [show s + (j - s) = j by omega]
      rw [Text_readNumber_L10, if_neg (by simp (disch := omega) only [nI_leI, nI_ltI, nI_eq, nI_1, nI_add, pk_mul, nI_clamp]; omega), if_pos rfl, byteAt_ok h (by omega), bO_s, if_pos hz, nI_1, k10, k48, pk_mul, nI_add, pk_sub (by omega), show 10 * nv tx s (j - s) + tx j - 48 = nv tx s (j + 1 - s) by omega]
      exact ih f (j + 1) (by omega) (by omega) (by omega)
  have := key (e - s) N s (by omega) (Nat.le_refl _) (by omega)
  rw [Nat.sub_self] at this
  unfold F_Text_readNumber
  rw [show Text_readNumber_L10 (nI e) (-3) (nI n) row N (nI s) 0 = _ from this, bO_s]
theorem scanNum_ok {N n s e : Nat} {tx : Nat → Nat} {text : Nat → Int32} (hN : 1000 ≤ N) (h : TxC n tx text) (hs : s < 500) (hr : IsRun n tx 48 57 s e) : ∃ v, R_scans_L170 (nI n) text (nI s) N (nI s) 0 = some (nI e, v) ∧ (e - s ≤ 3 → v = nI (nv tx s (e - s))) := by
  have hn := h.1
  obtain ⟨r1, r2, r3, r4⟩ := hr
  have key : ∀ (d f j : Nat) (v : Int32), j + d = e → s ≤ j → d < f → (j - s ≤ 3 → v = nI (nv tx s (j - s))) → ∃ v', R_scans_L170 (nI n) text (nI s) f (nI j) v = some (nI e, v') ∧ (e - s ≤ 3 → v' = nI (nv tx s (e - s))) := by
    intro d
    induction d with
    | zero =>
      intro f j v hj hij hf hv
      obtain ⟨f, rfl⟩ : ∃ z, f = z + 1 := ⟨f - 1, by omega⟩
      have hje : j = e := by omega
      subst hje
      rw [R_scans_L170, k48, k57, isAt_ok h (by omega) (by omega) (by omega), bO_s, bI_if, if_neg (fun q => r4 q.1 q.2)]
      exact ⟨v, rfl, hv⟩
    | succ d ih =>
      intro f j v hj hij hf hv
      obtain ⟨f, rfl⟩ : ∃ z, f = z + 1 := ⟨f - 1, by omega⟩
      have hz : j < n := by omega
      have ht := h.2 j hz
      have hd := r3 j hij (by omega)
      have ev : nv tx s (j + 1 - s) = 10 * nv tx s (j - s) + (tx j - 48) := by
        rw [show j + 1 - s = (j - s) + 1 by omega]
        show 10 * nv tx s (j - s) + (tx (s + (j - s)) - 48) = _
        rw [show s + (j - s) = j by omega]
      rw [R_scans_L170, k48, k57, isAt_ok h (by omega) (by omega) (by omega), bO_s, bI_if, if_pos ⟨hz, hd⟩, pk_sub hij, nI_1, gd_ix (by omega) (by omega), nI_clamp (by omega), ht.2]
      by_cases q : 3 ≤ j - s
      · rw [if_pos (by simp (disch := omega) only [k3, nI_leI, nI_ltI, nI_eq, nI_1, nI_add, pk_mul, nI_clamp]; omega)]
        exact ih f (j + 1) v (by omega) (by omega) (by omega) (fun t => by omega)
      · rw [if_neg (by simp (disch := omega) only [k3, nI_leI, nI_ltI, nI_eq, nI_1, nI_add, pk_mul, nI_clamp]; omega), hv (by omega), k10, pk_mul, nI_add, pk_sub (by omega), show 10 * nv tx s (j - s) + tx j - 48 = nv tx s (j + 1 - s) by omega]
        exact ih f (j + 1) _ (by omega) (by omega) (by omega) (fun _ => rfl)
  exact key (e - s) N s 0 (by omega) (Nat.le_refl _) (by omega) (fun _ => by rw [Nat.sub_self]; rfl)
theorem scanWord_ok {N n s e : Nat} {tx : Nat → Nat} {text : Nat → Int32} (hN : 1000 ≤ N) (h : TxC n tx text) (hs : s < 500) (hr : IsRun n tx 97 122 s e) : ∃ v, R_scans_L62 (nI n) text (nI s) N 0 (nI s) = some (v, nI e) ∧ (e - s ≤ 6 → v = lN (bv tx s (e - s))) := by
  have hn := h.1
  obtain ⟨r1, r2, r3, r4⟩ := hr
  have key : ∀ (d f j : Nat) (v : Int64), j + d = e → s ≤ j → d < f → (j - s ≤ 7 → v = lN (bv tx s (j - s))) → ∃ v', R_scans_L62 (nI n) text (nI s) f v (nI j) = some (v', nI e) ∧ (e - s ≤ 6 → v' = lN (bv tx s (e - s))) := by
    intro d
    induction d with
    | zero =>
      intro f j v hj hij hf hv
      obtain ⟨f, rfl⟩ : ∃ z, f = z + 1 := ⟨f - 1, by omega⟩
      have hje : j = e := by omega
      subst hje
      rw [R_scans_L62, k97, k122, isAt_ok h (by omega) (by omega) (by omega), bO_s, bI_if, if_neg (fun q => r4 q.1 q.2)]
      exact ⟨v, rfl, fun t => hv (by omega)⟩
    | succ d ih =>
      intro f j v hj hij hf hv
      obtain ⟨f, rfl⟩ : ∃ z, f = z + 1 := ⟨f - 1, by omega⟩
      have hz : j < n := by omega
      have ht := h.2 j hz
      have hd := r3 j hij (by omega)
      have ev : bv tx s (j + 1 - s) = 32 * bv tx s (j - s) + (tx j - 96) := by
        rw [show j + 1 - s = (j - s) + 1 by omega]
        show 32 * bv tx s (j - s) + (tx (s + (j - s)) - 96) = _
        rw [show s + (j - s) = j by omega]
      rw [R_scans_L62, k97, k122, isAt_ok h (by omega) (by omega) (by omega), bO_s, bI_if, if_pos ⟨hz, hd⟩, pk_sub hij, nI_1, gd_ix (by omega) (by omega), nI_clamp (by omega), ht.2, nIL (by omega)]
      by_cases q : j - s ≤ 6
      · rw [if_pos (by simp (disch := omega) only [k6, nI_leI, nI_ltI, nI_eq, nI_1, nI_add, pk_mul, nI_clamp]; omega), hv (by omega), show (32 : Int64) = lN 32 from rfl, lN_mul, lN_add, show (97 : Int64) = lN 97 from rfl, lN_sub (by omega), lN_1, show 32 * bv tx s (j - s) + tx j - 97 + 1 = bv tx s (j + 1 - s) by omega]
        exact ih f (j + 1) _ (by omega) (by omega) (by omega) (fun _ => rfl)
      · rw [if_neg (by simp (disch := omega) only [k6, nI_leI, nI_ltI, nI_eq, nI_1, nI_add, pk_mul, nI_clamp]; omega)]
        exact ih f (j + 1) 0 (by omega) (by omega) (by omega) (fun t => by omega)
  exact key (e - s) N s 0 (by omega) (Nat.le_refl _) (by omega) (fun _ => by rw [Nat.sub_self]; rfl)
/-- a token: its code, start, end, number -/
def Tk (n : Nat) (tx : Nat → Nat) (i c s e v : Nat) : Prop := i ≤ s ∧ s ≤ n ∧ e ≤ n ∧ s ≤ e ∧ c ≤ 10 ∧ (c = 0 → s = n ∧ e = n) ∧ (c ≠ 0 → s < e) ∧ (c = 2 → v ≤ 999 ∧ 48 ≤ tx s ∧ tx s ≤ 57 ∧ (e < n → ¬ (48 ≤ tx e ∧ tx e ≤ 57))) ∧ (c = 4 → s + 6 ≤ e) ∧ (4 ≤ c → s + 3 ≤ e)
theorem kOf_le (v : Nat) : 3 ≤ kOf v ∧ kOf v ≤ 10 := by
  unfold kOf
  split
  · omega
  split
  · omega
  split
  · omega
  split
  · omega
  split
  · omega
  split
  · omega
  split <;> omega
theorem kOf_len {v : Nat} (h : kOf v ≠ 3) : ∃ k, k < 7 ∧ v = kV k ∧ kOf v = k + 4 := by
  unfold kOf at h ⊢
  by_cases z0 : v = kV 0
  · exact ⟨0, by omega, z0, by rw [if_pos z0]⟩
  rw [if_neg z0] at h ⊢
  by_cases z1 : v = kV 1
  · exact ⟨1, by omega, z1, by rw [if_pos z1]⟩
  rw [if_neg z1] at h ⊢
  by_cases z2 : v = kV 2
  · exact ⟨2, by omega, z2, by rw [if_pos z2]⟩
  rw [if_neg z2] at h ⊢
  by_cases z3 : v = kV 3
  · exact ⟨3, by omega, z3, by rw [if_pos z3]⟩
  rw [if_neg z3] at h ⊢
  by_cases z4 : v = kV 4
  · exact ⟨4, by omega, z4, by rw [if_pos z4]⟩
  rw [if_neg z4] at h ⊢
  by_cases z5 : v = kV 5
  · exact ⟨5, by omega, z5, by rw [if_pos z5]⟩
  rw [if_neg z5] at h ⊢
  by_cases z6 : v = kV 6
  · exact ⟨6, by omega, z6, by rw [if_pos z6]⟩
  rw [if_neg z6] at h
  exact absurd rfl h
theorem tok_ok {N n i : Nat} {tx : Nat → Nat} {row text : Nat → Int32} (hN : 1000 ≤ N) (h : TxC n tx row) (ht : TxC n tx text) (hi : i ≤ n) : ∃ c s e v, Tk n tx i c s e v ∧
    (∀ num, ∃ a num', F_Text_nextToken N (nI n) (nI i) num row = some (a, ctok c, nI s, num') ∧ (c ≠ 0 → a = nI e) ∧ (c = 2 → num' = nI v)) ∧
    (∀ val, ∃ val', F_R_scans N (nI n) (nI i) val text = some (nI e, nI s, rtok c, val') ∧ (c = 2 → val' = nI v)) := by
  have hn := h.1
  obtain ⟨s, hs⟩ := run_ex n tx 32 32 (n - i) i (by omega)
  have hs' := hs
  obtain ⟨s1, s2, s3, s4⟩ := hs'
  have hsn : s ≤ n := by omega
  have eC : ∀ num, F_Text_nextToken N (nI n) (nI i) num row = bO (F_Text_byteAt (nI s) (nI n) row) _ := fun num => by
    unfold F_Text_nextToken
    rw [k32, endOfRun_ok hN h (by omega) (by omega) (by omega) hs, bO_s]
  have eR : ∀ val, F_R_scans N (nI n) (nI i) val text = (fun t_at'_8 => _) (nI s) := fun val => by
    unfold F_R_scans
    rw [skip_ok hN ht (by omega) hs, bO_s]
  sorry
