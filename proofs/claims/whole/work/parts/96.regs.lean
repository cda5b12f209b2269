-- THE REFERENCE'S REGISTERS
def RG (lm wd : Nat → Int32) (V : Nat → Option Nat) : Prop := ∀ r v, V r = some v → r < 28 ∧ nL v ≤ 50 ∧ RN lm wd r v
def ru (V : Nat → Option Nat) (r v : Nat) : Nat → Option Nat := fun k => if k = r then some v else V k
theorem ru_s {V : Nat → Option Nat} {r v : Nat} : ru V r v r = some v := if_pos rfl
theorem ru_n {V : Nat → Option Nat} {r v k : Nat} (h : k ≠ r) : ru V r v k = V k := if_neg h
theorem RG_put {lm wd lm' wd' : Nat → Int32} {V : Nat → Option Nat} {r v : Nat} (h : RG lm wd V) (hr : r < 28) (hv : nL v ≤ 50) (hn : RN lm' wd' r v)
    (f1 : ∀ k, k < 60 * r ∨ 60 * r + 60 ≤ k → lm' k = lm k) (f2 : ∀ k, k ≠ r → wd' k = wd k) : RG lm' wd' (ru V r v) := by
  intro k x hk
  by_cases e : k = r
  · rw [e, ru_s] at hk
    cases hk
    rw [e]
    exact ⟨hr, hv, hn⟩
  · rw [ru_n e] at hk
    obtain ⟨h1, h2, h3, h4⟩ := h k x hk
    refine ⟨h1, h2, (f2 k e).trans h3, fun i hi => ?_⟩
    rw [f1 _ (by omega)]
    exact h4 i hi
theorem jshrLN {n k : Nat} (h : n < 2 ^ 63) (hk : k < 64) : jshrL (lN n) (nI k) = lN (n / 2 ^ k) := by
  have h2 : n / 2 ^ k ≤ n := Nat.div_le_self _ _
  unfold jshrL
  rw [wb_c k hk]
  apply Int64.toInt_inj.mp
  show ((lN n).toBitVec.sshiftRight ((BitVec.ofNat 64 k).smod 64).toNat).toInt = _
  rw [wb_sm k hk, BitVec.toNat_ofNat, Nat.mod_eq_of_lt (by omega), BitVec.toInt_sshiftRight]
  show (lN n).toInt >>> k = _
  rw [pk_lT h, pk_lT (by omega), Int.shiftRight_eq_div_pow]
  rfl
theorem ixR {r i : Nat} : (60 : Int32) * nI r + nI i = nI (60 * r + i) := by rw [k60, pk_mul, nI_add]
theorem Rtrims_ok {lm : Nat → Int32} {r v : Nat} (hr : r < 28) (hd : ∀ i, i < 60 → lm (60 * r + i) = nI (dg v i)) : ∀ (k f : Nat) (wd : Nat → Int32), k ≤ 60 → k < f → v < Bp k → wd r = nI k → ∃ wd', R_trims_L0 (nI r) lm f wd = some wd' ∧ wd' r = nI (nL v) ∧ ∀ j, j ≠ r → wd' j = wd j := by
  intro k
  induction k with
  | zero =>
    intro f wd _ hf hv hw
    obtain ⟨f, rfl⟩ : ∃ z, f = z + 1 := ⟨f - 1, by omega⟩
    rw [R_trims_L0, gd_ix hr (by omega), nI_clamp (by omega), hw, if_pos (by decide)]
    have : v = 0 := by rw [Bp_0] at hv; omega
    exact ⟨wd, rfl, by rw [hw, this, nL_0], fun _ _ => rfl⟩
  | succ k ih =>
    intro f wd hk hf hv hw
    obtain ⟨f, rfl⟩ : ∃ z, f = z + 1 := ⟨f - 1, by omega⟩
    have hb := dg_lt v k
    rw [R_trims_L0, gd_ix hr (by omega), nI_clamp (by omega), hw, if_neg (by simp (disch := omega) only [z0, nI_leI, nI_ltI, nI_eq, nI_1, nI_add, pk_mul, nI_clamp]; omega), ixR, show 60 * r + (k + 1) = (60 * r + k) + 1 from rfl, nI_pred, nI_pred, gd_ix (by omega) (by omega), nI_clamp (by omega), hd k (by omega)]
    by_cases h : dg v k = 0
    · rw [if_pos (by rw [h]; rfl)]
      obtain ⟨wd', e, e1, e2⟩ := ih f (upd wd r (nI k)) (by omega) (by omega) (by
        have := Nat.mod_eq_of_lt hv
        rw [dg_S, h, Nat.mul_zero, Nat.add_zero] at this
        rw [← this]
        exact Nat.mod_lt _ (Bp_pos k)) pk_us
      exact ⟨wd', e, e1, fun j hj => (e2 j hj).trans (pk_un hj)⟩
    · rw [if_neg (by simp (disch := omega) only [z0, nI_leI, nI_ltI, nI_eq, nI_1, nI_add, pk_mul, nI_clamp]; omega)]
      have h1 : nL v ≤ k + 1 := nL_le.mpr hv
      have h2 : ¬ nL v ≤ k := fun q => h (dg_ge q)
      exact ⟨wd, rfl, by rw [hw, show nL v = k + 1 by omega], fun _ _ => rfl⟩
theorem RtrimsF_ok {lm wd : Nat → Int32} {r v k N : Nat} (hN : 100 ≤ N) (hr : r < 28) (hk : k ≤ 60) (hv : v < Bp k) (hw : wd r = nI k) (hd : ∀ i, i < 60 → lm (60 * r + i) = nI (dg v i)) : ∃ wd', F_R_trims N (nI r) lm wd = some wd' ∧ RN lm wd' r v ∧ ∀ j, j ≠ r → wd' j = wd j := by
  obtain ⟨wd', e, e1, e2⟩ := Rtrims_ok hr hd k N wd hk (by omega) hv hw
  unfold F_R_trims
  rw [e]
  exact ⟨wd', rfl, ⟨e1, hd⟩, e2⟩
theorem sets_ok {lm wd : Nat → Int32} {V : Nat → Option Nat} {r v N : Nat} (hN : 100 ≤ N) (h : RG lm wd V) (hr : r < 28) (hv : v < 2 ^ 63) : ∃ lm' wd', F_R_sets N (nI r) (lN v) lm wd = some (lm', wd') ∧ RG lm' wd' (ru V r v) := by
  have hB : v < Bp 3 := Nat.lt_trans hv (by decide)
  have := lpI (L := fun f j (s : Nat → Int32) => R_sets_L3 (nI r) (lN v) f (nI j) s) (n := 60)
    (fun j s => (∀ i, i < j → s (60 * r + i) = nI (dg v i)) ∧ (∀ i, i < 60 * r ∨ 60 * r + 60 ≤ i → s i = lm i))
    (fun s => (∀ i, i < 60 → s (60 * r + i) = nI (dg v i)) ∧ (∀ i, i < 60 * r ∨ 60 * r + 60 ≤ i → s i = lm i)) ?_ ?_ 60 N 0 lm (by omega) (by omega) ⟨fun i hi => by omega, fun i _ => rfl⟩
  · obtain ⟨lm', e, e1, e2⟩ := this
    unfold F_R_sets
    rw [show (0 : Int32) = nI 0 from rfl, e, bO_s, gd_ix hr (by omega), nI_clamp (by omega)]
    obtain ⟨wd', t, t1, t2⟩ := RtrimsF_ok (wd := upd wd r 3) hN hr (show 3 ≤ 60 by omega) hB pk_us e1
    rw [t, bO_s]
    exact ⟨lm', wd', rfl, RG_put h hr (Nat.le_trans (nL_le.mpr hB) (by omega)) t1 e2 (fun k hk => (t2 k hk).trans (pk_un hk))⟩
  · intro f j s hj hi
    right
    have hd := dg_lt v j
    refine ⟨upd s (60 * r + j) (nI (dg v j)), ?_, fun i hij => ?_, fun i hio => ?_⟩
    · show R_sets_L3 (nI r) (lN v) (f + 1) (nI j) s = _
      rw [R_sets_L3, if_neg (by simp (disch := omega) only [k60, nI_leI, nI_ltI, nI_eq, nI_1, nI_add, pk_mul, nI_clamp]; omega)]
      by_cases q : 3 ≤ j
      · rw [if_pos (by simp (disch := omega) only [k3, nI_leI, nI_ltI, nI_eq, nI_1, nI_add, pk_mul, nI_clamp]; omega), ixR, gd_ix (by omega) (by omega), nI_clamp (by omega), dg_ge (v := v) (by have := nL_le.mpr hB; omega), nI_1]
        rfl
      · rw [if_neg (by simp (disch := omega) only [k3, nI_leI, nI_ltI, nI_eq, nI_1, nI_add, pk_mul, nI_clamp]; omega), ixR, gd_ix (by omega) (by omega), nI_clamp (by omega), k30, pk_mul, jshrLN (by omega) (by omega), msk30 (Nat.lt_of_le_of_lt (Nat.div_le_self _ _) (by omega)), lN_i, nI_1]
        rfl
    · by_cases q : i = j
      · rw [q, pk_us]
      · rw [pk_un (by omega)]; exact hi.1 i (by omega)
    · rw [pk_un (by omega)]; exact hi.2 i hio
  · intro f s hi
    refine ⟨s, ?_, hi⟩
    show R_sets_L3 (nI r) (lN v) (f + 1) (nI 60) s = _
    rw [R_sets_L3, if_pos (by simp (disch := omega) only [k60, nI_leI, nI_ltI, nI_eq, nI_1, nI_add, pk_mul, nI_clamp]; omega)]
theorem takes_ok {lm wd : Nat → Int32} {V : Nat → Option Nat} {r q v N : Nat} (hN : 100 ≤ N) (h : RG lm wd V) (hr : r < 28) (hq : V q = some v) (hne : r ≠ q) : ∃ lm' wd', F_R_takes N (nI r) (nI q) lm wd = some (lm', wd') ∧ RG lm' wd' (ru V r v) := by
  obtain ⟨hq1, hq2, hq3, hq4⟩ := h q v hq
  have := lpI (L := fun f j (s : Nat → Int32) => R_takes_L2 (nI q) (nI r) f (nI j) s) (n := 60)
    (fun j s => (∀ i, i < j → s (60 * r + i) = nI (dg v i)) ∧ (∀ i, i < 60 * r ∨ 60 * r + 60 ≤ i → s i = lm i))
    (fun s => (∀ i, i < 60 → s (60 * r + i) = nI (dg v i)) ∧ (∀ i, i < 60 * r ∨ 60 * r + 60 ≤ i → s i = lm i)) ?_ ?_ 60 N 0 lm (by omega) (by omega) ⟨fun i hi => by omega, fun i _ => rfl⟩
  · obtain ⟨lm', e, e1, e2⟩ := this
    unfold F_R_takes
    rw [show (0 : Int32) = nI 0 from rfl, e, bO_s, gd_ix hq1 (by omega), gd_ix hr (by omega), nI_clamp (by omega), nI_clamp (by omega)]
    exact ⟨lm', _, rfl, RG_put h hr hq2 ⟨by rw [pk_us]; exact hq3, e1⟩ e2 (fun k hk => pk_un hk)⟩
  · intro f j s hj hi
    right
    refine ⟨upd s (60 * r + j) (nI (dg v j)), ?_, fun i hij => ?_, fun i hio => ?_⟩
    · show R_takes_L2 (nI q) (nI r) (f + 1) (nI j) s = _
      rw [R_takes_L2, if_neg (by simp (disch := omega) only [k60, nI_leI, nI_ltI, nI_eq, nI_1, nI_add, pk_mul, nI_clamp]; omega), ixR, ixR, gd_ix (by omega) (by omega), gd_ix (by omega) (by omega), nI_clamp (by omega), nI_clamp (by omega), hi.2 (60 * q + j) (by omega), hq4 j hj, nI_1]
    · by_cases z : i = j
      · rw [z, pk_us]
      · rw [pk_un (by omega)]; exact hi.1 i (by omega)
    · rw [pk_un (by omega)]; exact hi.2 i hio
  · intro f s hi
    refine ⟨s, ?_, hi⟩
    show R_takes_L2 (nI q) (nI r) (f + 1) (nI 60) s = _
    rw [R_takes_L2, if_pos (by simp (disch := omega) only [k60, nI_leI, nI_ltI, nI_eq, nI_1, nI_add, pk_mul, nI_clamp]; omega)]
theorem times_ok {lm wd : Nat → Int32} {V : Nat → Option Nat} {r v c N : Nat} (hN : 100 ≤ N) (h : RG lm wd V) (hv : V r = some v) (hc : c < 2 ^ 30) (hT : c * v < Bp 50) : ∃ lm' wd', F_R_times N (nI r) (nI c) lm wd = some (lm', wd') ∧ RG lm' wd' (ru V r (c * v)) := by
  obtain ⟨hr, hw, h3, h4⟩ := h r v hv
  have := lpI (L := fun f j (s : Nat → Int32) => R_times_L5 (nI r) wd (nI c) f (lN (cy c v 0 0 j)) (nI j) s) (n := nL v)
    (fun j s => (∀ i, i < j → s (60 * r + i) = nI (dg (c * v) i)) ∧ (∀ i, i < 60 * r + j ∨ 60 * r + j ≤ i → (i < 60 * r ∨ 60 * r + j ≤ i) → s i = lm i))
    (fun t => t.1 = lN (cy c v 0 0 (nL v)) ∧ (∀ i, i < nL v → t.2 (60 * r + i) = nI (dg (c * v) i)) ∧ (∀ i, (i < 60 * r ∨ 60 * r + nL v ≤ i) → t.2 i = lm i)) ?_ ?_ (nL v) N 0 lm (by omega) (by omega) ⟨fun i hi => by omega, fun i _ _ => rfl⟩
  · rw [cy_0] at this
    obtain ⟨⟨x, s⟩, e, e1, e2, e3⟩ := this
    dsimp only at e1 e2 e3
    have hs := nL_self v
    have et : cy c v 0 0 (nL v) = c * v / Bp (nL v) := by rw [cy_T hs (Bp_pos _), Nat.zero_mul, Nat.add_zero]
    have hy := cy_le c v 0 0 (nL v)
    have hlt : c * v < Bp (nL v + 1) := by
      rw [Bp_S]
      have h5 : c * v / Bp (nL v) < 2 ^ 30 := by omega
      rw [Nat.div_lt_iff_lt_mul (Bp_pos _)] at h5
      rw [Nat.mul_comm (Bp (nL v))]; exact h5
    unfold F_R_times
    rw [show R_times_L5 (nI r) wd (nI c) N 0 0 lm = _ from e, bO_s, e1]
    show ∃ lm' wd', bO (if lg_cmp (lN (cy c v 0 0 (nL v))) 0 ≤ 0 then _ else _) _ = _ ∧ _
    by_cases h0 : cy c v 0 0 (nL v) = 0
    · have hl : c * v < Bp (nL v) := by
        rw [et] at h0
        exact (Nat.div_eq_zero_iff_lt (Bp_pos _)).mp h0
      rw [if_pos ((lN_le0 (by omega)).mpr h0), bO_s]
      obtain ⟨wd', t, t1, t2⟩ := RtrimsF_ok (lm := s) (wd := wd) hN hr (show nL v ≤ 60 by omega) hl h3 (fun i hi => by
        by_cases q : i < nL v
        · exact e2 i q
        · rw [e3 _ (by omega), h4 i hi, dg_ge (by omega), dg_ge (by have := nL_le.mpr hl; omega)])
      show ∃ lm' wd', bO (F_R_trims N (nI r) s wd) _ = _ ∧ _
      rw [t, bO_s]
      exact ⟨s, wd', rfl, RG_put h hr (nL_le.mpr hT) t1 (fun k hk => e3 k (by omega)) t2⟩
    · rw [if_neg (fun q => h0 ((lN_le0 (by omega)).mp q)), gd_ix hr (by omega), nI_clamp (by omega), h3, ixR, gd_ix (by omega) (by omega), bO_s, nI_clamp (by omega), lN_i, nI_1]
      have e5 : cy c v 0 0 (nL v) = dg (c * v) (nL v) := by
        have := cy_D c v 0 0 (nL v)
        rw [dg_ge (Nat.le_refl _), Nat.mul_zero, Nat.zero_mul, Nat.zero_mul, Nat.add_zero, Nat.zero_add, Nat.add_zero (c * v)] at this
        rw [← this, Nat.mod_eq_of_lt (by omega)]
      obtain ⟨wd', t, t1, t2⟩ := RtrimsF_ok (lm := upd s (60 * r + nL v) (nI (cy c v 0 0 (nL v)))) (wd := upd wd r (nI (nL v + 1))) hN hr (show nL v + 1 ≤ 60 by omega) hlt pk_us (fun i hi => by
        by_cases q : i = nL v
        · rw [q, pk_us, e5]
        · rw [pk_un (by omega)]
          by_cases q2 : i < nL v
          · exact e2 i q2
          · rw [e3 _ (by omega), h4 i hi, dg_ge (by omega), dg_ge (by have := nL_le.mpr hlt; omega)])
      show ∃ lm' wd', bO (F_R_trims N (nI r) (upd s (60 * r + nL v) (nI (cy c v 0 0 (nL v)))) (upd wd r (nI (nL v + 1)))) _ = _ ∧ _
      rw [t, bO_s]
      exact ⟨_, wd', rfl, RG_put h hr (nL_le.mpr hT) t1 (fun k hk => (pk_un (by omega)).trans (e3 k (by omega))) (fun k hk => (t2 k hk).trans (pk_un hk))⟩
  · intro f j s hj hi
    right
    have hb := dg_lt v j
    have hy := cy_le c v 0 0 j
    have hm : c * dg v j ≤ 2 ^ 30 * 2 ^ 30 := Nat.mul_le_mul (by omega) (by omega)
    have e1 : (nI (dg v j)).toInt64 * (nI c).toInt64 + lN (cy c v 0 0 j) = lN (c * dg v j + 0 * dg 0 j + cy c v 0 0 j) := by
      rw [nIL (by omega), nIL (by omega), lN_mul, lN_add, Nat.mul_comm (dg v j), Nat.zero_mul, Nat.add_zero]
    refine ⟨upd s (60 * r + j) (nI (dg (c * v) j)), ?_, fun i hij => ?_, fun i _ hio => ?_⟩
    · show R_times_L5 (nI r) wd (nI c) (f + 1) (lN (cy c v 0 0 j)) (nI j) s = R_times_L5 (nI r) wd (nI c) f (lN (cy c v 0 0 (j + 1))) (nI (j + 1)) _
      rw [R_times_L5, gd_ix hr (by omega), nI_clamp (by omega), h3, if_neg (by simp (disch := omega) only [nI_leI, nI_ltI, nI_eq, nI_1, nI_add, pk_mul, nI_clamp]; omega), ixR, gd_ix (by omega) (by omega), nI_clamp (by omega), hi.2 (60 * r + j) (by omega) (by omega), h4 j (by omega), e1, jshr30 (by omega), cy_S, msk30 (by omega), cy_D, lN_i, nI_1, Nat.zero_mul, Nat.add_zero (c * v)]
    · by_cases z : i = j
      · rw [z, pk_us]
      · rw [pk_un (by omega)]; exact hi.1 i (by omega)
    · rw [pk_un (by omega)]; exact hi.2 i (by omega) (by omega)
  · intro f s hi
    refine ⟨(lN (cy c v 0 0 (nL v)), s), ?_, rfl, hi.1, fun i hio => hi.2 i (by omega) hio⟩
    show R_times_L5 (nI r) wd (nI c) (f + 1) (lN (cy c v 0 0 (nL v))) (nI (nL v)) s = _
    rw [R_times_L5, gd_ix hr (by omega), nI_clamp (by omega), h3, if_pos (by simp (disch := omega) only [nI_leI, nI_ltI, nI_eq, nI_1, nI_add, pk_mul, nI_clamp]; omega)]
