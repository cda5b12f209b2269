-- NEWS: one picture of both
abbrev n_W : Type := Nat × Option Nat × (Nat → Nat → Bool) × (Nat → Nat → Bool) × (Nat → Nat) × (Nat → Nat)
abbrev n_n (W : n_W) : Nat := W.1
abbrev n_x (W : n_W) : Option Nat := W.2.1
abbrev n_H (W : n_W) : Nat → Nat → Bool := W.2.2.1
abbrev n_S (W : n_W) : Nat → Nat → Bool := W.2.2.2.1
abbrev n_te (W : n_W) : Nat → Nat := W.2.2.2.2.1
abbrev n_lo (W : n_W) : Nat → Nat := W.2.2.2.2.2
def nSp (W : n_W) (t u : Nat) : Bool := match n_x W with
  | none => false
  | some i => n_S W i u && (n_lo W i).testBit (t % 12)
def nT (W : n_W) (K : Nat → Nat) (t u : Nat) : Bool := decide (u < n_n W) && (decide (K u ≤ t) && ((n_te W u).testBit (t % 12) && !(nSp W t u)))
def nC (W : n_W) (K : Nat → Nat) (t v u : Nat) : Bool := decide (v < n_n W) && (decide (K v = 1000000) && (!(decide (n_x W = some v)) && (n_H W v u && (n_lo W v).testBit (t % 12))))
def nin (W : n_W) (K0 : Nat → Nat) (B0 : Nat → Int32) (t : Nat) : Nat → (Nat → Nat) × (Nat → Int32)
  | 0 => (K0, B0)
  | u + 1 => ((fun v => if (nT W K0 t u && nC W (nin W K0 B0 t u).1 t v u) = true then t + 1 else (nin W K0 B0 t u).1 v), (fun v => if (nT W K0 t u && nC W (nin W K0 B0 t u).1 t v u) = true then nI u else (nin W K0 B0 t u).2 v))
def nrun (W : n_W) : Nat → Nat → (Nat → Nat) × (Nat → Int32) → (Nat → Nat) × (Nat → Int32)
  | 0, _, s => s
  | d + 1, t, s => nrun W d (t + 1) (nin W s.1 s.2 t 8)
def nok (W : n_W) : Prop := n_n W ≤ 8 ∧ (∀ i, n_x W = some i → i < n_n W) ∧ (∀ v u, n_H W v u = true → n_S W v u = true) ∧ (∀ w, w < n_n W → n_te W w < 4096 ∧ n_lo W w < 4096)
/-- K at time t: not known, or known by t; nobody beyond n -/
def nK (W : n_W) (K : Nat → Nat) (t : Nat) : Prop := ∀ v, (K v = 1000000 ∨ K v ≤ t) ∧ (n_n W ≤ v → K v = 1000000)
theorem nK0 {W : n_W} {a s : Nat} (ha : a < n_n W) : nK W (fun v => if v = a then s else 1000000) s := by
  intro v
  show ((if v = a then s else 1000000) = 1000000 ∨ (if v = a then s else 1000000) ≤ s) ∧ (n_n W ≤ v → (if v = a then s else 1000000) = 1000000)
  by_cases e : v = a
  · subst e
    rw [if_pos rfl]
    exact ⟨Or.inr (Nat.le_refl s), fun h => absurd ha (Nat.not_lt.mpr h)⟩
  · rw [if_neg e]
    exact ⟨Or.inl rfl, fun _ => rfl⟩
theorem nin_or (W : n_W) (K0 : Nat → Nat) (B0 : Nat → Int32) (t : Nat) : ∀ u v, (nin W K0 B0 t u).1 v = K0 v ∨ (K0 v = 1000000 ∧ (nin W K0 B0 t u).1 v = t + 1 ∧ v < n_n W)
  | 0, v => Or.inl rfl
  | u + 1, v => by
    have ih := nin_or W K0 B0 t u v
    show (if (nT W K0 t u && nC W (nin W K0 B0 t u).1 t v u) = true then t + 1 else (nin W K0 B0 t u).1 v) = K0 v ∨ _ ∧ (if (nT W K0 t u && nC W (nin W K0 B0 t u).1 t v u) = true then t + 1 else (nin W K0 B0 t u).1 v) = _ ∧ _
    by_cases h : (nT W K0 t u && nC W (nin W K0 B0 t u).1 t v u) = true
    · rw [if_pos h]
      have h2 : nC W (nin W K0 B0 t u).1 t v u = true := (Bool.and_eq_true_iff.mp h).2
      unfold nC at h2
      simp only [Bool.and_eq_true, decide_eq_true_eq] at h2
      rcases ih with h3 | ⟨h3, h4, h5⟩
      · exact Or.inr ⟨h3 ▸ h2.2.1, rfl, h2.1⟩
      · exact Or.inr ⟨h3, rfl, h5⟩
    · rw [if_neg h]; exact ih
theorem nin_K {W : n_W} {K0 : Nat → Nat} {B0 : Nat → Int32} {t u : Nat} (h : nK W K0 t) : nK W (nin W K0 B0 t u).1 (t + 1) := by
  intro v
  have h1 := h v
  rcases nin_or W K0 B0 t u v with h2 | ⟨h2, h3, h4⟩
  · rw [h2]; exact ⟨by omega, h1.2⟩
  · rw [h3]; exact ⟨Or.inr (by omega), fun h5 => by omega⟩
theorem nin_le {W : n_W} {K0 : Nat → Nat} {B0 : Nat → Int32} {t u v : Nat} (ht : t < 240) : ((nin W K0 B0 t u).1 v ≤ t) = (K0 v ≤ t) := by
  rcases nin_or W K0 B0 t u v with h2 | ⟨h2, h3, h4⟩
  · rw [h2]
  · rw [h3, h2]; apply propext; constructor <;> intro h <;> omega
/-- beyond the weavers nobody tells -/
theorem nin_tail {W : n_W} {K0 : Nat → Nat} {B0 : Nat → Int32} {t : Nat} : ∀ d, nin W K0 B0 t (n_n W + d) = nin W K0 B0 t (n_n W)
  | 0 => rfl
  | d + 1 => by
    have h : nT W K0 t (n_n W + d) = false := by unfold nT; rw [decide_eq_false (show ¬ (n_n W + d < n_n W) by omega)]; rfl
    have e : nin W K0 B0 t (n_n W + (d + 1)) = nin W K0 B0 t (n_n W + d) := by
      rw [← Nat.add_assoc]
      generalize n_n W + d = m at h
      show (_, _) = _
      simp only [h, Bool.false_and, Bool.false_eq_true, if_false]
    rw [e, nin_tail d]
/-- everybody knows: nothing changes -/
theorem nin_full {W : n_W} {K0 : Nat → Nat} {B0 : Nat → Int32} {t : Nat} (h : ∀ v, v < n_n W → K0 v ≠ 1000000) : ∀ u, nin W K0 B0 t u = (K0, B0)
  | 0 => rfl
  | u + 1 => by
    have h1 : ∀ v, nC W K0 t v u = false := by
      intro v
      unfold nC
      by_cases hv : v < n_n W
      · simp [h v hv]
      · simp [hv]
    have ih := nin_full (t := t) (B0 := B0) h u
    show (_, _) = _
    simp only [ih, h1, Bool.and_false, Bool.false_eq_true, if_false]
theorem nrun_full {W : n_W} : ∀ (d t : Nat) (s : (Nat → Nat) × (Nat → Int32)), (∀ v, v < n_n W → s.1 v ≠ 1000000) → nrun W d t s = s
  | 0, _, _, _ => rfl
  | d + 1, t, s, h => by
    show nrun W d (t + 1) (nin W s.1 s.2 t 8) = s
    rw [nin_full h 8]
    exact nrun_full d (t + 1) s h
-- the class
def sI (k : Nat) : Int32 := if k = 1000000 then -1 else nI k
theorem write_ok {N : Nat} (hN : 100 ≤ N) (c : Nat → Bool) (p q : Int32) (since told : Nat → Int32) : F_News_write N (nI (bm 8 c)) p q since told = some ((fun v => if (decide (v < 8) && c v) = true then p else since v), (fun v => if (decide (v < 8) && c v) = true then q else told v)) := by
  unfold F_News_write
  have h1 : News_write_L3 (nI (bm 8 c)) p q N 0 since told = some ((fun v => if (decide (v < 8) && c v) = true then p else since v), (fun v => if (decide (v < 8) && c v) = true then q else told v)) := lp0 (L := fun f j => News_write_L3 (nI (bm 8 c)) p q f (nI j) (fun v => if (decide (v < j) && c v) = true then p else since v) (fun v => if (decide (v < j) && c v) = true then q else told v)) (n := 8) (fun f j hj => by
        have h5 : ¬ (8 : Nat) ≤ j := by omega
        show News_write_L3 (nI (bm 8 c)) p q (f + 1) (nI j) _ _ = News_write_L3 (nI (bm 8 c)) p q f (nI (j + 1)) _ _
        rw [News_write_L3]
        simp (disch := omega) only [k8, nI_leI, nI_ltI, nI_eq, nI_1, nI_add, pk_mul, nI_clamp, gd_ix, h5, if_false, mk_has (show 8 ≤ 32 by omega) hj, bI_0]
        by_cases hc : c j = false
        · rw [if_pos hc]
          congr 1
          · funext v
            by_cases e : v = j
            · subst e; simp [hc]
            · simp [show v < j + 1 ↔ v < j by omega]
          · funext v
            by_cases e : v = j
            · subst e; simp [hc]
            · simp [show v < j + 1 ↔ v < j by omega]
        · rw [if_neg hc]
          have hc2 : c j = true := by simpa using hc
          congr 1
          · funext v
            by_cases e : v = j
            · subst e; rw [pk_us]; simp [hc2]
            · rw [pk_un e]; simp [show v < j + 1 ↔ v < j by omega]
          · funext v
            by_cases e : v = j
            · subst e; rw [pk_us]; simp [hc2]
            · rw [pk_un e]; simp [show v < j + 1 ↔ v < j by omega]) (fun f => by
        show News_write_L3 (nI (bm 8 c)) p q (f + 1) (nI 8) _ _ = _
        rw [News_write_L3]
        rfl) (by omega)
  rw [h1, bO_s]; rfl
theorem tell_ok {N t : Nat} {W : n_W} {K0 : Nat → Nat} {B0 : Nat → Int32} {since told aud : Nat → Int32} (hN : 100 ≤ N) (hW : nok W) (ht : t < 240) (hK : nK W K0 t)
    (hs : ∀ v, v < 8 → since v = sI (K0 v)) (hb : ∀ v, v < 8 → told v = B0 v) (ha : ∀ w, w < 8 → aud w = nI (bm 8 (fun v => decide (v < n_n W) && (decide (w < n_n W) && n_H W v w)))) :
    ∃ since' told', F_News_tellInSecond N (nI t) (nI (bm 8 (nT W K0 t))) (nI (bm 8 (fun v => decide (v < n_n W) && ((n_lo W v).testBit (t % 12) && decide (K0 v = 1000000))))) since told aud = some (nI (bm 8 (fun v => decide ((nin W K0 B0 t 8).1 v ≠ K0 v))), since', told') ∧
      (∀ v, v < 8 → since' v = sI ((nin W K0 B0 t 8).1 v)) ∧ (∀ v, v < 8 → told' v = (nin W K0 B0 t 8).2 v) := by
  have key : ∀ (f j : Nat) (since told : Nat → Int32), j ≤ 8 → 8 - j < f → (∀ v, v < 8 → since v = sI ((nin W K0 B0 t j).1 v)) → (∀ v, v < 8 → told v = (nin W K0 B0 t j).2 v) →
      ∃ since' told', News_tellInSecond_L6 N (nI (bm 8 (nT W K0 t))) aud (nI (bm 8 (fun v => decide (v < n_n W) && ((n_lo W v).testBit (t % 12) && decide (K0 v = 1000000))))) (nI t) f (nI (bm 8 (fun v => decide ((nin W K0 B0 t j).1 v ≠ K0 v)))) (nI j) since told = some (nI (bm 8 (fun v => decide ((nin W K0 B0 t 8).1 v ≠ K0 v))), since', told') ∧
      (∀ v, v < 8 → since' v = sI ((nin W K0 B0 t 8).1 v)) ∧ (∀ v, v < 8 → told' v = (nin W K0 B0 t 8).2 v) := by
    intro f
    induction f with
    | zero => intro j _ _ _ h; omega
    | succ f ih =>
      intro j since told hj hf hs hb
      rw [News_tellInSecond_L6]
      by_cases h8 : j = 8
      · subst h8
        exact ⟨since, told, rfl, hs, hb⟩
      · have h5 : ¬ (8 : Nat) ≤ j := by omega
        simp (disch := omega) only [k8, nI_leI, nI_ltI, nI_eq, nI_1, nI_add, pk_mul, nI_clamp, gd_ix, h5, if_false, mk_has (show 8 ≤ 32 by omega) (show j < 8 by omega), bI_0]
        by_cases hT : nT W K0 t j = false
        · rw [if_pos hT]
          have e : nin W K0 B0 t (j + 1) = nin W K0 B0 t j := by
            show (_, _) = _
            simp only [hT, Bool.false_and, Bool.false_eq_true, if_false]
          have h := ih (j + 1) since told (by omega) (by omega) (by rw [e]; exact hs) (by rw [e]; exact hb)
          rw [e] at h
          exact h
        · rw [if_neg hT]
          have hT2 : nT W K0 t j = true := by simpa using hT
          have hT3 := hT2
          unfold nT at hT3
          simp only [Bool.and_eq_true, decide_eq_true_eq, Bool.not_eq_true'] at hT3
          obtain ⟨hjn, hKj, hte, hsp⟩ := hT3
          have hfresh : (nI (bm 8 (fun v => decide (v < n_n W) && (decide (j < n_n W) && n_H W v j))) &&& nI (bm 8 (fun v => decide (v < n_n W) && ((n_lo W v).testBit (t % 12) && decide (K0 v = 1000000))))) &&& (nI (bm 8 (fun v => decide ((nin W K0 B0 t j).1 v ≠ K0 v))) ^^^ (-1)) = nI (bm 8 (fun v => nC W (nin W K0 B0 t j).1 t v j)) := by
            rw [mk_and, mk_andn (by omega)]
            congr 1
            apply bm_cong
            intro v hv
            unfold nC
            apply Bool.eq_iff_iff.mpr
            simp only [Bool.and_eq_true, decide_eq_true_eq, Bool.not_eq_true', decide_eq_false_iff_not, Decidable.not_not]
            constructor
            · rintro ⟨⟨⟨a1, a2, a3⟩, a4, a5, a6⟩, a7⟩
              refine ⟨a1, a7.trans a6, fun a8 => ?_, a3, a5⟩
              have h9 : nSp W t j = true := by
                unfold nSp
                rw [a8]
                simp only [hW.2.2.1 v j a3, a5, Bool.and_self]
              rw [h9] at hsp; cases hsp
            · rintro ⟨a1, a2, a3, a4, a5⟩
              have h9 : K0 v = 1000000 := by
                rcases nin_or W K0 B0 t j v with h2 | ⟨h2, h3, h4⟩
                · rw [← h2]; exact a2
                · exact h2
              exact ⟨⟨⟨a1, hjn, a4⟩, a1, a5, h9⟩, a2.trans h9.symm⟩
          rw [ha j (by omega), hfresh, write_ok hN, bO_s]
          have hor : nI (bm 8 (fun v => decide ((nin W K0 B0 t j).1 v ≠ K0 v))) ||| nI (bm 8 (fun v => nC W (nin W K0 B0 t j).1 t v j)) = nI (bm 8 (fun v => decide ((nin W K0 B0 t (j + 1)).1 v ≠ K0 v))) := by
            rw [mk_or]
            congr 1
            apply bm_cong
            intro v hv
            show _ = decide ((if (nT W K0 t j && nC W (nin W K0 B0 t j).1 t v j) = true then t + 1 else (nin W K0 B0 t j).1 v) ≠ K0 v)
            rw [hT2, Bool.true_and]
            by_cases hc : nC W (nin W K0 B0 t j).1 t v j = true
            · rw [if_pos hc, hc, Bool.or_true]
              have hk := (hK v).1
              symm
              apply decide_eq_true
              omega
            · rw [if_neg hc]
              have hc2 : nC W (nin W K0 B0 t j).1 t v j = false := by simpa using hc
              rw [hc2, Bool.or_false]
          show ∃ since' told', News_tellInSecond_L6 N _ aud _ (nI t) f (_ ||| _) _ _ _ = _ ∧ _
          rw [hor]
          apply ih (j + 1) _ _ (by omega) (by omega)
          · intro v hv
            show (if (decide (v < 8) && nC W (nin W K0 B0 t j).1 t v j) = true then nI (t + 1) else since v) = sI (if (nT W K0 t j && nC W (nin W K0 B0 t j).1 t v j) = true then t + 1 else (nin W K0 B0 t j).1 v)
            rw [hT2, Bool.true_and, decide_eq_true hv, Bool.true_and]
            by_cases hc : nC W (nin W K0 B0 t j).1 t v j = true
            · rw [if_pos hc, if_pos hc]; unfold sI; rw [if_neg (by omega)]
            · rw [if_neg hc, if_neg hc, hs v hv]
          · intro v hv
            show (if (decide (v < 8) && nC W (nin W K0 B0 t j).1 t v j) = true then nI j else told v) = (if (nT W K0 t j && nC W (nin W K0 B0 t j).1 t v j) = true then nI j else (nin W K0 B0 t j).2 v)
            rw [hT2, Bool.true_and, decide_eq_true hv, Bool.true_and, hb v hv]
  unfold F_News_tellInSecond
  have h0 : nI (bm 8 (fun v => decide ((nin W K0 B0 t 0).1 v ≠ K0 v))) = 0 := by
    rw [mk_eq0 (by omega)]
    intro i hi
    show decide (K0 i ≠ K0 i) = false
    simp
  obtain ⟨s', t', e1, e2, e3⟩ := key N 0 since told (by omega) (by omega) hs hb
  rw [h0] at e1
  have e1' : News_tellInSecond_L6 N (nI (bm 8 (nT W K0 t))) aud (nI (bm 8 (fun v => decide (v < n_n W) && ((n_lo W v).testBit (t % 12) && decide (K0 v = 1000000))))) (nI t) N 0 0 since told = _ := e1
  rw [e1', bO_s]
  exact ⟨s', t', rfl, e2, e3⟩
