-- THE NUMBERS OF AN ITEM
def TokAt (N n : Nat) (tx : Nat → Nat) (row text : Nat → Int32) (i c s e v : Nat) : Prop := Tk n tx i c s e v ∧
    (∀ num, ∃ a num', F_Text_nextToken N (nI n) (nI i) num row = some (a, ctok c, nI s, num') ∧ (c ≠ 0 → a = nI e) ∧ (c = 2 → num' = nI v)) ∧
    (∀ val, ∃ val', F_R_scans N (nI n) (nI i) val text = some (nI e, nI s, rtok c, val') ∧ (c = 2 → val' = nI v))
theorem tokAt {N n i : Nat} {tx : Nat → Nat} {row text : Nat → Int32} (hN : 1000 ≤ N) (h : TxC n tx row) (ht : TxC n tx text) (hi : i ≤ n) : ∃ c s e v, TokAt N n tx row text i c s e v := tok_ok hN h ht hi
def lst (k : Nat) : Nat := [1, 2, 3, 3, 2, 2, 2].getD k 0
def mst (k : Nat) : Nat := [1, 2, 3, 3, 2, 7, 2].getD k 0
theorem lst_facts : ∀ k, k < 7 → 1 ≤ lst k ∧ lst k ≤ mst k ∧ mst k ≤ 7 ∧ g_LEAST_NUMBERS_OF k = nI (lst k) ∧ g_MOST_NUMBERS_OF k = nI (mst k) ∧ F_R_fewestOf (nI (k + 10)) = nI (lst k) ∧ F_R_mostOf (nI (k + 10)) = nI (mst k) ∧ (k ≠ 0 → 2 ≤ lst k) := by decide +kernel
theorem ct1 : ∀ c, c ≤ 10 → (ctok c = -2 ↔ c = 1) := by decide +kernel
theorem ct2 : ∀ c, c ≤ 10 → (ctok c = -3 ↔ c = 2) := by decide +kernel
theorem ct0 : ∀ c, c ≤ 10 → (ctok c = -1 ↔ c = 0) := by decide +kernel
theorem ctn : ∀ c, c ≤ 10 → (ctok c < 0 ↔ c < 4) := by decide +kernel
theorem rt1 : ∀ c, c ≤ 10 → (rtok c = 3 ↔ c = 1) := by decide +kernel
theorem rt2 : ∀ c, c ≤ 10 → (rtok c = 2 ↔ c = 2) := by decide +kernel
theorem rt0 : ∀ c, c ≤ 10 → (rtok c = 0 ↔ c = 0) := by decide +kernel
theorem rtk : ∀ c, c ≤ 10 → (10 ≤ rtok c ↔ 4 ≤ c) := by decide +kernel
theorem ctk : ∀ c, c ≤ 10 → 4 ≤ c → ctok c = nI (c - 4) ∧ rtok c = nI (c - 4 + 10) := by decide +kernel
/-- the values read so far -/
def VR (nu : Nat → Nat → Int32) (ns : Nat → Int32) (x m : Nat) : Prop := ∀ j, j < m → ∃ v, v ≤ 999 ∧ nu x j = nI v ∧ ns (7 * x + j) = nI v
theorem nums_ok {N n k x i0 : Nat} {tx : Nat → Nat} {row text ik no : Nat → Int32} (hN : 1000 ≤ N) (h : TxC n tx row) (ht : TxC n tx text) (hk : k < 7) (hx : x < 34) (nu0 : Nat → Nat → Int32) (ns0 : Nat → Int32) :
    ∀ (d f g i j c s e v : Nat) (nu : Nat → Nat → Int32) (ns : Nat → Int32) (a1 a2 a3 val : Int32), d + j = 8 → d < f → d < g → j ≤ mst k → TokAt N n tx row text i c s e v → i ≤ n → (c = 2 → val = nI v) → VR nu ns x j → (∀ y, y ≠ x → nu y = nu0 y) → (∀ p, (p < 7 * x ∨ 7 * x + 7 ≤ p) → ns p = ns0 p) → (j = 0 → i = i0) → (1 ≤ j → i0 + 2 * j ≤ i + 1 ∧ (i < n → ¬ (48 ≤ tx i ∧ tx i ≤ 57))) →
    ∃ (r : Int32 × Int32 × Int32 × Int32 × Int32 × (Nat → Int32) × (Nat → Int32) × (Nat → Nat → Int32)) (m c' s' e' v' i' : Nat) (ns' : Nat → Int32) (val' : Int32),
      Text_readNumbers_L9 N (nI n) row (nI k) ik no (nI x) f (nI j) nu (nI i) a1 a2 a3 = some (.inl r) ∧
      R_readsText_L40 N (nI (k + 10)) (nI x) (nI n) text g (nI j) ns (nI e) (nI s) (rtok c) val = some (nI m, ns', nI e', nI s', rtok c', val') ∧
      TokAt N n tx row text i' c' s' e' v' ∧ m ≤ mst k ∧ (∀ p, (p < 7 * x ∨ 7 * x + 7 ≤ p) → ns' p = ns0 p) ∧
      ((c' = 1 ∧ lst k ≤ m ∧ r.1 = -1 ∧ r.2.1 = nI e' ∧ r.2.2.2.2.2.1 = ik ∧ r.2.2.2.2.2.2.1 = upd no x (nI m) ∧ VR r.2.2.2.2.2.2.2 ns' x m ∧ (∀ y, y ≠ x → r.2.2.2.2.2.2.2 y = nu0 y) ∧ i0 + 2 * m ≤ e') ∨
       ((c' ≠ 1 ∨ m < lst k) ∧ r.1 = nI s')) := by
  have hn := h.1
  obtain ⟨q1, q2, q3, q4, q5, q6, q7, q8⟩ := lst_facts k hk
  intro d
  induction d with
  | zero => intro f g i j c s e v nu ns a1 a2 a3 val hj _ _ hjm; omega
  | succ d ih =>
    intro f g i j c s e v nu ns a1 a2 a3 val hj hf hg hjm hT hi hval hV hnu hns h0 h1
    obtain ⟨f, rfl⟩ : ∃ z, f = z + 1 := ⟨f - 1, by omega⟩
    obtain ⟨g, rfl⟩ : ∃ z, g = z + 1 := ⟨g - 1, by omega⟩
    have hT' := hT
    obtain ⟨⟨t1, t2, t3, t4, t5, t6, t7, t8, t9, t10⟩, hC, hR⟩ := hT'
    obtain ⟨a, num', eC, ea, en⟩ := hC a3
    rw [Text_readNumbers_L9, R_readsText_L40, if_neg (by simp (disch := omega) only [k7, nI_leI, nI_ltI, nI_eq, nI_1, nI_add, pk_mul, nI_clamp]; omega), eC, bO_s]
    dsimp only [u4]
    by_cases c1 : c = 1
    · -- a stop
      have nr2 : ¬ rtok c = 2 := fun q => by have := (rt2 c t5).mp q; omega
      have nc2 : ¬ ctok c = -3 := fun q => by have := (ct2 c t5).mp q; omega
      rw [if_pos ((ct1 c t5).mpr c1), if_neg nr2, gd_ix (by omega) (by omega), nI_clamp (by omega), q4]
      by_cases hl : lst k ≤ j
      · rw [if_neg (by simp (disch := omega) only [nI_leI, nI_ltI, nI_eq, nI_1, nI_add, pk_mul, nI_clamp]; omega), bL_l, nI_clamp (by omega)]
        refine ⟨_, j, c, s, e, v, i, ns, val, rfl, rfl, hT, hjm, hns, Or.inl ⟨c1, hl, rfl, ea (by omega), rfl, rfl, hV, hnu, ?_⟩⟩
        have := t7 (by omega)
        have := h1 (by omega)
        omega
      · rw [if_pos (by simp (disch := omega) only [nI_leI, nI_ltI, nI_eq, nI_1, nI_add, pk_mul, nI_clamp]; omega), bL_r]
        dsimp only [u0]
        rw [if_neg nc2]
        exact ⟨_, j, c, s, e, v, i, ns, val, rfl, rfl, hT, hjm, hns, Or.inr ⟨Or.inr (by omega), rfl⟩⟩
    · have nc1 : ¬ ctok c = -2 := fun q => c1 ((ct1 c t5).mp q)
      rw [if_neg nc1, bL_r]
      dsimp only [u0]
      by_cases c2 : c = 2
      · rw [if_pos ((ct2 c t5).mpr c2), if_pos ((rt2 c t5).mpr c2), gd_ix (by omega) (by omega), nI_clamp (show k < 2 ^ 31 by omega), q5, q7]
        by_cases hm : j < mst k
        · obtain ⟨v1, v2, v3, v4⟩ := t8 c2
          have hjl : nI j < nI (mst k) := by simp (disch := omega) only [nI_leI, nI_ltI, nI_eq, nI_1, nI_add, pk_mul, nI_clamp]; omega
          have hjg : ¬ nI (mst k) ≤ nI j := by simp (disch := omega) only [nI_leI, nI_ltI, nI_eq, nI_1, nI_add, pk_mul, nI_clamp]; omega
          rw [if_pos hjl, if_neg hjg, gd_ix (by omega) (by omega), k7, pk_mul, nI_add, gd_ix (by omega) (by omega), nI_clamp (show x < 2 ^ 31 by omega), nI_clamp (show j < 2 ^ 31 by omega), nI_clamp (show 7 * x + j < 2 ^ 31 by omega), nI_1, ea (by omega), en c2, hval c2]
          obtain ⟨c', s', e', v', hT2⟩ := tokAt hN h ht t3
          obtain ⟨val', eR, er⟩ := hT2.2.2 (nI v)
          rw [eR, bO_s]
          have hs0 : s < e := t7 (by omega)
          have := ih f g e (j + 1) c' s' e' v' (va_up nu x (upd (nu x) j (nI v))) (upd ns (7 * x + j) (nI v)) (ctok c) (nI s) (nI v) val' (by omega) (by omega) (by omega) (by omega) hT2 t3 er (by
              intro l hl
              by_cases z : l = j
              · exact ⟨v, v1, by rw [vu_s, z, pk_us], by rw [z, pk_us]⟩
              · obtain ⟨w, w1, w2, w3⟩ := hV l (by omega)
                exact ⟨w, w1, by rw [vu_s, pk_un z]; exact w2, by rw [pk_un (by omega)]; exact w3⟩)
            (fun y hy => by rw [vu_n hy]; exact hnu y hy) (fun p hp => by rw [pk_un (by omega)]; exact hns p hp) (fun q => by omega) (fun _ => ⟨by
              by_cases j0 : j = 0
              · have := h0 j0; omega
              · obtain ⟨w1, w2⟩ := h1 (by omega)
                have hsi : i ≠ s := fun q => by
                  rw [← q] at v2 v3
                  exact w2 (by omega) ⟨v2, v3⟩
                omega, v4⟩)
          exact this
        · have hjl : ¬ nI j < nI (mst k) := by simp (disch := omega) only [nI_leI, nI_ltI, nI_eq, nI_1, nI_add, pk_mul, nI_clamp]; omega
          have hjg : nI (mst k) ≤ nI j := by simp (disch := omega) only [nI_leI, nI_ltI, nI_eq, nI_1, nI_add, pk_mul, nI_clamp]; omega
          rw [if_neg hjl, if_pos hjg]
          exact ⟨_, j, c, s, e, v, i, ns, val, rfl, rfl, hT, hjm, hns, Or.inr ⟨Or.inl c1, rfl⟩⟩
      · have nr2 : ¬ rtok c = 2 := fun q => c2 ((rt2 c t5).mp q)
        have nc2 : ¬ ctok c = -3 := fun q => c2 ((ct2 c t5).mp q)
        rw [if_neg nc2, if_neg nr2]
        exact ⟨_, j, c, s, e, v, i, ns, val, rfl, rfl, hT, hjm, hns, Or.inr ⟨Or.inl c1, rfl⟩⟩
