-- THE ITEMS
def ItR (cnt : Nat) (ik no : Nat → Int32) (nu : Nat → Nat → Int32) (vb mn ns : Nat → Int32) : Prop := ∀ x, x < cnt → ∃ k m, k < 7 ∧ lst k ≤ m ∧ m ≤ mst k ∧ ik x = nI k ∧ no x = nI m ∧ vb x = nI (k + 10) ∧ mn x = nI m ∧ VR nu ns x m
theorem items_ok {N n : Nat} {tx : Nat → Nat} {row text : Nat → Int32} (hN : 1000 ≤ N) (h : TxC n tx row) (ht : TxC n tx text) :
    ∀ (d f g x i c s e v : Nat) (ik no : Nat → Int32) (nu : Nat → Nat → Int32) (vb mn ns : Nat → Int32) (a1 a2 a3 val : Int32), n < i + d → d ≤ f → d ≤ g → TokAt N n tx row text i c s e v → i ≤ n → 7 * x ≤ i → (c = 2 → val = nI v) → ItR x ik no nu vb mn ns → 0 < d →
    ∃ u r, Text_readItems_L12 N (nI n) row f (nI x) ik no nu (nI i) (nI x) a1 a2 a3 = some (.inl u) ∧ R_readsText_L14 N (nI n) text g vb mn ns (nI e) (nI x) (nI s) (rtok c) val = some r ∧
      ((u.1 = -1 ∧ ∃ cnt, cnt ≤ 34 ∧ u.2.1 = nI cnt ∧ ∃ w, r = .inr w ∧ w.2.2.2.2.1 = nI cnt ∧ ItR cnt u.2.2.2.2.2.2.1 u.2.2.2.2.2.2.2.1 u.2.2.2.2.2.2.2.2 w.1 w.2.1 w.2.2.1) ∨
       (∃ q, q ≤ 240 ∧ u.1 = nI q ∧ ∃ w, r = .inl w ∧ w.1 = 0 ∧ w.2.2.1 = nI q)) := by
  have hn := h.1
  intro d
  induction d with
  | zero => intro f g x i c s e v ik no nu vb mn ns a1 a2 a3 val _ _ _ _ _ _ _ _ q; omega
  | succ d ih =>
    intro f g x i c s e v ik no nu vb mn ns a1 a2 a3 val hd hf hg hT hi h7 hval hI _
    obtain ⟨f, rfl⟩ : ∃ z, f = z + 1 := ⟨f - 1, by omega⟩
    obtain ⟨g, rfl⟩ : ∃ z, g = z + 1 := ⟨g - 1, by omega⟩
    have hT' := hT
    obtain ⟨⟨t1, t2, t3, t4, t5, t6, t7, t8, t9, t10⟩, hC, hR⟩ := hT'
    obtain ⟨a, num', eC, ea, en⟩ := hC a3
    rw [Text_readItems_L12, R_readsText_L14, if_neg (show ¬ (34 : Int32) < nI x by simp (disch := omega) only [k34, nI_leI, nI_ltI, nI_eq, nI_1, nI_add, pk_mul, nI_clamp]; omega), eC, bO_s]
    dsimp only [u4]
    by_cases c0 : c = 0
    · have n0 : ctok c = -1 := (ct0 c t5).mpr c0
      have r0 : rtok c = 0 := (rt0 c t5).mpr c0
      rw [if_pos n0, if_pos r0]
      exact ⟨_, _, rfl, rfl, Or.inl ⟨rfl, x, by omega, rfl, _, rfl, rfl, hI⟩⟩
    have n0 : ¬ ctok c = -1 := fun q => c0 ((ct0 c t5).mp q)
    have r0 : ¬ rtok c = 0 := fun q => c0 ((rt0 c t5).mp q)
    rw [if_neg n0, if_neg r0]
    by_cases c4 : c < 4
    · have n4 : ctok c < 0 := (ctn c t5).mpr c4
      have r4 : ¬ 10 ≤ rtok c := fun q => by have := (rtk c t5).mp q; omega
      rw [if_pos n4, if_neg r4]
      exact ⟨_, _, rfl, rfl, Or.inr ⟨s, by omega, rfl, _, rfl, rfl, rfl⟩⟩
    have n4 : ¬ ctok c < 0 := fun q => c4 ((ctn c t5).mp q)
    have r4 : 10 ≤ rtok c := (rtk c t5).mpr (by omega)
    have hlen := t10 (by omega)
    have hx : x < 34 := by omega
    obtain ⟨k, hk⟩ : ∃ k, k = c - 4 := ⟨_, rfl⟩
    have hk7 : k < 7 := by omega
    obtain ⟨ek1, ek2⟩ := ctk c t5 (by omega)
    rw [← hk] at ek1 ek2
    obtain ⟨q1, q2, q3, q4, q5, q6, q7, q8⟩ := lst_facts k hk7
    rw [if_neg n4, if_pos r4, if_neg (show ¬ nI x = (34 : Int32) by simp (disch := omega) only [k34, nI_leI, nI_ltI, nI_eq, nI_1, nI_add, pk_mul, nI_clamp]; omega), ek1, ek2, ea (by omega)]
    obtain ⟨c1, s1, e1, v1, hT1⟩ := tokAt hN h ht t3
    obtain ⟨val1, eR1, er1⟩ := hT1.2.2 val
    rw [eR1, bO_s]
    dsimp only [u4]
    obtain ⟨r, m, c', s', e', v', i', ns', val', g1, g2, g3, g4, g5, g6⟩ := nums_ok (x := x) (i0 := e) (ik := upd ik x (nI k)) (no := no) hN h ht hk7 hx nu ns 8 N N e 0 c1 s1 e1 v1 nu ns (nI k) (nI s) num' val1 rfl (by omega) (by omega) (by omega) hT1 t3 er1 (fun j hj => by omega) (fun _ _ => rfl) (fun _ _ => rfl) (fun _ => rfl) (fun q => by omega)
    have eN : F_Text_readNumbers N (nI k) (nI x) (nI n) (nI e) (nI k) (nI s) num' row ik no nu = some r := by
      unfold F_Text_readNumbers
      rw [gd_ix hx (by omega), nI_clamp (by omega), show Text_readNumbers_L9 N (nI n) row (nI k) (upd ik x (nI k)) no (nI x) N 0 nu (nI e) (nI k) (nI s) num' = _ from g1, bT_l]
    rw [eN, bO_s, show R_readsText_L40 N (nI (k + 10)) (nI x) (nI n) text N 0 ns (nI e1) (nI s1) (rtok c1) val1 = _ from g2, bO_s]
    dsimp only [u8, u6]
    obtain ⟨⟨w1, w2, w3, w4, w5, w6, w7, w8, w9, w10⟩, hC2, hR2⟩ := g3
    rw [q6]
    rcases g6 with ⟨p1, p2, p3, p4, p5, p6, p7, p8, p9⟩ | ⟨p1, p2⟩
    · have rr1 : rtok c' = 3 := (rt1 c' w5).mpr p1
      have pm : ¬ nI m < nI (lst k) := by simp (disch := omega) only [nI_leI, nI_ltI, nI_eq, nI_1, nI_add, pk_mul, nI_clamp]; omega
      rw [p3, if_pos rfl, if_neg pm, if_pos rr1, gd_ix (by omega) (by omega), nI_clamp (by omega), p4, p5, p6, nI_1]
      obtain ⟨c2, s2, e2, v2, hT2⟩ := tokAt hN h ht w3
      obtain ⟨val2, eR2, er2⟩ := hT2.2.2 val'
      rw [eR2, bO_s]
      have h7' : 7 * (x + 1) ≤ e' := by
        by_cases z : k = 0
        · have := t9 (by omega)
          omega
        · have := q8 z
          omega
      have hI' : ItR (x + 1) (upd ik x (nI k)) (upd no x (nI m)) r.2.2.2.2.2.2.2 (upd vb x (nI (k + 10))) (upd mn x (nI m)) ns' := by
        intro y hy
        by_cases z : y = x
        · rw [z]
          exact ⟨k, m, hk7, p2, g4, pk_us, pk_us, pk_us, pk_us, p7⟩
        · obtain ⟨ky, my, y1, y2, y3, y4, y5, y6, y7, y8⟩ := hI y (by omega)
          refine ⟨ky, my, y1, y2, y3, (pk_un z).trans y4, (pk_un z).trans y5, (pk_un z).trans y6, (pk_un z).trans y7, fun j hj => ?_⟩
          obtain ⟨vv, b1, b2, b3⟩ := y8 j hj
          have hm7 := (lst_facts ky y1).2.2.1
          exact ⟨vv, b1, by rw [p8 y z]; exact b2, by rw [g5 _ (by omega)]; exact b3⟩
      exact ih f g (x + 1) e' c2 s2 e2 v2 _ _ _ _ _ _ _ _ _ val2 (by omega) (by omega) (by omega) hT2 w3 h7' er2 hI' (by omega)
    · have nn1 : ¬ r.1 = -1 := by rw [p2]; exact nI_nm1 (by omega)
      rw [if_neg nn1]
      by_cases pm : m < lst k
      · have pm' : nI m < nI (lst k) := by simp (disch := omega) only [nI_leI, nI_ltI, nI_eq, nI_1, nI_add, pk_mul, nI_clamp]; omega
        rw [if_pos pm']
        exact ⟨_, _, rfl, rfl, Or.inr ⟨s', by omega, p2, _, rfl, rfl, rfl⟩⟩
      · have pm' : ¬ nI m < nI (lst k) := by simp (disch := omega) only [nI_leI, nI_ltI, nI_eq, nI_1, nI_add, pk_mul, nI_clamp]; omega
        have rr1 : ¬ rtok c' = 3 := fun q => by have := (rt1 c' w5).mp q; omega
        rw [if_neg pm', if_neg rr1]
        exact ⟨_, _, rfl, rfl, Or.inr ⟨s', by omega, p2, _, rfl, rfl, rfl⟩⟩
theorem readAll_ok {N n : Nat} {tx : Nat → Nat} {row text : Nat → Int32} (hN : 1000 ≤ N) (h : TxC n tx row) (ht : TxC n tx text) (tk ta tn val : Int32) (ik no : Nat → Int32) (nu : Nat → Nat → Int32) (vb mn ns : Nat → Int32) :
    ∃ u w, F_Text_readItems N (nI n) tk ta tn row ik no nu = some u ∧ F_R_readsText N (nI n) val text vb mn ns = some w ∧
      ((u.1 = -1 ∧ w.1 = 1 ∧ ∃ cnt, cnt ≤ 34 ∧ u.2.1 = nI cnt ∧ w.2.2.2.2.2.1 = nI cnt ∧ ItR cnt u.2.2.2.2.2.2.1 u.2.2.2.2.2.2.2.1 u.2.2.2.2.2.2.2.2 w.2.2.2.2.2.2.1 w.2.2.2.2.2.2.2.1 w.2.2.2.2.2.2.2.2) ∨
       (∃ q, q ≤ 240 ∧ u.1 = nI q ∧ w.1 = 0 ∧ w.2.2.1 = nI q)) := by
  have hn := h.1
  obtain ⟨c, s, e, v, hT⟩ := tokAt hN h ht (Nat.zero_le n)
  obtain ⟨val1, eR1, er1⟩ := hT.2.2 val
  obtain ⟨u, r, e1, e2, e3⟩ := items_ok hN h ht 500 N N 0 0 c s e v ik no nu vb mn ns tk ta tn val1 (by omega) (by omega) (by omega) hT (by omega) (by omega) er1 (fun x hx => by omega) (by omega)
  unfold F_Text_readItems F_R_readsText
  rw [show Text_readItems_L12 N (nI n) row N 0 ik no nu 0 0 tk ta tn = _ from e1, bT_l, show F_R_scans N (nI n) 0 val text = _ from eR1, bO_s]
  dsimp only [u4]
  rw [show R_readsText_L14 N (nI n) text N vb mn ns (nI e) 0 (nI s) (rtok c) val1 = _ from e2]
  rcases e3 with ⟨z1, cnt, z2, z3, w, rfl, z4, z5⟩ | ⟨q, z1, z2, w, rfl, z3, z4⟩
  · rw [bT_r]
    exact ⟨u, _, rfl, rfl, Or.inl ⟨z1, rfl, cnt, z2, z3, z4, z5⟩⟩
  · rw [bT_l]
    exact ⟨u, w, rfl, rfl, Or.inr ⟨q, z1, z2, z3, z4⟩⟩
