-- AN ITEM TOLD, ALL KINDS
theorem tellItem_ok {N x cnt : Nat} {ik no : Nat → Int32} {nu : Nat → Nat → Int32} {vb mn ns : Nat → Int32} (hN : 1000 ≤ N) (hx : x < cnt) (hc : cnt ≤ 34) (hI : ItR cnt ik no nu vb mn ns) {fl : T_Floor} {lx : T_Lexicon} {b : Nat → Int32} (hF : RFl fl b) (hL : RLx lx b) :
    ∃ (ans : Int32) (fl' : T_Floor) (lx' : T_Lexicon) (ans' : Int32) (b' : Nat → Int32),
      F_Text_tellItem N (nI x) (nI cnt) ik no nu (Floor_pillars fl) (Floor_weavers fl) (Floor_place fl) (Floor_way fl) (Floor_tell fl) (Floor_look fl) (Floor_farSquare fl) (Lexicon_words lx) (Lexicon_length lx) (Lexicon_number lx) (Lexicon_weight lx) (Lexicon_leastLike lx) (Lexicon_lipsOf lx) =
        some (ans, Floor_pillars fl', Floor_weavers fl', Floor_place fl', Floor_way fl', Floor_tell fl', Floor_look fl', Floor_farSquare fl', Lexicon_words lx', Lexicon_length lx', Lexicon_number lx', Lexicon_weight lx', Lexicon_leastLike lx', Lexicon_lipsOf lx') ∧
      F_R_tellsItem N (nI x) b vb mn ns = some (ans', b') ∧ (0 ≤ ans ↔ 0 ≤ ans') ∧
      (0 ≤ ans → RFl fl' b' ∧ RLx lx' b' ∧ (∀ k, ¬ gF k → ¬ gL k → b' k = b k) ∧ Lexicon_row lx' = Lexicon_row lx ∧ Lexicon_rowLips lx' = Lexicon_rowLips lx ∧ Lexicon_girlKnows lx' = Lexicon_girlKnows lx ∧ Lexicon_others lx' = Lexicon_others lx) := by
  have hN1 : 100 ≤ N := by omega
  obtain ⟨k, m, hk, m1, m2, i1, i2, i3, i4, hV⟩ := hI x hx
  obtain ⟨q1, q2, q3, _, _, _, _, q8⟩ := lst_facts k hk
  obtain ⟨v0, -, c0, d0⟩ := hV 0 (by omega)
  rw [Nat.add_zero] at d0
  have hw : ¬ F_S_within (nI x) 0 (nI cnt - 1) = 0 := by rw [wv_t hx (by omega)]; decide
  unfold F_Text_tellItem F_R_tellsItem
  rw [if_neg hw, gd_ix (by omega) (by omega), k7, pk_mul, nI_1, show (2 : Int32) = nI 2 from rfl, nI_add, gd_ix (by omega) (by omega), gd_ix (by omega) (by omega), gd_ix (by omega) (by omega), gd_ix (by omega) (by omega), nI_clamp (show x < 2 ^ 31 by omega), nI_clamp (show 7 * x < 2 ^ 31 by omega), nI_clamp (show 7 * x + 1 < 2 ^ 31 by omega), nI_clamp (show 7 * x + 2 < 2 ^ 31 by omega), i1, i2, i3, c0, d0]
  have hcase : k = 0 ∨ k = 1 ∨ k = 2 ∨ k = 3 ∨ k = 4 ∨ k = 5 ∨ k = 6 := by omega
  have fF : ∀ (b' : Nat → Int32), (∀ l, ¬ gF l → b' l = b l) → RLx lx b' := fun b' e => hL.frame (fun l hl => e l (gFL hl))
  have fL : ∀ (b' : Nat → Int32), (∀ l, ¬ gL l → b' l = b l) → RFl fl b' := fun b' e => hF.frame (fun l hl => e l (gLF hl))
  rcases hcase with rfl | rfl | rfl | rfl | rfl | rfl | rfl
  · rw [if_pos (show nI 0 = (0 : Int32) from rfl), if_pos (show nI (0 + 10) = (10 : Int32) from rfl)]
    obtain ⟨u, v, e1, e2, e3, e4, e5⟩ := pillar_ok hN1 hF (nI v0)
    rw [e1, e2, bO_s, bO_s]
    exact ⟨u.1, (u.2, fl.2), lx, v.1, v.2, rfl, rfl, by rw [e3], fun _ => ⟨e4, fF _ e5, fun l h1 _ => e5 l h1, rfl, rfl, rfl, rfl⟩⟩
  · obtain ⟨v1, -, c1, d1⟩ := hV 1 (by have := q8 (by omega); omega)
    rw [if_neg (show ¬ nI 1 = (0 : Int32) by decide), if_neg (show ¬ nI (1 + 10) = (10 : Int32) by decide), if_pos (show nI 1 = (1 : Int32) from rfl), if_pos (show nI (1 + 10) = (11 : Int32) from rfl), c1, d1]
    obtain ⟨u, v, e1, e2, e3, e4, e5⟩ := weaver_ok hN1 hF (nI v0) (nI v1)
    rw [e1, e2, bO_s, bO_s]
    exact ⟨u.1, (Floor_pillars fl, u.2.1, u.2.2.1, u.2.2.2.1, u.2.2.2.2.1, u.2.2.2.2.2, Floor_farSquare fl), lx, v.1, v.2, rfl, rfl, by rw [e3], fun _ => ⟨e4, fF _ e5, fun l h1 _ => e5 l h1, rfl, rfl, rfl, rfl⟩⟩
  · obtain ⟨v1, -, c1, d1⟩ := hV 1 (by have := q8 (by omega); omega)
    obtain ⟨v2, -, c2, d2⟩ := hV 2 (by have : lst 2 = 3 := rfl; omega)
    rw [if_neg (show ¬ nI 2 = (0 : Int32) by decide), if_neg (show ¬ nI (2 + 10) = (10 : Int32) by decide), if_neg (show ¬ nI 2 = (1 : Int32) by decide), if_neg (show ¬ nI (2 + 10) = (11 : Int32) by decide), if_pos (show nI 2 = nI 2 from rfl), if_pos (show nI (2 + 10) = (12 : Int32) from rfl), c1, d1, c2, d2]
    obtain ⟨u, v, e1, e2, e3, e4, e5⟩ := setFree_ok hN1 hF (nI v0) 0 (nI v1) (nI v2)
    rw [e1, e2, bO_s, bO_s]
    exact ⟨u.1, (Floor_pillars fl, Floor_weavers fl, Floor_place fl, Floor_way fl, u.2.1, u.2.2, Floor_farSquare fl), lx, v.1, v.2, rfl, rfl, by rw [e3], fun _ => ⟨e4, fF _ e5, fun l h1 _ => e5 l h1, rfl, rfl, rfl, rfl⟩⟩
  · obtain ⟨v1, -, c1, d1⟩ := hV 1 (by have := q8 (by omega); omega)
    obtain ⟨v2, -, c2, d2⟩ := hV 2 (by have : lst 3 = 3 := rfl; omega)
    rw [if_neg (show ¬ nI 3 = (0 : Int32) by decide), if_neg (show ¬ nI (3 + 10) = (10 : Int32) by decide), if_neg (show ¬ nI 3 = (1 : Int32) by decide), if_neg (show ¬ nI (3 + 10) = (11 : Int32) by decide), if_neg (show ¬ nI 3 = nI 2 by decide), if_neg (show ¬ nI (3 + 10) = (12 : Int32) by decide), if_pos (show nI 3 = (3 : Int32) from rfl), if_pos (show nI (3 + 10) = (13 : Int32) from rfl), c1, d1, c2, d2]
    obtain ⟨u, v, e1, e2, e3, e4, e5⟩ := setFree_ok hN1 hF (nI v0) 1 (nI v1) (nI v2)
    rw [e1, e2, bO_s, bO_s]
    exact ⟨u.1, (Floor_pillars fl, Floor_weavers fl, Floor_place fl, Floor_way fl, u.2.1, u.2.2, Floor_farSquare fl), lx, v.1, v.2, rfl, rfl, by rw [e3], fun _ => ⟨e4, fF _ e5, fun l h1 _ => e5 l h1, rfl, rfl, rfl, rfl⟩⟩
  · obtain ⟨v1, -, c1, d1⟩ := hV 1 (by have := q8 (by omega); omega)
    rw [if_neg (show ¬ nI 4 = (0 : Int32) by decide), if_neg (show ¬ nI (4 + 10) = (10 : Int32) by decide), if_neg (show ¬ nI 4 = (1 : Int32) by decide), if_neg (show ¬ nI (4 + 10) = (11 : Int32) by decide), if_neg (show ¬ nI 4 = nI 2 by decide), if_neg (show ¬ nI (4 + 10) = (12 : Int32) by decide), if_neg (show ¬ nI 4 = (3 : Int32) by decide), if_neg (show ¬ nI (4 + 10) = (13 : Int32) by decide), if_pos (show nI 4 = (4 : Int32) from rfl), if_pos (show nI (4 + 10) = (14 : Int32) from rfl), c1, d1]
    obtain ⟨u, v, e1, e2, e3, e4, e5⟩ := setFar_ok hF 0 (nI v0)
    obtain ⟨u2', v2', f1, f2, f3, f4, f5⟩ := setFar_ok e4 1 (nI v1)
    have f1' : F_Floor_setFar 1 (nI v1) u.2 = some u2' := f1
    rw [e1, e2, bO_s, bO_s]
    show ∃ (ans : Int32) (fl' : T_Floor) (lx' : T_Lexicon) (ans' : Int32) (b' : Nat → Int32), bO (F_Floor_setFar 1 (nI v1) u.2) _ = _ ∧ (if v.1 < 0 then some (-2, v.2) else bO (F_R_far 1 (nI v1) v.2) _) = _ ∧ _
    rw [f1', bO_s, f2, bO_s]
    by_cases z : v.1 < 0
    · rw [if_pos z]
      refine ⟨jmin u.1 u2'.1, (Floor_pillars fl, Floor_weavers fl, Floor_place fl, Floor_way fl, Floor_tell fl, Floor_look fl, u2'.2), lx, -2, v.2, rfl, rfl, ?_, ?_⟩
      · rw [jmin0, e3]
        constructor
        · intro q
          have e0 : (0 : Int32).toInt = 0 := rfl
          have q1 := q.1
          rw [fa_le] at q1
          rw [fa_lt] at z
          omega
        · intro q; exact absurd q (by decide)
      · intro q
        rw [jmin0, e3] at q
        have q1 := q.1
        rw [fa_le] at q1
        rw [fa_lt] at z
        omega
    · have z' : 0 ≤ u.1 := by rw [e3, fa_le]; rw [fa_lt] at z; omega
      rw [if_neg z]
      show ∃ (ans : Int32) (fl' : T_Floor) (lx' : T_Lexicon) (ans' : Int32) (b' : Nat → Int32), _ ∧ (if 0 ≤ v2'.1 then some (0, v2'.2) else some (-2, v2'.2)) = _ ∧ _
      have hall : RFl (Floor_pillars fl, Floor_weavers fl, Floor_place fl, Floor_way fl, Floor_tell fl, Floor_look fl, u2'.2) v2'.2 ∧ RLx lx v2'.2 ∧ (∀ l, ¬ gF l → ¬ gL l → v2'.2 l = b l) := ⟨f4, fF _ (fun l hl => (f5 l hl).trans (e5 l hl)), fun l h1 _ => (f5 l h1).trans (e5 l h1)⟩
      by_cases y : 0 ≤ v2'.1
      · rw [if_pos y]
        exact ⟨jmin u.1 u2'.1, (Floor_pillars fl, Floor_weavers fl, Floor_place fl, Floor_way fl, Floor_tell fl, Floor_look fl, u2'.2), lx, 0, v2'.2, rfl, rfl, ⟨fun _ => by decide, fun _ => (jmin0 _ _).mpr ⟨z', by rw [f3]; exact y⟩⟩, fun _ => ⟨hall.1, hall.2.1, hall.2.2, rfl, rfl, rfl, rfl⟩⟩
      · rw [if_neg y]
        exact ⟨jmin u.1 u2'.1, (Floor_pillars fl, Floor_weavers fl, Floor_place fl, Floor_way fl, Floor_tell fl, Floor_look fl, u2'.2), lx, -2, v2'.2, rfl, rfl, ⟨fun q => absurd ((jmin0 _ _).mp q).2 (by rw [f3]; exact y), fun q => absurd q (by decide)⟩, fun _ => ⟨hall.1, hall.2.1, hall.2.2, rfl, rfl, rfl, rfl⟩⟩
  · rw [if_neg (show ¬ nI 5 = (0 : Int32) by decide), if_neg (show ¬ nI (5 + 10) = (10 : Int32) by decide), if_neg (show ¬ nI 5 = (1 : Int32) by decide), if_neg (show ¬ nI (5 + 10) = (11 : Int32) by decide), if_neg (show ¬ nI 5 = nI 2 by decide), if_neg (show ¬ nI (5 + 10) = (12 : Int32) by decide), if_neg (show ¬ nI 5 = (3 : Int32) by decide), if_neg (show ¬ nI (5 + 10) = (13 : Int32) by decide), if_neg (show ¬ nI 5 = (4 : Int32) by decide), if_neg (show ¬ nI (5 + 10) = (14 : Int32) by decide), if_pos (show nI 5 = (5 : Int32) from rfl), if_pos (show nI (5 + 10) = (15 : Int32) from rfl)]
    obtain ⟨u, v, e1, e2, e3, e4, e5⟩ := tellWord_ok hN (show x < 34 by omega) (by omega) (by omega) i4 hV hL
    rw [e1, e2, bO_s, bO_s]
    exact ⟨u.1, fl, (u.2.1, u.2.2.1, u.2.2.2.1, u.2.2.2.2.1, Lexicon_leastLike lx, Lexicon_row lx, Lexicon_rowLips lx, Lexicon_girlKnows lx, u.2.2.2.2.2, Lexicon_others lx), v.1, v.2, rfl, rfl, by rw [e3], fun _ => ⟨fL _ e5, e4, fun l _ h1 => e5 l h1, rfl, rfl, rfl, rfl⟩⟩
  · obtain ⟨v1, -, c1, d1⟩ := hV 1 (by have := q8 (by omega); omega)
    rw [if_neg (show ¬ nI 6 = (0 : Int32) by decide), if_neg (show ¬ nI (6 + 10) = (10 : Int32) by decide), if_neg (show ¬ nI 6 = (1 : Int32) by decide), if_neg (show ¬ nI (6 + 10) = (11 : Int32) by decide), if_neg (show ¬ nI 6 = nI 2 by decide), if_neg (show ¬ nI (6 + 10) = (12 : Int32) by decide), if_neg (show ¬ nI 6 = (3 : Int32) by decide), if_neg (show ¬ nI (6 + 10) = (13 : Int32) by decide), if_neg (show ¬ nI 6 = (4 : Int32) by decide), if_neg (show ¬ nI (6 + 10) = (14 : Int32) by decide), if_neg (show ¬ nI 6 = (5 : Int32) by decide), if_neg (show ¬ nI (6 + 10) = (15 : Int32) by decide), c1, d1]
    obtain ⟨u, v, e1, e2, e3, e4, e5⟩ := like_ok hN1 hL (nI v0) (nI v1)
    rw [e1, e2, bO_s, bO_s]
    exact ⟨u.1, fl, (Lexicon_words lx, Lexicon_length lx, Lexicon_number lx, Lexicon_weight lx, u.2, Lexicon_row lx, Lexicon_rowLips lx, Lexicon_girlKnows lx, Lexicon_lipsOf lx, Lexicon_others lx), v.1, v.2, rfl, rfl, by rw [e3], fun _ => ⟨fL _ e5, e4, fun l _ h1 => e5 l h1, rfl, rfl, rfl, rfl⟩⟩
