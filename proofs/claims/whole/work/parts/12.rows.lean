abbrev wd_S_like (E : m_E) (a_t : Nat) (a_t_draft : Nat) (a_t_firstImage : Nat) (a_t_secondImage : Nat) (a_t_news : Nat) (a_t_otherNews : Nat) (a_t_readings : Nat) (a_t_chances : Nat) (a_t_turning : Nat) (a_t_text : Nat) (a_t_fraction : Nat) (a_t_now : Nat) (a_t_now_floor : Nat) (a_t_now_sightings : Nat) (a_t_now_level : Nat) (a_t_now_loss : Nat) (a_t_now_lexicon : Nat) (a_t_now_lexicon_length : Nat) (a_t_now_lexicon_number : Nat) (a_t_now_lexicon_weight : Nat) (a_t_now_lexicon_row : Nat) (a_t_now_lexicon_lipsOf : Nat) (a_t_now_lexicon_others : Nat) (a_t_now_lexicon_leastLike : Nat) (t_now_clearness : Int32) (t_now_isKept : Int32) (t_now_lexicon_words : Int32) (t_now_lexicon_rowLips : Int32) (t_now_lexicon_girlKnows : Int32) (t_now_lexicon_leastLike : Nat → Int32) : va_W := [(a_t, .inr (11, [.ref a_t_now, .ref a_t_draft, .ref a_t_firstImage, .ref a_t_secondImage, .ref a_t_news, .ref a_t_otherNews, .ref a_t_readings, .ref a_t_chances, .ref a_t_turning, .ref a_t_text, .ref a_t_fraction])), (a_t_now, .inr (7, [.ref a_t_now_floor, .ref a_t_now_sightings, .ref a_t_now_lexicon, .ref a_t_now_level, .ref a_t_now_loss, .int t_now_clearness, .int t_now_isKept])), (a_t_now_lexicon, .inr (3, [.int t_now_lexicon_words, .ref a_t_now_lexicon_length, .ref a_t_now_lexicon_number, .ref a_t_now_lexicon_weight, .ref a_t_now_lexicon_leastLike, .ref a_t_now_lexicon_row, .int t_now_lexicon_rowLips, .int t_now_lexicon_girlKnows, .ref a_t_now_lexicon_lipsOf, .ref a_t_now_lexicon_others])), (a_t_now_lexicon_leastLike, .inl (E.2.1 0, 6, .inl t_now_lexicon_leastLike))]
def rm_S_like : Room := { frames := 2, cells := 0, slots := 0, locals := 47 }
set_option maxHeartbeats 4000000 in
set_option maxRecDepth 100000 in
theorem c_S_like (l : Launch) (E : m_E) (sz N : Nat) (a_t : Nat) (a_t_draft : Nat) (a_t_firstImage : Nat) (a_t_secondImage : Nat) (a_t_news : Nat) (a_t_otherNews : Nat) (a_t_readings : Nat) (a_t_chances : Nat) (a_t_turning : Nat) (a_t_text : Nat) (a_t_fraction : Nat) (a_t_now : Nat) (a_t_now_floor : Nat) (a_t_now_sightings : Nat) (a_t_now_level : Nat) (a_t_now_loss : Nat) (a_t_now_lexicon : Nat) (a_t_now_lexicon_length : Nat) (a_t_now_lexicon_number : Nat) (a_t_now_lexicon_weight : Nat) (a_t_now_lexicon_row : Nat) (a_t_now_lexicon_lipsOf : Nat) (a_t_now_lexicon_others : Nat) (a_t_now_lexicon_leastLike : Nat) (t_now_clearness : Int32) (t_now_isKept : Int32) (t_now_lexicon_words : Int32) (t_now_lexicon_rowLips : Int32) (t_now_lexicon_girlKnows : Int32) (t_now_lexicon_leastLike : Nat → Int32) (p1 : Int32) (p2 : Int32) (ures : Int32 × (Nat → Int32)) (hF : F_S_like N p1 p2 t_now_lexicon_leastLike = some ures) : m_Met l yX11_like cX11_like 3 (some .int) rm_S_like E (wd_S_like E a_t a_t_draft a_t_firstImage a_t_secondImage a_t_news a_t_otherNews a_t_readings a_t_chances a_t_turning a_t_text a_t_fraction a_t_now a_t_now_floor a_t_now_sightings a_t_now_level a_t_now_loss a_t_now_lexicon a_t_now_lexicon_length a_t_now_lexicon_number a_t_now_lexicon_weight a_t_now_lexicon_row a_t_now_lexicon_lipsOf a_t_now_lexicon_others a_t_now_lexicon_leastLike t_now_clearness t_now_isKept t_now_lexicon_words t_now_lexicon_rowLips t_now_lexicon_girlKnows t_now_lexicon_leastLike) (wd_S_like E a_t a_t_draft a_t_firstImage a_t_secondImage a_t_news a_t_otherNews a_t_readings a_t_chances a_t_turning a_t_text a_t_fraction a_t_now a_t_now_floor a_t_now_sightings a_t_now_level a_t_now_loss a_t_now_lexicon a_t_now_lexicon_length a_t_now_lexicon_number a_t_now_lexicon_weight a_t_now_lexicon_row a_t_now_lexicon_lipsOf a_t_now_lexicon_others a_t_now_lexicon_leastLike t_now_clearness t_now_isKept t_now_lexicon_words t_now_lexicon_rowLips t_now_lexicon_girlKnows ures.2) sz [.ref a_t, .int p1, .int p2] (some (.int ures.1)) := by
  refine m_ofI (by decide) (Nat.le_of_ble_eq_true rfl) ?_
  intro p e s m args below meth c A Q ls X hW hA hl hret
  obtain ⟨hx, hb, -, hown, hts, hK, -, hG⟩ := id X
  have hl : lv_has ls 3 [(0, .ref a_t), (1, .int p1), (2, .int p2)] := hl
  unfold F_S_like at hF
  refine lv_aload_n hx hb dX11_like_0 rfl (lv_at hl 0 rfl) ?_
  refine m_get X hW fdX11_10 0 rfl rfl dX11_like_1 ?_
  refine m_get X hW fdX11_156 1 rfl rfl dX11_like_4 ?_
  refine lv_iload_n hx hb dX11_like_7 rfl (lv_at hl 1 rfl) ?_
  refine lv_iload_n hx hb dX11_like_8 rfl (lv_at hl 2 rfl) ?_
  obtain ⟨r9, t_now_lexicon_leastLike'_2, hC1, hF⟩ := bO_s2 hF
  refine m_callV X hW hA hl.1 lkX11_160 (c_Lexicon_makeAlike l E _ N a_t_now_lexicon a_t_now_lexicon_length a_t_now_lexicon_number a_t_now_lexicon_weight a_t_now_lexicon_row a_t_now_lexicon_lipsOf a_t_now_lexicon_others a_t_now_lexicon_leastLike t_now_lexicon_words t_now_lexicon_rowLips t_now_lexicon_girlKnows t_now_lexicon_leastLike p1 p2 (r9, t_now_lexicon_leastLike'_2) hC1) ([2, 3]) (by decide) rfl rfl (ws' := (wd_S_like E a_t a_t_draft a_t_firstImage a_t_secondImage a_t_news a_t_otherNews a_t_readings a_t_chances a_t_turning a_t_text a_t_fraction a_t_now a_t_now_floor a_t_now_sightings a_t_now_level a_t_now_loss a_t_now_lexicon a_t_now_lexicon_length a_t_now_lexicon_number a_t_now_lexicon_weight a_t_now_lexicon_row a_t_now_lexicon_lipsOf a_t_now_lexicon_others a_t_now_lexicon_leastLike t_now_clearness t_now_isKept t_now_lexicon_words t_now_lexicon_rowLips t_now_lexicon_girlKnows t_now_lexicon_leastLike'_2)) rfl 2 rfl rfl rfl (As := [.int p1, .int p2]) (rest := []) rfl rfl ⟨rfl, rfl, Nat.le_of_ble_eq_true rfl, Nat.le_of_ble_eq_true rfl⟩ (Nat.le_of_ble_eq_true rfl) (Nat.zero_le _) (Nat.zero_le _) dX11_like_9 (fun H locs hW => ?_)
  clear hC1
  have hq := Option.some.inj hF
  subst hq
  exact hret _ _ _ _ hW dX11_like_12
abbrev wd_Lexicon_addWord (E : m_E) (a_t : Nat) (a_t_leastLike : Nat) (a_t_row : Nat) (a_t_others : Nat) (a_t_length : Nat) (a_t_number : Nat) (a_t_weight : Nat) (a_t_lipsOf : Nat) (t_words : Int32) (t_rowLips : Int32) (t_girlKnows : Int32) (t_length : Nat → Int32) (t_number : Nat → Int32) (t_weight : Nat → Int32) (t_lipsOf : Nat → Int32) : va_W := [(a_t, .inr (3, [.int t_words, .ref a_t_length, .ref a_t_number, .ref a_t_weight, .ref a_t_leastLike, .ref a_t_row, .int t_rowLips, .int t_girlKnows, .ref a_t_lipsOf, .ref a_t_others])), (a_t_length, .inl (E.2.1 0, 10, .inl t_length)), (a_t_number, .inl (E.2.1 0, 10, .inl t_number)), (a_t_weight, .inl (E.2.1 0, 10, .inl t_weight)), (a_t_lipsOf, .inl (E.2.1 0, 60, .inl t_lipsOf))]
def rm_Lexicon_addWord : Room := { frames := 1, cells := 0, slots := 0, locals := 22 }
set_option maxHeartbeats 4000000 in
set_option maxRecDepth 100000 in
theorem c_Lexicon_addWord (l : Launch) (E : m_E) (sz N : Nat) (a_t : Nat) (a_t_leastLike : Nat) (a_t_row : Nat) (a_t_others : Nat) (a_t_length : Nat) (a_t_number : Nat) (a_t_weight : Nat) (a_t_lipsOf : Nat) (t_words : Int32) (t_rowLips : Int32) (t_girlKnows : Int32) (t_length : Nat → Int32) (t_number : Nat → Int32) (t_weight : Nat → Int32) (t_lipsOf : Nat → Int32) (p1 : Int32) (p2 : Int32) (p3 : Int32) (ures : Int32 × Int32 × (Nat → Int32) × (Nat → Int32) × (Nat → Int32) × (Nat → Int32)) (hF : F_Lexicon_addWord N p1 p2 p3 t_words t_length t_number t_weight t_lipsOf = some ures) : m_Met l yX3_addWord cX3_addWord 6 (some .int) rm_Lexicon_addWord E (wd_Lexicon_addWord E a_t a_t_leastLike a_t_row a_t_others a_t_length a_t_number a_t_weight a_t_lipsOf t_words t_rowLips t_girlKnows t_length t_number t_weight t_lipsOf) (wd_Lexicon_addWord E a_t a_t_leastLike a_t_row a_t_others a_t_length a_t_number a_t_weight a_t_lipsOf ures.2.1 t_rowLips t_girlKnows ures.2.2.1 ures.2.2.2.1 ures.2.2.2.2.1 ures.2.2.2.2.2) sz [.ref a_t, .int p1, .int p2, .int p3] (some (.int ures.1)) := by
  refine m_ofI (by decide) (Nat.le_of_ble_eq_true rfl) ?_
  intro p e s m args below meth c A Q ls X hW hA hl hret
  obtain ⟨hx, hb, -, hown, hts, hK, -, hG⟩ := id X
  have hl : lv_has ls 6 [(0, .ref a_t), (1, .int p1), (2, .int p2), (3, .int p3)] := hl
  unfold F_Lexicon_addWord at hF
  refine lv_iload_n hx hb dX3_addWord_0 rfl (lv_at hl 1 rfl) ?_
  refine lv_iconst (v := (1 : Int32)) hx hb dX3_addWord_1 (by decide) ?_
  refine lv_bipush (v := (6 : Int32)) hx hb dX3_addWord_2 (by decide) ?_
  refine m_callN X hW hA hl.1 lkX3_52 (c_S_within l E _ N   p1 (1 : Int32) (6 : Int32) (F_S_within p1 (1 : Int32) (6 : Int32)) rfl) ([]) (by decide) rfl rfl (ws' := (wd_Lexicon_addWord E a_t a_t_leastLike a_t_row a_t_others a_t_length a_t_number a_t_weight a_t_lipsOf t_words t_rowLips t_girlKnows t_length t_number t_weight t_lipsOf)) rfl (As := [.int p1, .int (1 : Int32), .int (6 : Int32)]) (rest := []) rfl rfl ⟨rfl, rfl, Nat.le_of_ble_eq_true rfl, Nat.le_of_ble_eq_true rfl⟩ (Nat.le_of_ble_eq_true rfl) (Nat.zero_le _) (Nat.zero_le _) dX3_addWord_4 (fun H locs hW => ?_)
  refine lv_if_eq (tgt := 24) hx hb dX3_addWord_7 (by decide) (fun c1 => ?_) (fun c1 => ?_)
  · have hF := if_y c1 hF
    refine lv_bipush (v := (-2 : Int32)) hx hb dX3_addWord_24 (by decide) ?_
    have hq := Option.some.inj hF
    subst hq
    exact hret _ _ _ _ hW dX3_addWord_26
  · have hF := if_n c1 hF
    refine lv_iload_n hx hb dX3_addWord_10 rfl (lv_at hl 3 rfl) ?_
    refine lv_iconst (v := (1 : Int32)) hx hb dX3_addWord_11 (by decide) ?_
    refine lv_bipush (v := (9 : Int32)) hx hb dX3_addWord_12 (by decide) ?_
    refine m_callN X hW hA hl.1 lkX3_52 (c_S_within l E _ N   p3 (1 : Int32) (9 : Int32) (F_S_within p3 (1 : Int32) (9 : Int32)) rfl) ([]) (by decide) rfl rfl (ws' := (wd_Lexicon_addWord E a_t a_t_leastLike a_t_row a_t_others a_t_length a_t_number a_t_weight a_t_lipsOf t_words t_rowLips t_girlKnows t_length t_number t_weight t_lipsOf)) rfl (As := [.int p3, .int (1 : Int32), .int (9 : Int32)]) (rest := []) rfl rfl ⟨rfl, rfl, Nat.le_of_ble_eq_true rfl, Nat.le_of_ble_eq_true rfl⟩ (Nat.le_of_ble_eq_true rfl) (Nat.zero_le _) (Nat.zero_le _) dX3_addWord_14 (fun H locs hW => ?_)
    refine lv_if_eq (tgt := 24) hx hb dX3_addWord_17 (by decide) (fun c2 => ?_) (fun c2 => ?_)
    · have hF := if_y c2 hF
      refine lv_bipush (v := (-2 : Int32)) hx hb dX3_addWord_24 (by decide) ?_
      have hq := Option.some.inj hF
      subst hq
      exact hret _ _ _ _ hW dX3_addWord_26
    · have hF := if_n c2 hF
      refine lv_iload_n hx hb dX3_addWord_20 rfl (lv_at hl 2 rfl) ?_
      refine lv_if_ge (tgt := 27) hx hb dX3_addWord_21 (by decide) (fun c3 => ?_) (fun c3 => ?_)
      · have hF := if_y c3 hF
        refine lv_iload_n hx hb dX3_addWord_27 rfl (lv_at hl 2 rfl) ?_
        refine lv_istore (lv' := [(4, .int p2), (0, .ref a_t), (1, .int p1), (2, .int p2), (3, .int p3)]) hx hb dX3_addWord_28 hl (by decide) rfl (fun ls hl => ?_)
        refine lv_iconst (v := (0 : Int32)) hx hb dX3_addWord_30 (by decide) ?_
        refine lv_istore (lv' := [(5, .int (0 : Int32)), (4, .int p2), (0, .ref a_t), (1, .int p1), (2, .int p2), (3, .int p3)]) hx hb dX3_addWord_31 hl (by decide) rfl (fun ls hl => ?_)
        obtain ⟨x4_2, hX5, hF⟩ := bO_s1 hF
        have L4 : ∀ (k0 : Nat) (x4 : Int32) (x5 : Int32) (x4_2 : Int32) (H : Heap) (locs : List Loc) (ls : Array Slot), Lexicon_addWord_L33 p1 k0 x4 x5 = some x4_2 → m_H E A (wd_Lexicon_addWord E a_t a_t_leastLike a_t_row a_t_others a_t_length a_t_number a_t_weight a_t_lipsOf t_words t_rowLips t_girlKnows t_length t_number t_weight t_lipsOf) s.heap H locs → lv_has ls 6 [(5, .int x5), (4, .int x4), (0, .ref a_t), (1, .int p1), (2, .int p2), (3, .int p3)] → (∀ (H : Heap) (locs : List Loc) (ls : Array Slot), m_H E A (wd_Lexicon_addWord E a_t a_t_leastLike a_t_row a_t_others a_t_length a_t_number a_t_weight a_t_lipsOf t_words t_rowLips t_girlKnows t_length t_number t_weight t_lipsOf) s.heap H locs → lv_has ls 6 [(4, .int x4_2), (0, .ref a_t), (1, .int p1), (2, .int p2), (3, .int p3)] → W p l e rm_Lexicon_addWord s m args below meth c H locs 0 0 Q (F0 m 52 ls [])) → W p l e rm_Lexicon_addWord s m args below meth c H locs 0 0 Q (F0 m 33 ls []) := by
          clear hF
          intro k0
          induction k0 with
          | zero =>
            intro x4 x5 x4_2 H locs ls hF
            cases hF
          | succ k0 ih7 =>
            intro x4 x5 x4_2 H locs ls hF hW hl hk6
            rw [Lexicon_addWord_L33] at hF
            refine lv_iload hx hb dX3_addWord_33 (lv_at hl 0 rfl) ?_
            refine lv_iload_n hx hb dX3_addWord_35 rfl (lv_at hl 3 rfl) ?_
            refine lv_icmp_ge (tgt := 52) hx hb dX3_addWord_36 (by decide) (fun c8 => ?_) (fun c8 => ?_)
            · have hF := if_y c8 hF
              cases hF
              exact hk6 _ _ _ hW (lv_sub hl [1, 2, 3, 4, 5] rfl)
            · have hF := if_n c8 hF
              refine lv_iload hx hb dX3_addWord_39 (lv_at hl 1 rfl) ?_
              refine lv_bipush (v := (6 : Int32)) hx hb dX3_addWord_41 (by decide) ?_
              refine lv_idiv hx hb dX3_addWord_43 (by decide) ?_
              refine lv_istore (lv' := [(4, .int (x4 / (6 : Int32))), (5, .int x5), (0, .ref a_t), (1, .int p1), (2, .int p2), (3, .int p3)]) hx hb dX3_addWord_44 hl (by decide) rfl (fun ls hl => ?_)
              refine lv_iinc (v := (x5 + (1 : Int32))) (lv' := [(5, .int (x5 + (1 : Int32))), (4, .int (x4 / (6 : Int32))), (0, .ref a_t), (1, .int p1), (2, .int p2), (3, .int p3)]) hx hb dX3_addWord_46 hl (k := 1) rfl rfl (by decide) rfl (fun ls hl => ?_)
              refine lv_goto (tgt := 33) hx hb dX3_addWord_49 (by decide) ?_
              exact ih7 (x4 / (6 : Int32)) (x5 + (1 : Int32)) x4_2 _ _ _ hF hW (lv_sub hl [0, 1, 2, 3, 4, 5] rfl) hk6
        refine L4 N p2 (0 : Int32) x4_2 _ _ _ hX5 hW (lv_sub hl [0, 1, 2, 3, 4, 5] rfl) ?_
        intro H locs ls hW hl
        clear L4
        refine lv_iload hx hb dX3_addWord_52 (lv_at hl 0 rfl) ?_
        refine lv_if_eq (tgt := 60) hx hb dX3_addWord_54 (by decide) (fun c9 => ?_) (fun c9 => ?_)
        · have hF := if_y c9 hF
          refine lv_aload_n hx hb dX3_addWord_60 rfl (lv_at hl 1 rfl) ?_
          refine m_get X hW fdX3_36 0 rfl rfl dX3_addWord_61 ?_
          refine lv_bipush (v := (10 : Int32)) hx hb dX3_addWord_64 (by decide) ?_
          refine lv_icmp_lt (tgt := 72) hx hb dX3_addWord_66 (by decide) (fun c10 => ?_) (fun c10 => ?_)
          · have hF := if_y c10 hF
            refine lv_aload_n hx hb dX3_addWord_72 rfl (lv_at hl 1 rfl) ?_
            refine m_get X hW fdX3_11 0 rfl rfl dX3_addWord_73 ?_
            refine lv_aload_n hx hb dX3_addWord_76 rfl (lv_at hl 1 rfl) ?_
            refine m_get X hW fdX3_36 0 rfl rfl dX3_addWord_77 ?_
            refine lv_iload_n hx hb dX3_addWord_80 rfl (lv_at hl 2 rfl) ?_
            obtain ⟨g11, hF⟩ := gd_some hF
            refine m_iast X hW 1 (k := t_words.toNatClampNeg) rfl g11 rfl dX3_addWord_81 (ws' := (wd_Lexicon_addWord E a_t a_t_leastLike a_t_row a_t_others a_t_length a_t_number a_t_weight a_t_lipsOf t_words t_rowLips t_girlKnows (upd t_length t_words.toNatClampNeg p1) t_number t_weight t_lipsOf)) rfl (fun H locs hW => ?_)
            refine lv_aload_n hx hb dX3_addWord_82 rfl (lv_at hl 1 rfl) ?_
            refine m_get X hW fdX3_15 0 rfl rfl dX3_addWord_83 ?_
            refine lv_aload_n hx hb dX3_addWord_86 rfl (lv_at hl 1 rfl) ?_
            refine m_get X hW fdX3_36 0 rfl rfl dX3_addWord_87 ?_
            refine lv_iload_n hx hb dX3_addWord_90 rfl (lv_at hl 3 rfl) ?_
            refine m_iast X hW 2 (k := t_words.toNatClampNeg) rfl g11 rfl dX3_addWord_91 (ws' := (wd_Lexicon_addWord E a_t a_t_leastLike a_t_row a_t_others a_t_length a_t_number a_t_weight a_t_lipsOf t_words t_rowLips t_girlKnows (upd t_length t_words.toNatClampNeg p1) (upd t_number t_words.toNatClampNeg p2) t_weight t_lipsOf)) rfl (fun H locs hW => ?_)
            refine lv_aload_n hx hb dX3_addWord_92 rfl (lv_at hl 1 rfl) ?_
            refine m_get X hW fdX3_18 0 rfl rfl dX3_addWord_93 ?_
            refine lv_aload_n hx hb dX3_addWord_96 rfl (lv_at hl 1 rfl) ?_
            refine m_get X hW fdX3_36 0 rfl rfl dX3_addWord_97 ?_
            refine lv_iload_n hx hb dX3_addWord_100 rfl (lv_at hl 4 rfl) ?_
            refine m_iast X hW 3 (k := t_words.toNatClampNeg) rfl g11 rfl dX3_addWord_101 (ws' := (wd_Lexicon_addWord E a_t a_t_leastLike a_t_row a_t_others a_t_length a_t_number a_t_weight a_t_lipsOf t_words t_rowLips t_girlKnows (upd t_length t_words.toNatClampNeg p1) (upd t_number t_words.toNatClampNeg p2) (upd t_weight t_words.toNatClampNeg p3) t_lipsOf)) rfl (fun H locs hW => ?_)
            refine lv_iload_n hx hb dX3_addWord_102 rfl (lv_at hl 3 rfl) ?_
            refine lv_istore (lv' := [(4, .int p2), (0, .ref a_t), (1, .int p1), (2, .int p2), (3, .int p3)]) hx hb dX3_addWord_103 hl (by decide) rfl (fun ls hl => ?_)
            refine lv_iload_n hx hb dX3_addWord_105 rfl (lv_at hl 2 rfl) ?_
            refine lv_iconst (v := (1 : Int32)) hx hb dX3_addWord_106 (by decide) ?_
            refine lv_isub hx hb dX3_addWord_107 ?_
            refine lv_istore (lv' := [(5, .int (p1 - (1 : Int32))), (4, .int p2), (0, .ref a_t), (1, .int p1), (2, .int p2), (3, .int p3)]) hx hb dX3_addWord_108 hl (by decide) rfl (fun ls hl => ?_)
            obtain ⟨t_lipsOf'_4, hX13, hF⟩ := bO_s1 hF
            obtain ⟨t_length'_2, et_length'_2⟩ : ∃ z : Nat → Int32, z = (upd t_length t_words.toNatClampNeg p1) := ⟨_, rfl⟩
            obtain ⟨t_number'_2, et_number'_2⟩ : ∃ z : Nat → Int32, z = (upd t_number t_words.toNatClampNeg p2) := ⟨_, rfl⟩
            obtain ⟨t_weight'_2, et_weight'_2⟩ : ∃ z : Nat → Int32, z = (upd t_weight t_words.toNatClampNeg p3) := ⟨_, rfl⟩
            have L12 : ∀ (k0 : Nat) (x4_3 : Int32) (x5_2 : Int32) (t_lipsOf'_3 : Nat → Int32) (t_lipsOf'_4 : Nat → Int32) (H : Heap) (locs : List Loc) (ls : Array Slot), Lexicon_addWord_L110 t_words k0 x4_3 x5_2 t_lipsOf'_3 = some t_lipsOf'_4 → m_H E A (wd_Lexicon_addWord E a_t a_t_leastLike a_t_row a_t_others a_t_length a_t_number a_t_weight a_t_lipsOf t_words t_rowLips t_girlKnows t_length'_2 t_number'_2 t_weight'_2 t_lipsOf'_3) s.heap H locs → lv_has ls 6 [(5, .int x5_2), (4, .int x4_3), (0, .ref a_t)] → (∀ (H : Heap) (locs : List Loc) (ls : Array Slot), m_H E A (wd_Lexicon_addWord E a_t a_t_leastLike a_t_row a_t_others a_t_length a_t_number a_t_weight a_t_lipsOf t_words t_rowLips t_girlKnows t_length'_2 t_number'_2 t_weight'_2 t_lipsOf'_4) s.heap H locs → lv_has ls 6 [(0, .ref a_t)] → W p l e rm_Lexicon_addWord s m args below meth c H locs 0 0 Q (F0 m 148 ls [])) → W p l e rm_Lexicon_addWord s m args below meth c H locs 0 0 Q (F0 m 110 ls []) := by
              clear hF
              intro k0
              induction k0 with
              | zero =>
                intro x4_3 x5_2 t_lipsOf'_3 t_lipsOf'_4 H locs ls hF
                cases hF
              | succ k0 ih15 =>
                intro x4_3 x5_2 t_lipsOf'_3 t_lipsOf'_4 H locs ls hF hW hl hk14
                rw [Lexicon_addWord_L110] at hF
                refine lv_iload hx hb dX3_addWord_110 (lv_at hl 0 rfl) ?_
                refine lv_if_lt (tgt := 148) hx hb dX3_addWord_112 (by decide) (fun c16 => ?_) (fun c16 => ?_)
                · have hF := if_y c16 hF
                  cases hF
                  exact hk14 _ _ _ hW (lv_sub hl [2] rfl)
                · have hF := if_n c16 hF
                  refine lv_aload_n hx hb dX3_addWord_115 rfl (lv_at hl 2 rfl) ?_
                  refine m_get X hW fdX3_27 0 rfl rfl dX3_addWord_116 ?_
                  refine lv_aload_n hx hb dX3_addWord_119 rfl (lv_at hl 2 rfl) ?_
                  refine m_get X hW fdX3_36 0 rfl rfl dX3_addWord_120 ?_
                  refine lv_bipush (v := (6 : Int32)) hx hb dX3_addWord_123 (by decide) ?_
                  refine lv_imul hx hb dX3_addWord_125 ?_
                  refine lv_iload hx hb dX3_addWord_126 (lv_at hl 0 rfl) ?_
                  refine lv_iadd hx hb dX3_addWord_128 ?_
                  refine lv_iload hx hb dX3_addWord_129 (lv_at hl 1 rfl) ?_
                  refine lv_bipush (v := (6 : Int32)) hx hb dX3_addWord_131 (by decide) ?_
                  refine m_irem hx hb dX3_addWord_133 (by decide) ?_
                  obtain ⟨g17, hF⟩ := gd_some hF
                  refine m_iast X hW 4 (k := ((t_words * (6 : Int32)) + x5_2).toNatClampNeg) rfl g17 rfl dX3_addWord_134 (ws' := (wd_Lexicon_addWord E a_t a_t_leastLike a_t_row a_t_others a_t_length a_t_number a_t_weight a_t_lipsOf t_words t_rowLips t_girlKnows t_length'_2 t_number'_2 t_weight'_2 (upd t_lipsOf'_3 ((t_words * (6 : Int32)) + x5_2).toNatClampNeg (jrem x4_3 (6 : Int32))))) rfl (fun H locs hW => ?_)
                  refine lv_iload hx hb dX3_addWord_135 (lv_at hl 1 rfl) ?_
                  refine lv_bipush (v := (6 : Int32)) hx hb dX3_addWord_137 (by decide) ?_
                  refine lv_idiv hx hb dX3_addWord_139 (by decide) ?_
                  refine lv_istore (lv' := [(4, .int (x4_3 / (6 : Int32))), (5, .int x5_2), (0, .ref a_t)]) hx hb dX3_addWord_140 hl (by decide) rfl (fun ls hl => ?_)
                  refine lv_iinc (v := (x5_2 + (-1 : Int32))) (lv' := [(5, .int (x5_2 + (-1 : Int32))), (4, .int (x4_3 / (6 : Int32))), (0, .ref a_t)]) hx hb dX3_addWord_142 hl (k := 1) rfl rfl (by decide) rfl (fun ls hl => ?_)
                  refine lv_goto (tgt := 110) hx hb dX3_addWord_145 (by decide) ?_
                  exact ih15 (x4_3 / (6 : Int32)) (x5_2 + (-1 : Int32)) (upd t_lipsOf'_3 ((t_words * (6 : Int32)) + x5_2).toNatClampNeg (jrem x4_3 (6 : Int32))) t_lipsOf'_4 _ _ _ hF hW (lv_sub hl [0, 1, 2] rfl) hk14
            subst et_length'_2
            subst et_number'_2
            subst et_weight'_2
            refine L12 N p2 (p1 - (1 : Int32)) t_lipsOf t_lipsOf'_4 _ _ _ hX13 hW (lv_sub hl [0, 1, 2] rfl) ?_
            intro H locs ls hW hl
            clear L12
            refine lv_aload_n hx hb dX3_addWord_148 rfl (lv_at hl 0 rfl) ?_
            refine lv_dup hx hb dX3_addWord_149 rfl ?_
            refine m_get X hW fdX3_36 0 rfl rfl dX3_addWord_150 ?_
            refine lv_iconst (v := (1 : Int32)) hx hb dX3_addWord_153 (by decide) ?_
            refine lv_iadd hx hb dX3_addWord_154 ?_
            refine m_putf X hW fdX3_36 0 rfl (Nat.le_of_ble_eq_true rfl) rfl rfl dX3_addWord_155 (ws' := (wd_Lexicon_addWord E a_t a_t_leastLike a_t_row a_t_others a_t_length a_t_number a_t_weight a_t_lipsOf (t_words + (1 : Int32)) t_rowLips t_girlKnows (upd t_length t_words.toNatClampNeg p1) (upd t_number t_words.toNatClampNeg p2) (upd t_weight t_words.toNatClampNeg p3) t_lipsOf'_4)) rfl (fun H locs hW => ?_)
            refine lv_aload_n hx hb dX3_addWord_158 rfl (lv_at hl 0 rfl) ?_
            refine m_get X hW fdX3_36 0 rfl rfl dX3_addWord_159 ?_
            refine lv_iconst (v := (1 : Int32)) hx hb dX3_addWord_162 (by decide) ?_
            refine lv_isub hx hb dX3_addWord_163 ?_
            have hq := Option.some.inj hF
            subst hq
            exact hret _ _ _ _ hW dX3_addWord_164
          · have hF := if_n c10 hF
            refine lv_bipush (v := (-4 : Int32)) hx hb dX3_addWord_69 (by decide) ?_
            have hq := Option.some.inj hF
            subst hq
            exact hret _ _ _ _ hW dX3_addWord_71
        · have hF := if_n c9 hF
          refine lv_bipush (v := (-2 : Int32)) hx hb dX3_addWord_57 (by decide) ?_
          have hq := Option.some.inj hF
          subst hq
          exact hret _ _ _ _ hW dX3_addWord_59
      · have hF := if_n c3 hF
        refine lv_bipush (v := (-2 : Int32)) hx hb dX3_addWord_24 (by decide) ?_
        have hq := Option.some.inj hF
        subst hq
        exact hret _ _ _ _ hW dX3_addWord_26
abbrev wd_S_word (E : m_E) (a_t : Nat) (a_t_draft : Nat) (a_t_firstImage : Nat) (a_t_secondImage : Nat) (a_t_news : Nat) (a_t_otherNews : Nat) (a_t_readings : Nat) (a_t_chances : Nat) (a_t_turning : Nat) (a_t_text : Nat) (a_t_fraction : Nat) (a_t_now : Nat) (a_t_now_floor : Nat) (a_t_now_sightings : Nat) (a_t_now_level : Nat) (a_t_now_loss : Nat) (a_t_now_lexicon : Nat) (a_t_now_lexicon_leastLike : Nat) (a_t_now_lexicon_row : Nat) (a_t_now_lexicon_others : Nat) (a_t_now_lexicon_length : Nat) (a_t_now_lexicon_number : Nat) (a_t_now_lexicon_weight : Nat) (a_t_now_lexicon_lipsOf : Nat) (t_now_clearness : Int32) (t_now_isKept : Int32) (t_now_lexicon_words : Int32) (t_now_lexicon_rowLips : Int32) (t_now_lexicon_girlKnows : Int32) (t_now_lexicon_length : Nat → Int32) (t_now_lexicon_number : Nat → Int32) (t_now_lexicon_weight : Nat → Int32) (t_now_lexicon_lipsOf : Nat → Int32) : va_W := [(a_t, .inr (11, [.ref a_t_now, .ref a_t_draft, .ref a_t_firstImage, .ref a_t_secondImage, .ref a_t_news, .ref a_t_otherNews, .ref a_t_readings, .ref a_t_chances, .ref a_t_turning, .ref a_t_text, .ref a_t_fraction])), (a_t_now, .inr (7, [.ref a_t_now_floor, .ref a_t_now_sightings, .ref a_t_now_lexicon, .ref a_t_now_level, .ref a_t_now_loss, .int t_now_clearness, .int t_now_isKept])), (a_t_now_lexicon, .inr (3, [.int t_now_lexicon_words, .ref a_t_now_lexicon_length, .ref a_t_now_lexicon_number, .ref a_t_now_lexicon_weight, .ref a_t_now_lexicon_leastLike, .ref a_t_now_lexicon_row, .int t_now_lexicon_rowLips, .int t_now_lexicon_girlKnows, .ref a_t_now_lexicon_lipsOf, .ref a_t_now_lexicon_others])), (a_t_now_lexicon_length, .inl (E.2.1 0, 10, .inl t_now_lexicon_length)), (a_t_now_lexicon_number, .inl (E.2.1 0, 10, .inl t_now_lexicon_number)), (a_t_now_lexicon_weight, .inl (E.2.1 0, 10, .inl t_now_lexicon_weight)), (a_t_now_lexicon_lipsOf, .inl (E.2.1 0, 60, .inl t_now_lexicon_lipsOf))]
def rm_S_word : Room := { frames := 2, cells := 0, slots := 0, locals := 47 }
set_option maxHeartbeats 4000000 in
set_option maxRecDepth 100000 in
theorem c_S_word (l : Launch) (E : m_E) (sz N : Nat) (a_t : Nat) (a_t_draft : Nat) (a_t_firstImage : Nat) (a_t_secondImage : Nat) (a_t_news : Nat) (a_t_otherNews : Nat) (a_t_readings : Nat) (a_t_chances : Nat) (a_t_turning : Nat) (a_t_text : Nat) (a_t_fraction : Nat) (a_t_now : Nat) (a_t_now_floor : Nat) (a_t_now_sightings : Nat) (a_t_now_level : Nat) (a_t_now_loss : Nat) (a_t_now_lexicon : Nat) (a_t_now_lexicon_leastLike : Nat) (a_t_now_lexicon_row : Nat) (a_t_now_lexicon_others : Nat) (a_t_now_lexicon_length : Nat) (a_t_now_lexicon_number : Nat) (a_t_now_lexicon_weight : Nat) (a_t_now_lexicon_lipsOf : Nat) (t_now_clearness : Int32) (t_now_isKept : Int32) (t_now_lexicon_words : Int32) (t_now_lexicon_rowLips : Int32) (t_now_lexicon_girlKnows : Int32) (t_now_lexicon_length : Nat → Int32) (t_now_lexicon_number : Nat → Int32) (t_now_lexicon_weight : Nat → Int32) (t_now_lexicon_lipsOf : Nat → Int32) (p1 : Int32) (p2 : Int32) (p3 : Int32) (ures : Int32 × Int32 × (Nat → Int32) × (Nat → Int32) × (Nat → Int32) × (Nat → Int32)) (hF : F_S_word N p1 p2 p3 t_now_lexicon_words t_now_lexicon_length t_now_lexicon_number t_now_lexicon_weight t_now_lexicon_lipsOf = some ures) : m_Met l yX11_word cX11_word 4 (some .int) rm_S_word E (wd_S_word E a_t a_t_draft a_t_firstImage a_t_secondImage a_t_news a_t_otherNews a_t_readings a_t_chances a_t_turning a_t_text a_t_fraction a_t_now a_t_now_floor a_t_now_sightings a_t_now_level a_t_now_loss a_t_now_lexicon a_t_now_lexicon_leastLike a_t_now_lexicon_row a_t_now_lexicon_others a_t_now_lexicon_length a_t_now_lexicon_number a_t_now_lexicon_weight a_t_now_lexicon_lipsOf t_now_clearness t_now_isKept t_now_lexicon_words t_now_lexicon_rowLips t_now_lexicon_girlKnows t_now_lexicon_length t_now_lexicon_number t_now_lexicon_weight t_now_lexicon_lipsOf) (wd_S_word E a_t a_t_draft a_t_firstImage a_t_secondImage a_t_news a_t_otherNews a_t_readings a_t_chances a_t_turning a_t_text a_t_fraction a_t_now a_t_now_floor a_t_now_sightings a_t_now_level a_t_now_loss a_t_now_lexicon a_t_now_lexicon_leastLike a_t_now_lexicon_row a_t_now_lexicon_others a_t_now_lexicon_length a_t_now_lexicon_number a_t_now_lexicon_weight a_t_now_lexicon_lipsOf t_now_clearness t_now_isKept ures.2.1 t_now_lexicon_rowLips t_now_lexicon_girlKnows ures.2.2.1 ures.2.2.2.1 ures.2.2.2.2.1 ures.2.2.2.2.2) sz [.ref a_t, .int p1, .int p2, .int p3] (some (.int ures.1)) := by
  refine m_ofI (by decide) (Nat.le_of_ble_eq_true rfl) ?_
  intro p e s m args below meth c A Q ls X hW hA hl hret
  obtain ⟨hx, hb, -, hown, hts, hK, -, hG⟩ := id X
  have hl : lv_has ls 4 [(0, .ref a_t), (1, .int p1), (2, .int p2), (3, .int p3)] := hl
  unfold F_S_word at hF
  refine lv_aload_n hx hb dX11_word_0 rfl (lv_at hl 0 rfl) ?_
  refine m_get X hW fdX11_10 0 rfl rfl dX11_word_1 ?_
  refine m_get X hW fdX11_156 1 rfl rfl dX11_word_4 ?_
  refine lv_iload_n hx hb dX11_word_7 rfl (lv_at hl 1 rfl) ?_
  refine lv_iload_n hx hb dX11_word_8 rfl (lv_at hl 2 rfl) ?_
  refine lv_iload_n hx hb dX11_word_9 rfl (lv_at hl 3 rfl) ?_
  obtain ⟨r10, t_now_lexicon_words'_2, t_now_lexicon_length'_2, t_now_lexicon_number'_2, t_now_lexicon_weight'_2, t_now_lexicon_lipsOf'_2, hC1, hF⟩ := bO_s6 hF
  refine m_callV X hW hA hl.1 lkX11_165 (c_Lexicon_addWord l E _ N a_t_now_lexicon a_t_now_lexicon_leastLike a_t_now_lexicon_row a_t_now_lexicon_others a_t_now_lexicon_length a_t_now_lexicon_number a_t_now_lexicon_weight a_t_now_lexicon_lipsOf t_now_lexicon_words t_now_lexicon_rowLips t_now_lexicon_girlKnows t_now_lexicon_length t_now_lexicon_number t_now_lexicon_weight t_now_lexicon_lipsOf p1 p2 p3 (r10, t_now_lexicon_words'_2, t_now_lexicon_length'_2, t_now_lexicon_number'_2, t_now_lexicon_weight'_2, t_now_lexicon_lipsOf'_2) hC1) ([2, 3, 4, 5, 6]) (by decide) rfl rfl (ws' := (wd_S_word E a_t a_t_draft a_t_firstImage a_t_secondImage a_t_news a_t_otherNews a_t_readings a_t_chances a_t_turning a_t_text a_t_fraction a_t_now a_t_now_floor a_t_now_sightings a_t_now_level a_t_now_loss a_t_now_lexicon a_t_now_lexicon_leastLike a_t_now_lexicon_row a_t_now_lexicon_others a_t_now_lexicon_length a_t_now_lexicon_number a_t_now_lexicon_weight a_t_now_lexicon_lipsOf t_now_clearness t_now_isKept t_now_lexicon_words'_2 t_now_lexicon_rowLips t_now_lexicon_girlKnows t_now_lexicon_length'_2 t_now_lexicon_number'_2 t_now_lexicon_weight'_2 t_now_lexicon_lipsOf'_2)) rfl 2 rfl rfl rfl (As := [.int p1, .int p2, .int p3]) (rest := []) rfl rfl ⟨rfl, rfl, Nat.le_of_ble_eq_true rfl, Nat.le_of_ble_eq_true rfl⟩ (Nat.le_of_ble_eq_true rfl) (Nat.zero_le _) (Nat.zero_le _) dX11_word_10 (fun H locs hW => ?_)
  clear hC1
  have hq := Option.some.inj hF
  subst hq
  exact hret _ _ _ _ hW dX11_word_13
abbrev wd_Lexicon_isWord (E : m_E) (a_t : Nat) (a_t_length : Nat) (a_t_number : Nat) (a_t_weight : Nat) (a_t_leastLike : Nat) (a_t_row : Nat) (a_t_lipsOf : Nat) (a_t_others : Nat) (t_words : Int32) (t_rowLips : Int32) (t_girlKnows : Int32) : va_W := [(a_t, .inr (3, [.int t_words, .ref a_t_length, .ref a_t_number, .ref a_t_weight, .ref a_t_leastLike, .ref a_t_row, .int t_rowLips, .int t_girlKnows, .ref a_t_lipsOf, .ref a_t_others]))]
def rm_Lexicon_isWord : Room := { frames := 1, cells := 0, slots := 0, locals := 22 }
set_option maxHeartbeats 4000000 in
set_option maxRecDepth 100000 in
theorem c_Lexicon_isWord (l : Launch) (E : m_E) (sz N : Nat) (a_t : Nat) (a_t_length : Nat) (a_t_number : Nat) (a_t_weight : Nat) (a_t_leastLike : Nat) (a_t_row : Nat) (a_t_lipsOf : Nat) (a_t_others : Nat) (t_words : Int32) (t_rowLips : Int32) (t_girlKnows : Int32) (p1 : Int32) (ures : Int32) (hF : F_Lexicon_isWord p1 t_words = ures) : m_Met l yX3_isWord cX3_isWord 2 (some .boolean) rm_Lexicon_isWord E (wd_Lexicon_isWord E a_t a_t_length a_t_number a_t_weight a_t_leastLike a_t_row a_t_lipsOf a_t_others t_words t_rowLips t_girlKnows) (wd_Lexicon_isWord E a_t a_t_length a_t_number a_t_weight a_t_leastLike a_t_row a_t_lipsOf a_t_others t_words t_rowLips t_girlKnows) sz [.ref a_t, .int p1] (some (.int ures)) := by
  refine m_ofZ (by decide) (Nat.le_of_ble_eq_true rfl) ?_
  intro p e s m args below meth c A Q ls X hW hA hl hret
  obtain ⟨hx, hb, -, hown, hts, hK, -, hG⟩ := id X
  have hl : lv_has ls 2 [(0, .ref a_t), (1, .int p1)] := hl
  unfold F_Lexicon_isWord at hF
  refine lv_iload_n hx hb dX3_isWord_0 rfl (lv_at hl 1 rfl) ?_
  refine lv_iconst (v := (0 : Int32)) hx hb dX3_isWord_1 (by decide) ?_
  refine lv_aload_n hx hb dX3_isWord_2 rfl (lv_at hl 0 rfl) ?_
  refine m_get X hW fdX3_36 0 rfl rfl dX3_isWord_3 ?_
  refine lv_iconst (v := (1 : Int32)) hx hb dX3_isWord_6 (by decide) ?_
  refine lv_isub hx hb dX3_isWord_7 ?_
  refine m_callN X hW hA hl.1 lkX3_52 (c_S_within l E _ N   p1 (0 : Int32) (t_words - (1 : Int32)) (F_S_within p1 (0 : Int32) (t_words - (1 : Int32))) rfl) ([]) (by decide) rfl rfl (ws' := (wd_Lexicon_isWord E a_t a_t_length a_t_number a_t_weight a_t_leastLike a_t_row a_t_lipsOf a_t_others t_words t_rowLips t_girlKnows)) rfl (As := [.int p1, .int (0 : Int32), .int (t_words - (1 : Int32))]) (rest := []) rfl rfl ⟨rfl, rfl, Nat.le_of_ble_eq_true rfl, Nat.le_of_ble_eq_true rfl⟩ (Nat.le_of_ble_eq_true rfl) (Nat.zero_le _) (Nat.zero_le _) dX3_isWord_8 (fun H locs hW => ?_)
  have hq := hF
  subst hq
  exact hret _ _ _ _ _ rfl hW dX3_isWord_11
abbrev wd_Lexicon_lookAlike (E : m_E) (a_t : Nat) (a_t_length : Nat) (a_t_number : Nat) (a_t_weight : Nat) (a_t_row : Nat) (a_t_lipsOf : Nat) (a_t_others : Nat) (a_t_leastLike : Nat) (t_words : Int32) (t_rowLips : Int32) (t_girlKnows : Int32) (t_leastLike : Nat → Int32) : va_W := [(a_t, .inr (3, [.int t_words, .ref a_t_length, .ref a_t_number, .ref a_t_weight, .ref a_t_leastLike, .ref a_t_row, .int t_rowLips, .int t_girlKnows, .ref a_t_lipsOf, .ref a_t_others])), (a_t_leastLike, .inl (E.2.1 0, 6, .inl t_leastLike))]
def rm_Lexicon_lookAlike : Room := { frames := 0, cells := 0, slots := 0, locals := 0 }
set_option maxHeartbeats 4000000 in
set_option maxRecDepth 100000 in
theorem c_Lexicon_lookAlike (l : Launch) (E : m_E) (sz N : Nat) (a_t : Nat) (a_t_length : Nat) (a_t_number : Nat) (a_t_weight : Nat) (a_t_row : Nat) (a_t_lipsOf : Nat) (a_t_others : Nat) (a_t_leastLike : Nat) (t_words : Int32) (t_rowLips : Int32) (t_girlKnows : Int32) (t_leastLike : Nat → Int32) (p1 : Int32) (p2 : Int32) (ures : Int32) (hF : F_Lexicon_lookAlike p1 p2 t_leastLike = some ures) : m_Met l yX3_lookAlike cX3_lookAlike 3 (some .boolean) rm_Lexicon_lookAlike E (wd_Lexicon_lookAlike E a_t a_t_length a_t_number a_t_weight a_t_row a_t_lipsOf a_t_others a_t_leastLike t_words t_rowLips t_girlKnows t_leastLike) (wd_Lexicon_lookAlike E a_t a_t_length a_t_number a_t_weight a_t_row a_t_lipsOf a_t_others a_t_leastLike t_words t_rowLips t_girlKnows t_leastLike) sz [.ref a_t, .int p1, .int p2] (some (.int ures)) := by
  refine m_ofZ (by decide) (Nat.le_of_ble_eq_true rfl) ?_
  intro p e s m args below meth c A Q ls X hW hA hl hret
  obtain ⟨hx, hb, -, hown, hts, hK, -, hG⟩ := id X
  have hl : lv_has ls 3 [(0, .ref a_t), (1, .int p1), (2, .int p2)] := hl
  unfold F_Lexicon_lookAlike at hF
  refine lv_aload_n hx hb dX3_lookAlike_0 rfl (lv_at hl 0 rfl) ?_
  refine m_get X hW fdX3_21 0 rfl rfl dX3_lookAlike_1 ?_
  refine lv_iload_n hx hb dX3_lookAlike_4 rfl (lv_at hl 1 rfl) ?_
  obtain ⟨g1, hF⟩ := gd_some hF
  refine m_iald X hW 1 (k := p1.toNatClampNeg) rfl g1 rfl dX3_lookAlike_5 ?_
  refine lv_aload_n hx hb dX3_lookAlike_6 rfl (lv_at hl 0 rfl) ?_
  refine m_get X hW fdX3_21 0 rfl rfl dX3_lookAlike_7 ?_
  refine lv_iload_n hx hb dX3_lookAlike_10 rfl (lv_at hl 2 rfl) ?_
  obtain ⟨g2, hF⟩ := gd_some hF
  refine m_iald X hW 1 (k := p2.toNatClampNeg) rfl g2 rfl dX3_lookAlike_11 ?_
  refine lv_icmp_ne (tgt := 19) hx hb dX3_lookAlike_12 (by decide) (fun c3 => ?_) (fun c3 => ?_)
  · have hF := if_n c3 hF
    refine lv_iconst (v := (0 : Int32)) hx hb dX3_lookAlike_19 (by decide) ?_
    have hq := Option.some.inj hF
    subst hq
    exact hret _ _ _ _ _ rfl hW dX3_lookAlike_20
  · have hF := if_y c3 hF
    refine lv_iconst (v := (1 : Int32)) hx hb dX3_lookAlike_15 (by decide) ?_
    refine lv_goto (tgt := 20) hx hb dX3_lookAlike_16 (by decide) ?_
    have hq := Option.some.inj hF
    subst hq
    exact hret _ _ _ _ _ rfl hW dX3_lookAlike_20
abbrev wd_Lexicon_unlikeLips (E : m_E) (a_t : Nat) (a_t_number : Nat) (a_t_weight : Nat) (a_t_row : Nat) (a_t_others : Nat) (a_t_length : Nat) (a_t_leastLike : Nat) (a_t_lipsOf : Nat) (t_words : Int32) (t_rowLips : Int32) (t_girlKnows : Int32) (t_length : Nat → Int32) (t_leastLike : Nat → Int32) (t_lipsOf : Nat → Int32) : va_W := [(a_t, .inr (3, [.int t_words, .ref a_t_length, .ref a_t_number, .ref a_t_weight, .ref a_t_leastLike, .ref a_t_row, .int t_rowLips, .int t_girlKnows, .ref a_t_lipsOf, .ref a_t_others])), (a_t_length, .inl (E.2.1 0, 10, .inl t_length)), (a_t_leastLike, .inl (E.2.1 0, 6, .inl t_leastLike)), (a_t_lipsOf, .inl (E.2.1 0, 60, .inl t_lipsOf))]
def rm_Lexicon_unlikeLips : Room := { frames := 1, cells := 0, slots := 0, locals := 22 }
set_option maxHeartbeats 4000000 in
set_option maxRecDepth 100000 in
theorem c_Lexicon_unlikeLips (l : Launch) (E : m_E) (sz N : Nat) (a_t : Nat) (a_t_number : Nat) (a_t_weight : Nat) (a_t_row : Nat) (a_t_others : Nat) (a_t_length : Nat) (a_t_leastLike : Nat) (a_t_lipsOf : Nat) (t_words : Int32) (t_rowLips : Int32) (t_girlKnows : Int32) (t_length : Nat → Int32) (t_leastLike : Nat → Int32) (t_lipsOf : Nat → Int32) (p1 : Int32) (p2 : Int32) (ures : Int32) (hF : F_Lexicon_unlikeLips N p1 p2 t_length t_leastLike t_lipsOf = some ures) : m_Met l yX3_unlikeLips cX3_unlikeLips 5 (some .int) rm_Lexicon_unlikeLips E (wd_Lexicon_unlikeLips E a_t a_t_number a_t_weight a_t_row a_t_others a_t_length a_t_leastLike a_t_lipsOf t_words t_rowLips t_girlKnows t_length t_leastLike t_lipsOf) (wd_Lexicon_unlikeLips E a_t a_t_number a_t_weight a_t_row a_t_others a_t_length a_t_leastLike a_t_lipsOf t_words t_rowLips t_girlKnows t_length t_leastLike t_lipsOf) sz [.ref a_t, .int p1, .int p2] (some (.int ures)) := by
  refine m_ofI (by decide) (Nat.le_of_ble_eq_true rfl) ?_
  intro p e s m args below meth c A Q ls X hW hA hl hret
  obtain ⟨hx, hb, -, hown, hts, hK, -, hG⟩ := id X
  have hl : lv_has ls 5 [(0, .ref a_t), (1, .int p1), (2, .int p2)] := hl
  unfold F_Lexicon_unlikeLips at hF
  refine lv_iconst (v := (0 : Int32)) hx hb dX3_unlikeLips_0 (by decide) ?_
  refine lv_istore_n (lv' := [(3, .int (0 : Int32)), (0, .ref a_t), (1, .int p1), (2, .int p2)]) hx hb dX3_unlikeLips_1 rfl hl (by decide) rfl (fun ls hl => ?_)
  refine lv_iconst (v := (0 : Int32)) hx hb dX3_unlikeLips_2 (by decide) ?_
  refine lv_istore (lv' := [(4, .int (0 : Int32)), (3, .int (0 : Int32)), (0, .ref a_t), (1, .int p1), (2, .int p2)]) hx hb dX3_unlikeLips_3 hl (by decide) rfl (fun ls hl => ?_)
  obtain ⟨x3_2, hX2, hF⟩ := bO_s1 hF
  have L1 : ∀ (k0 : Nat) (x3 : Int32) (x4 : Int32) (x3_2 : Int32) (H : Heap) (locs : List Loc) (ls : Array Slot), Lexicon_unlikeLips_L5 p1 t_length p2 t_lipsOf t_leastLike k0 x3 x4 = some x3_2 → m_H E A (wd_Lexicon_unlikeLips E a_t a_t_number a_t_weight a_t_row a_t_others a_t_length a_t_leastLike a_t_lipsOf t_words t_rowLips t_girlKnows t_length t_leastLike t_lipsOf) s.heap H locs → lv_has ls 5 [(4, .int x4), (3, .int x3), (0, .ref a_t), (1, .int p1), (2, .int p2)] → (∀ (H : Heap) (locs : List Loc) (ls : Array Slot), m_H E A (wd_Lexicon_unlikeLips E a_t a_t_number a_t_weight a_t_row a_t_others a_t_length a_t_leastLike a_t_lipsOf t_words t_rowLips t_girlKnows t_length t_leastLike t_lipsOf) s.heap H locs → lv_has ls 5 [(3, .int x3_2)] → W p l e rm_Lexicon_unlikeLips s m args below meth c H locs 0 0 Q (F0 m 56 ls [])) → W p l e rm_Lexicon_unlikeLips s m args below meth c H locs 0 0 Q (F0 m 5 ls []) := by
    clear hF
    intro k0
    induction k0 with
    | zero =>
      intro x3 x4 x3_2 H locs ls hF
      cases hF
    | succ k0 ih4 =>
      intro x3 x4 x3_2 H locs ls hF hW hl hk3
      rw [Lexicon_unlikeLips_L5] at hF
      refine lv_iload hx hb dX3_unlikeLips_5 (lv_at hl 0 rfl) ?_
      refine lv_aload_n hx hb dX3_unlikeLips_7 rfl (lv_at hl 2 rfl) ?_
      refine m_get X hW fdX3_11 0 rfl rfl dX3_unlikeLips_8 ?_
      refine lv_iload_n hx hb dX3_unlikeLips_11 rfl (lv_at hl 3 rfl) ?_
      obtain ⟨g5, hF⟩ := gd_some hF
      refine m_iald X hW 1 (k := p1.toNatClampNeg) rfl g5 rfl dX3_unlikeLips_12 ?_
      refine lv_icmp_ge (tgt := 56) hx hb dX3_unlikeLips_13 (by decide) (fun c6 => ?_) (fun c6 => ?_)
      · have hF := if_y c6 hF
        cases hF
        exact hk3 _ _ _ hW (lv_sub hl [1] rfl)
      · have hF := if_n c6 hF
        refine lv_aload_n hx hb dX3_unlikeLips_16 rfl (lv_at hl 2 rfl) ?_
        refine lv_aload_n hx hb dX3_unlikeLips_17 rfl (lv_at hl 2 rfl) ?_
        refine m_get X hW fdX3_27 0 rfl rfl dX3_unlikeLips_18 ?_
        refine lv_iload_n hx hb dX3_unlikeLips_21 rfl (lv_at hl 3 rfl) ?_
        refine lv_bipush (v := (6 : Int32)) hx hb dX3_unlikeLips_22 (by decide) ?_
        refine lv_imul hx hb dX3_unlikeLips_24 ?_
        refine lv_iload hx hb dX3_unlikeLips_25 (lv_at hl 0 rfl) ?_
        refine lv_iadd hx hb dX3_unlikeLips_27 ?_
        obtain ⟨g7, hF⟩ := gd_some hF
        refine m_iald X hW 3 (k := ((p1 * (6 : Int32)) + x4).toNatClampNeg) rfl g7 rfl dX3_unlikeLips_28 ?_
        refine lv_aload_n hx hb dX3_unlikeLips_29 rfl (lv_at hl 2 rfl) ?_
        refine m_get X hW fdX3_27 0 rfl rfl dX3_unlikeLips_30 ?_
        refine lv_iload_n hx hb dX3_unlikeLips_33 rfl (lv_at hl 4 rfl) ?_
        refine lv_bipush (v := (6 : Int32)) hx hb dX3_unlikeLips_34 (by decide) ?_
        refine lv_imul hx hb dX3_unlikeLips_36 ?_
        refine lv_iload hx hb dX3_unlikeLips_37 (lv_at hl 0 rfl) ?_
        refine lv_iadd hx hb dX3_unlikeLips_39 ?_
        obtain ⟨g8, hF⟩ := gd_some hF
        refine m_iald X hW 3 (k := ((p2 * (6 : Int32)) + x4).toNatClampNeg) rfl g8 rfl dX3_unlikeLips_40 ?_
        obtain ⟨r41, hC9, hF⟩ := bO_s1 hF
        refine m_callV X hW hA hl.1 lkX3_69 (c_Lexicon_lookAlike l E _ N a_t a_t_length a_t_number a_t_weight a_t_row a_t_lipsOf a_t_others a_t_leastLike t_words t_rowLips t_girlKnows t_leastLike (t_lipsOf ((p1 * (6 : Int32)) + x4).toNatClampNeg) (t_lipsOf ((p2 * (6 : Int32)) + x4).toNatClampNeg) r41 hC9) ([0, 2]) (by decide) rfl rfl (ws' := (wd_Lexicon_unlikeLips E a_t a_t_number a_t_weight a_t_row a_t_others a_t_length a_t_leastLike a_t_lipsOf t_words t_rowLips t_girlKnows t_length t_leastLike t_lipsOf)) rfl 0 rfl rfl rfl (As := [.int (t_lipsOf ((p1 * (6 : Int32)) + x4).toNatClampNeg), .int (t_lipsOf ((p2 * (6 : Int32)) + x4).toNatClampNeg)]) (rest := []) rfl rfl ⟨rfl, rfl, Nat.le_of_ble_eq_true rfl, Nat.le_of_ble_eq_true rfl⟩ (Nat.le_of_ble_eq_true rfl) (Nat.zero_le _) (Nat.zero_le _) dX3_unlikeLips_41 (fun H locs hW => ?_)
        clear hC9
        refine lv_if_ne (tgt := 50) hx hb dX3_unlikeLips_44 (by decide) (fun c10 => ?_) (fun c10 => ?_)
        · have hF := if_n c10 hF
          refine lv_iinc (v := (x4 + (1 : Int32))) (lv' := [(4, .int (x4 + (1 : Int32))), (3, .int x3), (0, .ref a_t), (1, .int p1), (2, .int p2)]) hx hb dX3_unlikeLips_50 hl (k := 0) rfl rfl (by decide) rfl (fun ls hl => ?_)
          refine lv_goto (tgt := 5) hx hb dX3_unlikeLips_53 (by decide) ?_
          exact ih4 x3 (x4 + (1 : Int32)) x3_2 _ _ _ hF hW (lv_sub hl [0, 1, 2, 3, 4] rfl) hk3
        · have hF := if_y c10 hF
          refine lv_iinc (v := (x3 + (1 : Int32))) (lv' := [(3, .int (x3 + (1 : Int32))), (4, .int x4), (0, .ref a_t), (1, .int p1), (2, .int p2)]) hx hb dX3_unlikeLips_47 hl (k := 1) rfl rfl (by decide) rfl (fun ls hl => ?_)
          refine lv_iinc (v := (x4 + (1 : Int32))) (lv' := [(4, .int (x4 + (1 : Int32))), (3, .int (x3 + (1 : Int32))), (0, .ref a_t), (1, .int p1), (2, .int p2)]) hx hb dX3_unlikeLips_50 hl (k := 1) rfl rfl (by decide) rfl (fun ls hl => ?_)
          refine lv_goto (tgt := 5) hx hb dX3_unlikeLips_53 (by decide) ?_
          exact ih4 (x3 + (1 : Int32)) (x4 + (1 : Int32)) x3_2 _ _ _ hF hW (lv_sub hl [0, 1, 2, 3, 4] rfl) hk3
  refine L1 N (0 : Int32) (0 : Int32) x3_2 _ _ _ hX2 hW (lv_sub hl [0, 1, 2, 3, 4] rfl) ?_
  intro H locs ls hW hl
  clear L1
  refine lv_iload_n hx hb dX3_unlikeLips_56 rfl (lv_at hl 0 rfl) ?_
  have hq := Option.some.inj hF
  subst hq
  exact hret _ _ _ _ hW dX3_unlikeLips_57
abbrev wd_Lexicon_areAlike (E : m_E) (a_t : Nat) (a_t_number : Nat) (a_t_weight : Nat) (a_t_row : Nat) (a_t_others : Nat) (a_t_length : Nat) (a_t_leastLike : Nat) (a_t_lipsOf : Nat) (t_words : Int32) (t_rowLips : Int32) (t_girlKnows : Int32) (t_length : Nat → Int32) (t_leastLike : Nat → Int32) (t_lipsOf : Nat → Int32) : va_W := [(a_t, .inr (3, [.int t_words, .ref a_t_length, .ref a_t_number, .ref a_t_weight, .ref a_t_leastLike, .ref a_t_row, .int t_rowLips, .int t_girlKnows, .ref a_t_lipsOf, .ref a_t_others])), (a_t_length, .inl (E.2.1 0, 10, .inl t_length)), (a_t_leastLike, .inl (E.2.1 0, 6, .inl t_leastLike)), (a_t_lipsOf, .inl (E.2.1 0, 60, .inl t_lipsOf))]
def rm_Lexicon_areAlike : Room := { frames := 2, cells := 0, slots := 0, locals := 46 }
set_option maxHeartbeats 4000000 in
set_option maxRecDepth 100000 in
theorem c_Lexicon_areAlike (l : Launch) (E : m_E) (sz N : Nat) (a_t : Nat) (a_t_number : Nat) (a_t_weight : Nat) (a_t_row : Nat) (a_t_others : Nat) (a_t_length : Nat) (a_t_leastLike : Nat) (a_t_lipsOf : Nat) (t_words : Int32) (t_rowLips : Int32) (t_girlKnows : Int32) (t_length : Nat → Int32) (t_leastLike : Nat → Int32) (t_lipsOf : Nat → Int32) (p1 : Int32) (p2 : Int32) (ures : Int32) (hF : F_Lexicon_areAlike N p1 p2 t_length t_leastLike t_lipsOf = some ures) : m_Met l yX3_areAlike cX3_areAlike 3 (some .boolean) rm_Lexicon_areAlike E (wd_Lexicon_areAlike E a_t a_t_number a_t_weight a_t_row a_t_others a_t_length a_t_leastLike a_t_lipsOf t_words t_rowLips t_girlKnows t_length t_leastLike t_lipsOf) (wd_Lexicon_areAlike E a_t a_t_number a_t_weight a_t_row a_t_others a_t_length a_t_leastLike a_t_lipsOf t_words t_rowLips t_girlKnows t_length t_leastLike t_lipsOf) sz [.ref a_t, .int p1, .int p2] (some (.int ures)) := by
  refine m_ofZ (by decide) (Nat.le_of_ble_eq_true rfl) ?_
  intro p e s m args below meth c A Q ls X hW hA hl hret
  obtain ⟨hx, hb, -, hown, hts, hK, -, hG⟩ := id X
  have hl : lv_has ls 3 [(0, .ref a_t), (1, .int p1), (2, .int p2)] := hl
  unfold F_Lexicon_areAlike at hF
  refine lv_aload_n hx hb dX3_areAlike_0 rfl (lv_at hl 0 rfl) ?_
  refine m_get X hW fdX3_11 0 rfl rfl dX3_areAlike_1 ?_
  refine lv_iload_n hx hb dX3_areAlike_4 rfl (lv_at hl 1 rfl) ?_
  obtain ⟨g1, hF⟩ := gd_some hF
  refine m_iald X hW 1 (k := p1.toNatClampNeg) rfl g1 rfl dX3_areAlike_5 ?_
  refine lv_aload_n hx hb dX3_areAlike_6 rfl (lv_at hl 0 rfl) ?_
  refine m_get X hW fdX3_11 0 rfl rfl dX3_areAlike_7 ?_
  refine lv_iload_n hx hb dX3_areAlike_10 rfl (lv_at hl 2 rfl) ?_
  obtain ⟨g2, hF⟩ := gd_some hF
  refine m_iald X hW 1 (k := p2.toNatClampNeg) rfl g2 rfl dX3_areAlike_11 ?_
  refine lv_icmp_ne (tgt := 28) hx hb dX3_areAlike_12 (by decide) (fun c3 => ?_) (fun c3 => ?_)
  · have hF := if_n c3 hF
    refine lv_iconst (v := (0 : Int32)) hx hb dX3_areAlike_28 (by decide) ?_
    have hq := Option.some.inj hF
    subst hq
    exact hret _ _ _ _ _ rfl hW dX3_areAlike_29
  · have hF := if_y c3 hF
    refine lv_aload_n hx hb dX3_areAlike_15 rfl (lv_at hl 0 rfl) ?_
    refine lv_iload_n hx hb dX3_areAlike_16 rfl (lv_at hl 1 rfl) ?_
    refine lv_iload_n hx hb dX3_areAlike_17 rfl (lv_at hl 2 rfl) ?_
    obtain ⟨r18, hC4, hF⟩ := bO_s1 hF
    refine m_callV X hW hA hl.1 lkX3_73 (c_Lexicon_unlikeLips l E _ N a_t a_t_number a_t_weight a_t_row a_t_others a_t_length a_t_leastLike a_t_lipsOf t_words t_rowLips t_girlKnows t_length t_leastLike t_lipsOf p1 p2 r18 hC4) ([0, 1, 2, 3]) (by decide) rfl rfl (ws' := (wd_Lexicon_areAlike E a_t a_t_number a_t_weight a_t_row a_t_others a_t_length a_t_leastLike a_t_lipsOf t_words t_rowLips t_girlKnows t_length t_leastLike t_lipsOf)) rfl 0 rfl rfl rfl (As := [.int p1, .int p2]) (rest := []) rfl rfl ⟨rfl, rfl, Nat.le_of_ble_eq_true rfl, Nat.le_of_ble_eq_true rfl⟩ (Nat.le_of_ble_eq_true rfl) (Nat.zero_le _) (Nat.zero_le _) dX3_areAlike_18 (fun H locs hW => ?_)
    clear hC4
    refine lv_if_ne (tgt := 28) hx hb dX3_areAlike_21 (by decide) (fun c5 => ?_) (fun c5 => ?_)
    · have hF := if_n c5 hF
      refine lv_iconst (v := (0 : Int32)) hx hb dX3_areAlike_28 (by decide) ?_
      have hq := Option.some.inj hF
      subst hq
      exact hret _ _ _ _ _ rfl hW dX3_areAlike_29
    · have hF := if_y c5 hF
      refine lv_iconst (v := (1 : Int32)) hx hb dX3_areAlike_24 (by decide) ?_
      refine lv_goto (tgt := 29) hx hb dX3_areAlike_25 (by decide) ?_
      have hq := Option.some.inj hF
      subst hq
      exact hret _ _ _ _ _ rfl hW dX3_areAlike_29
abbrev wd_S_alike (E : m_E) (a_t : Nat) (a_t_draft : Nat) (a_t_firstImage : Nat) (a_t_secondImage : Nat) (a_t_news : Nat) (a_t_otherNews : Nat) (a_t_readings : Nat) (a_t_chances : Nat) (a_t_turning : Nat) (a_t_text : Nat) (a_t_fraction : Nat) (a_t_now : Nat) (a_t_now_floor : Nat) (a_t_now_sightings : Nat) (a_t_now_level : Nat) (a_t_now_loss : Nat) (a_t_now_lexicon : Nat) (a_t_now_lexicon_number : Nat) (a_t_now_lexicon_weight : Nat) (a_t_now_lexicon_row : Nat) (a_t_now_lexicon_others : Nat) (a_t_now_lexicon_length : Nat) (a_t_now_lexicon_leastLike : Nat) (a_t_now_lexicon_lipsOf : Nat) (t_now_clearness : Int32) (t_now_isKept : Int32) (t_now_lexicon_words : Int32) (t_now_lexicon_rowLips : Int32) (t_now_lexicon_girlKnows : Int32) (t_now_lexicon_length : Nat → Int32) (t_now_lexicon_leastLike : Nat → Int32) (t_now_lexicon_lipsOf : Nat → Int32) : va_W := [(a_t, .inr (11, [.ref a_t_now, .ref a_t_draft, .ref a_t_firstImage, .ref a_t_secondImage, .ref a_t_news, .ref a_t_otherNews, .ref a_t_readings, .ref a_t_chances, .ref a_t_turning, .ref a_t_text, .ref a_t_fraction])), (a_t_now, .inr (7, [.ref a_t_now_floor, .ref a_t_now_sightings, .ref a_t_now_lexicon, .ref a_t_now_level, .ref a_t_now_loss, .int t_now_clearness, .int t_now_isKept])), (a_t_now_lexicon, .inr (3, [.int t_now_lexicon_words, .ref a_t_now_lexicon_length, .ref a_t_now_lexicon_number, .ref a_t_now_lexicon_weight, .ref a_t_now_lexicon_leastLike, .ref a_t_now_lexicon_row, .int t_now_lexicon_rowLips, .int t_now_lexicon_girlKnows, .ref a_t_now_lexicon_lipsOf, .ref a_t_now_lexicon_others])), (a_t_now_lexicon_length, .inl (E.2.1 0, 10, .inl t_now_lexicon_length)), (a_t_now_lexicon_leastLike, .inl (E.2.1 0, 6, .inl t_now_lexicon_leastLike)), (a_t_now_lexicon_lipsOf, .inl (E.2.1 0, 60, .inl t_now_lexicon_lipsOf))]
def rm_S_alike : Room := { frames := 3, cells := 0, slots := 0, locals := 68 }
set_option maxHeartbeats 4000000 in
set_option maxRecDepth 100000 in
theorem c_S_alike (l : Launch) (E : m_E) (sz N : Nat) (a_t : Nat) (a_t_draft : Nat) (a_t_firstImage : Nat) (a_t_secondImage : Nat) (a_t_news : Nat) (a_t_otherNews : Nat) (a_t_readings : Nat) (a_t_chances : Nat) (a_t_turning : Nat) (a_t_text : Nat) (a_t_fraction : Nat) (a_t_now : Nat) (a_t_now_floor : Nat) (a_t_now_sightings : Nat) (a_t_now_level : Nat) (a_t_now_loss : Nat) (a_t_now_lexicon : Nat) (a_t_now_lexicon_number : Nat) (a_t_now_lexicon_weight : Nat) (a_t_now_lexicon_row : Nat) (a_t_now_lexicon_others : Nat) (a_t_now_lexicon_length : Nat) (a_t_now_lexicon_leastLike : Nat) (a_t_now_lexicon_lipsOf : Nat) (t_now_clearness : Int32) (t_now_isKept : Int32) (t_now_lexicon_words : Int32) (t_now_lexicon_rowLips : Int32) (t_now_lexicon_girlKnows : Int32) (t_now_lexicon_length : Nat → Int32) (t_now_lexicon_leastLike : Nat → Int32) (t_now_lexicon_lipsOf : Nat → Int32) (p1 : Int32) (p2 : Int32) (ures : Int32) (hF : F_S_alike N p1 p2 t_now_lexicon_words t_now_lexicon_length t_now_lexicon_leastLike t_now_lexicon_lipsOf = some ures) : m_Met l yX11_alike cX11_alike 3 (some .int) rm_S_alike E (wd_S_alike E a_t a_t_draft a_t_firstImage a_t_secondImage a_t_news a_t_otherNews a_t_readings a_t_chances a_t_turning a_t_text a_t_fraction a_t_now a_t_now_floor a_t_now_sightings a_t_now_level a_t_now_loss a_t_now_lexicon a_t_now_lexicon_number a_t_now_lexicon_weight a_t_now_lexicon_row a_t_now_lexicon_others a_t_now_lexicon_length a_t_now_lexicon_leastLike a_t_now_lexicon_lipsOf t_now_clearness t_now_isKept t_now_lexicon_words t_now_lexicon_rowLips t_now_lexicon_girlKnows t_now_lexicon_length t_now_lexicon_leastLike t_now_lexicon_lipsOf) (wd_S_alike E a_t a_t_draft a_t_firstImage a_t_secondImage a_t_news a_t_otherNews a_t_readings a_t_chances a_t_turning a_t_text a_t_fraction a_t_now a_t_now_floor a_t_now_sightings a_t_now_level a_t_now_loss a_t_now_lexicon a_t_now_lexicon_number a_t_now_lexicon_weight a_t_now_lexicon_row a_t_now_lexicon_others a_t_now_lexicon_length a_t_now_lexicon_leastLike a_t_now_lexicon_lipsOf t_now_clearness t_now_isKept t_now_lexicon_words t_now_lexicon_rowLips t_now_lexicon_girlKnows t_now_lexicon_length t_now_lexicon_leastLike t_now_lexicon_lipsOf) sz [.ref a_t, .int p1, .int p2] (some (.int ures)) := by
  refine m_ofI (by decide) (Nat.le_of_ble_eq_true rfl) ?_
  intro p e s m args below meth c A Q ls X hW hA hl hret
  obtain ⟨hx, hb, -, hown, hts, hK, -, hG⟩ := id X
  have hl : lv_has ls 3 [(0, .ref a_t), (1, .int p1), (2, .int p2)] := hl
  unfold F_S_alike at hF
  refine lv_aload_n hx hb dX11_alike_0 rfl (lv_at hl 0 rfl) ?_
  refine m_get X hW fdX11_10 0 rfl rfl dX11_alike_1 ?_
  refine m_get X hW fdX11_156 1 rfl rfl dX11_alike_4 ?_
  refine lv_iload_n hx hb dX11_alike_7 rfl (lv_at hl 1 rfl) ?_
  refine m_callV X hW hA hl.1 lkX11_169 (c_Lexicon_isWord l E _ N a_t_now_lexicon a_t_now_lexicon_length a_t_now_lexicon_number a_t_now_lexicon_weight a_t_now_lexicon_leastLike a_t_now_lexicon_row a_t_now_lexicon_lipsOf a_t_now_lexicon_others t_now_lexicon_words t_now_lexicon_rowLips t_now_lexicon_girlKnows p1 (F_Lexicon_isWord p1 t_now_lexicon_words) rfl) ([2]) (by decide) rfl rfl (ws' := (wd_S_alike E a_t a_t_draft a_t_firstImage a_t_secondImage a_t_news a_t_otherNews a_t_readings a_t_chances a_t_turning a_t_text a_t_fraction a_t_now a_t_now_floor a_t_now_sightings a_t_now_level a_t_now_loss a_t_now_lexicon a_t_now_lexicon_number a_t_now_lexicon_weight a_t_now_lexicon_row a_t_now_lexicon_others a_t_now_lexicon_length a_t_now_lexicon_leastLike a_t_now_lexicon_lipsOf t_now_clearness t_now_isKept t_now_lexicon_words t_now_lexicon_rowLips t_now_lexicon_girlKnows t_now_lexicon_length t_now_lexicon_leastLike t_now_lexicon_lipsOf)) rfl 2 rfl rfl rfl (As := [.int p1]) (rest := []) rfl rfl ⟨rfl, rfl, Nat.le_of_ble_eq_true rfl, Nat.le_of_ble_eq_true rfl⟩ (Nat.le_of_ble_eq_true rfl) (Nat.zero_le _) (Nat.zero_le _) dX11_alike_8 (fun H locs hW => ?_)
  refine lv_if_eq (tgt := 28) hx hb dX11_alike_11 (by decide) (fun c1 => ?_) (fun c1 => ?_)
  · have hF := if_y c1 hF
    refine lv_bipush (v := (-2 : Int32)) hx hb dX11_alike_28 (by decide) ?_
    have hq := Option.some.inj hF
    subst hq
    exact hret _ _ _ _ hW dX11_alike_30
  · have hF := if_n c1 hF
    refine lv_aload_n hx hb dX11_alike_14 rfl (lv_at hl 0 rfl) ?_
    refine m_get X hW fdX11_10 0 rfl rfl dX11_alike_15 ?_
    refine m_get X hW fdX11_156 1 rfl rfl dX11_alike_18 ?_
    refine lv_iload_n hx hb dX11_alike_21 rfl (lv_at hl 2 rfl) ?_
    refine m_callV X hW hA hl.1 lkX11_169 (c_Lexicon_isWord l E _ N a_t_now_lexicon a_t_now_lexicon_length a_t_now_lexicon_number a_t_now_lexicon_weight a_t_now_lexicon_leastLike a_t_now_lexicon_row a_t_now_lexicon_lipsOf a_t_now_lexicon_others t_now_lexicon_words t_now_lexicon_rowLips t_now_lexicon_girlKnows p2 (F_Lexicon_isWord p2 t_now_lexicon_words) rfl) ([2]) (by decide) rfl rfl (ws' := (wd_S_alike E a_t a_t_draft a_t_firstImage a_t_secondImage a_t_news a_t_otherNews a_t_readings a_t_chances a_t_turning a_t_text a_t_fraction a_t_now a_t_now_floor a_t_now_sightings a_t_now_level a_t_now_loss a_t_now_lexicon a_t_now_lexicon_number a_t_now_lexicon_weight a_t_now_lexicon_row a_t_now_lexicon_others a_t_now_lexicon_length a_t_now_lexicon_leastLike a_t_now_lexicon_lipsOf t_now_clearness t_now_isKept t_now_lexicon_words t_now_lexicon_rowLips t_now_lexicon_girlKnows t_now_lexicon_length t_now_lexicon_leastLike t_now_lexicon_lipsOf)) rfl 2 rfl rfl rfl (As := [.int p2]) (rest := []) rfl rfl ⟨rfl, rfl, Nat.le_of_ble_eq_true rfl, Nat.le_of_ble_eq_true rfl⟩ (Nat.le_of_ble_eq_true rfl) (Nat.zero_le _) (Nat.zero_le _) dX11_alike_22 (fun H locs hW => ?_)
    refine lv_if_ne (tgt := 31) hx hb dX11_alike_25 (by decide) (fun c2 => ?_) (fun c2 => ?_)
    · have hF := if_n c2 hF
      refine lv_aload_n hx hb dX11_alike_31 rfl (lv_at hl 0 rfl) ?_
      refine m_get X hW fdX11_10 0 rfl rfl dX11_alike_32 ?_
      refine m_get X hW fdX11_156 1 rfl rfl dX11_alike_35 ?_
      refine lv_iload_n hx hb dX11_alike_38 rfl (lv_at hl 1 rfl) ?_
      refine lv_iload_n hx hb dX11_alike_39 rfl (lv_at hl 2 rfl) ?_
      obtain ⟨r40, hC3, hF⟩ := bO_s1 hF
      refine m_callV X hW hA hl.1 lkX11_172 (c_Lexicon_areAlike l E _ N a_t_now_lexicon a_t_now_lexicon_number a_t_now_lexicon_weight a_t_now_lexicon_row a_t_now_lexicon_others a_t_now_lexicon_length a_t_now_lexicon_leastLike a_t_now_lexicon_lipsOf t_now_lexicon_words t_now_lexicon_rowLips t_now_lexicon_girlKnows t_now_lexicon_length t_now_lexicon_leastLike t_now_lexicon_lipsOf p1 p2 r40 hC3) ([2, 3, 4, 5]) (by decide) rfl rfl (ws' := (wd_S_alike E a_t a_t_draft a_t_firstImage a_t_secondImage a_t_news a_t_otherNews a_t_readings a_t_chances a_t_turning a_t_text a_t_fraction a_t_now a_t_now_floor a_t_now_sightings a_t_now_level a_t_now_loss a_t_now_lexicon a_t_now_lexicon_number a_t_now_lexicon_weight a_t_now_lexicon_row a_t_now_lexicon_others a_t_now_lexicon_length a_t_now_lexicon_leastLike a_t_now_lexicon_lipsOf t_now_clearness t_now_isKept t_now_lexicon_words t_now_lexicon_rowLips t_now_lexicon_girlKnows t_now_lexicon_length t_now_lexicon_leastLike t_now_lexicon_lipsOf)) rfl 2 rfl rfl rfl (As := [.int p1, .int p2]) (rest := []) rfl rfl ⟨rfl, rfl, Nat.le_of_ble_eq_true rfl, Nat.le_of_ble_eq_true rfl⟩ (Nat.le_of_ble_eq_true rfl) (Nat.zero_le _) (Nat.zero_le _) dX11_alike_40 (fun H locs hW => ?_)
      clear hC3
      refine m_callS X hW hA hl.1 lkX11_105 (c_S_oneIf l E _ N   r40 (F_S_oneIf r40) rfl) ([]) (by decide) rfl rfl (ws' := (wd_S_alike E a_t a_t_draft a_t_firstImage a_t_secondImage a_t_news a_t_otherNews a_t_readings a_t_chances a_t_turning a_t_text a_t_fraction a_t_now a_t_now_floor a_t_now_sightings a_t_now_level a_t_now_loss a_t_now_lexicon a_t_now_lexicon_number a_t_now_lexicon_weight a_t_now_lexicon_row a_t_now_lexicon_others a_t_now_lexicon_length a_t_now_lexicon_leastLike a_t_now_lexicon_lipsOf t_now_clearness t_now_isKept t_now_lexicon_words t_now_lexicon_rowLips t_now_lexicon_girlKnows t_now_lexicon_length t_now_lexicon_leastLike t_now_lexicon_lipsOf)) rfl (As := [.int r40]) (rest := []) rfl rfl ⟨rfl, rfl, Nat.le_of_ble_eq_true rfl, Nat.le_of_ble_eq_true rfl⟩ (Nat.le_of_ble_eq_true rfl) (Nat.zero_le _) (Nat.zero_le _) dX11_alike_43 (fun H locs hW => ?_)
      have hq := Option.some.inj hF
      subst hq
      exact hret _ _ _ _ hW dX11_alike_46
    · have hF := if_y c2 hF
      refine lv_bipush (v := (-2 : Int32)) hx hb dX11_alike_28 (by decide) ?_
      have hq := Option.some.inj hF
      subst hq
      exact hret _ _ _ _ hW dX11_alike_30
abbrev wd_Lexicon_addLip (E : m_E) (a_t : Nat) (a_t_length : Nat) (a_t_number : Nat) (a_t_weight : Nat) (a_t_leastLike : Nat) (a_t_lipsOf : Nat) (a_t_others : Nat) (a_t_row : Nat) (t_words : Int32) (t_rowLips : Int32) (t_girlKnows : Int32) (t_row : Nat → Int32) : va_W := [(a_t, .inr (3, [.int t_words, .ref a_t_length, .ref a_t_number, .ref a_t_weight, .ref a_t_leastLike, .ref a_t_row, .int t_rowLips, .int t_girlKnows, .ref a_t_lipsOf, .ref a_t_others])), (a_t_row, .inl (E.2.1 0, 24, .inl t_row))]
def rm_Lexicon_addLip : Room := { frames := 1, cells := 0, slots := 0, locals := 22 }
set_option maxHeartbeats 4000000 in
set_option maxRecDepth 100000 in
theorem c_Lexicon_addLip (l : Launch) (E : m_E) (sz N : Nat) (a_t : Nat) (a_t_length : Nat) (a_t_number : Nat) (a_t_weight : Nat) (a_t_leastLike : Nat) (a_t_lipsOf : Nat) (a_t_others : Nat) (a_t_row : Nat) (t_words : Int32) (t_rowLips : Int32) (t_girlKnows : Int32) (t_row : Nat → Int32) (p1 : Int32) (ures : Int32 × Int32 × (Nat → Int32)) (hF : F_Lexicon_addLip p1 t_rowLips t_row = some ures) : m_Met l yX3_addLip cX3_addLip 2 (some .int) rm_Lexicon_addLip E (wd_Lexicon_addLip E a_t a_t_length a_t_number a_t_weight a_t_leastLike a_t_lipsOf a_t_others a_t_row t_words t_rowLips t_girlKnows t_row) (wd_Lexicon_addLip E a_t a_t_length a_t_number a_t_weight a_t_leastLike a_t_lipsOf a_t_others a_t_row t_words ures.2.1 t_girlKnows ures.2.2) sz [.ref a_t, .int p1] (some (.int ures.1)) := by
  refine m_ofI (by decide) (Nat.le_of_ble_eq_true rfl) ?_
  intro p e s m args below meth c A Q ls X hW hA hl hret
  obtain ⟨hx, hb, -, hown, hts, hK, -, hG⟩ := id X
  have hl : lv_has ls 2 [(0, .ref a_t), (1, .int p1)] := hl
  unfold F_Lexicon_addLip at hF
  refine lv_iload_n hx hb dX3_addLip_0 rfl (lv_at hl 1 rfl) ?_
  refine lv_iconst (v := (0 : Int32)) hx hb dX3_addLip_1 (by decide) ?_
  refine lv_iconst (v := (5 : Int32)) hx hb dX3_addLip_2 (by decide) ?_
  refine m_callN X hW hA hl.1 lkX3_52 (c_S_within l E _ N   p1 (0 : Int32) (5 : Int32) (F_S_within p1 (0 : Int32) (5 : Int32)) rfl) ([]) (by decide) rfl rfl (ws' := (wd_Lexicon_addLip E a_t a_t_length a_t_number a_t_weight a_t_leastLike a_t_lipsOf a_t_others a_t_row t_words t_rowLips t_girlKnows t_row)) rfl (As := [.int p1, .int (0 : Int32), .int (5 : Int32)]) (rest := []) rfl rfl ⟨rfl, rfl, Nat.le_of_ble_eq_true rfl, Nat.le_of_ble_eq_true rfl⟩ (Nat.le_of_ble_eq_true rfl) (Nat.zero_le _) (Nat.zero_le _) dX3_addLip_3 (fun H locs hW => ?_)
  refine lv_if_ne (tgt := 12) hx hb dX3_addLip_6 (by decide) (fun c1 => ?_) (fun c1 => ?_)
  · have hF := if_n c1 hF
    refine lv_aload_n hx hb dX3_addLip_12 rfl (lv_at hl 0 rfl) ?_
    refine m_get X hW fdX3_40 0 rfl rfl dX3_addLip_13 ?_
    refine lv_bipush (v := (24 : Int32)) hx hb dX3_addLip_16 (by decide) ?_
    refine lv_icmp_lt (tgt := 24) hx hb dX3_addLip_18 (by decide) (fun c2 => ?_) (fun c2 => ?_)
    · have hF := if_y c2 hF
      refine lv_aload_n hx hb dX3_addLip_24 rfl (lv_at hl 0 rfl) ?_
      refine m_get X hW fdX3_24 0 rfl rfl dX3_addLip_25 ?_
      refine lv_aload_n hx hb dX3_addLip_28 rfl (lv_at hl 0 rfl) ?_
      refine m_get X hW fdX3_40 0 rfl rfl dX3_addLip_29 ?_
      refine lv_iload_n hx hb dX3_addLip_32 rfl (lv_at hl 1 rfl) ?_
      obtain ⟨g3, hF⟩ := gd_some hF
      refine m_iast X hW 1 (k := t_rowLips.toNatClampNeg) rfl g3 rfl dX3_addLip_33 (ws' := (wd_Lexicon_addLip E a_t a_t_length a_t_number a_t_weight a_t_leastLike a_t_lipsOf a_t_others a_t_row t_words t_rowLips t_girlKnows (upd t_row t_rowLips.toNatClampNeg p1))) rfl (fun H locs hW => ?_)
      refine lv_aload_n hx hb dX3_addLip_34 rfl (lv_at hl 0 rfl) ?_
      refine lv_dup hx hb dX3_addLip_35 rfl ?_
      refine m_get X hW fdX3_40 0 rfl rfl dX3_addLip_36 ?_
      refine lv_iconst (v := (1 : Int32)) hx hb dX3_addLip_39 (by decide) ?_
      refine lv_iadd hx hb dX3_addLip_40 ?_
      refine m_putf X hW fdX3_40 0 rfl (Nat.le_of_ble_eq_true rfl) rfl rfl dX3_addLip_41 (ws' := (wd_Lexicon_addLip E a_t a_t_length a_t_number a_t_weight a_t_leastLike a_t_lipsOf a_t_others a_t_row t_words (t_rowLips + (1 : Int32)) t_girlKnows (upd t_row t_rowLips.toNatClampNeg p1))) rfl (fun H locs hW => ?_)
      refine lv_aload_n hx hb dX3_addLip_44 rfl (lv_at hl 0 rfl) ?_
      refine m_get X hW fdX3_40 0 rfl rfl dX3_addLip_45 ?_
      have hq := Option.some.inj hF
      subst hq
      exact hret _ _ _ _ hW dX3_addLip_48
    · have hF := if_n c2 hF
      refine lv_bipush (v := (-4 : Int32)) hx hb dX3_addLip_21 (by decide) ?_
      have hq := Option.some.inj hF
      subst hq
      exact hret _ _ _ _ hW dX3_addLip_23
  · have hF := if_y c1 hF
    refine lv_bipush (v := (-2 : Int32)) hx hb dX3_addLip_9 (by decide) ?_
    have hq := Option.some.inj hF
    subst hq
    exact hret _ _ _ _ hW dX3_addLip_11
abbrev wd_S_lip (E : m_E) (a_t : Nat) (a_t_draft : Nat) (a_t_firstImage : Nat) (a_t_secondImage : Nat) (a_t_news : Nat) (a_t_otherNews : Nat) (a_t_readings : Nat) (a_t_chances : Nat) (a_t_turning : Nat) (a_t_text : Nat) (a_t_fraction : Nat) (a_t_now : Nat) (a_t_now_floor : Nat) (a_t_now_sightings : Nat) (a_t_now_level : Nat) (a_t_now_loss : Nat) (a_t_now_lexicon : Nat) (a_t_now_lexicon_length : Nat) (a_t_now_lexicon_number : Nat) (a_t_now_lexicon_weight : Nat) (a_t_now_lexicon_leastLike : Nat) (a_t_now_lexicon_lipsOf : Nat) (a_t_now_lexicon_others : Nat) (a_t_now_lexicon_row : Nat) (t_now_clearness : Int32) (t_now_isKept : Int32) (t_now_lexicon_words : Int32) (t_now_lexicon_rowLips : Int32) (t_now_lexicon_girlKnows : Int32) (t_now_lexicon_row : Nat → Int32) : va_W := [(a_t, .inr (11, [.ref a_t_now, .ref a_t_draft, .ref a_t_firstImage, .ref a_t_secondImage, .ref a_t_news, .ref a_t_otherNews, .ref a_t_readings, .ref a_t_chances, .ref a_t_turning, .ref a_t_text, .ref a_t_fraction])), (a_t_now, .inr (7, [.ref a_t_now_floor, .ref a_t_now_sightings, .ref a_t_now_lexicon, .ref a_t_now_level, .ref a_t_now_loss, .int t_now_clearness, .int t_now_isKept])), (a_t_now_lexicon, .inr (3, [.int t_now_lexicon_words, .ref a_t_now_lexicon_length, .ref a_t_now_lexicon_number, .ref a_t_now_lexicon_weight, .ref a_t_now_lexicon_leastLike, .ref a_t_now_lexicon_row, .int t_now_lexicon_rowLips, .int t_now_lexicon_girlKnows, .ref a_t_now_lexicon_lipsOf, .ref a_t_now_lexicon_others])), (a_t_now_lexicon_row, .inl (E.2.1 0, 24, .inl t_now_lexicon_row))]
def rm_S_lip : Room := { frames := 2, cells := 0, slots := 0, locals := 43 }
set_option maxHeartbeats 4000000 in
set_option maxRecDepth 100000 in
theorem c_S_lip (l : Launch) (E : m_E) (sz N : Nat) (a_t : Nat) (a_t_draft : Nat) (a_t_firstImage : Nat) (a_t_secondImage : Nat) (a_t_news : Nat) (a_t_otherNews : Nat) (a_t_readings : Nat) (a_t_chances : Nat) (a_t_turning : Nat) (a_t_text : Nat) (a_t_fraction : Nat) (a_t_now : Nat) (a_t_now_floor : Nat) (a_t_now_sightings : Nat) (a_t_now_level : Nat) (a_t_now_loss : Nat) (a_t_now_lexicon : Nat) (a_t_now_lexicon_length : Nat) (a_t_now_lexicon_number : Nat) (a_t_now_lexicon_weight : Nat) (a_t_now_lexicon_leastLike : Nat) (a_t_now_lexicon_lipsOf : Nat) (a_t_now_lexicon_others : Nat) (a_t_now_lexicon_row : Nat) (t_now_clearness : Int32) (t_now_isKept : Int32) (t_now_lexicon_words : Int32) (t_now_lexicon_rowLips : Int32) (t_now_lexicon_girlKnows : Int32) (t_now_lexicon_row : Nat → Int32) (p1 : Int32) (ures : Int32 × Int32 × (Nat → Int32)) (hF : F_S_lip p1 t_now_lexicon_rowLips t_now_lexicon_row = some ures) : m_Met l yX11_lip cX11_lip 2 (some .int) rm_S_lip E (wd_S_lip E a_t a_t_draft a_t_firstImage a_t_secondImage a_t_news a_t_otherNews a_t_readings a_t_chances a_t_turning a_t_text a_t_fraction a_t_now a_t_now_floor a_t_now_sightings a_t_now_level a_t_now_loss a_t_now_lexicon a_t_now_lexicon_length a_t_now_lexicon_number a_t_now_lexicon_weight a_t_now_lexicon_leastLike a_t_now_lexicon_lipsOf a_t_now_lexicon_others a_t_now_lexicon_row t_now_clearness t_now_isKept t_now_lexicon_words t_now_lexicon_rowLips t_now_lexicon_girlKnows t_now_lexicon_row) (wd_S_lip E a_t a_t_draft a_t_firstImage a_t_secondImage a_t_news a_t_otherNews a_t_readings a_t_chances a_t_turning a_t_text a_t_fraction a_t_now a_t_now_floor a_t_now_sightings a_t_now_level a_t_now_loss a_t_now_lexicon a_t_now_lexicon_length a_t_now_lexicon_number a_t_now_lexicon_weight a_t_now_lexicon_leastLike a_t_now_lexicon_lipsOf a_t_now_lexicon_others a_t_now_lexicon_row t_now_clearness t_now_isKept t_now_lexicon_words ures.2.1 t_now_lexicon_girlKnows ures.2.2) sz [.ref a_t, .int p1] (some (.int ures.1)) := by
  refine m_ofI (by decide) (Nat.le_of_ble_eq_true rfl) ?_
  intro p e s m args below meth c A Q ls X hW hA hl hret
  obtain ⟨hx, hb, -, hown, hts, hK, -, hG⟩ := id X
  have hl : lv_has ls 2 [(0, .ref a_t), (1, .int p1)] := hl
  unfold F_S_lip at hF
  refine lv_aload_n hx hb dX11_lip_0 rfl (lv_at hl 0 rfl) ?_
  refine m_get X hW fdX11_10 0 rfl rfl dX11_lip_1 ?_
  refine m_get X hW fdX11_156 1 rfl rfl dX11_lip_4 ?_
  refine lv_iload_n hx hb dX11_lip_7 rfl (lv_at hl 1 rfl) ?_
  obtain ⟨r8, t_now_lexicon_rowLips'_2, t_now_lexicon_row'_2, hC1, hF⟩ := bO_s3 hF
  refine m_callV X hW hA hl.1 lkX11_175 (c_Lexicon_addLip l E _ N a_t_now_lexicon a_t_now_lexicon_length a_t_now_lexicon_number a_t_now_lexicon_weight a_t_now_lexicon_leastLike a_t_now_lexicon_lipsOf a_t_now_lexicon_others a_t_now_lexicon_row t_now_lexicon_words t_now_lexicon_rowLips t_now_lexicon_girlKnows t_now_lexicon_row p1 (r8, t_now_lexicon_rowLips'_2, t_now_lexicon_row'_2) hC1) ([2, 3]) (by decide) rfl rfl (ws' := (wd_S_lip E a_t a_t_draft a_t_firstImage a_t_secondImage a_t_news a_t_otherNews a_t_readings a_t_chances a_t_turning a_t_text a_t_fraction a_t_now a_t_now_floor a_t_now_sightings a_t_now_level a_t_now_loss a_t_now_lexicon a_t_now_lexicon_length a_t_now_lexicon_number a_t_now_lexicon_weight a_t_now_lexicon_leastLike a_t_now_lexicon_lipsOf a_t_now_lexicon_others a_t_now_lexicon_row t_now_clearness t_now_isKept t_now_lexicon_words t_now_lexicon_rowLips'_2 t_now_lexicon_girlKnows t_now_lexicon_row'_2)) rfl 2 rfl rfl rfl (As := [.int p1]) (rest := []) rfl rfl ⟨rfl, rfl, Nat.le_of_ble_eq_true rfl, Nat.le_of_ble_eq_true rfl⟩ (Nat.le_of_ble_eq_true rfl) (Nat.zero_le _) (Nat.zero_le _) dX11_lip_8 (fun H locs hW => ?_)
  clear hC1
  have hq := Option.some.inj hF
  subst hq
  exact hret _ _ _ _ hW dX11_lip_11
abbrev wd_S_hush (E : m_E) (a_t : Nat) (a_t_draft : Nat) (a_t_firstImage : Nat) (a_t_secondImage : Nat) (a_t_news : Nat) (a_t_otherNews : Nat) (a_t_readings : Nat) (a_t_chances : Nat) (a_t_turning : Nat) (a_t_text : Nat) (a_t_fraction : Nat) (a_t_now : Nat) (a_t_now_floor : Nat) (a_t_now_sightings : Nat) (a_t_now_level : Nat) (a_t_now_loss : Nat) (a_t_now_lexicon : Nat) (a_t_now_lexicon_length : Nat) (a_t_now_lexicon_number : Nat) (a_t_now_lexicon_weight : Nat) (a_t_now_lexicon_leastLike : Nat) (a_t_now_lexicon_row : Nat) (a_t_now_lexicon_lipsOf : Nat) (a_t_now_lexicon_others : Nat) (t_now_clearness : Int32) (t_now_isKept : Int32) (t_now_lexicon_words : Int32) (t_now_lexicon_rowLips : Int32) (t_now_lexicon_girlKnows : Int32) : va_W := [(a_t, .inr (11, [.ref a_t_now, .ref a_t_draft, .ref a_t_firstImage, .ref a_t_secondImage, .ref a_t_news, .ref a_t_otherNews, .ref a_t_readings, .ref a_t_chances, .ref a_t_turning, .ref a_t_text, .ref a_t_fraction])), (a_t_now, .inr (7, [.ref a_t_now_floor, .ref a_t_now_sightings, .ref a_t_now_lexicon, .ref a_t_now_level, .ref a_t_now_loss, .int t_now_clearness, .int t_now_isKept])), (a_t_now_lexicon, .inr (3, [.int t_now_lexicon_words, .ref a_t_now_lexicon_length, .ref a_t_now_lexicon_number, .ref a_t_now_lexicon_weight, .ref a_t_now_lexicon_leastLike, .ref a_t_now_lexicon_row, .int t_now_lexicon_rowLips, .int t_now_lexicon_girlKnows, .ref a_t_now_lexicon_lipsOf, .ref a_t_now_lexicon_others]))]
def rm_S_hush : Room := { frames := 0, cells := 0, slots := 0, locals := 0 }
set_option maxHeartbeats 4000000 in
set_option maxRecDepth 100000 in
theorem c_S_hush (l : Launch) (E : m_E) (sz N : Nat) (a_t : Nat) (a_t_draft : Nat) (a_t_firstImage : Nat) (a_t_secondImage : Nat) (a_t_news : Nat) (a_t_otherNews : Nat) (a_t_readings : Nat) (a_t_chances : Nat) (a_t_turning : Nat) (a_t_text : Nat) (a_t_fraction : Nat) (a_t_now : Nat) (a_t_now_floor : Nat) (a_t_now_sightings : Nat) (a_t_now_level : Nat) (a_t_now_loss : Nat) (a_t_now_lexicon : Nat) (a_t_now_lexicon_length : Nat) (a_t_now_lexicon_number : Nat) (a_t_now_lexicon_weight : Nat) (a_t_now_lexicon_leastLike : Nat) (a_t_now_lexicon_row : Nat) (a_t_now_lexicon_lipsOf : Nat) (a_t_now_lexicon_others : Nat) (t_now_clearness : Int32) (t_now_isKept : Int32) (t_now_lexicon_words : Int32) (t_now_lexicon_rowLips : Int32) (t_now_lexicon_girlKnows : Int32)  (ures : Int32 × Int32) (hF : F_S_hush t_now_lexicon_rowLips = some ures) : m_Met l yX11_hush cX11_hush 2 (some .int) rm_S_hush E (wd_S_hush E a_t a_t_draft a_t_firstImage a_t_secondImage a_t_news a_t_otherNews a_t_readings a_t_chances a_t_turning a_t_text a_t_fraction a_t_now a_t_now_floor a_t_now_sightings a_t_now_level a_t_now_loss a_t_now_lexicon a_t_now_lexicon_length a_t_now_lexicon_number a_t_now_lexicon_weight a_t_now_lexicon_leastLike a_t_now_lexicon_row a_t_now_lexicon_lipsOf a_t_now_lexicon_others t_now_clearness t_now_isKept t_now_lexicon_words t_now_lexicon_rowLips t_now_lexicon_girlKnows) (wd_S_hush E a_t a_t_draft a_t_firstImage a_t_secondImage a_t_news a_t_otherNews a_t_readings a_t_chances a_t_turning a_t_text a_t_fraction a_t_now a_t_now_floor a_t_now_sightings a_t_now_level a_t_now_loss a_t_now_lexicon a_t_now_lexicon_length a_t_now_lexicon_number a_t_now_lexicon_weight a_t_now_lexicon_leastLike a_t_now_lexicon_row a_t_now_lexicon_lipsOf a_t_now_lexicon_others t_now_clearness t_now_isKept t_now_lexicon_words ures.2 t_now_lexicon_girlKnows) sz [.ref a_t] (some (.int ures.1)) := by
  refine m_ofI (by decide) (Nat.le_of_ble_eq_true rfl) ?_
  intro p e s m args below meth c A Q ls X hW hA hl hret
  obtain ⟨hx, hb, -, hown, hts, hK, -, hG⟩ := id X
  have hl : lv_has ls 2 [(0, .ref a_t)] := hl
  unfold F_S_hush at hF
  refine lv_aload_n hx hb dX11_hush_0 rfl (lv_at hl 0 rfl) ?_
  refine m_get X hW fdX11_10 0 rfl rfl dX11_hush_1 ?_
  refine m_get X hW fdX11_156 1 rfl rfl dX11_hush_4 ?_
  refine m_get X hW fdX11_178 2 rfl rfl dX11_hush_7 ?_
  refine lv_istore_n (lv' := [(1, .int t_now_lexicon_rowLips), (0, .ref a_t)]) hx hb dX11_hush_10 rfl hl (by decide) rfl (fun ls hl => ?_)
  refine lv_aload_n hx hb dX11_hush_11 rfl (lv_at hl 1 rfl) ?_
  refine m_get X hW fdX11_10 0 rfl rfl dX11_hush_12 ?_
  refine m_get X hW fdX11_156 1 rfl rfl dX11_hush_15 ?_
  refine lv_iconst (v := (0 : Int32)) hx hb dX11_hush_18 (by decide) ?_
  refine m_putf X hW fdX11_178 2 rfl (Nat.le_of_ble_eq_true rfl) rfl rfl dX11_hush_19 (ws' := (wd_S_hush E a_t a_t_draft a_t_firstImage a_t_secondImage a_t_news a_t_otherNews a_t_readings a_t_chances a_t_turning a_t_text a_t_fraction a_t_now a_t_now_floor a_t_now_sightings a_t_now_level a_t_now_loss a_t_now_lexicon a_t_now_lexicon_length a_t_now_lexicon_number a_t_now_lexicon_weight a_t_now_lexicon_leastLike a_t_now_lexicon_row a_t_now_lexicon_lipsOf a_t_now_lexicon_others t_now_clearness t_now_isKept t_now_lexicon_words (0 : Int32) t_now_lexicon_girlKnows)) rfl (fun H locs hW => ?_)
  refine lv_iload_n hx hb dX11_hush_22 rfl (lv_at hl 0 rfl) ?_
  have hq := Option.some.inj hF
  subst hq
  exact hret _ _ _ _ hW dX11_hush_23
abbrev wd_Lexicon_fitsRow (E : m_E) (a_t : Nat) (a_t_number : Nat) (a_t_weight : Nat) (a_t_others : Nat) (a_t_length : Nat) (a_t_leastLike : Nat) (a_t_row : Nat) (a_t_lipsOf : Nat) (t_words : Int32) (t_rowLips : Int32) (t_girlKnows : Int32) (t_length : Nat → Int32) (t_leastLike : Nat → Int32) (t_row : Nat → Int32) (t_lipsOf : Nat → Int32) : va_W := [(a_t, .inr (3, [.int t_words, .ref a_t_length, .ref a_t_number, .ref a_t_weight, .ref a_t_leastLike, .ref a_t_row, .int t_rowLips, .int t_girlKnows, .ref a_t_lipsOf, .ref a_t_others])), (a_t_length, .inl (E.2.1 0, 10, .inl t_length)), (a_t_leastLike, .inl (E.2.1 0, 6, .inl t_leastLike)), (a_t_row, .inl (E.2.1 0, 24, .inl t_row)), (a_t_lipsOf, .inl (E.2.1 0, 60, .inl t_lipsOf))]
def rm_Lexicon_fitsRow : Room := { frames := 1, cells := 0, slots := 0, locals := 22 }
set_option maxHeartbeats 4000000 in
set_option maxRecDepth 100000 in
theorem c_Lexicon_fitsRow (l : Launch) (E : m_E) (sz N : Nat) (a_t : Nat) (a_t_number : Nat) (a_t_weight : Nat) (a_t_others : Nat) (a_t_length : Nat) (a_t_leastLike : Nat) (a_t_row : Nat) (a_t_lipsOf : Nat) (t_words : Int32) (t_rowLips : Int32) (t_girlKnows : Int32) (t_length : Nat → Int32) (t_leastLike : Nat → Int32) (t_row : Nat → Int32) (t_lipsOf : Nat → Int32) (p1 : Int32) (p2 : Int32) (ures : Int32) (hF : F_Lexicon_fitsRow N p1 p2 t_rowLips t_length t_leastLike t_row t_lipsOf = some ures) : m_Met l yX3_fitsRow cX3_fitsRow 4 (some .boolean) rm_Lexicon_fitsRow E (wd_Lexicon_fitsRow E a_t a_t_number a_t_weight a_t_others a_t_length a_t_leastLike a_t_row a_t_lipsOf t_words t_rowLips t_girlKnows t_length t_leastLike t_row t_lipsOf) (wd_Lexicon_fitsRow E a_t a_t_number a_t_weight a_t_others a_t_length a_t_leastLike a_t_row a_t_lipsOf t_words t_rowLips t_girlKnows t_length t_leastLike t_row t_lipsOf) sz [.ref a_t, .int p1, .int p2] (some (.int ures)) := by
  refine m_ofZ (by decide) (Nat.le_of_ble_eq_true rfl) ?_
  intro p e s m args below meth c A Q ls X hW hA hl hret
  obtain ⟨hx, hb, -, hown, hts, hK, -, hG⟩ := id X
  have hl : lv_has ls 4 [(0, .ref a_t), (1, .int p1), (2, .int p2)] := hl
  unfold F_Lexicon_fitsRow at hF
  refine lv_iload_n hx hb dX3_fitsRow_0 rfl (lv_at hl 2 rfl) ?_
  refine lv_aload_n hx hb dX3_fitsRow_1 rfl (lv_at hl 0 rfl) ?_
  refine m_get X hW fdX3_11 0 rfl rfl dX3_fitsRow_2 ?_
  refine lv_iload_n hx hb dX3_fitsRow_5 rfl (lv_at hl 1 rfl) ?_
  obtain ⟨g1, hF⟩ := gd_some hF
  refine m_iald X hW 1 (k := p1.toNatClampNeg) rfl g1 rfl dX3_fitsRow_6 ?_
  refine lv_iadd hx hb dX3_fitsRow_7 ?_
  refine lv_aload_n hx hb dX3_fitsRow_8 rfl (lv_at hl 0 rfl) ?_
  refine m_get X hW fdX3_40 0 rfl rfl dX3_fitsRow_9 ?_
  refine lv_icmp_le (tgt := 17) hx hb dX3_fitsRow_12 (by decide) (fun c2 => ?_) (fun c2 => ?_)
  · have hF := if_y c2 hF
    refine lv_iconst (v := (0 : Int32)) hx hb dX3_fitsRow_17 (by decide) ?_
    refine lv_istore_n (lv' := [(3, .int (0 : Int32)), (0, .ref a_t), (1, .int p1), (2, .int p2)]) hx hb dX3_fitsRow_18 rfl hl (by decide) rfl (fun ls hl => ?_)
    obtain ⟨out8, hX4, hr7, hF⟩ := bT_s0 hF
    have L3 : ∀ (k0 : Nat) (x3 : Int32) (out10 : (Int32) ⊕ Unit)  (H : Heap) (locs : List Loc) (ls : Array Slot), Lexicon_fitsRow_L19 t_length p1 p2 t_lipsOf t_row t_leastLike k0 x3 = some out10 → m_H E A (wd_Lexicon_fitsRow E a_t a_t_number a_t_weight a_t_others a_t_length a_t_leastLike a_t_row a_t_lipsOf t_words t_rowLips t_girlKnows t_length t_leastLike t_row t_lipsOf) s.heap H locs → lv_has ls 4 [(3, .int x3), (0, .ref a_t), (1, .int p1), (2, .int p2)] → (∀ a, out10 = .inl a → a = ures) → (∀  (H : Heap) (locs : List Loc) (ls : Array Slot), out10 = .inr () → m_H E A (wd_Lexicon_fitsRow E a_t a_t_number a_t_weight a_t_others a_t_length a_t_leastLike a_t_row a_t_lipsOf t_words t_rowLips t_girlKnows t_length t_leastLike t_row t_lipsOf) s.heap H locs → lv_has ls 4 [] → W p l e rm_Lexicon_fitsRow s m args below meth c H locs 0 0 Q (F0 m 63 ls [])) → W p l e rm_Lexicon_fitsRow s m args below meth c H locs 0 0 Q (F0 m 19 ls []) := by
      clear hF
      intro k0
      induction k0 with
      | zero =>
        intro x3 out10 H locs ls hF
        cases hF
      | succ k0 ih6 =>
        intro x3 out10 H locs ls hF hW hl hr9 hk5
        rw [Lexicon_fitsRow_L19] at hF
        refine lv_iload_n hx hb dX3_fitsRow_19 rfl (lv_at hl 0 rfl) ?_
        refine lv_aload_n hx hb dX3_fitsRow_20 rfl (lv_at hl 1 rfl) ?_
        refine m_get X hW fdX3_11 0 rfl rfl dX3_fitsRow_21 ?_
        refine lv_iload_n hx hb dX3_fitsRow_24 rfl (lv_at hl 2 rfl) ?_
        refine m_iald X hW 1 (k := p1.toNatClampNeg) rfl g1 rfl dX3_fitsRow_25 ?_
        refine lv_icmp_ge (tgt := 63) hx hb dX3_fitsRow_26 (by decide) (fun c11 => ?_) (fun c11 => ?_)
        · have hF := if_y c11 hF
          exact hk5  _ _ _ (Option.some.inj hF).symm hW (lv_sub hl [] rfl)
        · have hF := if_n c11 hF
          refine lv_aload_n hx hb dX3_fitsRow_29 rfl (lv_at hl 1 rfl) ?_
          refine lv_aload_n hx hb dX3_fitsRow_30 rfl (lv_at hl 1 rfl) ?_
          refine m_get X hW fdX3_27 0 rfl rfl dX3_fitsRow_31 ?_
          refine lv_iload_n hx hb dX3_fitsRow_34 rfl (lv_at hl 2 rfl) ?_
          refine lv_bipush (v := (6 : Int32)) hx hb dX3_fitsRow_35 (by decide) ?_
          refine lv_imul hx hb dX3_fitsRow_37 ?_
          refine lv_iload_n hx hb dX3_fitsRow_38 rfl (lv_at hl 0 rfl) ?_
          refine lv_iadd hx hb dX3_fitsRow_39 ?_
          obtain ⟨g12, hF⟩ := gd_some hF
          refine m_iald X hW 4 (k := ((p1 * (6 : Int32)) + x3).toNatClampNeg) rfl g12 rfl dX3_fitsRow_40 ?_
          refine lv_aload_n hx hb dX3_fitsRow_41 rfl (lv_at hl 1 rfl) ?_
          refine m_get X hW fdX3_24 0 rfl rfl dX3_fitsRow_42 ?_
          refine lv_iload_n hx hb dX3_fitsRow_45 rfl (lv_at hl 3 rfl) ?_
          refine lv_iload_n hx hb dX3_fitsRow_46 rfl (lv_at hl 0 rfl) ?_
          refine lv_iadd hx hb dX3_fitsRow_47 ?_
          obtain ⟨g13, hF⟩ := gd_some hF
          refine m_iald X hW 3 (k := (p2 + x3).toNatClampNeg) rfl g13 rfl dX3_fitsRow_48 ?_
          obtain ⟨r49, hC14, hF⟩ := bO_s1 hF
          refine m_callV X hW hA hl.1 lkX3_69 (c_Lexicon_lookAlike l E _ N a_t a_t_length a_t_number a_t_weight a_t_row a_t_lipsOf a_t_others a_t_leastLike t_words t_rowLips t_girlKnows t_leastLike (t_lipsOf ((p1 * (6 : Int32)) + x3).toNatClampNeg) (t_row (p2 + x3).toNatClampNeg) r49 hC14) ([0, 2]) (by decide) rfl rfl (ws' := (wd_Lexicon_fitsRow E a_t a_t_number a_t_weight a_t_others a_t_length a_t_leastLike a_t_row a_t_lipsOf t_words t_rowLips t_girlKnows t_length t_leastLike t_row t_lipsOf)) rfl 0 rfl rfl rfl (As := [.int (t_lipsOf ((p1 * (6 : Int32)) + x3).toNatClampNeg), .int (t_row (p2 + x3).toNatClampNeg)]) (rest := []) rfl rfl ⟨rfl, rfl, Nat.le_of_ble_eq_true rfl, Nat.le_of_ble_eq_true rfl⟩ (Nat.le_of_ble_eq_true rfl) (Nat.zero_le _) (Nat.zero_le _) dX3_fitsRow_49 (fun H locs hW => ?_)
          clear hC14
          refine lv_if_ne (tgt := 57) hx hb dX3_fitsRow_52 (by decide) (fun c15 => ?_) (fun c15 => ?_)
          · have hF := if_n c15 hF
            refine lv_iinc (v := (x3 + (1 : Int32))) (lv' := [(3, .int (x3 + (1 : Int32))), (0, .ref a_t), (1, .int p1), (2, .int p2)]) hx hb dX3_fitsRow_57 hl (k := 0) rfl rfl (by decide) rfl (fun ls hl => ?_)
            refine lv_goto (tgt := 19) hx hb dX3_fitsRow_60 (by decide) ?_
            exact ih6 (x3 + (1 : Int32)) out10 _ _ _ hF hW (lv_sub hl [0, 1, 2, 3] rfl) hr9 hk5
          · have hF := if_y c15 hF
            refine lv_iconst (v := (0 : Int32)) hx hb dX3_fitsRow_55 (by decide) ?_
            have hq := (Option.some.inj hF).symm
            have hq := hr9 _ hq
            subst hq
            exact hret _ _ _ _ _ rfl hW dX3_fitsRow_56
    refine L3 N (0 : Int32) out8 _ _ _ hX4 hW (lv_sub hl [0, 1, 2, 3] rfl) hr7 ?_
    intro  H locs ls ho hW hl
    have hF := hF  ho
    clear L3
    refine lv_iconst (v := (1 : Int32)) hx hb dX3_fitsRow_63 (by decide) ?_
    have hq := Option.some.inj hF
    subst hq
    exact hret _ _ _ _ _ rfl hW dX3_fitsRow_64
  · have hF := if_n c2 hF
    refine lv_iconst (v := (0 : Int32)) hx hb dX3_fitsRow_15 (by decide) ?_
    have hq := Option.some.inj hF
    subst hq
    exact hret _ _ _ _ _ rfl hW dX3_fitsRow_16
abbrev wd_Readings_begin (E : m_E) (a_t : Nat) (a_t_ways : Nat) (a_t_fewest : Nat) (a_t_weights : Nat) (a_t_first : Nat) (t_ways : Nat → Int32) (t_fewest : Nat → Int32) (t_weights : Nat → Int32) (t_first : Nat → Int32) : va_W := [(a_t, .inr (6, [.ref a_t_ways, .ref a_t_fewest, .ref a_t_weights, .ref a_t_first])), (a_t_ways, .inl (E.2.1 0, 25, .inl t_ways)), (a_t_fewest, .inl (E.2.1 0, 25, .inl t_fewest)), (a_t_weights, .inl (E.2.1 0, 25, .inl t_weights)), (a_t_first, .inl (E.2.1 0, 25, .inl t_first))]
def rm_Readings_begin : Room := { frames := 0, cells := 0, slots := 0, locals := 0 }
set_option maxHeartbeats 4000000 in
set_option maxRecDepth 100000 in
theorem c_Readings_begin (l : Launch) (E : m_E) (sz N : Nat) (a_t : Nat) (a_t_ways : Nat) (a_t_fewest : Nat) (a_t_weights : Nat) (a_t_first : Nat) (t_ways : Nat → Int32) (t_fewest : Nat → Int32) (t_weights : Nat → Int32) (t_first : Nat → Int32) (p1 : Int32) (p2 : Int32) (p3 : Int32) (p4 : Int32) (ures : (Nat → Int32) × (Nat → Int32) × (Nat → Int32) × (Nat → Int32)) (hF : F_Readings_begin p1 p2 p3 p4 t_ways t_fewest t_weights t_first = some ures) : m_Met l yX6_begin cX6_begin 7 none rm_Readings_begin E (wd_Readings_begin E a_t a_t_ways a_t_fewest a_t_weights a_t_first t_ways t_fewest t_weights t_first) (wd_Readings_begin E a_t a_t_ways a_t_fewest a_t_weights a_t_first ures.1 ures.2.1 ures.2.2.1 ures.2.2.2) sz [.ref a_t, .int p1, .int p2, .int p3, .int p4] none := by
  refine m_ofV (by decide) (Nat.le_of_ble_eq_true rfl) ?_
  intro p e s m args below meth c A Q ls X hW hA hl hret
  obtain ⟨hx, hb, -, hown, hts, hK, -, hG⟩ := id X
  have hl : lv_has ls 7 [(0, .ref a_t), (1, .int p1), (2, .int p2), (3, .int p3), (4, .int p4)] := hl
  unfold F_Readings_begin at hF
  refine lv_aload_n hx hb dX6_begin_0 rfl (lv_at hl 0 rfl) ?_
  refine m_get X hW fdX6_11 0 rfl rfl dX6_begin_1 ?_
  refine lv_iload_n hx hb dX6_begin_4 rfl (lv_at hl 1 rfl) ?_
  refine lv_aload_n hx hb dX6_begin_5 rfl (lv_at hl 0 rfl) ?_
  refine m_get X hW fdX6_11 0 rfl rfl dX6_begin_6 ?_
  refine lv_iload_n hx hb dX6_begin_9 rfl (lv_at hl 1 rfl) ?_
  obtain ⟨g1, hF⟩ := gd_some hF
  refine m_iald X hW 1 (k := p1.toNatClampNeg) rfl g1 rfl dX6_begin_10 ?_
  refine lv_aload_n hx hb dX6_begin_11 rfl (lv_at hl 0 rfl) ?_
  refine m_get X hW fdX6_11 0 rfl rfl dX6_begin_12 ?_
  refine lv_iload_n hx hb dX6_begin_15 rfl (lv_at hl 3 rfl) ?_
  obtain ⟨g2, hF⟩ := gd_some hF
  refine m_iald X hW 1 (k := p3.toNatClampNeg) rfl g2 rfl dX6_begin_16 ?_
  refine lv_iadd hx hb dX6_begin_17 ?_
  refine lv_ldc (v := (1000000007 : Int32)) hx hb hown (hts _ wk_650) dX6_begin_18 ?_
  refine m_irem hx hb dX6_begin_20 (by decide) ?_
  refine m_iast X hW 1 (k := p1.toNatClampNeg) rfl g1 rfl dX6_begin_21 (ws' := (wd_Readings_begin E a_t a_t_ways a_t_fewest a_t_weights a_t_first (upd t_ways p1.toNatClampNeg (jrem ((t_ways p1.toNatClampNeg) + (t_ways p3.toNatClampNeg)) (1000000007 : Int32))) t_fewest t_weights t_first)) rfl (fun H locs hW => ?_)
  refine lv_aload_n hx hb dX6_begin_22 rfl (lv_at hl 0 rfl) ?_
  refine m_get X hW fdX6_17 0 rfl rfl dX6_begin_23 ?_
  refine lv_iload_n hx hb dX6_begin_26 rfl (lv_at hl 3 rfl) ?_
  refine m_iald X hW 2 (k := p3.toNatClampNeg) rfl g2 rfl dX6_begin_27 ?_
  refine lv_iconst (v := (-1 : Int32)) hx hb dX6_begin_28 (by decide) ?_
  refine lv_icmp_ne (tgt := 33) hx hb dX6_begin_29 (by decide) (fun c3 => ?_) (fun c3 => ?_)
  · have hF := if_n c3 hF
    refine lv_aload_n hx hb dX6_begin_33 rfl (lv_at hl 0 rfl) ?_
    refine m_get X hW fdX6_17 0 rfl rfl dX6_begin_34 ?_
    refine lv_iload_n hx hb dX6_begin_37 rfl (lv_at hl 3 rfl) ?_
    refine m_iald X hW 2 (k := p3.toNatClampNeg) rfl g2 rfl dX6_begin_38 ?_
    refine lv_iconst (v := (1 : Int32)) hx hb dX6_begin_39 (by decide) ?_
    refine lv_iadd hx hb dX6_begin_40 ?_
    refine lv_istore (lv' := [(5, .int ((t_fewest p3.toNatClampNeg) + (1 : Int32))), (0, .ref a_t), (1, .int p1), (2, .int p2), (3, .int p3), (4, .int p4)]) hx hb dX6_begin_41 hl (by decide) rfl (fun ls hl => ?_)
    refine lv_aload_n hx hb dX6_begin_43 rfl (lv_at hl 1 rfl) ?_
    refine m_get X hW fdX6_20 0 rfl rfl dX6_begin_44 ?_
    refine lv_iload_n hx hb dX6_begin_47 rfl (lv_at hl 4 rfl) ?_
    refine m_iald X hW 3 (k := p3.toNatClampNeg) rfl g2 rfl dX6_begin_48 ?_
    refine lv_iload hx hb dX6_begin_49 (lv_at hl 5 rfl) ?_
    refine lv_iadd hx hb dX6_begin_51 ?_
    refine lv_istore (lv' := [(6, .int ((t_weights p3.toNatClampNeg) + p4)), (5, .int ((t_fewest p3.toNatClampNeg) + (1 : Int32))), (0, .ref a_t), (1, .int p1), (2, .int p2), (3, .int p3), (4, .int p4)]) hx hb dX6_begin_52 hl (by decide) rfl (fun ls hl => ?_)
    refine lv_aload_n hx hb dX6_begin_54 rfl (lv_at hl 2 rfl) ?_
    refine m_get X hW fdX6_17 0 rfl rfl dX6_begin_55 ?_
    refine lv_iload_n hx hb dX6_begin_58 rfl (lv_at hl 3 rfl) ?_
    refine m_iald X hW 2 (k := p1.toNatClampNeg) rfl g1 rfl dX6_begin_59 ?_
    refine lv_iconst (v := (-1 : Int32)) hx hb dX6_begin_60 (by decide) ?_
    obtain ⟨out7, hX5, hr6, hF⟩ := bT_s0 hF
    have J4 : ∀  (H : Heap) (locs : List Loc) (ls : Array Slot), out7 = .inr () → m_H E A (wd_Readings_begin E a_t a_t_ways a_t_fewest a_t_weights a_t_first (upd t_ways p1.toNatClampNeg (jrem ((t_ways p1.toNatClampNeg) + (t_ways p3.toNatClampNeg)) (1000000007 : Int32))) t_fewest t_weights t_first) s.heap H locs → lv_has ls 7 [(6, .int ((t_weights p3.toNatClampNeg) + p4)), (5, .int ((t_fewest p3.toNatClampNeg) + (1 : Int32))), (0, .ref a_t), (1, .int p1), (2, .int p2)] → W p l e rm_Readings_begin s m args below meth c H locs 0 0 Q (F0 m 97 ls []) := by
      intro  H locs ls ho hW hl
      have hF := hF  ho
      refine lv_aload_n hx hb dX6_begin_97 rfl (lv_at hl 2 rfl) ?_
      refine m_get X hW fdX6_17 0 rfl rfl dX6_begin_98 ?_
      refine lv_iload_n hx hb dX6_begin_101 rfl (lv_at hl 3 rfl) ?_
      refine lv_iload hx hb dX6_begin_102 (lv_at hl 1 rfl) ?_
      refine m_iast X hW 2 (k := p1.toNatClampNeg) rfl g1 rfl dX6_begin_104 (ws' := (wd_Readings_begin E a_t a_t_ways a_t_fewest a_t_weights a_t_first (upd t_ways p1.toNatClampNeg (jrem ((t_ways p1.toNatClampNeg) + (t_ways p3.toNatClampNeg)) (1000000007 : Int32))) (upd t_fewest p1.toNatClampNeg ((t_fewest p3.toNatClampNeg) + (1 : Int32))) t_weights t_first)) rfl (fun H locs hW => ?_)
      refine lv_aload_n hx hb dX6_begin_105 rfl (lv_at hl 2 rfl) ?_
      refine m_get X hW fdX6_20 0 rfl rfl dX6_begin_106 ?_
      refine lv_iload_n hx hb dX6_begin_109 rfl (lv_at hl 3 rfl) ?_
      refine lv_iload hx hb dX6_begin_110 (lv_at hl 0 rfl) ?_
      refine m_iast X hW 3 (k := p1.toNatClampNeg) rfl g1 rfl dX6_begin_112 (ws' := (wd_Readings_begin E a_t a_t_ways a_t_fewest a_t_weights a_t_first (upd t_ways p1.toNatClampNeg (jrem ((t_ways p1.toNatClampNeg) + (t_ways p3.toNatClampNeg)) (1000000007 : Int32))) (upd t_fewest p1.toNatClampNeg ((t_fewest p3.toNatClampNeg) + (1 : Int32))) (upd t_weights p1.toNatClampNeg ((t_weights p3.toNatClampNeg) + p4)) t_first)) rfl (fun H locs hW => ?_)
      refine lv_aload_n hx hb dX6_begin_113 rfl (lv_at hl 2 rfl) ?_
      refine m_get X hW fdX6_23 0 rfl rfl dX6_begin_114 ?_
      refine lv_iload_n hx hb dX6_begin_117 rfl (lv_at hl 3 rfl) ?_
      refine lv_iload_n hx hb dX6_begin_118 rfl (lv_at hl 4 rfl) ?_
      refine m_iast X hW 4 (k := p1.toNatClampNeg) rfl g1 rfl dX6_begin_119 (ws' := (wd_Readings_begin E a_t a_t_ways a_t_fewest a_t_weights a_t_first (upd t_ways p1.toNatClampNeg (jrem ((t_ways p1.toNatClampNeg) + (t_ways p3.toNatClampNeg)) (1000000007 : Int32))) (upd t_fewest p1.toNatClampNeg ((t_fewest p3.toNatClampNeg) + (1 : Int32))) (upd t_weights p1.toNatClampNeg ((t_weights p3.toNatClampNeg) + p4)) (upd t_first p1.toNatClampNeg p2))) rfl (fun H locs hW => ?_)
      have hq := Option.some.inj hF
      subst hq
      exact hret _ _ _ _ hW dX6_begin_120
    clear hF
    have hF := hX5
    clear hX5
    refine lv_icmp_eq (tgt := 97) hx hb dX6_begin_61 (by decide) (fun c8 => ?_) (fun c8 => ?_)
    · have hF := if_y c8 hF
      exact J4  _ _ _ (Option.some.inj hF).symm hW (lv_sub hl [0, 1, 2, 3, 4] rfl)
    · have hF := if_n c8 hF
      refine lv_iload hx hb dX6_begin_64 (lv_at hl 1 rfl) ?_
      refine lv_aload_n hx hb dX6_begin_66 rfl (lv_at hl 2 rfl) ?_
      refine m_get X hW fdX6_17 0 rfl rfl dX6_begin_67 ?_
      refine lv_iload_n hx hb dX6_begin_70 rfl (lv_at hl 3 rfl) ?_
      refine m_iald X hW 2 (k := p1.toNatClampNeg) rfl g1 rfl dX6_begin_71 ?_
      refine lv_icmp_lt (tgt := 97) hx hb dX6_begin_72 (by decide) (fun c9 => ?_) (fun c9 => ?_)
      · have hF := if_y c9 hF
        exact J4  _ _ _ (Option.some.inj hF).symm hW (lv_sub hl [0, 1, 2, 3, 4] rfl)
      · have hF := if_n c9 hF
        refine lv_iload hx hb dX6_begin_75 (lv_at hl 1 rfl) ?_
        refine lv_aload_n hx hb dX6_begin_77 rfl (lv_at hl 2 rfl) ?_
        refine m_get X hW fdX6_17 0 rfl rfl dX6_begin_78 ?_
        refine lv_iload_n hx hb dX6_begin_81 rfl (lv_at hl 3 rfl) ?_
        refine m_iald X hW 2 (k := p1.toNatClampNeg) rfl g1 rfl dX6_begin_82 ?_
        refine lv_icmp_ne (tgt := 120) hx hb dX6_begin_83 (by decide) (fun c10 => ?_) (fun c10 => ?_)
        · have hF := if_n c10 hF
          have hq := (Option.some.inj hF).symm
          have hq := hr6 _ hq
          subst hq
          exact hret _ _ _ _ hW dX6_begin_120
        · have hF := if_y c10 hF
          refine lv_iload hx hb dX6_begin_86 (lv_at hl 0 rfl) ?_
          refine lv_aload_n hx hb dX6_begin_88 rfl (lv_at hl 2 rfl) ?_
          refine m_get X hW fdX6_20 0 rfl rfl dX6_begin_89 ?_
          refine lv_iload_n hx hb dX6_begin_92 rfl (lv_at hl 3 rfl) ?_
          refine m_iald X hW 3 (k := p1.toNatClampNeg) rfl g1 rfl dX6_begin_93 ?_
          refine lv_icmp_le (tgt := 120) hx hb dX6_begin_94 (by decide) (fun c11 => ?_) (fun c11 => ?_)
          · have hF := if_y c11 hF
            have hq := (Option.some.inj hF).symm
            have hq := hr6 _ hq
            subst hq
            exact hret _ _ _ _ hW dX6_begin_120
          · have hF := if_n c11 hF
            exact J4  _ _ _ (Option.some.inj hF).symm hW (lv_sub hl [0, 1, 2, 3, 4] rfl)
  · have hF := if_y c3 hF
    have hq := Option.some.inj hF
    subst hq
    exact hret _ _ _ _ hW dX6_begin_32
abbrev wd_Readings_reckon (E : m_E) (a_t : Nat) (a_t_ways : Nat) (a_t_fewest : Nat) (a_t_weights : Nat) (a_t_first : Nat) (a_p1 : Nat) (a_p1_number : Nat) (a_p1_others : Nat) (a_p1_length : Nat) (a_p1_weight : Nat) (a_p1_leastLike : Nat) (a_p1_row : Nat) (a_p1_lipsOf : Nat) (t_ways : Nat → Int32) (t_fewest : Nat → Int32) (t_weights : Nat → Int32) (t_first : Nat → Int32) (p1_words : Int32) (p1_rowLips : Int32) (p1_girlKnows : Int32) (p1_length : Nat → Int32) (p1_weight : Nat → Int32) (p1_leastLike : Nat → Int32) (p1_row : Nat → Int32) (p1_lipsOf : Nat → Int32) : va_W := [(a_t, .inr (6, [.ref a_t_ways, .ref a_t_fewest, .ref a_t_weights, .ref a_t_first])), (a_t_ways, .inl (E.2.1 0, 25, .inl t_ways)), (a_t_fewest, .inl (E.2.1 0, 25, .inl t_fewest)), (a_t_weights, .inl (E.2.1 0, 25, .inl t_weights)), (a_t_first, .inl (E.2.1 0, 25, .inl t_first)), (a_p1, .inr (3, [.int p1_words, .ref a_p1_length, .ref a_p1_number, .ref a_p1_weight, .ref a_p1_leastLike, .ref a_p1_row, .int p1_rowLips, .int p1_girlKnows, .ref a_p1_lipsOf, .ref a_p1_others])), (a_p1_length, .inl (E.2.1 0, 10, .inl p1_length)), (a_p1_weight, .inl (E.2.1 0, 10, .inl p1_weight)), (a_p1_leastLike, .inl (E.2.1 0, 6, .inl p1_leastLike)), (a_p1_row, .inl (E.2.1 0, 24, .inl p1_row)), (a_p1_lipsOf, .inl (E.2.1 0, 60, .inl p1_lipsOf))]
def rm_Readings_reckon : Room := { frames := 2, cells := 0, slots := 0, locals := 45 }
set_option maxHeartbeats 4000000 in
set_option maxRecDepth 100000 in
theorem c_Readings_reckon (l : Launch) (E : m_E) (sz N : Nat) (a_t : Nat) (a_t_ways : Nat) (a_t_fewest : Nat) (a_t_weights : Nat) (a_t_first : Nat) (a_p1 : Nat) (a_p1_number : Nat) (a_p1_others : Nat) (a_p1_length : Nat) (a_p1_weight : Nat) (a_p1_leastLike : Nat) (a_p1_row : Nat) (a_p1_lipsOf : Nat) (t_ways : Nat → Int32) (t_fewest : Nat → Int32) (t_weights : Nat → Int32) (t_first : Nat → Int32) (p1_words : Int32) (p1_rowLips : Int32) (p1_girlKnows : Int32) (p1_length : Nat → Int32) (p1_weight : Nat → Int32) (p1_leastLike : Nat → Int32) (p1_row : Nat → Int32) (p1_lipsOf : Nat → Int32)  (ures : (Nat → Int32) × (Nat → Int32) × (Nat → Int32) × (Nat → Int32)) (hF : F_Readings_reckon N t_ways t_fewest t_weights t_first p1_words p1_rowLips p1_length p1_weight p1_leastLike p1_row p1_lipsOf = some ures) : m_Met l yX6_reckon cX6_reckon 5 none rm_Readings_reckon E (wd_Readings_reckon E a_t a_t_ways a_t_fewest a_t_weights a_t_first a_p1 a_p1_number a_p1_others a_p1_length a_p1_weight a_p1_leastLike a_p1_row a_p1_lipsOf t_ways t_fewest t_weights t_first p1_words p1_rowLips p1_girlKnows p1_length p1_weight p1_leastLike p1_row p1_lipsOf) (wd_Readings_reckon E a_t a_t_ways a_t_fewest a_t_weights a_t_first a_p1 a_p1_number a_p1_others a_p1_length a_p1_weight a_p1_leastLike a_p1_row a_p1_lipsOf ures.1 ures.2.1 ures.2.2.1 ures.2.2.2 p1_words p1_rowLips p1_girlKnows p1_length p1_weight p1_leastLike p1_row p1_lipsOf) sz [.ref a_t, .ref a_p1] none := by
  refine m_ofV (by decide) (Nat.le_of_ble_eq_true rfl) ?_
  intro p e s m args below meth c A Q ls X hW hA hl hret
  obtain ⟨hx, hb, -, hown, hts, hK, -, hG⟩ := id X
  have hl : lv_has ls 5 [(0, .ref a_t), (1, .ref a_p1)] := hl
  unfold F_Readings_reckon at hF
  refine lv_aload_n hx hb dX6_reckon_0 rfl (lv_at hl 1 rfl) ?_
  refine m_get X hW fdX6_26 5 rfl rfl dX6_reckon_1 ?_
  refine lv_istore_n (lv' := [(2, .int p1_rowLips), (0, .ref a_t), (1, .ref a_p1)]) hx hb dX6_reckon_4 rfl hl (by decide) rfl (fun ls hl => ?_)
  refine lv_aload_n hx hb dX6_reckon_5 rfl (lv_at hl 1 rfl) ?_
  refine m_get X hW fdX6_11 0 rfl rfl dX6_reckon_6 ?_
  refine lv_iload_n hx hb dX6_reckon_9 rfl (lv_at hl 0 rfl) ?_
  refine lv_iconst (v := (1 : Int32)) hx hb dX6_reckon_10 (by decide) ?_
  obtain ⟨g1, hF⟩ := gd_some hF
  refine m_iast X hW 1 (k := p1_rowLips.toNatClampNeg) rfl g1 rfl dX6_reckon_11 (ws' := (wd_Readings_reckon E a_t a_t_ways a_t_fewest a_t_weights a_t_first a_p1 a_p1_number a_p1_others a_p1_length a_p1_weight a_p1_leastLike a_p1_row a_p1_lipsOf (upd t_ways p1_rowLips.toNatClampNeg (1 : Int32)) t_fewest t_weights t_first p1_words p1_rowLips p1_girlKnows p1_length p1_weight p1_leastLike p1_row p1_lipsOf)) rfl (fun H locs hW => ?_)
  refine lv_aload_n hx hb dX6_reckon_12 rfl (lv_at hl 1 rfl) ?_
  refine m_get X hW fdX6_17 0 rfl rfl dX6_reckon_13 ?_
  refine lv_iload_n hx hb dX6_reckon_16 rfl (lv_at hl 0 rfl) ?_
  refine lv_iconst (v := (0 : Int32)) hx hb dX6_reckon_17 (by decide) ?_
  refine m_iast X hW 2 (k := p1_rowLips.toNatClampNeg) rfl g1 rfl dX6_reckon_18 (ws' := (wd_Readings_reckon E a_t a_t_ways a_t_fewest a_t_weights a_t_first a_p1 a_p1_number a_p1_others a_p1_length a_p1_weight a_p1_leastLike a_p1_row a_p1_lipsOf (upd t_ways p1_rowLips.toNatClampNeg (1 : Int32)) (upd t_fewest p1_rowLips.toNatClampNeg (0 : Int32)) t_weights t_first p1_words p1_rowLips p1_girlKnows p1_length p1_weight p1_leastLike p1_row p1_lipsOf)) rfl (fun H locs hW => ?_)
  refine lv_aload_n hx hb dX6_reckon_19 rfl (lv_at hl 1 rfl) ?_
  refine m_get X hW fdX6_20 0 rfl rfl dX6_reckon_20 ?_
  refine lv_iload_n hx hb dX6_reckon_23 rfl (lv_at hl 0 rfl) ?_
  refine lv_iconst (v := (0 : Int32)) hx hb dX6_reckon_24 (by decide) ?_
  refine m_iast X hW 3 (k := p1_rowLips.toNatClampNeg) rfl g1 rfl dX6_reckon_25 (ws' := (wd_Readings_reckon E a_t a_t_ways a_t_fewest a_t_weights a_t_first a_p1 a_p1_number a_p1_others a_p1_length a_p1_weight a_p1_leastLike a_p1_row a_p1_lipsOf (upd t_ways p1_rowLips.toNatClampNeg (1 : Int32)) (upd t_fewest p1_rowLips.toNatClampNeg (0 : Int32)) (upd t_weights p1_rowLips.toNatClampNeg (0 : Int32)) t_first p1_words p1_rowLips p1_girlKnows p1_length p1_weight p1_leastLike p1_row p1_lipsOf)) rfl (fun H locs hW => ?_)
  refine lv_aload_n hx hb dX6_reckon_26 rfl (lv_at hl 1 rfl) ?_
  refine m_get X hW fdX6_23 0 rfl rfl dX6_reckon_27 ?_
  refine lv_iload_n hx hb dX6_reckon_30 rfl (lv_at hl 0 rfl) ?_
  refine lv_iconst (v := (-1 : Int32)) hx hb dX6_reckon_31 (by decide) ?_
  refine m_iast X hW 4 (k := p1_rowLips.toNatClampNeg) rfl g1 rfl dX6_reckon_32 (ws' := (wd_Readings_reckon E a_t a_t_ways a_t_fewest a_t_weights a_t_first a_p1 a_p1_number a_p1_others a_p1_length a_p1_weight a_p1_leastLike a_p1_row a_p1_lipsOf (upd t_ways p1_rowLips.toNatClampNeg (1 : Int32)) (upd t_fewest p1_rowLips.toNatClampNeg (0 : Int32)) (upd t_weights p1_rowLips.toNatClampNeg (0 : Int32)) (upd t_first p1_rowLips.toNatClampNeg (-1 : Int32)) p1_words p1_rowLips p1_girlKnows p1_length p1_weight p1_leastLike p1_row p1_lipsOf)) rfl (fun H locs hW => ?_)
  refine lv_iload_n hx hb dX6_reckon_33 rfl (lv_at hl 0 rfl) ?_
  refine lv_iconst (v := (1 : Int32)) hx hb dX6_reckon_34 (by decide) ?_
  refine lv_isub hx hb dX6_reckon_35 ?_
  refine lv_istore_n (lv' := [(3, .int (p1_rowLips - (1 : Int32))), (2, .int p1_rowLips), (0, .ref a_t), (1, .ref a_p1)]) hx hb dX6_reckon_36 rfl hl (by decide) rfl (fun ls hl => ?_)
  obtain ⟨t_ways'_10, t_fewest'_10, t_weights'_10, t_first'_10, hX3, hF⟩ := bO_s4 hF
  have L2 : ∀ (k0 : Nat) (x3 : Int32) (t_ways'_6 : Nat → Int32) (t_fewest'_6 : Nat → Int32) (t_weights'_6 : Nat → Int32) (t_first'_6 : Nat → Int32) (t_ways'_10 : Nat → Int32) (t_fewest'_10 : Nat → Int32) (t_weights'_10 : Nat → Int32) (t_first'_10 : Nat → Int32) (H : Heap) (locs : List Loc) (ls : Array Slot), Readings_reckon_L37 N p1_words p1_rowLips p1_length p1_leastLike p1_row p1_lipsOf p1_weight k0 x3 t_ways'_6 t_fewest'_6 t_weights'_6 t_first'_6 = some (t_ways'_10, t_fewest'_10, t_weights'_10, t_first'_10) → m_H E A (wd_Readings_reckon E a_t a_t_ways a_t_fewest a_t_weights a_t_first a_p1 a_p1_number a_p1_others a_p1_length a_p1_weight a_p1_leastLike a_p1_row a_p1_lipsOf t_ways'_6 t_fewest'_6 t_weights'_6 t_first'_6 p1_words p1_rowLips p1_girlKnows p1_length p1_weight p1_leastLike p1_row p1_lipsOf) s.heap H locs → lv_has ls 5 [(3, .int x3), (0, .ref a_t), (1, .ref a_p1)] → (∀ (H : Heap) (locs : List Loc) (ls : Array Slot), m_H E A (wd_Readings_reckon E a_t a_t_ways a_t_fewest a_t_weights a_t_first a_p1 a_p1_number a_p1_others a_p1_length a_p1_weight a_p1_leastLike a_p1_row a_p1_lipsOf t_ways'_10 t_fewest'_10 t_weights'_10 t_first'_10 p1_words p1_rowLips p1_girlKnows p1_length p1_weight p1_leastLike p1_row p1_lipsOf) s.heap H locs → lv_has ls 5 [] → W p l e rm_Readings_reckon s m args below meth c H locs 0 0 Q (F0 m 126 ls [])) → W p l e rm_Readings_reckon s m args below meth c H locs 0 0 Q (F0 m 37 ls []) := by
    clear hF
    intro k0
    induction k0 with
    | zero =>
      intro x3 t_ways'_6 t_fewest'_6 t_weights'_6 t_first'_6 t_ways'_10 t_fewest'_10 t_weights'_10 t_first'_10 H locs ls hF
      cases hF
    | succ k0 ih5 =>
      intro x3 t_ways'_6 t_fewest'_6 t_weights'_6 t_first'_6 t_ways'_10 t_fewest'_10 t_weights'_10 t_first'_10 H locs ls hF hW hl hk4
      rw [Readings_reckon_L37] at hF
      refine lv_iload_n hx hb dX6_reckon_37 rfl (lv_at hl 0 rfl) ?_
      refine lv_if_lt (tgt := 126) hx hb dX6_reckon_38 (by decide) (fun c6 => ?_) (fun c6 => ?_)
      · have hF := if_y c6 hF
        cases hF
        exact hk4 _ _ _ hW (lv_sub hl [] rfl)
      · have hF := if_n c6 hF
        refine lv_aload_n hx hb dX6_reckon_41 rfl (lv_at hl 1 rfl) ?_
        refine m_get X hW fdX6_11 0 rfl rfl dX6_reckon_42 ?_
        refine lv_iload_n hx hb dX6_reckon_45 rfl (lv_at hl 0 rfl) ?_
        refine lv_iconst (v := (0 : Int32)) hx hb dX6_reckon_46 (by decide) ?_
        obtain ⟨g7, hF⟩ := gd_some hF
        refine m_iast X hW 1 (k := x3.toNatClampNeg) rfl g7 rfl dX6_reckon_47 (ws' := (wd_Readings_reckon E a_t a_t_ways a_t_fewest a_t_weights a_t_first a_p1 a_p1_number a_p1_others a_p1_length a_p1_weight a_p1_leastLike a_p1_row a_p1_lipsOf (upd t_ways'_6 x3.toNatClampNeg (0 : Int32)) t_fewest'_6 t_weights'_6 t_first'_6 p1_words p1_rowLips p1_girlKnows p1_length p1_weight p1_leastLike p1_row p1_lipsOf)) rfl (fun H locs hW => ?_)
        refine lv_aload_n hx hb dX6_reckon_48 rfl (lv_at hl 1 rfl) ?_
        refine m_get X hW fdX6_17 0 rfl rfl dX6_reckon_49 ?_
        refine lv_iload_n hx hb dX6_reckon_52 rfl (lv_at hl 0 rfl) ?_
        refine lv_iconst (v := (-1 : Int32)) hx hb dX6_reckon_53 (by decide) ?_
        refine m_iast X hW 2 (k := x3.toNatClampNeg) rfl g7 rfl dX6_reckon_54 (ws' := (wd_Readings_reckon E a_t a_t_ways a_t_fewest a_t_weights a_t_first a_p1 a_p1_number a_p1_others a_p1_length a_p1_weight a_p1_leastLike a_p1_row a_p1_lipsOf (upd t_ways'_6 x3.toNatClampNeg (0 : Int32)) (upd t_fewest'_6 x3.toNatClampNeg (-1 : Int32)) t_weights'_6 t_first'_6 p1_words p1_rowLips p1_girlKnows p1_length p1_weight p1_leastLike p1_row p1_lipsOf)) rfl (fun H locs hW => ?_)
        refine lv_aload_n hx hb dX6_reckon_55 rfl (lv_at hl 1 rfl) ?_
        refine m_get X hW fdX6_20 0 rfl rfl dX6_reckon_56 ?_
        refine lv_iload_n hx hb dX6_reckon_59 rfl (lv_at hl 0 rfl) ?_
        refine lv_iconst (v := (0 : Int32)) hx hb dX6_reckon_60 (by decide) ?_
        refine m_iast X hW 3 (k := x3.toNatClampNeg) rfl g7 rfl dX6_reckon_61 (ws' := (wd_Readings_reckon E a_t a_t_ways a_t_fewest a_t_weights a_t_first a_p1 a_p1_number a_p1_others a_p1_length a_p1_weight a_p1_leastLike a_p1_row a_p1_lipsOf (upd t_ways'_6 x3.toNatClampNeg (0 : Int32)) (upd t_fewest'_6 x3.toNatClampNeg (-1 : Int32)) (upd t_weights'_6 x3.toNatClampNeg (0 : Int32)) t_first'_6 p1_words p1_rowLips p1_girlKnows p1_length p1_weight p1_leastLike p1_row p1_lipsOf)) rfl (fun H locs hW => ?_)
        refine lv_aload_n hx hb dX6_reckon_62 rfl (lv_at hl 1 rfl) ?_
        refine m_get X hW fdX6_23 0 rfl rfl dX6_reckon_63 ?_
        refine lv_iload_n hx hb dX6_reckon_66 rfl (lv_at hl 0 rfl) ?_
        refine lv_iconst (v := (-1 : Int32)) hx hb dX6_reckon_67 (by decide) ?_
        refine m_iast X hW 4 (k := x3.toNatClampNeg) rfl g7 rfl dX6_reckon_68 (ws' := (wd_Readings_reckon E a_t a_t_ways a_t_fewest a_t_weights a_t_first a_p1 a_p1_number a_p1_others a_p1_length a_p1_weight a_p1_leastLike a_p1_row a_p1_lipsOf (upd t_ways'_6 x3.toNatClampNeg (0 : Int32)) (upd t_fewest'_6 x3.toNatClampNeg (-1 : Int32)) (upd t_weights'_6 x3.toNatClampNeg (0 : Int32)) (upd t_first'_6 x3.toNatClampNeg (-1 : Int32)) p1_words p1_rowLips p1_girlKnows p1_length p1_weight p1_leastLike p1_row p1_lipsOf)) rfl (fun H locs hW => ?_)
        refine lv_iconst (v := (0 : Int32)) hx hb dX6_reckon_69 (by decide) ?_
        refine lv_istore (lv' := [(4, .int (0 : Int32)), (3, .int x3), (0, .ref a_t), (1, .ref a_p1)]) hx hb dX6_reckon_70 hl (by decide) rfl (fun ls hl => ?_)
        obtain ⟨t_ways'_9, t_fewest'_9, t_weights'_9, t_first'_9, hX9, hF⟩ := bO_s4 hF
        have L8 : ∀ (k0 : Nat) (x4 : Int32) (t_ways'_7 : Nat → Int32) (t_fewest'_7 : Nat → Int32) (t_weights'_7 : Nat → Int32) (t_first'_7 : Nat → Int32) (t_ways'_9 : Nat → Int32) (t_fewest'_9 : Nat → Int32) (t_weights'_9 : Nat → Int32) (t_first'_9 : Nat → Int32) (H : Heap) (locs : List Loc) (ls : Array Slot), Readings_reckon_L72 N p1_words x3 p1_rowLips p1_length p1_leastLike p1_row p1_lipsOf p1_weight k0 x4 t_ways'_7 t_fewest'_7 t_weights'_7 t_first'_7 = some (t_ways'_9, t_fewest'_9, t_weights'_9, t_first'_9) → m_H E A (wd_Readings_reckon E a_t a_t_ways a_t_fewest a_t_weights a_t_first a_p1 a_p1_number a_p1_others a_p1_length a_p1_weight a_p1_leastLike a_p1_row a_p1_lipsOf t_ways'_7 t_fewest'_7 t_weights'_7 t_first'_7 p1_words p1_rowLips p1_girlKnows p1_length p1_weight p1_leastLike p1_row p1_lipsOf) s.heap H locs → lv_has ls 5 [(4, .int x4), (3, .int x3), (0, .ref a_t), (1, .ref a_p1)] → (∀ (H : Heap) (locs : List Loc) (ls : Array Slot), m_H E A (wd_Readings_reckon E a_t a_t_ways a_t_fewest a_t_weights a_t_first a_p1 a_p1_number a_p1_others a_p1_length a_p1_weight a_p1_leastLike a_p1_row a_p1_lipsOf t_ways'_9 t_fewest'_9 t_weights'_9 t_first'_9 p1_words p1_rowLips p1_girlKnows p1_length p1_weight p1_leastLike p1_row p1_lipsOf) s.heap H locs → lv_has ls 5 [(3, .int x3), (0, .ref a_t), (1, .ref a_p1)] → W p l e rm_Readings_reckon s m args below meth c H locs 0 0 Q (F0 m 120 ls [])) → W p l e rm_Readings_reckon s m args below meth c H locs 0 0 Q (F0 m 72 ls []) := by
          clear hF
          intro k0
          induction k0 with
          | zero =>
            intro x4 t_ways'_7 t_fewest'_7 t_weights'_7 t_first'_7 t_ways'_9 t_fewest'_9 t_weights'_9 t_first'_9 H locs ls hF
            cases hF
          | succ k0 ih11 =>
            intro x4 t_ways'_7 t_fewest'_7 t_weights'_7 t_first'_7 t_ways'_9 t_fewest'_9 t_weights'_9 t_first'_9 H locs ls hF hW hl hk10
            rw [Readings_reckon_L72] at hF
            refine lv_iload hx hb dX6_reckon_72 (lv_at hl 0 rfl) ?_
            refine lv_aload_n hx hb dX6_reckon_74 rfl (lv_at hl 3 rfl) ?_
            refine m_get X hW fdX6_30 5 rfl rfl dX6_reckon_75 ?_
            refine lv_icmp_ge (tgt := 120) hx hb dX6_reckon_78 (by decide) (fun c12 => ?_) (fun c12 => ?_)
            · have hF := if_y c12 hF
              cases hF
              exact hk10 _ _ _ hW (lv_sub hl [1, 2, 3] rfl)
            · have hF := if_n c12 hF
              refine lv_aload_n hx hb dX6_reckon_81 rfl (lv_at hl 3 rfl) ?_
              refine lv_iload hx hb dX6_reckon_82 (lv_at hl 0 rfl) ?_
              refine lv_iload_n hx hb dX6_reckon_84 rfl (lv_at hl 1 rfl) ?_
              obtain ⟨r85, hC13, hF⟩ := bO_s1 hF
              refine m_callV X hW hA hl.1 lkX6_33 (c_Lexicon_fitsRow l E _ N a_p1 a_p1_number a_p1_weight a_p1_others a_p1_length a_p1_leastLike a_p1_row a_p1_lipsOf p1_words p1_rowLips p1_girlKnows p1_length p1_leastLike p1_row p1_lipsOf x4 x3 r85 hC13) ([5, 6, 8, 9, 10]) (by decide) rfl rfl (ws' := (wd_Readings_reckon E a_t a_t_ways a_t_fewest a_t_weights a_t_first a_p1 a_p1_number a_p1_others a_p1_length a_p1_weight a_p1_leastLike a_p1_row a_p1_lipsOf t_ways'_7 t_fewest'_7 t_weights'_7 t_first'_7 p1_words p1_rowLips p1_girlKnows p1_length p1_weight p1_leastLike p1_row p1_lipsOf)) rfl 5 rfl rfl rfl (As := [.int x4, .int x3]) (rest := []) rfl rfl ⟨rfl, rfl, Nat.le_of_ble_eq_true rfl, Nat.le_of_ble_eq_true rfl⟩ (Nat.le_of_ble_eq_true rfl) (Nat.zero_le _) (Nat.zero_le _) dX6_reckon_85 (fun H locs hW => ?_)
              clear hC13
              refine lv_if_eq (tgt := 114) hx hb dX6_reckon_88 (by decide) (fun c14 => ?_) (fun c14 => ?_)
              · have hF := if_y c14 hF
                refine lv_iinc (v := (x4 + (1 : Int32))) (lv' := [(4, .int (x4 + (1 : Int32))), (3, .int x3), (0, .ref a_t), (1, .ref a_p1)]) hx hb dX6_reckon_114 hl (k := 0) rfl rfl (by decide) rfl (fun ls hl => ?_)
                refine lv_goto (tgt := 72) hx hb dX6_reckon_117 (by decide) ?_
                exact ih11 (x4 + (1 : Int32)) t_ways'_7 t_fewest'_7 t_weights'_7 t_first'_7 t_ways'_9 t_fewest'_9 t_weights'_9 t_first'_9 _ _ _ hF hW (lv_sub hl [0, 1, 2, 3] rfl) hk10
              · have hF := if_n c14 hF
                refine lv_aload_n hx hb dX6_reckon_91 rfl (lv_at hl 2 rfl) ?_
                refine lv_iload_n hx hb dX6_reckon_92 rfl (lv_at hl 1 rfl) ?_
                refine lv_iload hx hb dX6_reckon_93 (lv_at hl 0 rfl) ?_
                refine lv_iload_n hx hb dX6_reckon_95 rfl (lv_at hl 1 rfl) ?_
                refine lv_aload_n hx hb dX6_reckon_96 rfl (lv_at hl 3 rfl) ?_
                refine m_get X hW fdX6_37 5 rfl rfl dX6_reckon_97 ?_
                refine lv_iload hx hb dX6_reckon_100 (lv_at hl 0 rfl) ?_
                obtain ⟨g15, hF⟩ := gd_some hF
                refine m_iald X hW 6 (k := x4.toNatClampNeg) rfl g15 rfl dX6_reckon_102 ?_
                refine lv_iadd hx hb dX6_reckon_103 ?_
                refine lv_aload_n hx hb dX6_reckon_104 rfl (lv_at hl 3 rfl) ?_
                refine m_get X hW fdX6_40 5 rfl rfl dX6_reckon_105 ?_
                refine lv_iload hx hb dX6_reckon_108 (lv_at hl 0 rfl) ?_
                refine m_iald X hW 7 (k := x4.toNatClampNeg) rfl g15 rfl dX6_reckon_110 ?_
                obtain ⟨t_ways'_8, t_fewest'_8, t_weights'_8, t_first'_8, hC16, hF⟩ := bO_s4 hF
                refine m_callV X hW hA hl.1 lkX6_43 (c_Readings_begin l E _ N a_t a_t_ways a_t_fewest a_t_weights a_t_first t_ways'_7 t_fewest'_7 t_weights'_7 t_first'_7 x3 x4 (x3 + (p1_length x4.toNatClampNeg)) (p1_weight x4.toNatClampNeg) (t_ways'_8, t_fewest'_8, t_weights'_8, t_first'_8) hC16) ([0, 1, 2, 3, 4]) (by decide) rfl rfl (ws' := (wd_Readings_reckon E a_t a_t_ways a_t_fewest a_t_weights a_t_first a_p1 a_p1_number a_p1_others a_p1_length a_p1_weight a_p1_leastLike a_p1_row a_p1_lipsOf t_ways'_8 t_fewest'_8 t_weights'_8 t_first'_8 p1_words p1_rowLips p1_girlKnows p1_length p1_weight p1_leastLike p1_row p1_lipsOf)) rfl 0 rfl rfl rfl (As := [.int x3, .int x4, .int (x3 + (p1_length x4.toNatClampNeg)), .int (p1_weight x4.toNatClampNeg)]) (rest := []) rfl rfl ⟨rfl, rfl, Nat.le_of_ble_eq_true rfl, Nat.le_of_ble_eq_true rfl⟩ (Nat.le_of_ble_eq_true rfl) (Nat.zero_le _) (Nat.zero_le _) dX6_reckon_111 (fun H locs hW => ?_)
                clear hC16
                refine lv_iinc (v := (x4 + (1 : Int32))) (lv' := [(4, .int (x4 + (1 : Int32))), (3, .int x3), (0, .ref a_t), (1, .ref a_p1)]) hx hb dX6_reckon_114 hl (k := 0) rfl rfl (by decide) rfl (fun ls hl => ?_)
                refine lv_goto (tgt := 72) hx hb dX6_reckon_117 (by decide) ?_
                exact ih11 (x4 + (1 : Int32)) t_ways'_8 t_fewest'_8 t_weights'_8 t_first'_8 t_ways'_9 t_fewest'_9 t_weights'_9 t_first'_9 _ _ _ hF hW (lv_sub hl [0, 1, 2, 3] rfl) hk10
        refine L8 N (0 : Int32) (upd t_ways'_6 x3.toNatClampNeg (0 : Int32)) (upd t_fewest'_6 x3.toNatClampNeg (-1 : Int32)) (upd t_weights'_6 x3.toNatClampNeg (0 : Int32)) (upd t_first'_6 x3.toNatClampNeg (-1 : Int32)) t_ways'_9 t_fewest'_9 t_weights'_9 t_first'_9 _ _ _ hX9 hW (lv_sub hl [0, 1, 2, 3] rfl) ?_
        intro H locs ls hW hl
        clear L8
        refine lv_iinc (v := (x3 + (-1 : Int32))) (lv' := [(3, .int (x3 + (-1 : Int32))), (0, .ref a_t), (1, .ref a_p1)]) hx hb dX6_reckon_120 hl (k := 0) rfl rfl (by decide) rfl (fun ls hl => ?_)
        refine lv_goto (tgt := 37) hx hb dX6_reckon_123 (by decide) ?_
        exact ih5 (x3 + (-1 : Int32)) t_ways'_9 t_fewest'_9 t_weights'_9 t_first'_9 t_ways'_10 t_fewest'_10 t_weights'_10 t_first'_10 _ _ _ hF hW (lv_sub hl [0, 1, 2] rfl) hk4
  refine L2 N (p1_rowLips - (1 : Int32)) (upd t_ways p1_rowLips.toNatClampNeg (1 : Int32)) (upd t_fewest p1_rowLips.toNatClampNeg (0 : Int32)) (upd t_weights p1_rowLips.toNatClampNeg (0 : Int32)) (upd t_first p1_rowLips.toNatClampNeg (-1 : Int32)) t_ways'_10 t_fewest'_10 t_weights'_10 t_first'_10 _ _ _ hX3 hW (lv_sub hl [0, 2, 3] rfl) ?_
  intro H locs ls hW hl
  clear L2
  have hq := Option.some.inj hF
  subst hq
  exact hret _ _ _ _ hW dX6_reckon_126
abbrev wd_Readings_number (E : m_E) (a_t : Nat) (a_t_fewest : Nat) (a_t_weights : Nat) (a_t_first : Nat) (a_t_ways : Nat) (t_ways : Nat → Int32) : va_W := [(a_t, .inr (6, [.ref a_t_ways, .ref a_t_fewest, .ref a_t_weights, .ref a_t_first])), (a_t_ways, .inl (E.2.1 0, 25, .inl t_ways))]
def rm_Readings_number : Room := { frames := 0, cells := 0, slots := 0, locals := 0 }
set_option maxHeartbeats 4000000 in
set_option maxRecDepth 100000 in
theorem c_Readings_number (l : Launch) (E : m_E) (sz N : Nat) (a_t : Nat) (a_t_fewest : Nat) (a_t_weights : Nat) (a_t_first : Nat) (a_t_ways : Nat) (t_ways : Nat → Int32)  (ures : Int32) (hF : F_Readings_number t_ways = ures) : m_Met l yX6_number cX6_number 1 (some .int) rm_Readings_number E (wd_Readings_number E a_t a_t_fewest a_t_weights a_t_first a_t_ways t_ways) (wd_Readings_number E a_t a_t_fewest a_t_weights a_t_first a_t_ways t_ways) sz [.ref a_t] (some (.int ures)) := by
  refine m_ofI (by decide) (Nat.le_of_ble_eq_true rfl) ?_
  intro p e s m args below meth c A Q ls X hW hA hl hret
  obtain ⟨hx, hb, -, hown, hts, hK, -, hG⟩ := id X
  have hl : lv_has ls 1 [(0, .ref a_t)] := hl
  unfold F_Readings_number at hF
  refine lv_aload_n hx hb dX6_number_0 rfl (lv_at hl 0 rfl) ?_
  refine m_get X hW fdX6_11 0 rfl rfl dX6_number_1 ?_
  refine lv_iconst (v := (0 : Int32)) hx hb dX6_number_4 (by decide) ?_
  refine m_iald X hW 1 (k := 0) rfl (by decide) rfl dX6_number_5 ?_
  have hq := hF
  subst hq
  exact hret _ _ _ _ hW dX6_number_6
abbrev wd_Readings_fewestWords (E : m_E) (a_t : Nat) (a_t_ways : Nat) (a_t_weights : Nat) (a_t_first : Nat) (a_t_fewest : Nat) (t_fewest : Nat → Int32) : va_W := [(a_t, .inr (6, [.ref a_t_ways, .ref a_t_fewest, .ref a_t_weights, .ref a_t_first])), (a_t_fewest, .inl (E.2.1 0, 25, .inl t_fewest))]
def rm_Readings_fewestWords : Room := { frames := 0, cells := 0, slots := 0, locals := 0 }
set_option maxHeartbeats 4000000 in
set_option maxRecDepth 100000 in
theorem c_Readings_fewestWords (l : Launch) (E : m_E) (sz N : Nat) (a_t : Nat) (a_t_ways : Nat) (a_t_weights : Nat) (a_t_first : Nat) (a_t_fewest : Nat) (t_fewest : Nat → Int32)  (ures : Int32) (hF : F_Readings_fewestWords t_fewest = ures) : m_Met l yX6_fewestWords cX6_fewestWords 1 (some .int) rm_Readings_fewestWords E (wd_Readings_fewestWords E a_t a_t_ways a_t_weights a_t_first a_t_fewest t_fewest) (wd_Readings_fewestWords E a_t a_t_ways a_t_weights a_t_first a_t_fewest t_fewest) sz [.ref a_t] (some (.int ures)) := by
  refine m_ofI (by decide) (Nat.le_of_ble_eq_true rfl) ?_
  intro p e s m args below meth c A Q ls X hW hA hl hret
  obtain ⟨hx, hb, -, hown, hts, hK, -, hG⟩ := id X
  have hl : lv_has ls 1 [(0, .ref a_t)] := hl
  unfold F_Readings_fewestWords at hF
  refine lv_aload_n hx hb dX6_fewestWords_0 rfl (lv_at hl 0 rfl) ?_
  refine m_get X hW fdX6_17 0 rfl rfl dX6_fewestWords_1 ?_
  refine lv_iconst (v := (0 : Int32)) hx hb dX6_fewestWords_4 (by decide) ?_
  refine m_iald X hW 1 (k := 0) rfl (by decide) rfl dX6_fewestWords_5 ?_
  have hq := hF
  subst hq
  exact hret _ _ _ _ hW dX6_fewestWords_6
abbrev wd_Readings_wordInPlace (E : m_E) (a_t : Nat) (a_t_ways : Nat) (a_t_fewest : Nat) (a_t_weights : Nat) (a_t_first : Nat) (a_p1 : Nat) (a_p1_number : Nat) (a_p1_weight : Nat) (a_p1_leastLike : Nat) (a_p1_row : Nat) (a_p1_lipsOf : Nat) (a_p1_others : Nat) (a_p1_length : Nat) (t_first : Nat → Int32) (p1_words : Int32) (p1_rowLips : Int32) (p1_girlKnows : Int32) (p1_length : Nat → Int32) : va_W := [(a_t, .inr (6, [.ref a_t_ways, .ref a_t_fewest, .ref a_t_weights, .ref a_t_first])), (a_t_first, .inl (E.2.1 0, 25, .inl t_first)), (a_p1, .inr (3, [.int p1_words, .ref a_p1_length, .ref a_p1_number, .ref a_p1_weight, .ref a_p1_leastLike, .ref a_p1_row, .int p1_rowLips, .int p1_girlKnows, .ref a_p1_lipsOf, .ref a_p1_others])), (a_p1_length, .inl (E.2.1 0, 10, .inl p1_length))]
def rm_Readings_wordInPlace : Room := { frames := 0, cells := 0, slots := 0, locals := 0 }
set_option maxHeartbeats 4000000 in
set_option maxRecDepth 100000 in
theorem c_Readings_wordInPlace (l : Launch) (E : m_E) (sz N : Nat) (a_t : Nat) (a_t_ways : Nat) (a_t_fewest : Nat) (a_t_weights : Nat) (a_t_first : Nat) (a_p1 : Nat) (a_p1_number : Nat) (a_p1_weight : Nat) (a_p1_leastLike : Nat) (a_p1_row : Nat) (a_p1_lipsOf : Nat) (a_p1_others : Nat) (a_p1_length : Nat) (t_first : Nat → Int32) (p1_words : Int32) (p1_rowLips : Int32) (p1_girlKnows : Int32) (p1_length : Nat → Int32) (p2 : Int32) (ures : Int32) (hF : F_Readings_wordInPlace N p2 t_first p1_length = some ures) : m_Met l yX6_wordInPlace cX6_wordInPlace 5 (some .int) rm_Readings_wordInPlace E (wd_Readings_wordInPlace E a_t a_t_ways a_t_fewest a_t_weights a_t_first a_p1 a_p1_number a_p1_weight a_p1_leastLike a_p1_row a_p1_lipsOf a_p1_others a_p1_length t_first p1_words p1_rowLips p1_girlKnows p1_length) (wd_Readings_wordInPlace E a_t a_t_ways a_t_fewest a_t_weights a_t_first a_p1 a_p1_number a_p1_weight a_p1_leastLike a_p1_row a_p1_lipsOf a_p1_others a_p1_length t_first p1_words p1_rowLips p1_girlKnows p1_length) sz [.ref a_t, .ref a_p1, .int p2] (some (.int ures)) := by
  refine m_ofI (by decide) (Nat.le_of_ble_eq_true rfl) ?_
  intro p e s m args below meth c A Q ls X hW hA hl hret
  obtain ⟨hx, hb, -, hown, hts, hK, -, hG⟩ := id X
  have hl : lv_has ls 5 [(0, .ref a_t), (1, .ref a_p1), (2, .int p2)] := hl
  unfold F_Readings_wordInPlace at hF
  refine lv_iconst (v := (0 : Int32)) hx hb dX6_wordInPlace_0 (by decide) ?_
  refine lv_istore_n (lv' := [(3, .int (0 : Int32)), (0, .ref a_t), (1, .ref a_p1), (2, .int p2)]) hx hb dX6_wordInPlace_1 rfl hl (by decide) rfl (fun ls hl => ?_)
  refine lv_iconst (v := (0 : Int32)) hx hb dX6_wordInPlace_2 (by decide) ?_
  refine lv_istore (lv' := [(4, .int (0 : Int32)), (3, .int (0 : Int32)), (0, .ref a_t), (1, .ref a_p1), (2, .int p2)]) hx hb dX6_wordInPlace_3 hl (by decide) rfl (fun ls hl => ?_)
  obtain ⟨x3_2, hX2, hF⟩ := bO_s1 hF
  have L1 : ∀ (k0 : Nat) (x3 : Int32) (x4 : Int32) (x3_2 : Int32) (H : Heap) (locs : List Loc) (ls : Array Slot), Readings_wordInPlace_L5 p2 t_first p1_length k0 x3 x4 = some x3_2 → m_H E A (wd_Readings_wordInPlace E a_t a_t_ways a_t_fewest a_t_weights a_t_first a_p1 a_p1_number a_p1_weight a_p1_leastLike a_p1_row a_p1_lipsOf a_p1_others a_p1_length t_first p1_words p1_rowLips p1_girlKnows p1_length) s.heap H locs → lv_has ls 5 [(4, .int x4), (3, .int x3), (0, .ref a_t), (1, .ref a_p1), (2, .int p2)] → (∀ (H : Heap) (locs : List Loc) (ls : Array Slot), m_H E A (wd_Readings_wordInPlace E a_t a_t_ways a_t_fewest a_t_weights a_t_first a_p1 a_p1_number a_p1_weight a_p1_leastLike a_p1_row a_p1_lipsOf a_p1_others a_p1_length t_first p1_words p1_rowLips p1_girlKnows p1_length) s.heap H locs → lv_has ls 5 [(3, .int x3_2), (0, .ref a_t)] → W p l e rm_Readings_wordInPlace s m args below meth c H locs 0 0 Q (F0 m 41 ls [])) → W p l e rm_Readings_wordInPlace s m args below meth c H locs 0 0 Q (F0 m 5 ls []) := by
    clear hF
    intro k0
    induction k0 with
    | zero =>
      intro x3 x4 x3_2 H locs ls hF
      cases hF
    | succ k0 ih4 =>
      intro x3 x4 x3_2 H locs ls hF hW hl hk3
      rw [Readings_wordInPlace_L5] at hF
      refine lv_iload hx hb dX6_wordInPlace_5 (lv_at hl 0 rfl) ?_
      refine lv_iload_n hx hb dX6_wordInPlace_7 rfl (lv_at hl 4 rfl) ?_
      refine lv_icmp_ge (tgt := 41) hx hb dX6_wordInPlace_8 (by decide) (fun c5 => ?_) (fun c5 => ?_)
      · have hF := if_y c5 hF
        cases hF
        exact hk3 _ _ _ hW (lv_sub hl [1, 2] rfl)
      · have hF := if_n c5 hF
        refine lv_aload_n hx hb dX6_wordInPlace_11 rfl (lv_at hl 2 rfl) ?_
        refine m_get X hW fdX6_23 0 rfl rfl dX6_wordInPlace_12 ?_
        refine lv_iload_n hx hb dX6_wordInPlace_15 rfl (lv_at hl 1 rfl) ?_
        obtain ⟨g6, hF⟩ := gd_some hF
        refine m_iald X hW 1 (k := x3.toNatClampNeg) rfl g6 rfl dX6_wordInPlace_16 ?_
        refine lv_iconst (v := (-1 : Int32)) hx hb dX6_wordInPlace_17 (by decide) ?_
        refine lv_icmp_eq (tgt := 41) hx hb dX6_wordInPlace_18 (by decide) (fun c7 => ?_) (fun c7 => ?_)
        · have hF := if_y c7 hF
          cases hF
          exact hk3 _ _ _ hW (lv_sub hl [1, 2] rfl)
        · have hF := if_n c7 hF
          refine lv_iload_n hx hb dX6_wordInPlace_21 rfl (lv_at hl 1 rfl) ?_
          refine lv_aload_n hx hb dX6_wordInPlace_22 rfl (lv_at hl 3 rfl) ?_
          refine m_get X hW fdX6_37 2 rfl rfl dX6_wordInPlace_23 ?_
          refine lv_aload_n hx hb dX6_wordInPlace_26 rfl (lv_at hl 2 rfl) ?_
          refine m_get X hW fdX6_23 0 rfl rfl dX6_wordInPlace_27 ?_
          refine lv_iload_n hx hb dX6_wordInPlace_30 rfl (lv_at hl 1 rfl) ?_
          refine m_iald X hW 1 (k := x3.toNatClampNeg) rfl g6 rfl dX6_wordInPlace_31 ?_
          obtain ⟨g8, hF⟩ := gd_some hF
          refine m_iald X hW 3 (k := (t_first x3.toNatClampNeg).toNatClampNeg) rfl g8 rfl dX6_wordInPlace_32 ?_
          refine lv_iadd hx hb dX6_wordInPlace_33 ?_
          refine lv_istore_n (lv' := [(3, .int (x3 + (p1_length (t_first x3.toNatClampNeg).toNatClampNeg))), (4, .int x4), (0, .ref a_t), (1, .ref a_p1), (2, .int p2)]) hx hb dX6_wordInPlace_34 rfl hl (by decide) rfl (fun ls hl => ?_)
          refine lv_iinc (v := (x4 + (1 : Int32))) (lv' := [(4, .int (x4 + (1 : Int32))), (3, .int (x3 + (p1_length (t_first x3.toNatClampNeg).toNatClampNeg))), (0, .ref a_t), (1, .ref a_p1), (2, .int p2)]) hx hb dX6_wordInPlace_35 hl (k := 1) rfl rfl (by decide) rfl (fun ls hl => ?_)
          refine lv_goto (tgt := 5) hx hb dX6_wordInPlace_38 (by decide) ?_
          exact ih4 (x3 + (p1_length (t_first x3.toNatClampNeg).toNatClampNeg)) (x4 + (1 : Int32)) x3_2 _ _ _ hF hW (lv_sub hl [0, 1, 2, 3, 4] rfl) hk3
  refine L1 N (0 : Int32) (0 : Int32) x3_2 _ _ _ hX2 hW (lv_sub hl [0, 1, 2, 3, 4] rfl) ?_
  intro H locs ls hW hl
  clear L1
  refine lv_aload_n hx hb dX6_wordInPlace_41 rfl (lv_at hl 1 rfl) ?_
  refine m_get X hW fdX6_23 0 rfl rfl dX6_wordInPlace_42 ?_
  refine lv_iload_n hx hb dX6_wordInPlace_45 rfl (lv_at hl 0 rfl) ?_
  obtain ⟨g9, hF⟩ := gd_some hF
  refine m_iald X hW 1 (k := x3_2.toNatClampNeg) rfl g9 rfl dX6_wordInPlace_46 ?_
  have hq := Option.some.inj hF
  subst hq
  exact hret _ _ _ _ hW dX6_wordInPlace_47
abbrev wd_S_reads (E : m_E) (a_t : Nat) (a_t_draft : Nat) (a_t_firstImage : Nat) (a_t_secondImage : Nat) (a_t_news : Nat) (a_t_otherNews : Nat) (a_t_chances : Nat) (a_t_turning : Nat) (a_t_text : Nat) (a_t_fraction : Nat) (a_t_now : Nat) (a_t_now_floor : Nat) (a_t_now_sightings : Nat) (a_t_now_level : Nat) (a_t_now_loss : Nat) (a_t_now_lexicon : Nat) (a_t_now_lexicon_number : Nat) (a_t_now_lexicon_others : Nat) (a_t_now_lexicon_length : Nat) (a_t_now_lexicon_weight : Nat) (a_t_now_lexicon_leastLike : Nat) (a_t_now_lexicon_row : Nat) (a_t_now_lexicon_lipsOf : Nat) (a_t_readings : Nat) (a_t_readings_ways : Nat) (a_t_readings_fewest : Nat) (a_t_readings_weights : Nat) (a_t_readings_first : Nat) (t_now_clearness : Int32) (t_now_isKept : Int32) (t_now_lexicon_words : Int32) (t_now_lexicon_rowLips : Int32) (t_now_lexicon_girlKnows : Int32) (t_now_lexicon_length : Nat → Int32) (t_now_lexicon_weight : Nat → Int32) (t_now_lexicon_leastLike : Nat → Int32) (t_now_lexicon_row : Nat → Int32) (t_now_lexicon_lipsOf : Nat → Int32) (t_readings_ways : Nat → Int32) (t_readings_fewest : Nat → Int32) (t_readings_weights : Nat → Int32) (t_readings_first : Nat → Int32) : va_W := [(a_t, .inr (11, [.ref a_t_now, .ref a_t_draft, .ref a_t_firstImage, .ref a_t_secondImage, .ref a_t_news, .ref a_t_otherNews, .ref a_t_readings, .ref a_t_chances, .ref a_t_turning, .ref a_t_text, .ref a_t_fraction])), (a_t_now, .inr (7, [.ref a_t_now_floor, .ref a_t_now_sightings, .ref a_t_now_lexicon, .ref a_t_now_level, .ref a_t_now_loss, .int t_now_clearness, .int t_now_isKept])), (a_t_now_lexicon, .inr (3, [.int t_now_lexicon_words, .ref a_t_now_lexicon_length, .ref a_t_now_lexicon_number, .ref a_t_now_lexicon_weight, .ref a_t_now_lexicon_leastLike, .ref a_t_now_lexicon_row, .int t_now_lexicon_rowLips, .int t_now_lexicon_girlKnows, .ref a_t_now_lexicon_lipsOf, .ref a_t_now_lexicon_others])), (a_t_now_lexicon_length, .inl (E.2.1 0, 10, .inl t_now_lexicon_length)), (a_t_now_lexicon_weight, .inl (E.2.1 0, 10, .inl t_now_lexicon_weight)), (a_t_now_lexicon_leastLike, .inl (E.2.1 0, 6, .inl t_now_lexicon_leastLike)), (a_t_now_lexicon_row, .inl (E.2.1 0, 24, .inl t_now_lexicon_row)), (a_t_now_lexicon_lipsOf, .inl (E.2.1 0, 60, .inl t_now_lexicon_lipsOf)), (a_t_readings, .inr (6, [.ref a_t_readings_ways, .ref a_t_readings_fewest, .ref a_t_readings_weights, .ref a_t_readings_first])), (a_t_readings_ways, .inl (E.2.1 0, 25, .inl t_readings_ways)), (a_t_readings_fewest, .inl (E.2.1 0, 25, .inl t_readings_fewest)), (a_t_readings_weights, .inl (E.2.1 0, 25, .inl t_readings_weights)), (a_t_readings_first, .inl (E.2.1 0, 25, .inl t_readings_first))]
def rm_S_reads : Room := { frames := 3, cells := 0, slots := 0, locals := 69 }
set_option maxHeartbeats 4000000 in
set_option maxRecDepth 100000 in
theorem c_S_reads (l : Launch) (E : m_E) (sz N : Nat) (a_t : Nat) (a_t_draft : Nat) (a_t_firstImage : Nat) (a_t_secondImage : Nat) (a_t_news : Nat) (a_t_otherNews : Nat) (a_t_chances : Nat) (a_t_turning : Nat) (a_t_text : Nat) (a_t_fraction : Nat) (a_t_now : Nat) (a_t_now_floor : Nat) (a_t_now_sightings : Nat) (a_t_now_level : Nat) (a_t_now_loss : Nat) (a_t_now_lexicon : Nat) (a_t_now_lexicon_number : Nat) (a_t_now_lexicon_others : Nat) (a_t_now_lexicon_length : Nat) (a_t_now_lexicon_weight : Nat) (a_t_now_lexicon_leastLike : Nat) (a_t_now_lexicon_row : Nat) (a_t_now_lexicon_lipsOf : Nat) (a_t_readings : Nat) (a_t_readings_ways : Nat) (a_t_readings_fewest : Nat) (a_t_readings_weights : Nat) (a_t_readings_first : Nat) (t_now_clearness : Int32) (t_now_isKept : Int32) (t_now_lexicon_words : Int32) (t_now_lexicon_rowLips : Int32) (t_now_lexicon_girlKnows : Int32) (t_now_lexicon_length : Nat → Int32) (t_now_lexicon_weight : Nat → Int32) (t_now_lexicon_leastLike : Nat → Int32) (t_now_lexicon_row : Nat → Int32) (t_now_lexicon_lipsOf : Nat → Int32) (t_readings_ways : Nat → Int32) (t_readings_fewest : Nat → Int32) (t_readings_weights : Nat → Int32) (t_readings_first : Nat → Int32) (p1 : Int32) (ures : Int32 × (Nat → Int32) × (Nat → Int32) × (Nat → Int32) × (Nat → Int32)) (hF : F_S_reads N p1 t_now_lexicon_words t_now_lexicon_rowLips t_now_lexicon_length t_now_lexicon_weight t_now_lexicon_leastLike t_now_lexicon_row t_now_lexicon_lipsOf t_readings_ways t_readings_fewest t_readings_weights t_readings_first = some ures) : m_Met l yX11_reads cX11_reads 3 (some .int) rm_S_reads E (wd_S_reads E a_t a_t_draft a_t_firstImage a_t_secondImage a_t_news a_t_otherNews a_t_chances a_t_turning a_t_text a_t_fraction a_t_now a_t_now_floor a_t_now_sightings a_t_now_level a_t_now_loss a_t_now_lexicon a_t_now_lexicon_number a_t_now_lexicon_others a_t_now_lexicon_length a_t_now_lexicon_weight a_t_now_lexicon_leastLike a_t_now_lexicon_row a_t_now_lexicon_lipsOf a_t_readings a_t_readings_ways a_t_readings_fewest a_t_readings_weights a_t_readings_first t_now_clearness t_now_isKept t_now_lexicon_words t_now_lexicon_rowLips t_now_lexicon_girlKnows t_now_lexicon_length t_now_lexicon_weight t_now_lexicon_leastLike t_now_lexicon_row t_now_lexicon_lipsOf t_readings_ways t_readings_fewest t_readings_weights t_readings_first) (wd_S_reads E a_t a_t_draft a_t_firstImage a_t_secondImage a_t_news a_t_otherNews a_t_chances a_t_turning a_t_text a_t_fraction a_t_now a_t_now_floor a_t_now_sightings a_t_now_level a_t_now_loss a_t_now_lexicon a_t_now_lexicon_number a_t_now_lexicon_others a_t_now_lexicon_length a_t_now_lexicon_weight a_t_now_lexicon_leastLike a_t_now_lexicon_row a_t_now_lexicon_lipsOf a_t_readings a_t_readings_ways a_t_readings_fewest a_t_readings_weights a_t_readings_first t_now_clearness t_now_isKept t_now_lexicon_words t_now_lexicon_rowLips t_now_lexicon_girlKnows t_now_lexicon_length t_now_lexicon_weight t_now_lexicon_leastLike t_now_lexicon_row t_now_lexicon_lipsOf ures.2.1 ures.2.2.1 ures.2.2.2.1 ures.2.2.2.2) sz [.ref a_t, .int p1] (some (.int ures.1)) := by
  refine m_ofI (by decide) (Nat.le_of_ble_eq_true rfl) ?_
  intro p e s m args below meth c A Q ls X hW hA hl hret
  obtain ⟨hx, hb, -, hown, hts, hK, -, hG⟩ := id X
  have hl : lv_has ls 3 [(0, .ref a_t), (1, .int p1)] := hl
  unfold F_S_reads at hF
  refine lv_iload_n hx hb dX11_reads_0 rfl (lv_at hl 1 rfl) ?_
  refine lv_iconst (v := (-1 : Int32)) hx hb dX11_reads_1 (by decide) ?_
  refine lv_bipush (v := (24 : Int32)) hx hb dX11_reads_2 (by decide) ?_
  refine m_callS X hW hA hl.1 lkX11_98 (c_S_within l E _ N   p1 (-1 : Int32) (24 : Int32) (F_S_within p1 (-1 : Int32) (24 : Int32)) rfl) ([]) (by decide) rfl rfl (ws' := (wd_S_reads E a_t a_t_draft a_t_firstImage a_t_secondImage a_t_news a_t_otherNews a_t_chances a_t_turning a_t_text a_t_fraction a_t_now a_t_now_floor a_t_now_sightings a_t_now_level a_t_now_loss a_t_now_lexicon a_t_now_lexicon_number a_t_now_lexicon_others a_t_now_lexicon_length a_t_now_lexicon_weight a_t_now_lexicon_leastLike a_t_now_lexicon_row a_t_now_lexicon_lipsOf a_t_readings a_t_readings_ways a_t_readings_fewest a_t_readings_weights a_t_readings_first t_now_clearness t_now_isKept t_now_lexicon_words t_now_lexicon_rowLips t_now_lexicon_girlKnows t_now_lexicon_length t_now_lexicon_weight t_now_lexicon_leastLike t_now_lexicon_row t_now_lexicon_lipsOf t_readings_ways t_readings_fewest t_readings_weights t_readings_first)) rfl (As := [.int p1, .int (-1 : Int32), .int (24 : Int32)]) (rest := []) rfl rfl ⟨rfl, rfl, Nat.le_of_ble_eq_true rfl, Nat.le_of_ble_eq_true rfl⟩ (Nat.le_of_ble_eq_true rfl) (Nat.zero_le _) (Nat.zero_le _) dX11_reads_4 (fun H locs hW => ?_)
  refine lv_if_ne (tgt := 13) hx hb dX11_reads_7 (by decide) (fun c1 => ?_) (fun c1 => ?_)
  · have hF := if_n c1 hF
    refine lv_aload_n hx hb dX11_reads_13 rfl (lv_at hl 0 rfl) ?_
    refine m_get X hW fdX11_38 0 rfl rfl dX11_reads_14 ?_
    refine lv_aload_n hx hb dX11_reads_17 rfl (lv_at hl 0 rfl) ?_
    refine m_get X hW fdX11_10 0 rfl rfl dX11_reads_18 ?_
    refine m_get X hW fdX11_156 1 rfl rfl dX11_reads_21 ?_
    obtain ⟨t_readings_ways'_2, t_readings_fewest'_2, t_readings_weights'_2, t_readings_first'_2, hC2, hF⟩ := bO_s4 hF
    refine m_callV X hW hA hl.1 lkX11_181 (c_Readings_reckon l E _ N a_t_readings a_t_readings_ways a_t_readings_fewest a_t_readings_weights a_t_readings_first a_t_now_lexicon a_t_now_lexicon_number a_t_now_lexicon_others a_t_now_lexicon_length a_t_now_lexicon_weight a_t_now_lexicon_leastLike a_t_now_lexicon_row a_t_now_lexicon_lipsOf t_readings_ways t_readings_fewest t_readings_weights t_readings_first t_now_lexicon_words t_now_lexicon_rowLips t_now_lexicon_girlKnows t_now_lexicon_length t_now_lexicon_weight t_now_lexicon_leastLike t_now_lexicon_row t_now_lexicon_lipsOf  (t_readings_ways'_2, t_readings_fewest'_2, t_readings_weights'_2, t_readings_first'_2) hC2) ([8, 9, 10, 11, 12, 2, 3, 4, 5, 6, 7]) (by decide) rfl rfl (ws' := (wd_S_reads E a_t a_t_draft a_t_firstImage a_t_secondImage a_t_news a_t_otherNews a_t_chances a_t_turning a_t_text a_t_fraction a_t_now a_t_now_floor a_t_now_sightings a_t_now_level a_t_now_loss a_t_now_lexicon a_t_now_lexicon_number a_t_now_lexicon_others a_t_now_lexicon_length a_t_now_lexicon_weight a_t_now_lexicon_leastLike a_t_now_lexicon_row a_t_now_lexicon_lipsOf a_t_readings a_t_readings_ways a_t_readings_fewest a_t_readings_weights a_t_readings_first t_now_clearness t_now_isKept t_now_lexicon_words t_now_lexicon_rowLips t_now_lexicon_girlKnows t_now_lexicon_length t_now_lexicon_weight t_now_lexicon_leastLike t_now_lexicon_row t_now_lexicon_lipsOf t_readings_ways'_2 t_readings_fewest'_2 t_readings_weights'_2 t_readings_first'_2)) (m_putS [none, none, some 5, some 6, some 7, some 8, some 9, some 10, some 0, some 1, some 2, some 3, some 4] (by decide +kernel) (by rfl) (by decide +kernel) (by rfl) (by rfl)) 8 rfl rfl rfl (As := [.ref a_t_now_lexicon]) (rest := []) rfl rfl ⟨rfl, rfl, Nat.le_of_ble_eq_true rfl, Nat.le_of_ble_eq_true rfl⟩ (Nat.le_of_ble_eq_true rfl) (Nat.zero_le _) (Nat.zero_le _) dX11_reads_24 (fun H locs hW => ?_)
    clear hC2
    refine lv_iload_n hx hb dX11_reads_27 rfl (lv_at hl 1 rfl) ?_
    refine lv_iconst (v := (-1 : Int32)) hx hb dX11_reads_28 (by decide) ?_
    refine lv_icmp_ne (tgt := 40) hx hb dX11_reads_29 (by decide) (fun c3 => ?_) (fun c3 => ?_)
    · have hF := if_n c3 hF
      refine lv_iload_n hx hb dX11_reads_40 rfl (lv_at hl 1 rfl) ?_
      refine lv_bipush (v := (24 : Int32)) hx hb dX11_reads_41 (by decide) ?_
      obtain ⟨y0, hX5, hF⟩ := bO_s1 hF
      have J4 : ∀ (H : Heap) (locs : List Loc) (ls : Array Slot), m_H E A (wd_S_reads E a_t a_t_draft a_t_firstImage a_t_secondImage a_t_news a_t_otherNews a_t_chances a_t_turning a_t_text a_t_fraction a_t_now a_t_now_floor a_t_now_sightings a_t_now_level a_t_now_loss a_t_now_lexicon a_t_now_lexicon_number a_t_now_lexicon_others a_t_now_lexicon_length a_t_now_lexicon_weight a_t_now_lexicon_leastLike a_t_now_lexicon_row a_t_now_lexicon_lipsOf a_t_readings a_t_readings_ways a_t_readings_fewest a_t_readings_weights a_t_readings_first t_now_clearness t_now_isKept t_now_lexicon_words t_now_lexicon_rowLips t_now_lexicon_girlKnows t_now_lexicon_length t_now_lexicon_weight t_now_lexicon_leastLike t_now_lexicon_row t_now_lexicon_lipsOf t_readings_ways'_2 t_readings_fewest'_2 t_readings_weights'_2 t_readings_first'_2) s.heap H locs → lv_has ls 3 [] → W p l e rm_S_reads s m args below meth c H locs 0 0 Q (F0 m 71 ls [.int y0]) := by
        intro H locs ls hW hl
        refine lv_istore_n (lv' := [(2, .int y0)]) hx hb dX11_reads_71 rfl hl (by decide) rfl (fun ls hl => ?_)
        refine lv_iload_n hx hb dX11_reads_72 rfl (lv_at hl 0 rfl) ?_
        refine lv_iconst (v := (-1 : Int32)) hx hb dX11_reads_73 (by decide) ?_
        refine lv_icmp_ne (tgt := 82) hx hb dX11_reads_74 (by decide) (fun c6 => ?_) (fun c6 => ?_)
        · have hF := if_n c6 hF
          refine lv_iload_n hx hb dX11_reads_82 rfl (lv_at hl 0 rfl) ?_
          have hq := Option.some.inj hF
          subst hq
          exact hret _ _ _ _ hW dX11_reads_83
        · have hF := if_y c6 hF
          refine lv_bipush (v := (-5 : Int32)) hx hb dX11_reads_77 (by decide) ?_
          refine lv_goto (tgt := 83) hx hb dX11_reads_79 (by decide) ?_
          have hq := Option.some.inj hF
          subst hq
          exact hret _ _ _ _ hW dX11_reads_83
      clear hF
      have hF := hX5
      clear hX5
      refine lv_icmp_ne (tgt := 56) hx hb dX11_reads_43 (by decide) (fun c7 => ?_) (fun c7 => ?_)
      · have hF := if_n c7 hF
        refine lv_aload_n hx hb dX11_reads_56 rfl (lv_at hl 0 rfl) ?_
        refine m_get X hW fdX11_38 0 rfl rfl dX11_reads_57 ?_
        refine lv_aload_n hx hb dX11_reads_60 rfl (lv_at hl 0 rfl) ?_
        refine m_get X hW fdX11_10 0 rfl rfl dX11_reads_61 ?_
        refine m_get X hW fdX11_156 1 rfl rfl dX11_reads_64 ?_
        refine lv_iload_n hx hb dX11_reads_67 rfl (lv_at hl 1 rfl) ?_
        obtain ⟨r68, hC8, hF⟩ := bO_s1 hF
        refine m_callV X hW hA hl.1 lkX11_192 (c_Readings_wordInPlace l E _ N a_t_readings a_t_readings_ways a_t_readings_fewest a_t_readings_weights a_t_readings_first a_t_now_lexicon a_t_now_lexicon_number a_t_now_lexicon_weight a_t_now_lexicon_leastLike a_t_now_lexicon_row a_t_now_lexicon_lipsOf a_t_now_lexicon_others a_t_now_lexicon_length t_readings_first'_2 t_now_lexicon_words t_now_lexicon_rowLips t_now_lexicon_girlKnows t_now_lexicon_length p1 r68 hC8) ([8, 12, 2, 3]) (by decide) rfl rfl (ws' := (wd_S_reads E a_t a_t_draft a_t_firstImage a_t_secondImage a_t_news a_t_otherNews a_t_chances a_t_turning a_t_text a_t_fraction a_t_now a_t_now_floor a_t_now_sightings a_t_now_level a_t_now_loss a_t_now_lexicon a_t_now_lexicon_number a_t_now_lexicon_others a_t_now_lexicon_length a_t_now_lexicon_weight a_t_now_lexicon_leastLike a_t_now_lexicon_row a_t_now_lexicon_lipsOf a_t_readings a_t_readings_ways a_t_readings_fewest a_t_readings_weights a_t_readings_first t_now_clearness t_now_isKept t_now_lexicon_words t_now_lexicon_rowLips t_now_lexicon_girlKnows t_now_lexicon_length t_now_lexicon_weight t_now_lexicon_leastLike t_now_lexicon_row t_now_lexicon_lipsOf t_readings_ways'_2 t_readings_fewest'_2 t_readings_weights'_2 t_readings_first'_2)) rfl 8 rfl rfl rfl (As := [.ref a_t_now_lexicon, .int p1]) (rest := []) rfl rfl ⟨rfl, rfl, Nat.le_of_ble_eq_true rfl, Nat.le_of_ble_eq_true rfl⟩ (Nat.le_of_ble_eq_true rfl) (Nat.zero_le _) (Nat.zero_le _) dX11_reads_68 (fun H locs hW => ?_)
        clear hC8
        cases hF
        exact J4 _ _ _ hW (lv_sub hl [] rfl)
      · have hF := if_y c7 hF
        refine lv_aload_n hx hb dX11_reads_46 rfl (lv_at hl 0 rfl) ?_
        refine m_get X hW fdX11_38 0 rfl rfl dX11_reads_47 ?_
        refine m_callV X hW hA hl.1 lkX11_189 (c_Readings_fewestWords l E _ N a_t_readings a_t_readings_ways a_t_readings_weights a_t_readings_first a_t_readings_fewest t_readings_fewest'_2  (F_Readings_fewestWords t_readings_fewest'_2) rfl) ([8, 10]) (by decide) rfl rfl (ws' := (wd_S_reads E a_t a_t_draft a_t_firstImage a_t_secondImage a_t_news a_t_otherNews a_t_chances a_t_turning a_t_text a_t_fraction a_t_now a_t_now_floor a_t_now_sightings a_t_now_level a_t_now_loss a_t_now_lexicon a_t_now_lexicon_number a_t_now_lexicon_others a_t_now_lexicon_length a_t_now_lexicon_weight a_t_now_lexicon_leastLike a_t_now_lexicon_row a_t_now_lexicon_lipsOf a_t_readings a_t_readings_ways a_t_readings_fewest a_t_readings_weights a_t_readings_first t_now_clearness t_now_isKept t_now_lexicon_words t_now_lexicon_rowLips t_now_lexicon_girlKnows t_now_lexicon_length t_now_lexicon_weight t_now_lexicon_leastLike t_now_lexicon_row t_now_lexicon_lipsOf t_readings_ways'_2 t_readings_fewest'_2 t_readings_weights'_2 t_readings_first'_2)) rfl 8 rfl rfl rfl (As := []) (rest := []) rfl rfl ⟨rfl, rfl, Nat.le_of_ble_eq_true rfl, Nat.le_of_ble_eq_true rfl⟩ (Nat.le_of_ble_eq_true rfl) (Nat.zero_le _) (Nat.zero_le _) dX11_reads_50 (fun H locs hW => ?_)
        refine lv_goto (tgt := 71) hx hb dX11_reads_53 (by decide) ?_
        cases hF
        exact J4 _ _ _ hW (lv_sub hl [] rfl)
    · have hF := if_y c3 hF
      refine lv_aload_n hx hb dX11_reads_32 rfl (lv_at hl 0 rfl) ?_
      refine m_get X hW fdX11_38 0 rfl rfl dX11_reads_33 ?_
      refine m_callV X hW hA hl.1 lkX11_185 (c_Readings_number l E _ N a_t_readings a_t_readings_fewest a_t_readings_weights a_t_readings_first a_t_readings_ways t_readings_ways'_2  (F_Readings_number t_readings_ways'_2) rfl) ([8, 9]) (by decide) rfl rfl (ws' := (wd_S_reads E a_t a_t_draft a_t_firstImage a_t_secondImage a_t_news a_t_otherNews a_t_chances a_t_turning a_t_text a_t_fraction a_t_now a_t_now_floor a_t_now_sightings a_t_now_level a_t_now_loss a_t_now_lexicon a_t_now_lexicon_number a_t_now_lexicon_others a_t_now_lexicon_length a_t_now_lexicon_weight a_t_now_lexicon_leastLike a_t_now_lexicon_row a_t_now_lexicon_lipsOf a_t_readings a_t_readings_ways a_t_readings_fewest a_t_readings_weights a_t_readings_first t_now_clearness t_now_isKept t_now_lexicon_words t_now_lexicon_rowLips t_now_lexicon_girlKnows t_now_lexicon_length t_now_lexicon_weight t_now_lexicon_leastLike t_now_lexicon_row t_now_lexicon_lipsOf t_readings_ways'_2 t_readings_fewest'_2 t_readings_weights'_2 t_readings_first'_2)) rfl 8 rfl rfl rfl (As := []) (rest := []) rfl rfl ⟨rfl, rfl, Nat.le_of_ble_eq_true rfl, Nat.le_of_ble_eq_true rfl⟩ (Nat.le_of_ble_eq_true rfl) (Nat.zero_le _) (Nat.zero_le _) dX11_reads_36 (fun H locs hW => ?_)
      have hq := Option.some.inj hF
      subst hq
      exact hret _ _ _ _ hW dX11_reads_39
  · have hF := if_y c1 hF
    refine lv_bipush (v := (-10 : Int32)) hx hb dX11_reads_10 (by decide) ?_
    have hq := Option.some.inj hF
    subst hq
    exact hret _ _ _ _ hW dX11_reads_12
abbrev wd_Lexicon_allWords (E : m_E) (a_t : Nat) (a_t_length : Nat) (a_t_number : Nat) (a_t_weight : Nat) (a_t_leastLike : Nat) (a_t_row : Nat) (a_t_lipsOf : Nat) (a_t_others : Nat) (t_words : Int32) (t_rowLips : Int32) (t_girlKnows : Int32) : va_W := [(a_t, .inr (3, [.int t_words, .ref a_t_length, .ref a_t_number, .ref a_t_weight, .ref a_t_leastLike, .ref a_t_row, .int t_rowLips, .int t_girlKnows, .ref a_t_lipsOf, .ref a_t_others]))]
def rm_Lexicon_allWords : Room := { frames := 0, cells := 0, slots := 0, locals := 0 }
set_option maxHeartbeats 4000000 in
set_option maxRecDepth 100000 in
theorem c_Lexicon_allWords (l : Launch) (E : m_E) (sz N : Nat) (a_t : Nat) (a_t_length : Nat) (a_t_number : Nat) (a_t_weight : Nat) (a_t_leastLike : Nat) (a_t_row : Nat) (a_t_lipsOf : Nat) (a_t_others : Nat) (t_words : Int32) (t_rowLips : Int32) (t_girlKnows : Int32)  (ures : Int32) (hF : F_Lexicon_allWords t_words = ures) : m_Met l yX3_allWords cX3_allWords 1 (some .int) rm_Lexicon_allWords E (wd_Lexicon_allWords E a_t a_t_length a_t_number a_t_weight a_t_leastLike a_t_row a_t_lipsOf a_t_others t_words t_rowLips t_girlKnows) (wd_Lexicon_allWords E a_t a_t_length a_t_number a_t_weight a_t_leastLike a_t_row a_t_lipsOf a_t_others t_words t_rowLips t_girlKnows) sz [.ref a_t] (some (.int ures)) := by
  refine m_ofI (by decide) (Nat.le_of_ble_eq_true rfl) ?_
  intro p e s m args below meth c A Q ls X hW hA hl hret
  obtain ⟨hx, hb, -, hown, hts, hK, -, hG⟩ := id X
  have hl : lv_has ls 1 [(0, .ref a_t)] := hl
  unfold F_Lexicon_allWords at hF
  refine lv_iconst (v := (1 : Int32)) hx hb dX3_allWords_0 (by decide) ?_
  refine lv_aload_n hx hb dX3_allWords_1 rfl (lv_at hl 0 rfl) ?_
  refine m_get X hW fdX3_36 0 rfl rfl dX3_allWords_2 ?_
  refine m_ishl hx hb dX3_allWords_5 ?_
  refine lv_iconst (v := (1 : Int32)) hx hb dX3_allWords_6 (by decide) ?_
  refine lv_isub hx hb dX3_allWords_7 ?_
  have hq := hF
  subst hq
  exact hret _ _ _ _ hW dX3_allWords_8
abbrev wd_Lexicon_areWords (E : m_E) (a_t : Nat) (a_t_length : Nat) (a_t_number : Nat) (a_t_weight : Nat) (a_t_leastLike : Nat) (a_t_row : Nat) (a_t_lipsOf : Nat) (a_t_others : Nat) (t_words : Int32) (t_rowLips : Int32) (t_girlKnows : Int32) : va_W := [(a_t, .inr (3, [.int t_words, .ref a_t_length, .ref a_t_number, .ref a_t_weight, .ref a_t_leastLike, .ref a_t_row, .int t_rowLips, .int t_girlKnows, .ref a_t_lipsOf, .ref a_t_others]))]
def rm_Lexicon_areWords : Room := { frames := 1, cells := 0, slots := 0, locals := 22 }
set_option maxHeartbeats 4000000 in
set_option maxRecDepth 100000 in
theorem c_Lexicon_areWords (l : Launch) (E : m_E) (sz N : Nat) (a_t : Nat) (a_t_length : Nat) (a_t_number : Nat) (a_t_weight : Nat) (a_t_leastLike : Nat) (a_t_row : Nat) (a_t_lipsOf : Nat) (a_t_others : Nat) (t_words : Int32) (t_rowLips : Int32) (t_girlKnows : Int32) (p1 : Int32) (ures : Int32) (hF : F_Lexicon_areWords p1 t_words = ures) : m_Met l yX3_areWords cX3_areWords 2 (some .boolean) rm_Lexicon_areWords E (wd_Lexicon_areWords E a_t a_t_length a_t_number a_t_weight a_t_leastLike a_t_row a_t_lipsOf a_t_others t_words t_rowLips t_girlKnows) (wd_Lexicon_areWords E a_t a_t_length a_t_number a_t_weight a_t_leastLike a_t_row a_t_lipsOf a_t_others t_words t_rowLips t_girlKnows) sz [.ref a_t, .int p1] (some (.int ures)) := by
  refine m_ofZ (by decide) (Nat.le_of_ble_eq_true rfl) ?_
  intro p e s m args below meth c A Q ls X hW hA hl hret
  obtain ⟨hx, hb, -, hown, hts, hK, -, hG⟩ := id X
  have hl : lv_has ls 2 [(0, .ref a_t), (1, .int p1)] := hl
  unfold F_Lexicon_areWords at hF
  refine lv_iload_n hx hb dX3_areWords_0 rfl (lv_at hl 1 rfl) ?_
  refine lv_iconst (v := (0 : Int32)) hx hb dX3_areWords_1 (by decide) ?_
  refine lv_aload_n hx hb dX3_areWords_2 rfl (lv_at hl 0 rfl) ?_
  refine m_callV X hW hA hl.1 lkX3_56 (c_Lexicon_allWords l E _ N a_t a_t_length a_t_number a_t_weight a_t_leastLike a_t_row a_t_lipsOf a_t_others t_words t_rowLips t_girlKnows  (F_Lexicon_allWords t_words) rfl) ([0]) (by decide) rfl rfl (ws' := (wd_Lexicon_areWords E a_t a_t_length a_t_number a_t_weight a_t_leastLike a_t_row a_t_lipsOf a_t_others t_words t_rowLips t_girlKnows)) rfl 0 rfl rfl rfl (As := []) (rest := [.int (0 : Int32), .int p1]) rfl rfl ⟨rfl, rfl, Nat.le_of_ble_eq_true rfl, Nat.le_of_ble_eq_true rfl⟩ (Nat.le_of_ble_eq_true rfl) (Nat.zero_le _) (Nat.zero_le _) dX3_areWords_3 (fun H locs hW => ?_)
  refine m_callN X hW hA hl.1 lkX3_52 (c_S_within l E _ N   p1 (0 : Int32) (F_Lexicon_allWords t_words) (F_S_within p1 (0 : Int32) (F_Lexicon_allWords t_words)) rfl) ([]) (by decide) rfl rfl (ws' := (wd_Lexicon_areWords E a_t a_t_length a_t_number a_t_weight a_t_leastLike a_t_row a_t_lipsOf a_t_others t_words t_rowLips t_girlKnows)) rfl (As := [.int p1, .int (0 : Int32), .int (F_Lexicon_allWords t_words)]) (rest := []) rfl rfl ⟨rfl, rfl, Nat.le_of_ble_eq_true rfl, Nat.le_of_ble_eq_true rfl⟩ (Nat.le_of_ble_eq_true rfl) (Nat.zero_le _) (Nat.zero_le _) dX3_areWords_6 (fun H locs hW => ?_)
  have hq := hF
  subst hq
  exact hret _ _ _ _ _ rfl hW dX3_areWords_9
abbrev wd_Lexicon_findLaterAlike (E : m_E) (a_t : Nat) (a_t_number : Nat) (a_t_weight : Nat) (a_t_row : Nat) (a_t_length : Nat) (a_t_leastLike : Nat) (a_t_lipsOf : Nat) (a_t_others : Nat) (t_words : Int32) (t_rowLips : Int32) (t_girlKnows : Int32) (t_length : Nat → Int32) (t_leastLike : Nat → Int32) (t_lipsOf : Nat → Int32) (t_others : Nat → Int32) : va_W := [(a_t, .inr (3, [.int t_words, .ref a_t_length, .ref a_t_number, .ref a_t_weight, .ref a_t_leastLike, .ref a_t_row, .int t_rowLips, .int t_girlKnows, .ref a_t_lipsOf, .ref a_t_others])), (a_t_length, .inl (E.2.1 0, 10, .inl t_length)), (a_t_leastLike, .inl (E.2.1 0, 6, .inl t_leastLike)), (a_t_lipsOf, .inl (E.2.1 0, 60, .inl t_lipsOf)), (a_t_others, .inl (E.2.1 0, 10, .inl t_others))]
def rm_Lexicon_findLaterAlike : Room := { frames := 3, cells := 0, slots := 0, locals := 68 }
set_option maxHeartbeats 4000000 in
set_option maxRecDepth 100000 in
theorem c_Lexicon_findLaterAlike (l : Launch) (E : m_E) (sz N : Nat) (a_t : Nat) (a_t_number : Nat) (a_t_weight : Nat) (a_t_row : Nat) (a_t_length : Nat) (a_t_leastLike : Nat) (a_t_lipsOf : Nat) (a_t_others : Nat) (t_words : Int32) (t_rowLips : Int32) (t_girlKnows : Int32) (t_length : Nat → Int32) (t_leastLike : Nat → Int32) (t_lipsOf : Nat → Int32) (t_others : Nat → Int32)  (ures : (Nat → Int32)) (hF : F_Lexicon_findLaterAlike N t_words t_length t_leastLike t_lipsOf t_others = some ures) : m_Met l yX3_findLaterAlike cX3_findLaterAlike 3 none rm_Lexicon_findLaterAlike E (wd_Lexicon_findLaterAlike E a_t a_t_number a_t_weight a_t_row a_t_length a_t_leastLike a_t_lipsOf a_t_others t_words t_rowLips t_girlKnows t_length t_leastLike t_lipsOf t_others) (wd_Lexicon_findLaterAlike E a_t a_t_number a_t_weight a_t_row a_t_length a_t_leastLike a_t_lipsOf a_t_others t_words t_rowLips t_girlKnows t_length t_leastLike t_lipsOf ures) sz [.ref a_t] none := by
  refine m_ofV (by decide) (Nat.le_of_ble_eq_true rfl) ?_
  intro p e s m args below meth c A Q ls X hW hA hl hret
  obtain ⟨hx, hb, -, hown, hts, hK, -, hG⟩ := id X
  have hl : lv_has ls 3 [(0, .ref a_t)] := hl
  unfold F_Lexicon_findLaterAlike at hF
  refine lv_iconst (v := (0 : Int32)) hx hb dX3_findLaterAlike_0 (by decide) ?_
  refine lv_istore_n (lv' := [(1, .int (0 : Int32)), (0, .ref a_t)]) hx hb dX3_findLaterAlike_1 rfl hl (by decide) rfl (fun ls hl => ?_)
  obtain ⟨t_others'_8, hX2, hF⟩ := bO_s1 hF
  have L1 : ∀ (k0 : Nat) (x1 : Int32) (t_others'_5 : Nat → Int32) (t_others'_8 : Nat → Int32) (H : Heap) (locs : List Loc) (ls : Array Slot), Lexicon_findLaterAlike_L2 N t_words t_length t_leastLike t_lipsOf k0 x1 t_others'_5 = some t_others'_8 → m_H E A (wd_Lexicon_findLaterAlike E a_t a_t_number a_t_weight a_t_row a_t_length a_t_leastLike a_t_lipsOf a_t_others t_words t_rowLips t_girlKnows t_length t_leastLike t_lipsOf t_others'_5) s.heap H locs → lv_has ls 3 [(1, .int x1), (0, .ref a_t)] → (∀ (H : Heap) (locs : List Loc) (ls : Array Slot), m_H E A (wd_Lexicon_findLaterAlike E a_t a_t_number a_t_weight a_t_row a_t_length a_t_leastLike a_t_lipsOf a_t_others t_words t_rowLips t_girlKnows t_length t_leastLike t_lipsOf t_others'_8) s.heap H locs → lv_has ls 3 [] → W p l e rm_Lexicon_findLaterAlike s m args below meth c H locs 0 0 Q (F0 m 62 ls [])) → W p l e rm_Lexicon_findLaterAlike s m args below meth c H locs 0 0 Q (F0 m 2 ls []) := by
    clear hF
    intro k0
    induction k0 with
    | zero =>
      intro x1 t_others'_5 t_others'_8 H locs ls hF
      cases hF
    | succ k0 ih4 =>
      intro x1 t_others'_5 t_others'_8 H locs ls hF hW hl hk3
      rw [Lexicon_findLaterAlike_L2] at hF
      refine lv_iload_n hx hb dX3_findLaterAlike_2 rfl (lv_at hl 0 rfl) ?_
      refine lv_aload_n hx hb dX3_findLaterAlike_3 rfl (lv_at hl 1 rfl) ?_
      refine m_get X hW fdX3_36 0 rfl rfl dX3_findLaterAlike_4 ?_
      refine lv_icmp_ge (tgt := 62) hx hb dX3_findLaterAlike_7 (by decide) (fun c5 => ?_) (fun c5 => ?_)
      · have hF := if_y c5 hF
        cases hF
        exact hk3 _ _ _ hW (lv_sub hl [] rfl)
      · have hF := if_n c5 hF
        refine lv_aload_n hx hb dX3_findLaterAlike_10 rfl (lv_at hl 1 rfl) ?_
        refine m_get X hW fdX3_30 0 rfl rfl dX3_findLaterAlike_11 ?_
        refine lv_iload_n hx hb dX3_findLaterAlike_14 rfl (lv_at hl 0 rfl) ?_
        refine lv_iconst (v := (0 : Int32)) hx hb dX3_findLaterAlike_15 (by decide) ?_
        obtain ⟨g6, hF⟩ := gd_some hF
        refine m_iast X hW 4 (k := x1.toNatClampNeg) rfl g6 rfl dX3_findLaterAlike_16 (ws' := (wd_Lexicon_findLaterAlike E a_t a_t_number a_t_weight a_t_row a_t_length a_t_leastLike a_t_lipsOf a_t_others t_words t_rowLips t_girlKnows t_length t_leastLike t_lipsOf (upd t_others'_5 x1.toNatClampNeg (0 : Int32)))) rfl (fun H locs hW => ?_)
        refine lv_iload_n hx hb dX3_findLaterAlike_17 rfl (lv_at hl 0 rfl) ?_
        refine lv_iconst (v := (1 : Int32)) hx hb dX3_findLaterAlike_18 (by decide) ?_
        refine lv_iadd hx hb dX3_findLaterAlike_19 ?_
        refine lv_istore_n (lv' := [(2, .int (x1 + (1 : Int32))), (1, .int x1), (0, .ref a_t)]) hx hb dX3_findLaterAlike_20 rfl hl (by decide) rfl (fun ls hl => ?_)
        obtain ⟨t_others'_7, hX8, hF⟩ := bO_s1 hF
        have L7 : ∀ (k0 : Nat) (x2 : Int32) (t_others'_6 : Nat → Int32) (t_others'_7 : Nat → Int32) (H : Heap) (locs : List Loc) (ls : Array Slot), Lexicon_findLaterAlike_L21 N t_words x1 t_length t_leastLike t_lipsOf k0 x2 t_others'_6 = some t_others'_7 → m_H E A (wd_Lexicon_findLaterAlike E a_t a_t_number a_t_weight a_t_row a_t_length a_t_leastLike a_t_lipsOf a_t_others t_words t_rowLips t_girlKnows t_length t_leastLike t_lipsOf t_others'_6) s.heap H locs → lv_has ls 3 [(2, .int x2), (1, .int x1), (0, .ref a_t)] → (∀ (H : Heap) (locs : List Loc) (ls : Array Slot), m_H E A (wd_Lexicon_findLaterAlike E a_t a_t_number a_t_weight a_t_row a_t_length a_t_leastLike a_t_lipsOf a_t_others t_words t_rowLips t_girlKnows t_length t_leastLike t_lipsOf t_others'_7) s.heap H locs → lv_has ls 3 [(1, .int x1), (0, .ref a_t)] → W p l e rm_Lexicon_findLaterAlike s m args below meth c H locs 0 0 Q (F0 m 56 ls [])) → W p l e rm_Lexicon_findLaterAlike s m args below meth c H locs 0 0 Q (F0 m 21 ls []) := by
          clear hF
          intro k0
          induction k0 with
          | zero =>
            intro x2 t_others'_6 t_others'_7 H locs ls hF
            cases hF
          | succ k0 ih10 =>
            intro x2 t_others'_6 t_others'_7 H locs ls hF hW hl hk9
            rw [Lexicon_findLaterAlike_L21] at hF
            refine lv_iload_n hx hb dX3_findLaterAlike_21 rfl (lv_at hl 0 rfl) ?_
            refine lv_aload_n hx hb dX3_findLaterAlike_22 rfl (lv_at hl 2 rfl) ?_
            refine m_get X hW fdX3_36 0 rfl rfl dX3_findLaterAlike_23 ?_
            refine lv_icmp_ge (tgt := 56) hx hb dX3_findLaterAlike_26 (by decide) (fun c11 => ?_) (fun c11 => ?_)
            · have hF := if_y c11 hF
              cases hF
              exact hk9 _ _ _ hW (lv_sub hl [1, 2] rfl)
            · have hF := if_n c11 hF
              refine lv_aload_n hx hb dX3_findLaterAlike_29 rfl (lv_at hl 2 rfl) ?_
              refine lv_iload_n hx hb dX3_findLaterAlike_30 rfl (lv_at hl 1 rfl) ?_
              refine lv_iload_n hx hb dX3_findLaterAlike_31 rfl (lv_at hl 0 rfl) ?_
              obtain ⟨r32, hC12, hF⟩ := bO_s1 hF
              refine m_callV X hW hA hl.1 lkX3_89 (c_Lexicon_areAlike l E _ N a_t a_t_number a_t_weight a_t_row a_t_others a_t_length a_t_leastLike a_t_lipsOf t_words t_rowLips t_girlKnows t_length t_leastLike t_lipsOf x1 x2 r32 hC12) ([0, 1, 2, 3]) (by decide) rfl rfl (ws' := (wd_Lexicon_findLaterAlike E a_t a_t_number a_t_weight a_t_row a_t_length a_t_leastLike a_t_lipsOf a_t_others t_words t_rowLips t_girlKnows t_length t_leastLike t_lipsOf t_others'_6)) rfl 0 rfl rfl rfl (As := [.int x1, .int x2]) (rest := []) rfl rfl ⟨rfl, rfl, Nat.le_of_ble_eq_true rfl, Nat.le_of_ble_eq_true rfl⟩ (Nat.le_of_ble_eq_true rfl) (Nat.zero_le _) (Nat.zero_le _) dX3_findLaterAlike_32 (fun H locs hW => ?_)
              clear hC12
              refine lv_if_eq (tgt := 50) hx hb dX3_findLaterAlike_35 (by decide) (fun c13 => ?_) (fun c13 => ?_)
              · have hF := if_y c13 hF
                refine lv_iinc (v := (x2 + (1 : Int32))) (lv' := [(2, .int (x2 + (1 : Int32))), (1, .int x1), (0, .ref a_t)]) hx hb dX3_findLaterAlike_50 hl (k := 0) rfl rfl (by decide) rfl (fun ls hl => ?_)
                refine lv_goto (tgt := 21) hx hb dX3_findLaterAlike_53 (by decide) ?_
                exact ih10 (x2 + (1 : Int32)) t_others'_6 t_others'_7 _ _ _ hF hW (lv_sub hl [0, 1, 2] rfl) hk9
              · have hF := if_n c13 hF
                refine lv_aload_n hx hb dX3_findLaterAlike_38 rfl (lv_at hl 2 rfl) ?_
                refine m_get X hW fdX3_30 0 rfl rfl dX3_findLaterAlike_39 ?_
                refine lv_iload_n hx hb dX3_findLaterAlike_42 rfl (lv_at hl 1 rfl) ?_
                refine lv_dup2_11 hx hb dX3_findLaterAlike_43 rfl rfl ?_
                refine m_iald X hW 4 (k := x1.toNatClampNeg) rfl g6 rfl dX3_findLaterAlike_44 ?_
                refine lv_iconst (v := (1 : Int32)) hx hb dX3_findLaterAlike_45 (by decide) ?_
                refine lv_iload_n hx hb dX3_findLaterAlike_46 rfl (lv_at hl 0 rfl) ?_
                refine m_ishl hx hb dX3_findLaterAlike_47 ?_
                refine lv_ior hx hb dX3_findLaterAlike_48 ?_
                refine m_iast X hW 4 (k := x1.toNatClampNeg) rfl g6 rfl dX3_findLaterAlike_49 (ws' := (wd_Lexicon_findLaterAlike E a_t a_t_number a_t_weight a_t_row a_t_length a_t_leastLike a_t_lipsOf a_t_others t_words t_rowLips t_girlKnows t_length t_leastLike t_lipsOf (upd t_others'_6 x1.toNatClampNeg ((t_others'_6 x1.toNatClampNeg) ||| (jshl (1 : Int32) x2))))) rfl (fun H locs hW => ?_)
                refine lv_iinc (v := (x2 + (1 : Int32))) (lv' := [(2, .int (x2 + (1 : Int32))), (1, .int x1), (0, .ref a_t)]) hx hb dX3_findLaterAlike_50 hl (k := 0) rfl rfl (by decide) rfl (fun ls hl => ?_)
                refine lv_goto (tgt := 21) hx hb dX3_findLaterAlike_53 (by decide) ?_
                exact ih10 (x2 + (1 : Int32)) (upd t_others'_6 x1.toNatClampNeg ((t_others'_6 x1.toNatClampNeg) ||| (jshl (1 : Int32) x2))) t_others'_7 _ _ _ hF hW (lv_sub hl [0, 1, 2] rfl) hk9
        refine L7 N (x1 + (1 : Int32)) (upd t_others'_5 x1.toNatClampNeg (0 : Int32)) t_others'_7 _ _ _ hX8 hW (lv_sub hl [0, 1, 2] rfl) ?_
        intro H locs ls hW hl
        clear L7
        refine lv_iinc (v := (x1 + (1 : Int32))) (lv' := [(1, .int (x1 + (1 : Int32))), (0, .ref a_t)]) hx hb dX3_findLaterAlike_56 hl (k := 0) rfl rfl (by decide) rfl (fun ls hl => ?_)
        refine lv_goto (tgt := 2) hx hb dX3_findLaterAlike_59 (by decide) ?_
        exact ih4 (x1 + (1 : Int32)) t_others'_7 t_others'_8 _ _ _ hF hW (lv_sub hl [0, 1] rfl) hk3
  refine L1 N (0 : Int32) t_others t_others'_8 _ _ _ hX2 hW (lv_sub hl [0, 1] rfl) ?_
  intro H locs ls hW hl
  clear L1
  have hq := Option.some.inj hF
  subst hq
  exact hret _ _ _ _ hW dX3_findLaterAlike_62
abbrev wd_Lexicon_weightOf (E : m_E) (a_t : Nat) (a_t_length : Nat) (a_t_number : Nat) (a_t_leastLike : Nat) (a_t_row : Nat) (a_t_lipsOf : Nat) (a_t_others : Nat) (a_t_weight : Nat) (t_words : Int32) (t_rowLips : Int32) (t_girlKnows : Int32) (t_weight : Nat → Int32) : va_W := [(a_t, .inr (3, [.int t_words, .ref a_t_length, .ref a_t_number, .ref a_t_weight, .ref a_t_leastLike, .ref a_t_row, .int t_rowLips, .int t_girlKnows, .ref a_t_lipsOf, .ref a_t_others])), (a_t_weight, .inl (E.2.1 0, 10, .inl t_weight))]
def rm_Lexicon_weightOf : Room := { frames := 1, cells := 0, slots := 0, locals := 21 }
set_option maxHeartbeats 4000000 in
set_option maxRecDepth 100000 in
theorem c_Lexicon_weightOf (l : Launch) (E : m_E) (sz N : Nat) (a_t : Nat) (a_t_length : Nat) (a_t_number : Nat) (a_t_leastLike : Nat) (a_t_row : Nat) (a_t_lipsOf : Nat) (a_t_others : Nat) (a_t_weight : Nat) (t_words : Int32) (t_rowLips : Int32) (t_girlKnows : Int32) (t_weight : Nat → Int32) (p1 : Int32) (ures : Int32) (hF : F_Lexicon_weightOf N p1 t_words t_weight = some ures) : m_Met l yX3_weightOf cX3_weightOf 4 (some .int) rm_Lexicon_weightOf E (wd_Lexicon_weightOf E a_t a_t_length a_t_number a_t_leastLike a_t_row a_t_lipsOf a_t_others a_t_weight t_words t_rowLips t_girlKnows t_weight) (wd_Lexicon_weightOf E a_t a_t_length a_t_number a_t_leastLike a_t_row a_t_lipsOf a_t_others a_t_weight t_words t_rowLips t_girlKnows t_weight) sz [.ref a_t, .int p1] (some (.int ures)) := by
  refine m_ofI (by decide) (Nat.le_of_ble_eq_true rfl) ?_
  intro p e s m args below meth c A Q ls X hW hA hl hret
  obtain ⟨hx, hb, -, hown, hts, hK, -, hG⟩ := id X
  have hl : lv_has ls 4 [(0, .ref a_t), (1, .int p1)] := hl
  unfold F_Lexicon_weightOf at hF
  refine lv_iconst (v := (0 : Int32)) hx hb dX3_weightOf_0 (by decide) ?_
  refine lv_istore_n (lv' := [(2, .int (0 : Int32)), (0, .ref a_t), (1, .int p1)]) hx hb dX3_weightOf_1 rfl hl (by decide) rfl (fun ls hl => ?_)
  refine lv_iconst (v := (0 : Int32)) hx hb dX3_weightOf_2 (by decide) ?_
  refine lv_istore_n (lv' := [(3, .int (0 : Int32)), (2, .int (0 : Int32)), (0, .ref a_t), (1, .int p1)]) hx hb dX3_weightOf_3 rfl hl (by decide) rfl (fun ls hl => ?_)
  obtain ⟨x2_2, hX2, hF⟩ := bO_s1 hF
  have L1 : ∀ (k0 : Nat) (x2 : Int32) (x3 : Int32) (x2_2 : Int32) (H : Heap) (locs : List Loc) (ls : Array Slot), Lexicon_weightOf_L4 t_words p1 t_weight k0 x2 x3 = some x2_2 → m_H E A (wd_Lexicon_weightOf E a_t a_t_length a_t_number a_t_leastLike a_t_row a_t_lipsOf a_t_others a_t_weight t_words t_rowLips t_girlKnows t_weight) s.heap H locs → lv_has ls 4 [(3, .int x3), (2, .int x2), (0, .ref a_t), (1, .int p1)] → (∀ (H : Heap) (locs : List Loc) (ls : Array Slot), m_H E A (wd_Lexicon_weightOf E a_t a_t_length a_t_number a_t_leastLike a_t_row a_t_lipsOf a_t_others a_t_weight t_words t_rowLips t_girlKnows t_weight) s.heap H locs → lv_has ls 4 [(2, .int x2_2)] → W p l e rm_Lexicon_weightOf s m args below meth c H locs 0 0 Q (F0 m 35 ls [])) → W p l e rm_Lexicon_weightOf s m args below meth c H locs 0 0 Q (F0 m 4 ls []) := by
    clear hF
    intro k0
    induction k0 with
    | zero =>
      intro x2 x3 x2_2 H locs ls hF
      cases hF
    | succ k0 ih4 =>
      intro x2 x3 x2_2 H locs ls hF hW hl hk3
      rw [Lexicon_weightOf_L4] at hF
      refine lv_iload_n hx hb dX3_weightOf_4 rfl (lv_at hl 0 rfl) ?_
      refine lv_aload_n hx hb dX3_weightOf_5 rfl (lv_at hl 2 rfl) ?_
      refine m_get X hW fdX3_36 0 rfl rfl dX3_weightOf_6 ?_
      refine lv_icmp_ge (tgt := 35) hx hb dX3_weightOf_9 (by decide) (fun c5 => ?_) (fun c5 => ?_)
      · have hF := if_y c5 hF
        cases hF
        exact hk3 _ _ _ hW (lv_sub hl [1] rfl)
      · have hF := if_n c5 hF
        refine lv_iload_n hx hb dX3_weightOf_12 rfl (lv_at hl 3 rfl) ?_
        refine lv_iload_n hx hb dX3_weightOf_13 rfl (lv_at hl 0 rfl) ?_
        refine m_callN X hW hA hl.1 lkX3_76 (c_S_hasBit l E _ N   p1 x3 (F_S_hasBit p1 x3) rfl) ([]) (by decide) rfl rfl (ws' := (wd_Lexicon_weightOf E a_t a_t_length a_t_number a_t_leastLike a_t_row a_t_lipsOf a_t_others a_t_weight t_words t_rowLips t_girlKnows t_weight)) rfl (As := [.int p1, .int x3]) (rest := []) rfl rfl ⟨rfl, rfl, Nat.le_of_ble_eq_true rfl, Nat.le_of_ble_eq_true rfl⟩ (Nat.le_of_ble_eq_true rfl) (Nat.zero_le _) (Nat.zero_le _) dX3_weightOf_14 (fun H locs hW => ?_)
        refine lv_if_eq (tgt := 29) hx hb dX3_weightOf_17 (by decide) (fun c6 => ?_) (fun c6 => ?_)
        · have hF := if_y c6 hF
          refine lv_iinc (v := (x3 + (1 : Int32))) (lv' := [(3, .int (x3 + (1 : Int32))), (2, .int x2), (0, .ref a_t), (1, .int p1)]) hx hb dX3_weightOf_29 hl (k := 0) rfl rfl (by decide) rfl (fun ls hl => ?_)
          refine lv_goto (tgt := 4) hx hb dX3_weightOf_32 (by decide) ?_
          exact ih4 x2 (x3 + (1 : Int32)) x2_2 _ _ _ hF hW (lv_sub hl [0, 1, 2, 3] rfl) hk3
        · have hF := if_n c6 hF
          refine lv_iload_n hx hb dX3_weightOf_20 rfl (lv_at hl 1 rfl) ?_
          refine lv_aload_n hx hb dX3_weightOf_21 rfl (lv_at hl 2 rfl) ?_
          refine m_get X hW fdX3_18 0 rfl rfl dX3_weightOf_22 ?_
          refine lv_iload_n hx hb dX3_weightOf_25 rfl (lv_at hl 0 rfl) ?_
          obtain ⟨g7, hF⟩ := gd_some hF
          refine m_iald X hW 1 (k := x3.toNatClampNeg) rfl g7 rfl dX3_weightOf_26 ?_
          refine lv_iadd hx hb dX3_weightOf_27 ?_
          refine lv_istore_n (lv' := [(2, .int (x2 + (t_weight x3.toNatClampNeg))), (3, .int x3), (0, .ref a_t), (1, .int p1)]) hx hb dX3_weightOf_28 rfl hl (by decide) rfl (fun ls hl => ?_)
          refine lv_iinc (v := (x3 + (1 : Int32))) (lv' := [(3, .int (x3 + (1 : Int32))), (2, .int (x2 + (t_weight x3.toNatClampNeg))), (0, .ref a_t), (1, .int p1)]) hx hb dX3_weightOf_29 hl (k := 1) rfl rfl (by decide) rfl (fun ls hl => ?_)
          refine lv_goto (tgt := 4) hx hb dX3_weightOf_32 (by decide) ?_
          exact ih4 (x2 + (t_weight x3.toNatClampNeg)) (x3 + (1 : Int32)) x2_2 _ _ _ hF hW (lv_sub hl [0, 1, 2, 3] rfl) hk3
  refine L1 N (0 : Int32) (0 : Int32) x2_2 _ _ _ hX2 hW (lv_sub hl [0, 1, 2, 3] rfl) ?_
  intro H locs ls hW hl
  clear L1
  refine lv_iload_n hx hb dX3_weightOf_35 rfl (lv_at hl 0 rfl) ?_
  have hq := Option.some.inj hF
  subst hq
  exact hret _ _ _ _ hW dX3_weightOf_36
abbrev wd_Lexicon_mistakenBy (E : m_E) (a_t : Nat) (a_t_length : Nat) (a_t_number : Nat) (a_t_leastLike : Nat) (a_t_row : Nat) (a_t_lipsOf : Nat) (a_t_weight : Nat) (a_t_others : Nat) (t_words : Int32) (t_rowLips : Int32) (t_girlKnows : Int32) (t_weight : Nat → Int32) (t_others : Nat → Int32) : va_W := [(a_t, .inr (3, [.int t_words, .ref a_t_length, .ref a_t_number, .ref a_t_weight, .ref a_t_leastLike, .ref a_t_row, .int t_rowLips, .int t_girlKnows, .ref a_t_lipsOf, .ref a_t_others])), (a_t_weight, .inl (E.2.1 0, 10, .inl t_weight)), (a_t_others, .inl (E.2.1 0, 10, .inl t_others))]
def rm_Lexicon_mistakenBy : Room := { frames := 2, cells := 0, slots := 0, locals := 44 }
set_option maxHeartbeats 4000000 in
set_option maxRecDepth 100000 in
theorem c_Lexicon_mistakenBy (l : Launch) (E : m_E) (sz N : Nat) (a_t : Nat) (a_t_length : Nat) (a_t_number : Nat) (a_t_leastLike : Nat) (a_t_row : Nat) (a_t_lipsOf : Nat) (a_t_weight : Nat) (a_t_others : Nat) (t_words : Int32) (t_rowLips : Int32) (t_girlKnows : Int32) (t_weight : Nat → Int32) (t_others : Nat → Int32) (p1 : Int32) (ures : Int32) (hF : F_Lexicon_mistakenBy N p1 t_words t_weight t_others = some ures) : m_Met l yX3_mistakenBy cX3_mistakenBy 4 (some .int) rm_Lexicon_mistakenBy E (wd_Lexicon_mistakenBy E a_t a_t_length a_t_number a_t_leastLike a_t_row a_t_lipsOf a_t_weight a_t_others t_words t_rowLips t_girlKnows t_weight t_others) (wd_Lexicon_mistakenBy E a_t a_t_length a_t_number a_t_leastLike a_t_row a_t_lipsOf a_t_weight a_t_others t_words t_rowLips t_girlKnows t_weight t_others) sz [.ref a_t, .int p1] (some (.int ures)) := by
  refine m_ofI (by decide) (Nat.le_of_ble_eq_true rfl) ?_
  intro p e s m args below meth c A Q ls X hW hA hl hret
  obtain ⟨hx, hb, -, hown, hts, hK, -, hG⟩ := id X
  have hl : lv_has ls 4 [(0, .ref a_t), (1, .int p1)] := hl
  unfold F_Lexicon_mistakenBy at hF
  refine lv_iconst (v := (0 : Int32)) hx hb dX3_mistakenBy_0 (by decide) ?_
  refine lv_istore_n (lv' := [(2, .int (0 : Int32)), (0, .ref a_t), (1, .int p1)]) hx hb dX3_mistakenBy_1 rfl hl (by decide) rfl (fun ls hl => ?_)
  refine lv_iconst (v := (0 : Int32)) hx hb dX3_mistakenBy_2 (by decide) ?_
  refine lv_istore_n (lv' := [(3, .int (0 : Int32)), (2, .int (0 : Int32)), (0, .ref a_t), (1, .int p1)]) hx hb dX3_mistakenBy_3 rfl hl (by decide) rfl (fun ls hl => ?_)
  obtain ⟨x2_2, hX2, hF⟩ := bO_s1 hF
  have L1 : ∀ (k0 : Nat) (x2 : Int32) (x3 : Int32) (x2_2 : Int32) (H : Heap) (locs : List Loc) (ls : Array Slot), Lexicon_mistakenBy_L4 N t_words p1 t_others t_weight k0 x2 x3 = some x2_2 → m_H E A (wd_Lexicon_mistakenBy E a_t a_t_length a_t_number a_t_leastLike a_t_row a_t_lipsOf a_t_weight a_t_others t_words t_rowLips t_girlKnows t_weight t_others) s.heap H locs → lv_has ls 4 [(3, .int x3), (2, .int x2), (0, .ref a_t), (1, .int p1)] → (∀ (H : Heap) (locs : List Loc) (ls : Array Slot), m_H E A (wd_Lexicon_mistakenBy E a_t a_t_length a_t_number a_t_leastLike a_t_row a_t_lipsOf a_t_weight a_t_others t_words t_rowLips t_girlKnows t_weight t_others) s.heap H locs → lv_has ls 4 [(2, .int x2_2)] → W p l e rm_Lexicon_mistakenBy s m args below meth c H locs 0 0 Q (F0 m 50 ls [])) → W p l e rm_Lexicon_mistakenBy s m args below meth c H locs 0 0 Q (F0 m 4 ls []) := by
    clear hF
    intro k0
    induction k0 with
    | zero =>
      intro x2 x3 x2_2 H locs ls hF
      cases hF
    | succ k0 ih4 =>
      intro x2 x3 x2_2 H locs ls hF hW hl hk3
      rw [Lexicon_mistakenBy_L4] at hF
      refine lv_iload_n hx hb dX3_mistakenBy_4 rfl (lv_at hl 0 rfl) ?_
      refine lv_aload_n hx hb dX3_mistakenBy_5 rfl (lv_at hl 2 rfl) ?_
      refine m_get X hW fdX3_36 0 rfl rfl dX3_mistakenBy_6 ?_
      refine lv_icmp_ge (tgt := 50) hx hb dX3_mistakenBy_9 (by decide) (fun c5 => ?_) (fun c5 => ?_)
      · have hF := if_y c5 hF
        cases hF
        exact hk3 _ _ _ hW (lv_sub hl [1] rfl)
      · have hF := if_n c5 hF
        refine lv_iload_n hx hb dX3_mistakenBy_12 rfl (lv_at hl 3 rfl) ?_
        refine lv_iload_n hx hb dX3_mistakenBy_13 rfl (lv_at hl 0 rfl) ?_
        refine m_callN X hW hA hl.1 lkX3_76 (c_S_hasBit l E _ N   p1 x3 (F_S_hasBit p1 x3) rfl) ([]) (by decide) rfl rfl (ws' := (wd_Lexicon_mistakenBy E a_t a_t_length a_t_number a_t_leastLike a_t_row a_t_lipsOf a_t_weight a_t_others t_words t_rowLips t_girlKnows t_weight t_others)) rfl (As := [.int p1, .int x3]) (rest := []) rfl rfl ⟨rfl, rfl, Nat.le_of_ble_eq_true rfl, Nat.le_of_ble_eq_true rfl⟩ (Nat.le_of_ble_eq_true rfl) (Nat.zero_le _) (Nat.zero_le _) dX3_mistakenBy_14 (fun H locs hW => ?_)
        refine lv_if_ne (tgt := 44) hx hb dX3_mistakenBy_17 (by decide) (fun c6 => ?_) (fun c6 => ?_)
        · have hF := if_n c6 hF
          refine lv_iinc (v := (x3 + (1 : Int32))) (lv' := [(3, .int (x3 + (1 : Int32))), (2, .int x2), (0, .ref a_t), (1, .int p1)]) hx hb dX3_mistakenBy_44 hl (k := 0) rfl rfl (by decide) rfl (fun ls hl => ?_)
          refine lv_goto (tgt := 4) hx hb dX3_mistakenBy_47 (by decide) ?_
          exact ih4 x2 (x3 + (1 : Int32)) x2_2 _ _ _ hF hW (lv_sub hl [0, 1, 2, 3] rfl) hk3
        · have hF := if_y c6 hF
          refine lv_iload_n hx hb dX3_mistakenBy_20 rfl (lv_at hl 1 rfl) ?_
          refine lv_aload_n hx hb dX3_mistakenBy_21 rfl (lv_at hl 2 rfl) ?_
          refine m_get X hW fdX3_18 0 rfl rfl dX3_mistakenBy_22 ?_
          refine lv_iload_n hx hb dX3_mistakenBy_25 rfl (lv_at hl 0 rfl) ?_
          obtain ⟨g7, hF⟩ := gd_some hF
          refine m_iald X hW 1 (k := x3.toNatClampNeg) rfl g7 rfl dX3_mistakenBy_26 ?_
          refine lv_aload_n hx hb dX3_mistakenBy_27 rfl (lv_at hl 2 rfl) ?_
          refine lv_aload_n hx hb dX3_mistakenBy_28 rfl (lv_at hl 2 rfl) ?_
          refine m_get X hW fdX3_30 0 rfl rfl dX3_mistakenBy_29 ?_
          refine lv_iload_n hx hb dX3_mistakenBy_32 rfl (lv_at hl 0 rfl) ?_
          refine m_iald X hW 2 (k := x3.toNatClampNeg) rfl g7 rfl dX3_mistakenBy_33 ?_
          refine lv_iload_n hx hb dX3_mistakenBy_34 rfl (lv_at hl 3 rfl) ?_
          refine lv_iconst (v := (-1 : Int32)) hx hb dX3_mistakenBy_35 (by decide) ?_
          refine lv_ixor hx hb dX3_mistakenBy_36 ?_
          refine lv_iand hx hb dX3_mistakenBy_37 ?_
          obtain ⟨r38, hC8, hF⟩ := bO_s1 hF
          refine m_callV X hW hA hl.1 lkX3_86 (c_Lexicon_weightOf l E _ N a_t a_t_length a_t_number a_t_leastLike a_t_row a_t_lipsOf a_t_others a_t_weight t_words t_rowLips t_girlKnows t_weight ((t_others x3.toNatClampNeg) &&& (p1 ^^^ (-1 : Int32))) r38 hC8) ([0, 1]) (by decide) rfl rfl (ws' := (wd_Lexicon_mistakenBy E a_t a_t_length a_t_number a_t_leastLike a_t_row a_t_lipsOf a_t_weight a_t_others t_words t_rowLips t_girlKnows t_weight t_others)) rfl 0 rfl rfl rfl (As := [.int ((t_others x3.toNatClampNeg) &&& (p1 ^^^ (-1 : Int32)))]) (rest := [.int (t_weight x3.toNatClampNeg), .int x2]) rfl rfl ⟨rfl, rfl, Nat.le_of_ble_eq_true rfl, Nat.le_of_ble_eq_true rfl⟩ (Nat.le_of_ble_eq_true rfl) (Nat.zero_le _) (Nat.zero_le _) dX3_mistakenBy_38 (fun H locs hW => ?_)
          clear hC8
          refine lv_imul hx hb dX3_mistakenBy_41 ?_
          refine lv_iadd hx hb dX3_mistakenBy_42 ?_
          refine lv_istore_n (lv' := [(2, .int (x2 + ((t_weight x3.toNatClampNeg) * r38))), (3, .int x3), (0, .ref a_t), (1, .int p1)]) hx hb dX3_mistakenBy_43 rfl hl (by decide) rfl (fun ls hl => ?_)
          refine lv_iinc (v := (x3 + (1 : Int32))) (lv' := [(3, .int (x3 + (1 : Int32))), (2, .int (x2 + ((t_weight x3.toNatClampNeg) * r38))), (0, .ref a_t), (1, .int p1)]) hx hb dX3_mistakenBy_44 hl (k := 1) rfl rfl (by decide) rfl (fun ls hl => ?_)
          refine lv_goto (tgt := 4) hx hb dX3_mistakenBy_47 (by decide) ?_
          exact ih4 (x2 + ((t_weight x3.toNatClampNeg) * r38)) (x3 + (1 : Int32)) x2_2 _ _ _ hF hW (lv_sub hl [0, 1, 2, 3] rfl) hk3
  refine L1 N (0 : Int32) (0 : Int32) x2_2 _ _ _ hX2 hW (lv_sub hl [0, 1, 2, 3] rfl) ?_
  intro H locs ls hW hl
  clear L1
  refine lv_iload_n hx hb dX3_mistakenBy_50 rfl (lv_at hl 0 rfl) ?_
  have hq := Option.some.inj hF
  subst hq
  exact hret _ _ _ _ hW dX3_mistakenBy_51
abbrev wd_Lexicon_mistakenWith (E : m_E) (a_t : Nat) (a_t_number : Nat) (a_t_row : Nat) (a_t_length : Nat) (a_t_weight : Nat) (a_t_leastLike : Nat) (a_t_lipsOf : Nat) (a_t_others : Nat) (t_words : Int32) (t_rowLips : Int32) (t_girlKnows : Int32) (t_length : Nat → Int32) (t_weight : Nat → Int32) (t_leastLike : Nat → Int32) (t_lipsOf : Nat → Int32) (t_others : Nat → Int32) : va_W := [(a_t, .inr (3, [.int t_words, .ref a_t_length, .ref a_t_number, .ref a_t_weight, .ref a_t_leastLike, .ref a_t_row, .int t_rowLips, .int t_girlKnows, .ref a_t_lipsOf, .ref a_t_others])), (a_t_length, .inl (E.2.1 0, 10, .inl t_length)), (a_t_weight, .inl (E.2.1 0, 10, .inl t_weight)), (a_t_leastLike, .inl (E.2.1 0, 6, .inl t_leastLike)), (a_t_lipsOf, .inl (E.2.1 0, 60, .inl t_lipsOf)), (a_t_others, .inl (E.2.1 0, 10, .inl t_others))]
def rm_Lexicon_mistakenWith : Room := { frames := 4, cells := 0, slots := 0, locals := 90 }
set_option maxHeartbeats 4000000 in
set_option maxRecDepth 100000 in
theorem c_Lexicon_mistakenWith (l : Launch) (E : m_E) (sz N : Nat) (a_t : Nat) (a_t_number : Nat) (a_t_row : Nat) (a_t_length : Nat) (a_t_weight : Nat) (a_t_leastLike : Nat) (a_t_lipsOf : Nat) (a_t_others : Nat) (t_words : Int32) (t_rowLips : Int32) (t_girlKnows : Int32) (t_length : Nat → Int32) (t_weight : Nat → Int32) (t_leastLike : Nat → Int32) (t_lipsOf : Nat → Int32) (t_others : Nat → Int32) (p1 : Int32) (ures : Int32 × (Nat → Int32)) (hF : F_Lexicon_mistakenWith N p1 t_words t_length t_weight t_leastLike t_lipsOf t_others = some ures) : m_Met l yX3_mistakenWith cX3_mistakenWith 2 (some .int) rm_Lexicon_mistakenWith E (wd_Lexicon_mistakenWith E a_t a_t_number a_t_row a_t_length a_t_weight a_t_leastLike a_t_lipsOf a_t_others t_words t_rowLips t_girlKnows t_length t_weight t_leastLike t_lipsOf t_others) (wd_Lexicon_mistakenWith E a_t a_t_number a_t_row a_t_length a_t_weight a_t_leastLike a_t_lipsOf a_t_others t_words t_rowLips t_girlKnows t_length t_weight t_leastLike t_lipsOf ures.2) sz [.ref a_t, .int p1] (some (.int ures.1)) := by
  refine m_ofI (by decide) (Nat.le_of_ble_eq_true rfl) ?_
  intro p e s m args below meth c A Q ls X hW hA hl hret
  obtain ⟨hx, hb, -, hown, hts, hK, -, hG⟩ := id X
  have hl : lv_has ls 2 [(0, .ref a_t), (1, .int p1)] := hl
  unfold F_Lexicon_mistakenWith at hF
  refine lv_aload_n hx hb dX3_mistakenWith_0 rfl (lv_at hl 0 rfl) ?_
  obtain ⟨t_others'_2, hC1, hF⟩ := bO_s1 hF
  refine m_callV X hW hA hl.1 lkX3_79 (c_Lexicon_findLaterAlike l E _ N a_t a_t_number a_t_weight a_t_row a_t_length a_t_leastLike a_t_lipsOf a_t_others t_words t_rowLips t_girlKnows t_length t_leastLike t_lipsOf t_others  t_others'_2 hC1) ([0, 1, 3, 4, 5]) (by decide) rfl rfl (ws' := (wd_Lexicon_mistakenWith E a_t a_t_number a_t_row a_t_length a_t_weight a_t_leastLike a_t_lipsOf a_t_others t_words t_rowLips t_girlKnows t_length t_weight t_leastLike t_lipsOf t_others'_2)) rfl 0 rfl rfl rfl (As := []) (rest := []) rfl rfl ⟨rfl, rfl, Nat.le_of_ble_eq_true rfl, Nat.le_of_ble_eq_true rfl⟩ (Nat.le_of_ble_eq_true rfl) (Nat.zero_le _) (Nat.zero_le _) dX3_mistakenWith_1 (fun H locs hW => ?_)
  clear hC1
  refine lv_aload_n hx hb dX3_mistakenWith_4 rfl (lv_at hl 0 rfl) ?_
  refine lv_iload_n hx hb dX3_mistakenWith_5 rfl (lv_at hl 1 rfl) ?_
  obtain ⟨r6, hC2, hF⟩ := bO_s1 hF
  refine m_callV X hW hA hl.1 lkX3_82 (c_Lexicon_mistakenBy l E _ N a_t a_t_length a_t_number a_t_leastLike a_t_row a_t_lipsOf a_t_weight a_t_others t_words t_rowLips t_girlKnows t_weight t_others'_2 p1 r6 hC2) ([0, 2, 5]) (by decide) rfl rfl (ws' := (wd_Lexicon_mistakenWith E a_t a_t_number a_t_row a_t_length a_t_weight a_t_leastLike a_t_lipsOf a_t_others t_words t_rowLips t_girlKnows t_length t_weight t_leastLike t_lipsOf t_others'_2)) rfl 0 rfl rfl rfl (As := [.int p1]) (rest := []) rfl rfl ⟨rfl, rfl, Nat.le_of_ble_eq_true rfl, Nat.le_of_ble_eq_true rfl⟩ (Nat.le_of_ble_eq_true rfl) (Nat.zero_le _) (Nat.zero_le _) dX3_mistakenWith_6 (fun H locs hW => ?_)
  clear hC2
  have hq := Option.some.inj hF
  subst hq
  exact hret _ _ _ _ hW dX3_mistakenWith_9
abbrev wd_S_mistaken (E : m_E) (a_t : Nat) (a_t_draft : Nat) (a_t_firstImage : Nat) (a_t_secondImage : Nat) (a_t_news : Nat) (a_t_otherNews : Nat) (a_t_readings : Nat) (a_t_chances : Nat) (a_t_turning : Nat) (a_t_text : Nat) (a_t_fraction : Nat) (a_t_now : Nat) (a_t_now_floor : Nat) (a_t_now_sightings : Nat) (a_t_now_level : Nat) (a_t_now_loss : Nat) (a_t_now_lexicon : Nat) (a_t_now_lexicon_number : Nat) (a_t_now_lexicon_row : Nat) (a_t_now_lexicon_length : Nat) (a_t_now_lexicon_weight : Nat) (a_t_now_lexicon_leastLike : Nat) (a_t_now_lexicon_lipsOf : Nat) (a_t_now_lexicon_others : Nat) (t_now_clearness : Int32) (t_now_isKept : Int32) (t_now_lexicon_words : Int32) (t_now_lexicon_rowLips : Int32) (t_now_lexicon_girlKnows : Int32) (t_now_lexicon_length : Nat → Int32) (t_now_lexicon_weight : Nat → Int32) (t_now_lexicon_leastLike : Nat → Int32) (t_now_lexicon_lipsOf : Nat → Int32) (t_now_lexicon_others : Nat → Int32) : va_W := [(a_t, .inr (11, [.ref a_t_now, .ref a_t_draft, .ref a_t_firstImage, .ref a_t_secondImage, .ref a_t_news, .ref a_t_otherNews, .ref a_t_readings, .ref a_t_chances, .ref a_t_turning, .ref a_t_text, .ref a_t_fraction])), (a_t_now, .inr (7, [.ref a_t_now_floor, .ref a_t_now_sightings, .ref a_t_now_lexicon, .ref a_t_now_level, .ref a_t_now_loss, .int t_now_clearness, .int t_now_isKept])), (a_t_now_lexicon, .inr (3, [.int t_now_lexicon_words, .ref a_t_now_lexicon_length, .ref a_t_now_lexicon_number, .ref a_t_now_lexicon_weight, .ref a_t_now_lexicon_leastLike, .ref a_t_now_lexicon_row, .int t_now_lexicon_rowLips, .int t_now_lexicon_girlKnows, .ref a_t_now_lexicon_lipsOf, .ref a_t_now_lexicon_others])), (a_t_now_lexicon_length, .inl (E.2.1 0, 10, .inl t_now_lexicon_length)), (a_t_now_lexicon_weight, .inl (E.2.1 0, 10, .inl t_now_lexicon_weight)), (a_t_now_lexicon_leastLike, .inl (E.2.1 0, 6, .inl t_now_lexicon_leastLike)), (a_t_now_lexicon_lipsOf, .inl (E.2.1 0, 60, .inl t_now_lexicon_lipsOf)), (a_t_now_lexicon_others, .inl (E.2.1 0, 10, .inl t_now_lexicon_others))]
def rm_S_mistaken : Room := { frames := 5, cells := 0, slots := 0, locals := 111 }
set_option maxHeartbeats 4000000 in
set_option maxRecDepth 100000 in
theorem c_S_mistaken (l : Launch) (E : m_E) (sz N : Nat) (a_t : Nat) (a_t_draft : Nat) (a_t_firstImage : Nat) (a_t_secondImage : Nat) (a_t_news : Nat) (a_t_otherNews : Nat) (a_t_readings : Nat) (a_t_chances : Nat) (a_t_turning : Nat) (a_t_text : Nat) (a_t_fraction : Nat) (a_t_now : Nat) (a_t_now_floor : Nat) (a_t_now_sightings : Nat) (a_t_now_level : Nat) (a_t_now_loss : Nat) (a_t_now_lexicon : Nat) (a_t_now_lexicon_number : Nat) (a_t_now_lexicon_row : Nat) (a_t_now_lexicon_length : Nat) (a_t_now_lexicon_weight : Nat) (a_t_now_lexicon_leastLike : Nat) (a_t_now_lexicon_lipsOf : Nat) (a_t_now_lexicon_others : Nat) (t_now_clearness : Int32) (t_now_isKept : Int32) (t_now_lexicon_words : Int32) (t_now_lexicon_rowLips : Int32) (t_now_lexicon_girlKnows : Int32) (t_now_lexicon_length : Nat → Int32) (t_now_lexicon_weight : Nat → Int32) (t_now_lexicon_leastLike : Nat → Int32) (t_now_lexicon_lipsOf : Nat → Int32) (t_now_lexicon_others : Nat → Int32) (p1 : Int32) (ures : Int32 × (Nat → Int32)) (hF : F_S_mistaken N p1 t_now_lexicon_words t_now_lexicon_length t_now_lexicon_weight t_now_lexicon_leastLike t_now_lexicon_lipsOf t_now_lexicon_others = some ures) : m_Met l yX11_mistaken cX11_mistaken 2 (some .int) rm_S_mistaken E (wd_S_mistaken E a_t a_t_draft a_t_firstImage a_t_secondImage a_t_news a_t_otherNews a_t_readings a_t_chances a_t_turning a_t_text a_t_fraction a_t_now a_t_now_floor a_t_now_sightings a_t_now_level a_t_now_loss a_t_now_lexicon a_t_now_lexicon_number a_t_now_lexicon_row a_t_now_lexicon_length a_t_now_lexicon_weight a_t_now_lexicon_leastLike a_t_now_lexicon_lipsOf a_t_now_lexicon_others t_now_clearness t_now_isKept t_now_lexicon_words t_now_lexicon_rowLips t_now_lexicon_girlKnows t_now_lexicon_length t_now_lexicon_weight t_now_lexicon_leastLike t_now_lexicon_lipsOf t_now_lexicon_others) (wd_S_mistaken E a_t a_t_draft a_t_firstImage a_t_secondImage a_t_news a_t_otherNews a_t_readings a_t_chances a_t_turning a_t_text a_t_fraction a_t_now a_t_now_floor a_t_now_sightings a_t_now_level a_t_now_loss a_t_now_lexicon a_t_now_lexicon_number a_t_now_lexicon_row a_t_now_lexicon_length a_t_now_lexicon_weight a_t_now_lexicon_leastLike a_t_now_lexicon_lipsOf a_t_now_lexicon_others t_now_clearness t_now_isKept t_now_lexicon_words t_now_lexicon_rowLips t_now_lexicon_girlKnows t_now_lexicon_length t_now_lexicon_weight t_now_lexicon_leastLike t_now_lexicon_lipsOf ures.2) sz [.ref a_t, .int p1] (some (.int ures.1)) := by
  refine m_ofI (by decide) (Nat.le_of_ble_eq_true rfl) ?_
  intro p e s m args below meth c A Q ls X hW hA hl hret
  obtain ⟨hx, hb, -, hown, hts, hK, -, hG⟩ := id X
  have hl : lv_has ls 2 [(0, .ref a_t), (1, .int p1)] := hl
  unfold F_S_mistaken at hF
  refine lv_aload_n hx hb dX11_mistaken_0 rfl (lv_at hl 0 rfl) ?_
  refine m_get X hW fdX11_10 0 rfl rfl dX11_mistaken_1 ?_
  refine m_get X hW fdX11_156 1 rfl rfl dX11_mistaken_4 ?_
  refine lv_iload_n hx hb dX11_mistaken_7 rfl (lv_at hl 1 rfl) ?_
  refine m_callV X hW hA hl.1 lkX11_196 (c_Lexicon_areWords l E _ N a_t_now_lexicon a_t_now_lexicon_length a_t_now_lexicon_number a_t_now_lexicon_weight a_t_now_lexicon_leastLike a_t_now_lexicon_row a_t_now_lexicon_lipsOf a_t_now_lexicon_others t_now_lexicon_words t_now_lexicon_rowLips t_now_lexicon_girlKnows p1 (F_Lexicon_areWords p1 t_now_lexicon_words) rfl) ([2]) (by decide) rfl rfl (ws' := (wd_S_mistaken E a_t a_t_draft a_t_firstImage a_t_secondImage a_t_news a_t_otherNews a_t_readings a_t_chances a_t_turning a_t_text a_t_fraction a_t_now a_t_now_floor a_t_now_sightings a_t_now_level a_t_now_loss a_t_now_lexicon a_t_now_lexicon_number a_t_now_lexicon_row a_t_now_lexicon_length a_t_now_lexicon_weight a_t_now_lexicon_leastLike a_t_now_lexicon_lipsOf a_t_now_lexicon_others t_now_clearness t_now_isKept t_now_lexicon_words t_now_lexicon_rowLips t_now_lexicon_girlKnows t_now_lexicon_length t_now_lexicon_weight t_now_lexicon_leastLike t_now_lexicon_lipsOf t_now_lexicon_others)) rfl 2 rfl rfl rfl (As := [.int p1]) (rest := []) rfl rfl ⟨rfl, rfl, Nat.le_of_ble_eq_true rfl, Nat.le_of_ble_eq_true rfl⟩ (Nat.le_of_ble_eq_true rfl) (Nat.zero_le _) (Nat.zero_le _) dX11_mistaken_8 (fun H locs hW => ?_)
  refine lv_if_ne (tgt := 17) hx hb dX11_mistaken_11 (by decide) (fun c1 => ?_) (fun c1 => ?_)
  · have hF := if_n c1 hF
    refine lv_aload_n hx hb dX11_mistaken_17 rfl (lv_at hl 0 rfl) ?_
    refine m_get X hW fdX11_10 0 rfl rfl dX11_mistaken_18 ?_
    refine m_get X hW fdX11_156 1 rfl rfl dX11_mistaken_21 ?_
    refine lv_iload_n hx hb dX11_mistaken_24 rfl (lv_at hl 1 rfl) ?_
    obtain ⟨r25, t_now_lexicon_others'_2, hC2, hF⟩ := bO_s2 hF
    refine m_callV X hW hA hl.1 lkX11_199 (c_Lexicon_mistakenWith l E _ N a_t_now_lexicon a_t_now_lexicon_number a_t_now_lexicon_row a_t_now_lexicon_length a_t_now_lexicon_weight a_t_now_lexicon_leastLike a_t_now_lexicon_lipsOf a_t_now_lexicon_others t_now_lexicon_words t_now_lexicon_rowLips t_now_lexicon_girlKnows t_now_lexicon_length t_now_lexicon_weight t_now_lexicon_leastLike t_now_lexicon_lipsOf t_now_lexicon_others p1 (r25, t_now_lexicon_others'_2) hC2) ([2, 3, 4, 5, 6, 7]) (by decide) rfl rfl (ws' := (wd_S_mistaken E a_t a_t_draft a_t_firstImage a_t_secondImage a_t_news a_t_otherNews a_t_readings a_t_chances a_t_turning a_t_text a_t_fraction a_t_now a_t_now_floor a_t_now_sightings a_t_now_level a_t_now_loss a_t_now_lexicon a_t_now_lexicon_number a_t_now_lexicon_row a_t_now_lexicon_length a_t_now_lexicon_weight a_t_now_lexicon_leastLike a_t_now_lexicon_lipsOf a_t_now_lexicon_others t_now_clearness t_now_isKept t_now_lexicon_words t_now_lexicon_rowLips t_now_lexicon_girlKnows t_now_lexicon_length t_now_lexicon_weight t_now_lexicon_leastLike t_now_lexicon_lipsOf t_now_lexicon_others'_2)) rfl 2 rfl rfl rfl (As := [.int p1]) (rest := []) rfl rfl ⟨rfl, rfl, Nat.le_of_ble_eq_true rfl, Nat.le_of_ble_eq_true rfl⟩ (Nat.le_of_ble_eq_true rfl) (Nat.zero_le _) (Nat.zero_le _) dX11_mistaken_25 (fun H locs hW => ?_)
    clear hC2
    have hq := Option.some.inj hF
    subst hq
    exact hret _ _ _ _ hW dX11_mistaken_28
  · have hF := if_y c1 hF
    refine lv_bipush (v := (-2 : Int32)) hx hb dX11_mistaken_14 (by decide) ?_
    have hq := Option.some.inj hF
    subst hq
    exact hret _ _ _ _ hW dX11_mistaken_16
abbrev wd_Lexicon_bestSigns (E : m_E) (a_t : Nat) (a_t_number : Nat) (a_t_row : Nat) (a_t_length : Nat) (a_t_weight : Nat) (a_t_leastLike : Nat) (a_t_lipsOf : Nat) (a_t_others : Nat) (t_words : Int32) (t_rowLips : Int32) (t_girlKnows : Int32) (t_length : Nat → Int32) (t_weight : Nat → Int32) (t_leastLike : Nat → Int32) (t_lipsOf : Nat → Int32) (t_others : Nat → Int32) : va_W := [(a_t, .inr (3, [.int t_words, .ref a_t_length, .ref a_t_number, .ref a_t_weight, .ref a_t_leastLike, .ref a_t_row, .int t_rowLips, .int t_girlKnows, .ref a_t_lipsOf, .ref a_t_others])), (a_t_length, .inl (E.2.1 0, 10, .inl t_length)), (a_t_weight, .inl (E.2.1 0, 10, .inl t_weight)), (a_t_leastLike, .inl (E.2.1 0, 6, .inl t_leastLike)), (a_t_lipsOf, .inl (E.2.1 0, 60, .inl t_lipsOf)), (a_t_others, .inl (E.2.1 0, 10, .inl t_others))]
def rm_Lexicon_bestSigns : Room := { frames := 4, cells := 0, slots := 0, locals := 90 }
set_option maxHeartbeats 4000000 in
set_option maxRecDepth 100000 in
theorem c_Lexicon_bestSigns (l : Launch) (E : m_E) (sz N : Nat) (a_t : Nat) (a_t_number : Nat) (a_t_row : Nat) (a_t_length : Nat) (a_t_weight : Nat) (a_t_leastLike : Nat) (a_t_lipsOf : Nat) (a_t_others : Nat) (t_words : Int32) (t_rowLips : Int32) (t_girlKnows : Int32) (t_length : Nat → Int32) (t_weight : Nat → Int32) (t_leastLike : Nat → Int32) (t_lipsOf : Nat → Int32) (t_others : Nat → Int32) (p1 : Int32) (ures : Int32 × (Nat → Int32)) (hF : F_Lexicon_bestSigns N p1 t_words t_length t_weight t_leastLike t_lipsOf t_others = some ures) : m_Met l yX3_bestSigns cX3_bestSigns 6 (some .int) rm_Lexicon_bestSigns E (wd_Lexicon_bestSigns E a_t a_t_number a_t_row a_t_length a_t_weight a_t_leastLike a_t_lipsOf a_t_others t_words t_rowLips t_girlKnows t_length t_weight t_leastLike t_lipsOf t_others) (wd_Lexicon_bestSigns E a_t a_t_number a_t_row a_t_length a_t_weight a_t_leastLike a_t_lipsOf a_t_others t_words t_rowLips t_girlKnows t_length t_weight t_leastLike t_lipsOf ures.2) sz [.ref a_t, .int p1] (some (.int ures.1)) := by
  refine m_ofI (by decide) (Nat.le_of_ble_eq_true rfl) ?_
  intro p e s m args below meth c A Q ls X hW hA hl hret
  obtain ⟨hx, hb, -, hown, hts, hK, -, hG⟩ := id X
  have hl : lv_has ls 6 [(0, .ref a_t), (1, .int p1)] := hl
  unfold F_Lexicon_bestSigns at hF
  refine lv_aload_n hx hb dX3_bestSigns_0 rfl (lv_at hl 0 rfl) ?_
  obtain ⟨t_others'_2, hC1, hF⟩ := bO_s1 hF
  refine m_callV X hW hA hl.1 lkX3_79 (c_Lexicon_findLaterAlike l E _ N a_t a_t_number a_t_weight a_t_row a_t_length a_t_leastLike a_t_lipsOf a_t_others t_words t_rowLips t_girlKnows t_length t_leastLike t_lipsOf t_others  t_others'_2 hC1) ([0, 1, 3, 4, 5]) (by decide) rfl rfl (ws' := (wd_Lexicon_bestSigns E a_t a_t_number a_t_row a_t_length a_t_weight a_t_leastLike a_t_lipsOf a_t_others t_words t_rowLips t_girlKnows t_length t_weight t_leastLike t_lipsOf t_others'_2)) rfl 0 rfl rfl rfl (As := []) (rest := []) rfl rfl ⟨rfl, rfl, Nat.le_of_ble_eq_true rfl, Nat.le_of_ble_eq_true rfl⟩ (Nat.le_of_ble_eq_true rfl) (Nat.zero_le _) (Nat.zero_le _) dX3_bestSigns_1 (fun H locs hW => ?_)
  clear hC1
  refine lv_iconst (v := (-1 : Int32)) hx hb dX3_bestSigns_4 (by decide) ?_
  refine lv_istore_n (lv' := [(2, .int (-1 : Int32)), (0, .ref a_t), (1, .int p1)]) hx hb dX3_bestSigns_5 rfl hl (by decide) rfl (fun ls hl => ?_)
  refine lv_iconst (v := (0 : Int32)) hx hb dX3_bestSigns_6 (by decide) ?_
  refine lv_istore_n (lv' := [(3, .int (0 : Int32)), (2, .int (-1 : Int32)), (0, .ref a_t), (1, .int p1)]) hx hb dX3_bestSigns_7 rfl hl (by decide) rfl (fun ls hl => ?_)
  refine lv_iconst (v := (0 : Int32)) hx hb dX3_bestSigns_8 (by decide) ?_
  refine lv_istore (lv' := [(4, .int (0 : Int32)), (3, .int (0 : Int32)), (2, .int (-1 : Int32)), (0, .ref a_t), (1, .int p1)]) hx hb dX3_bestSigns_9 hl (by decide) rfl (fun ls hl => ?_)
  obtain ⟨x2_2, hX3, hF⟩ := bO_s1 hF
  have L2 : ∀ (k0 : Nat) (x2 : Int32) (x3 : Int32) (x4 : Int32) (x2_2 : Int32) (H : Heap) (locs : List Loc) (ls : Array Slot), Lexicon_bestSigns_L11 N t_words p1 t_weight t_others'_2 k0 x2 x3 x4 = some x2_2 → m_H E A (wd_Lexicon_bestSigns E a_t a_t_number a_t_row a_t_length a_t_weight a_t_leastLike a_t_lipsOf a_t_others t_words t_rowLips t_girlKnows t_length t_weight t_leastLike t_lipsOf t_others'_2) s.heap H locs → lv_has ls 6 [(4, .int x4), (3, .int x3), (2, .int x2), (0, .ref a_t), (1, .int p1)] → (∀ (H : Heap) (locs : List Loc) (ls : Array Slot), m_H E A (wd_Lexicon_bestSigns E a_t a_t_number a_t_row a_t_length a_t_weight a_t_leastLike a_t_lipsOf a_t_others t_words t_rowLips t_girlKnows t_length t_weight t_leastLike t_lipsOf t_others'_2) s.heap H locs → lv_has ls 6 [(2, .int x2_2)] → W p l e rm_Lexicon_bestSigns s m args below meth c H locs 0 0 Q (F0 m 63 ls [])) → W p l e rm_Lexicon_bestSigns s m args below meth c H locs 0 0 Q (F0 m 11 ls []) := by
    clear hF
    intro k0
    induction k0 with
    | zero =>
      intro x2 x3 x4 x2_2 H locs ls hF
      cases hF
    | succ k0 ih5 =>
      intro x2 x3 x4 x2_2 H locs ls hF hW hl hk4
      rw [Lexicon_bestSigns_L11] at hF
      refine lv_iload hx hb dX3_bestSigns_11 (lv_at hl 0 rfl) ?_
      refine lv_aload_n hx hb dX3_bestSigns_13 rfl (lv_at hl 3 rfl) ?_
      refine m_callV X hW hA hl.1 lkX3_56 (c_Lexicon_allWords l E _ N a_t a_t_length a_t_number a_t_weight a_t_leastLike a_t_row a_t_lipsOf a_t_others t_words t_rowLips t_girlKnows  (F_Lexicon_allWords t_words) rfl) ([0]) (by decide) rfl rfl (ws' := (wd_Lexicon_bestSigns E a_t a_t_number a_t_row a_t_length a_t_weight a_t_leastLike a_t_lipsOf a_t_others t_words t_rowLips t_girlKnows t_length t_weight t_leastLike t_lipsOf t_others'_2)) rfl 0 rfl rfl rfl (As := []) (rest := [.int x4]) rfl rfl ⟨rfl, rfl, Nat.le_of_ble_eq_true rfl, Nat.le_of_ble_eq_true rfl⟩ (Nat.le_of_ble_eq_true rfl) (Nat.zero_le _) (Nat.zero_le _) dX3_bestSigns_14 (fun H locs hW => ?_)
      refine lv_icmp_gt (tgt := 63) hx hb dX3_bestSigns_17 (by decide) (fun c6 => ?_) (fun c6 => ?_)
      · have hF := if_y c6 hF
        cases hF
        exact hk4 _ _ _ hW (lv_sub hl [2] rfl)
      · have hF := if_n c6 hF
        refine lv_iload hx hb dX3_bestSigns_20 (lv_at hl 0 rfl) ?_
        refine m_callS X hW hA hl.1 lkX3_92 (c_Integer_bitCount l E _ N   x4 (F_Integer_bitCount x4) rfl) ([]) (by decide) rfl rfl (ws' := (wd_Lexicon_bestSigns E a_t a_t_number a_t_row a_t_length a_t_weight a_t_leastLike a_t_lipsOf a_t_others t_words t_rowLips t_girlKnows t_length t_weight t_leastLike t_lipsOf t_others'_2)) rfl (As := [.int x4]) (rest := []) rfl rfl ⟨rfl, rfl, Nat.le_of_ble_eq_true rfl, Nat.le_of_ble_eq_true rfl⟩ (Nat.le_of_ble_eq_true rfl) (Nat.zero_le _) (Nat.zero_le _) dX3_bestSigns_22 (fun H locs hW => ?_)
        refine lv_iload_n hx hb dX3_bestSigns_25 rfl (lv_at hl 4 rfl) ?_
        refine lv_icmp_eq (tgt := 32) hx hb dX3_bestSigns_26 (by decide) (fun c7 => ?_) (fun c7 => ?_)
        · have hF := if_y c7 hF
          refine lv_aload_n hx hb dX3_bestSigns_32 rfl (lv_at hl 3 rfl) ?_
          refine lv_iload hx hb dX3_bestSigns_33 (lv_at hl 0 rfl) ?_
          obtain ⟨r35, hC8, hF⟩ := bO_s1 hF
          refine m_callV X hW hA hl.1 lkX3_82 (c_Lexicon_mistakenBy l E _ N a_t a_t_length a_t_number a_t_leastLike a_t_row a_t_lipsOf a_t_weight a_t_others t_words t_rowLips t_girlKnows t_weight t_others'_2 x4 r35 hC8) ([0, 2, 5]) (by decide) rfl rfl (ws' := (wd_Lexicon_bestSigns E a_t a_t_number a_t_row a_t_length a_t_weight a_t_leastLike a_t_lipsOf a_t_others t_words t_rowLips t_girlKnows t_length t_weight t_leastLike t_lipsOf t_others'_2)) rfl 0 rfl rfl rfl (As := [.int x4]) (rest := []) rfl rfl ⟨rfl, rfl, Nat.le_of_ble_eq_true rfl, Nat.le_of_ble_eq_true rfl⟩ (Nat.le_of_ble_eq_true rfl) (Nat.zero_le _) (Nat.zero_le _) dX3_bestSigns_35 (fun H locs hW => ?_)
          clear hC8
          refine lv_istore (lv' := [(5, .int r35), (4, .int x4), (3, .int x3), (2, .int x2), (0, .ref a_t), (1, .int p1)]) hx hb dX3_bestSigns_38 hl (by decide) rfl (fun ls hl => ?_)
          refine lv_iload_n hx hb dX3_bestSigns_40 rfl (lv_at hl 3 rfl) ?_
          refine lv_iconst (v := (-1 : Int32)) hx hb dX3_bestSigns_41 (by decide) ?_
          refine lv_icmp_eq (tgt := 51) hx hb dX3_bestSigns_42 (by decide) (fun c9 => ?_) (fun c9 => ?_)
          · have hF := if_y c9 hF
            refine lv_iload hx hb dX3_bestSigns_51 (lv_at hl 1 rfl) ?_
            refine lv_istore_n (lv' := [(2, .int x4), (5, .int r35), (4, .int x4), (3, .int x3), (0, .ref a_t), (1, .int p1)]) hx hb dX3_bestSigns_53 rfl hl (by decide) rfl (fun ls hl => ?_)
            refine lv_iload hx hb dX3_bestSigns_54 (lv_at hl 1 rfl) ?_
            refine lv_istore_n (lv' := [(3, .int r35), (2, .int x4), (5, .int r35), (4, .int x4), (0, .ref a_t), (1, .int p1)]) hx hb dX3_bestSigns_56 rfl hl (by decide) rfl (fun ls hl => ?_)
            refine lv_iinc (v := (x4 + (1 : Int32))) (lv' := [(4, .int (x4 + (1 : Int32))), (3, .int r35), (2, .int x4), (5, .int r35), (0, .ref a_t), (1, .int p1)]) hx hb dX3_bestSigns_57 hl (k := 3) rfl rfl (by decide) rfl (fun ls hl => ?_)
            refine lv_goto (tgt := 11) hx hb dX3_bestSigns_60 (by decide) ?_
            exact ih5 x4 r35 (x4 + (1 : Int32)) x2_2 _ _ _ hF hW (lv_sub hl [0, 1, 2, 4, 5] rfl) hk4
          · have hF := if_n c9 hF
            refine lv_iload hx hb dX3_bestSigns_45 (lv_at hl 0 rfl) ?_
            refine lv_iload_n hx hb dX3_bestSigns_47 rfl (lv_at hl 2 rfl) ?_
            refine lv_icmp_ge (tgt := 57) hx hb dX3_bestSigns_48 (by decide) (fun c10 => ?_) (fun c10 => ?_)
            · have hF := if_y c10 hF
              refine lv_iinc (v := (x4 + (1 : Int32))) (lv' := [(4, .int (x4 + (1 : Int32))), (5, .int r35), (3, .int x3), (2, .int x2), (0, .ref a_t), (1, .int p1)]) hx hb dX3_bestSigns_57 hl (k := 1) rfl rfl (by decide) rfl (fun ls hl => ?_)
              refine lv_goto (tgt := 11) hx hb dX3_bestSigns_60 (by decide) ?_
              exact ih5 x2 x3 (x4 + (1 : Int32)) x2_2 _ _ _ hF hW (lv_sub hl [0, 2, 3, 4, 5] rfl) hk4
            · have hF := if_n c10 hF
              refine lv_iload hx hb dX3_bestSigns_51 (lv_at hl 1 rfl) ?_
              refine lv_istore_n (lv' := [(2, .int x4), (5, .int r35), (4, .int x4), (3, .int x3), (0, .ref a_t), (1, .int p1)]) hx hb dX3_bestSigns_53 rfl hl (by decide) rfl (fun ls hl => ?_)
              refine lv_iload hx hb dX3_bestSigns_54 (lv_at hl 1 rfl) ?_
              refine lv_istore_n (lv' := [(3, .int r35), (2, .int x4), (5, .int r35), (4, .int x4), (0, .ref a_t), (1, .int p1)]) hx hb dX3_bestSigns_56 rfl hl (by decide) rfl (fun ls hl => ?_)
              refine lv_iinc (v := (x4 + (1 : Int32))) (lv' := [(4, .int (x4 + (1 : Int32))), (3, .int r35), (2, .int x4), (5, .int r35), (0, .ref a_t), (1, .int p1)]) hx hb dX3_bestSigns_57 hl (k := 3) rfl rfl (by decide) rfl (fun ls hl => ?_)
              refine lv_goto (tgt := 11) hx hb dX3_bestSigns_60 (by decide) ?_
              exact ih5 x4 r35 (x4 + (1 : Int32)) x2_2 _ _ _ hF hW (lv_sub hl [0, 1, 2, 4, 5] rfl) hk4
        · have hF := if_n c7 hF
          refine lv_goto (tgt := 57) hx hb dX3_bestSigns_29 (by decide) ?_
          refine lv_iinc (v := (x4 + (1 : Int32))) (lv' := [(4, .int (x4 + (1 : Int32))), (3, .int x3), (2, .int x2), (0, .ref a_t), (1, .int p1)]) hx hb dX3_bestSigns_57 hl (k := 0) rfl rfl (by decide) rfl (fun ls hl => ?_)
          refine lv_goto (tgt := 11) hx hb dX3_bestSigns_60 (by decide) ?_
          exact ih5 x2 x3 (x4 + (1 : Int32)) x2_2 _ _ _ hF hW (lv_sub hl [0, 1, 2, 3, 4] rfl) hk4
  refine L2 N (-1 : Int32) (0 : Int32) (0 : Int32) x2_2 _ _ _ hX3 hW (lv_sub hl [0, 1, 2, 3, 4] rfl) ?_
  intro H locs ls hW hl
  clear L2
  refine lv_iload_n hx hb dX3_bestSigns_63 rfl (lv_at hl 0 rfl) ?_
  have hq := Option.some.inj hF
  subst hq
  exact hret _ _ _ _ hW dX3_bestSigns_64
abbrev wd_S_signs (E : m_E) (a_t : Nat) (a_t_draft : Nat) (a_t_firstImage : Nat) (a_t_secondImage : Nat) (a_t_news : Nat) (a_t_otherNews : Nat) (a_t_readings : Nat) (a_t_chances : Nat) (a_t_turning : Nat) (a_t_text : Nat) (a_t_fraction : Nat) (a_t_now : Nat) (a_t_now_floor : Nat) (a_t_now_sightings : Nat) (a_t_now_level : Nat) (a_t_now_loss : Nat) (a_t_now_lexicon : Nat) (a_t_now_lexicon_number : Nat) (a_t_now_lexicon_row : Nat) (a_t_now_lexicon_length : Nat) (a_t_now_lexicon_weight : Nat) (a_t_now_lexicon_leastLike : Nat) (a_t_now_lexicon_lipsOf : Nat) (a_t_now_lexicon_others : Nat) (t_now_clearness : Int32) (t_now_isKept : Int32) (t_now_lexicon_words : Int32) (t_now_lexicon_rowLips : Int32) (t_now_lexicon_girlKnows : Int32) (t_now_lexicon_length : Nat → Int32) (t_now_lexicon_weight : Nat → Int32) (t_now_lexicon_leastLike : Nat → Int32) (t_now_lexicon_lipsOf : Nat → Int32) (t_now_lexicon_others : Nat → Int32) : va_W := [(a_t, .inr (11, [.ref a_t_now, .ref a_t_draft, .ref a_t_firstImage, .ref a_t_secondImage, .ref a_t_news, .ref a_t_otherNews, .ref a_t_readings, .ref a_t_chances, .ref a_t_turning, .ref a_t_text, .ref a_t_fraction])), (a_t_now, .inr (7, [.ref a_t_now_floor, .ref a_t_now_sightings, .ref a_t_now_lexicon, .ref a_t_now_level, .ref a_t_now_loss, .int t_now_clearness, .int t_now_isKept])), (a_t_now_lexicon, .inr (3, [.int t_now_lexicon_words, .ref a_t_now_lexicon_length, .ref a_t_now_lexicon_number, .ref a_t_now_lexicon_weight, .ref a_t_now_lexicon_leastLike, .ref a_t_now_lexicon_row, .int t_now_lexicon_rowLips, .int t_now_lexicon_girlKnows, .ref a_t_now_lexicon_lipsOf, .ref a_t_now_lexicon_others])), (a_t_now_lexicon_length, .inl (E.2.1 0, 10, .inl t_now_lexicon_length)), (a_t_now_lexicon_weight, .inl (E.2.1 0, 10, .inl t_now_lexicon_weight)), (a_t_now_lexicon_leastLike, .inl (E.2.1 0, 6, .inl t_now_lexicon_leastLike)), (a_t_now_lexicon_lipsOf, .inl (E.2.1 0, 60, .inl t_now_lexicon_lipsOf)), (a_t_now_lexicon_others, .inl (E.2.1 0, 10, .inl t_now_lexicon_others))]
def rm_S_signs : Room := { frames := 5, cells := 0, slots := 0, locals := 115 }
set_option maxHeartbeats 4000000 in
set_option maxRecDepth 100000 in
theorem c_S_signs (l : Launch) (E : m_E) (sz N : Nat) (a_t : Nat) (a_t_draft : Nat) (a_t_firstImage : Nat) (a_t_secondImage : Nat) (a_t_news : Nat) (a_t_otherNews : Nat) (a_t_readings : Nat) (a_t_chances : Nat) (a_t_turning : Nat) (a_t_text : Nat) (a_t_fraction : Nat) (a_t_now : Nat) (a_t_now_floor : Nat) (a_t_now_sightings : Nat) (a_t_now_level : Nat) (a_t_now_loss : Nat) (a_t_now_lexicon : Nat) (a_t_now_lexicon_number : Nat) (a_t_now_lexicon_row : Nat) (a_t_now_lexicon_length : Nat) (a_t_now_lexicon_weight : Nat) (a_t_now_lexicon_leastLike : Nat) (a_t_now_lexicon_lipsOf : Nat) (a_t_now_lexicon_others : Nat) (t_now_clearness : Int32) (t_now_isKept : Int32) (t_now_lexicon_words : Int32) (t_now_lexicon_rowLips : Int32) (t_now_lexicon_girlKnows : Int32) (t_now_lexicon_length : Nat → Int32) (t_now_lexicon_weight : Nat → Int32) (t_now_lexicon_leastLike : Nat → Int32) (t_now_lexicon_lipsOf : Nat → Int32) (t_now_lexicon_others : Nat → Int32) (p1 : Int32) (ures : Int32 × (Nat → Int32)) (hF : F_S_signs N p1 t_now_lexicon_words t_now_lexicon_length t_now_lexicon_weight t_now_lexicon_leastLike t_now_lexicon_lipsOf t_now_lexicon_others = some ures) : m_Met l yX11_signs cX11_signs 2 (some .int) rm_S_signs E (wd_S_signs E a_t a_t_draft a_t_firstImage a_t_secondImage a_t_news a_t_otherNews a_t_readings a_t_chances a_t_turning a_t_text a_t_fraction a_t_now a_t_now_floor a_t_now_sightings a_t_now_level a_t_now_loss a_t_now_lexicon a_t_now_lexicon_number a_t_now_lexicon_row a_t_now_lexicon_length a_t_now_lexicon_weight a_t_now_lexicon_leastLike a_t_now_lexicon_lipsOf a_t_now_lexicon_others t_now_clearness t_now_isKept t_now_lexicon_words t_now_lexicon_rowLips t_now_lexicon_girlKnows t_now_lexicon_length t_now_lexicon_weight t_now_lexicon_leastLike t_now_lexicon_lipsOf t_now_lexicon_others) (wd_S_signs E a_t a_t_draft a_t_firstImage a_t_secondImage a_t_news a_t_otherNews a_t_readings a_t_chances a_t_turning a_t_text a_t_fraction a_t_now a_t_now_floor a_t_now_sightings a_t_now_level a_t_now_loss a_t_now_lexicon a_t_now_lexicon_number a_t_now_lexicon_row a_t_now_lexicon_length a_t_now_lexicon_weight a_t_now_lexicon_leastLike a_t_now_lexicon_lipsOf a_t_now_lexicon_others t_now_clearness t_now_isKept t_now_lexicon_words t_now_lexicon_rowLips t_now_lexicon_girlKnows t_now_lexicon_length t_now_lexicon_weight t_now_lexicon_leastLike t_now_lexicon_lipsOf ures.2) sz [.ref a_t, .int p1] (some (.int ures.1)) := by
  refine m_ofI (by decide) (Nat.le_of_ble_eq_true rfl) ?_
  intro p e s m args below meth c A Q ls X hW hA hl hret
  obtain ⟨hx, hb, -, hown, hts, hK, -, hG⟩ := id X
  have hl : lv_has ls 2 [(0, .ref a_t), (1, .int p1)] := hl
  unfold F_S_signs at hF
  refine lv_iload_n hx hb dX11_signs_0 rfl (lv_at hl 1 rfl) ?_
  refine lv_iconst (v := (0 : Int32)) hx hb dX11_signs_1 (by decide) ?_
  refine lv_aload_n hx hb dX11_signs_2 rfl (lv_at hl 0 rfl) ?_
  refine m_get X hW fdX11_10 0 rfl rfl dX11_signs_3 ?_
  refine m_get X hW fdX11_156 1 rfl rfl dX11_signs_6 ?_
  refine m_get X hW fdX11_202 2 rfl rfl dX11_signs_9 ?_
  refine m_callS X hW hA hl.1 lkX11_98 (c_S_within l E _ N   p1 (0 : Int32) t_now_lexicon_words (F_S_within p1 (0 : Int32) t_now_lexicon_words) rfl) ([]) (by decide) rfl rfl (ws' := (wd_S_signs E a_t a_t_draft a_t_firstImage a_t_secondImage a_t_news a_t_otherNews a_t_readings a_t_chances a_t_turning a_t_text a_t_fraction a_t_now a_t_now_floor a_t_now_sightings a_t_now_level a_t_now_loss a_t_now_lexicon a_t_now_lexicon_number a_t_now_lexicon_row a_t_now_lexicon_length a_t_now_lexicon_weight a_t_now_lexicon_leastLike a_t_now_lexicon_lipsOf a_t_now_lexicon_others t_now_clearness t_now_isKept t_now_lexicon_words t_now_lexicon_rowLips t_now_lexicon_girlKnows t_now_lexicon_length t_now_lexicon_weight t_now_lexicon_leastLike t_now_lexicon_lipsOf t_now_lexicon_others)) rfl (As := [.int p1, .int (0 : Int32), .int t_now_lexicon_words]) (rest := []) rfl rfl ⟨rfl, rfl, Nat.le_of_ble_eq_true rfl, Nat.le_of_ble_eq_true rfl⟩ (Nat.le_of_ble_eq_true rfl) (Nat.zero_le _) (Nat.zero_le _) dX11_signs_12 (fun H locs hW => ?_)
  refine lv_if_ne (tgt := 21) hx hb dX11_signs_15 (by decide) (fun c1 => ?_) (fun c1 => ?_)
  · have hF := if_n c1 hF
    refine lv_aload_n hx hb dX11_signs_21 rfl (lv_at hl 0 rfl) ?_
    refine m_get X hW fdX11_10 0 rfl rfl dX11_signs_22 ?_
    refine m_get X hW fdX11_156 1 rfl rfl dX11_signs_25 ?_
    refine lv_iload_n hx hb dX11_signs_28 rfl (lv_at hl 1 rfl) ?_
    obtain ⟨r29, t_now_lexicon_others'_2, hC2, hF⟩ := bO_s2 hF
    refine m_callV X hW hA hl.1 lkX11_205 (c_Lexicon_bestSigns l E _ N a_t_now_lexicon a_t_now_lexicon_number a_t_now_lexicon_row a_t_now_lexicon_length a_t_now_lexicon_weight a_t_now_lexicon_leastLike a_t_now_lexicon_lipsOf a_t_now_lexicon_others t_now_lexicon_words t_now_lexicon_rowLips t_now_lexicon_girlKnows t_now_lexicon_length t_now_lexicon_weight t_now_lexicon_leastLike t_now_lexicon_lipsOf t_now_lexicon_others p1 (r29, t_now_lexicon_others'_2) hC2) ([2, 3, 4, 5, 6, 7]) (by decide) rfl rfl (ws' := (wd_S_signs E a_t a_t_draft a_t_firstImage a_t_secondImage a_t_news a_t_otherNews a_t_readings a_t_chances a_t_turning a_t_text a_t_fraction a_t_now a_t_now_floor a_t_now_sightings a_t_now_level a_t_now_loss a_t_now_lexicon a_t_now_lexicon_number a_t_now_lexicon_row a_t_now_lexicon_length a_t_now_lexicon_weight a_t_now_lexicon_leastLike a_t_now_lexicon_lipsOf a_t_now_lexicon_others t_now_clearness t_now_isKept t_now_lexicon_words t_now_lexicon_rowLips t_now_lexicon_girlKnows t_now_lexicon_length t_now_lexicon_weight t_now_lexicon_leastLike t_now_lexicon_lipsOf t_now_lexicon_others'_2)) rfl 2 rfl rfl rfl (As := [.int p1]) (rest := []) rfl rfl ⟨rfl, rfl, Nat.le_of_ble_eq_true rfl, Nat.le_of_ble_eq_true rfl⟩ (Nat.le_of_ble_eq_true rfl) (Nat.zero_le _) (Nat.zero_le _) dX11_signs_29 (fun H locs hW => ?_)
    clear hC2
    have hq := Option.some.inj hF
    subst hq
    exact hret _ _ _ _ hW dX11_signs_32
  · have hF := if_y c1 hF
    refine lv_bipush (v := (-2 : Int32)) hx hb dX11_signs_18 (by decide) ?_
    have hq := Option.some.inj hF
    subst hq
    exact hret _ _ _ _ hW dX11_signs_20
