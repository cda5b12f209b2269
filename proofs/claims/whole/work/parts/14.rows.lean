abbrev wd_S_turns (E : m_E) (a_t : Nat) (a_t_draft : Nat) (a_t_firstImage : Nat) (a_t_secondImage : Nat) (a_t_news : Nat) (a_t_otherNews : Nat) (a_t_readings : Nat) (a_t_turning : Nat) (a_t_text : Nat) (a_t_fraction : Nat) (a_t_now : Nat) (a_t_now_floor : Nat) (a_t_now_sightings : Nat) (a_t_now_level : Nat) (a_t_now_loss : Nat) (a_t_now_lexicon : Nat) (a_t_now_lexicon_number : Nat) (a_t_now_lexicon_row : Nat) (a_t_now_lexicon_others : Nat) (a_t_now_lexicon_length : Nat) (a_t_now_lexicon_weight : Nat) (a_t_now_lexicon_leastLike : Nat) (a_t_now_lexicon_lipsOf : Nat) (a_t_chances : Nat) (a_t_chances_heardAs : Nat) (a_t_chances_total : Nat) (a_t_chances_part : Nat) (a_t_chances_chance : Nat) (a_t_chances_before : Nat) (a_t_chances_below : Nat) (a_t_chances_below_limb : Nat) (a_t_chances_scaled : Nat) (a_t_chances_scaled_limb : Nat) (a_t_chances_scaledBelow : Nat) (a_t_chances_scaledBelow_limb : Nat) (r_t_chances_heardAs : Nat → Nat) (r_t_chances_chance : Nat → Nat) (r_t_chances_chance_limb : Nat → Nat) (r_t_chances_before : Nat → Nat) (r_t_chances_before_limb : Nat → Nat) (t_now_clearness : Int32) (t_now_isKept : Int32) (t_now_lexicon_words : Int32) (t_now_lexicon_rowLips : Int32) (t_now_lexicon_girlKnows : Int32) (t_now_lexicon_length : Nat → Int32) (t_now_lexicon_weight : Nat → Int32) (t_now_lexicon_leastLike : Nat → Int32) (t_now_lexicon_lipsOf : Nat → Int32) (t_chances_words : Int32) (t_chances_heardAs : Nat → Nat → Int32) (t_chances_total : Nat → Int32) (t_chances_part : Nat → Int32) (t_chances_chance_limb : Nat → Nat → Int32) (t_chances_chance_limbs : Nat → Int32) (t_chances_before_limb : Nat → Nat → Int32) (t_chances_before_limbs : Nat → Int32) (t_chances_below_limbs : Int32) (t_chances_below_limb : Nat → Int32) (t_chances_scaled_limbs : Int32) (t_chances_scaled_limb : Nat → Int32) (t_chances_scaledBelow_limbs : Int32) (t_chances_scaledBelow_limb : Nat → Int32) : va_W := [(a_t, .inr (11, [.ref a_t_now, .ref a_t_draft, .ref a_t_firstImage, .ref a_t_secondImage, .ref a_t_news, .ref a_t_otherNews, .ref a_t_readings, .ref a_t_chances, .ref a_t_turning, .ref a_t_text, .ref a_t_fraction])), (a_t_now, .inr (7, [.ref a_t_now_floor, .ref a_t_now_sightings, .ref a_t_now_lexicon, .ref a_t_now_level, .ref a_t_now_loss, .int t_now_clearness, .int t_now_isKept])), (a_t_now_lexicon, .inr (3, [.int t_now_lexicon_words, .ref a_t_now_lexicon_length, .ref a_t_now_lexicon_number, .ref a_t_now_lexicon_weight, .ref a_t_now_lexicon_leastLike, .ref a_t_now_lexicon_row, .int t_now_lexicon_rowLips, .int t_now_lexicon_girlKnows, .ref a_t_now_lexicon_lipsOf, .ref a_t_now_lexicon_others])), (a_t_now_lexicon_length, .inl (E.2.1 0, 10, .inl t_now_lexicon_length)), (a_t_now_lexicon_weight, .inl (E.2.1 0, 10, .inl t_now_lexicon_weight)), (a_t_now_lexicon_leastLike, .inl (E.2.1 0, 6, .inl t_now_lexicon_leastLike)), (a_t_now_lexicon_lipsOf, .inl (E.2.1 0, 60, .inl t_now_lexicon_lipsOf)), (a_t_chances, .inr (0, [.ref a_t_chances_heardAs, .ref a_t_chances_total, .ref a_t_chances_part, .ref a_t_chances_chance, .ref a_t_chances_before, .ref a_t_chances_below, .ref a_t_chances_scaled, .ref a_t_chances_scaledBelow, .int t_chances_words])), (a_t_chances_heardAs, .inl (E.2.1 3, 10, .inr (.inr (.inr (.inr (fun i => some (r_t_chances_heardAs i))))))), (a_t_chances_total, .inl (E.2.1 0, 10, .inl t_chances_total)), (a_t_chances_part, .inl (E.2.1 0, 10, .inl t_chances_part)), (a_t_chances_chance, .inl (E.2.1 2, 10, .inr (.inr (.inr (.inr (fun i => some (r_t_chances_chance i))))))), (a_t_chances_before, .inl (E.2.1 2, 10, .inr (.inr (.inr (.inr (fun i => some (r_t_chances_before i))))))), (a_t_chances_below, .inr (4, [.ref a_t_chances_below_limb, .int t_chances_below_limbs])), (a_t_chances_below_limb, .inl (E.2.1 0, 40, .inl t_chances_below_limb)), (a_t_chances_scaled, .inr (4, [.ref a_t_chances_scaled_limb, .int t_chances_scaled_limbs])), (a_t_chances_scaled_limb, .inl (E.2.1 0, 40, .inl t_chances_scaled_limb)), (a_t_chances_scaledBelow, .inr (4, [.ref a_t_chances_scaledBelow_limb, .int t_chances_scaledBelow_limbs])), (a_t_chances_scaledBelow_limb, .inl (E.2.1 0, 40, .inl t_chances_scaledBelow_limb))] ++ (m_fam 10 (fun i => (r_t_chances_heardAs i, .inl (E.2.1 0, 10, .inl (t_chances_heardAs i)))) ++ (m_fam 10 (fun i => (r_t_chances_chance i, .inr (4, [.ref (r_t_chances_chance_limb i), .int (t_chances_chance_limbs i)]))) ++ (m_fam 10 (fun i => (r_t_chances_chance_limb i, .inl (E.2.1 0, 40, .inl (t_chances_chance_limb i)))) ++ (m_fam 10 (fun i => (r_t_chances_before i, .inr (4, [.ref (r_t_chances_before_limb i), .int (t_chances_before_limbs i)]))) ++ (m_fam 10 (fun i => (r_t_chances_before_limb i, .inl (E.2.1 0, 40, .inl (t_chances_before_limb i)))) ++ [])))))
def rm_S_turns : Room := { frames := 4, cells := 0, slots := 0, locals := 91 }
set_option maxHeartbeats 4000000 in
set_option maxRecDepth 100000 in
theorem c_S_turns (l : Launch) (E : m_E) (sz N : Nat) (a_t : Nat) (a_t_draft : Nat) (a_t_firstImage : Nat) (a_t_secondImage : Nat) (a_t_news : Nat) (a_t_otherNews : Nat) (a_t_readings : Nat) (a_t_turning : Nat) (a_t_text : Nat) (a_t_fraction : Nat) (a_t_now : Nat) (a_t_now_floor : Nat) (a_t_now_sightings : Nat) (a_t_now_level : Nat) (a_t_now_loss : Nat) (a_t_now_lexicon : Nat) (a_t_now_lexicon_number : Nat) (a_t_now_lexicon_row : Nat) (a_t_now_lexicon_others : Nat) (a_t_now_lexicon_length : Nat) (a_t_now_lexicon_weight : Nat) (a_t_now_lexicon_leastLike : Nat) (a_t_now_lexicon_lipsOf : Nat) (a_t_chances : Nat) (a_t_chances_heardAs : Nat) (a_t_chances_total : Nat) (a_t_chances_part : Nat) (a_t_chances_chance : Nat) (a_t_chances_before : Nat) (a_t_chances_below : Nat) (a_t_chances_below_limb : Nat) (a_t_chances_scaled : Nat) (a_t_chances_scaled_limb : Nat) (a_t_chances_scaledBelow : Nat) (a_t_chances_scaledBelow_limb : Nat) (r_t_chances_heardAs : Nat → Nat) (r_t_chances_chance : Nat → Nat) (r_t_chances_chance_limb : Nat → Nat) (r_t_chances_before : Nat → Nat) (r_t_chances_before_limb : Nat → Nat) (t_now_clearness : Int32) (t_now_isKept : Int32) (t_now_lexicon_words : Int32) (t_now_lexicon_rowLips : Int32) (t_now_lexicon_girlKnows : Int32) (t_now_lexicon_length : Nat → Int32) (t_now_lexicon_weight : Nat → Int32) (t_now_lexicon_leastLike : Nat → Int32) (t_now_lexicon_lipsOf : Nat → Int32) (t_chances_words : Int32) (t_chances_heardAs : Nat → Nat → Int32) (t_chances_total : Nat → Int32) (t_chances_part : Nat → Int32) (t_chances_chance_limb : Nat → Nat → Int32) (t_chances_chance_limbs : Nat → Int32) (t_chances_before_limb : Nat → Nat → Int32) (t_chances_before_limbs : Nat → Int32) (t_chances_below_limbs : Int32) (t_chances_below_limb : Nat → Int32) (t_chances_scaled_limbs : Int32) (t_chances_scaled_limb : Nat → Int32) (t_chances_scaledBelow_limbs : Int32) (t_chances_scaledBelow_limb : Nat → Int32) (p1 : Int32) (p2 : Int32) (p3 : Int32) (ures : Int32 × Int32 × (Nat → Nat → Int32) × (Nat → Int32) × (Nat → Int32) × (Nat → Nat → Int32) × (Nat → Int32) × (Nat → Nat → Int32) × (Nat → Int32) × Int32 × (Nat → Int32) × Int32 × (Nat → Int32) × Int32 × (Nat → Int32)) (hF : F_S_turns N p1 p2 p3 t_now_clearness t_now_lexicon_words t_now_lexicon_length t_now_lexicon_weight t_now_lexicon_leastLike t_now_lexicon_lipsOf t_chances_words t_chances_heardAs t_chances_total t_chances_part t_chances_chance_limb t_chances_chance_limbs t_chances_before_limb t_chances_before_limbs t_chances_below_limbs t_chances_below_limb t_chances_scaled_limbs t_chances_scaled_limb t_chances_scaledBelow_limbs t_chances_scaledBelow_limb = some ures) : m_Met l yX11_turns cX11_turns 5 (some .int) rm_S_turns E (wd_S_turns E a_t a_t_draft a_t_firstImage a_t_secondImage a_t_news a_t_otherNews a_t_readings a_t_turning a_t_text a_t_fraction a_t_now a_t_now_floor a_t_now_sightings a_t_now_level a_t_now_loss a_t_now_lexicon a_t_now_lexicon_number a_t_now_lexicon_row a_t_now_lexicon_others a_t_now_lexicon_length a_t_now_lexicon_weight a_t_now_lexicon_leastLike a_t_now_lexicon_lipsOf a_t_chances a_t_chances_heardAs a_t_chances_total a_t_chances_part a_t_chances_chance a_t_chances_before a_t_chances_below a_t_chances_below_limb a_t_chances_scaled a_t_chances_scaled_limb a_t_chances_scaledBelow a_t_chances_scaledBelow_limb r_t_chances_heardAs r_t_chances_chance r_t_chances_chance_limb r_t_chances_before r_t_chances_before_limb t_now_clearness t_now_isKept t_now_lexicon_words t_now_lexicon_rowLips t_now_lexicon_girlKnows t_now_lexicon_length t_now_lexicon_weight t_now_lexicon_leastLike t_now_lexicon_lipsOf t_chances_words t_chances_heardAs t_chances_total t_chances_part t_chances_chance_limb t_chances_chance_limbs t_chances_before_limb t_chances_before_limbs t_chances_below_limbs t_chances_below_limb t_chances_scaled_limbs t_chances_scaled_limb t_chances_scaledBelow_limbs t_chances_scaledBelow_limb) (wd_S_turns E a_t a_t_draft a_t_firstImage a_t_secondImage a_t_news a_t_otherNews a_t_readings a_t_turning a_t_text a_t_fraction a_t_now a_t_now_floor a_t_now_sightings a_t_now_level a_t_now_loss a_t_now_lexicon a_t_now_lexicon_number a_t_now_lexicon_row a_t_now_lexicon_others a_t_now_lexicon_length a_t_now_lexicon_weight a_t_now_lexicon_leastLike a_t_now_lexicon_lipsOf a_t_chances a_t_chances_heardAs a_t_chances_total a_t_chances_part a_t_chances_chance a_t_chances_before a_t_chances_below a_t_chances_below_limb a_t_chances_scaled a_t_chances_scaled_limb a_t_chances_scaledBelow a_t_chances_scaledBelow_limb r_t_chances_heardAs r_t_chances_chance r_t_chances_chance_limb r_t_chances_before r_t_chances_before_limb t_now_clearness t_now_isKept t_now_lexicon_words t_now_lexicon_rowLips t_now_lexicon_girlKnows t_now_lexicon_length t_now_lexicon_weight t_now_lexicon_leastLike t_now_lexicon_lipsOf ures.2.1 ures.2.2.1 ures.2.2.2.1 ures.2.2.2.2.1 ures.2.2.2.2.2.1 ures.2.2.2.2.2.2.1 ures.2.2.2.2.2.2.2.1 ures.2.2.2.2.2.2.2.2.1 ures.2.2.2.2.2.2.2.2.2.1 ures.2.2.2.2.2.2.2.2.2.2.1 ures.2.2.2.2.2.2.2.2.2.2.2.1 ures.2.2.2.2.2.2.2.2.2.2.2.2.1 ures.2.2.2.2.2.2.2.2.2.2.2.2.2.1 ures.2.2.2.2.2.2.2.2.2.2.2.2.2.2) sz [.ref a_t, .int p1, .int p2, .int p3] (some (.int ures.1)) := by
  refine m_ofI (by decide) (Nat.le_of_ble_eq_true rfl) ?_
  intro p e s m args below meth c A Q ls X hW hA hl hret
  obtain ⟨hx, hb, -, hown, hts, hK, -, hG⟩ := id X
  have hl : lv_has ls 5 [(0, .ref a_t), (1, .int p1), (2, .int p2), (3, .int p3)] := hl
  unfold F_S_turns at hF
  refine lv_aload_n hx hb dX11_turns_0 rfl (lv_at hl 0 rfl) ?_
  refine m_get X hW fdX11_10 0 rfl rfl dX11_turns_1 ?_
  refine m_get X hW fdX11_156 1 rfl rfl dX11_turns_4 ?_
  refine lv_iload_n hx hb dX11_turns_7 rfl (lv_at hl 1 rfl) ?_
  refine m_callV X hW hA hl.1 lkX11_169 (c_Lexicon_isWord l E _ N a_t_now_lexicon a_t_now_lexicon_length a_t_now_lexicon_number a_t_now_lexicon_weight a_t_now_lexicon_leastLike a_t_now_lexicon_row a_t_now_lexicon_lipsOf a_t_now_lexicon_others t_now_lexicon_words t_now_lexicon_rowLips t_now_lexicon_girlKnows p1 (F_Lexicon_isWord p1 t_now_lexicon_words) rfl) ([2]) (by decide) rfl rfl (ws' := (wd_S_turns E a_t a_t_draft a_t_firstImage a_t_secondImage a_t_news a_t_otherNews a_t_readings a_t_turning a_t_text a_t_fraction a_t_now a_t_now_floor a_t_now_sightings a_t_now_level a_t_now_loss a_t_now_lexicon a_t_now_lexicon_number a_t_now_lexicon_row a_t_now_lexicon_others a_t_now_lexicon_length a_t_now_lexicon_weight a_t_now_lexicon_leastLike a_t_now_lexicon_lipsOf a_t_chances a_t_chances_heardAs a_t_chances_total a_t_chances_part a_t_chances_chance a_t_chances_before a_t_chances_below a_t_chances_below_limb a_t_chances_scaled a_t_chances_scaled_limb a_t_chances_scaledBelow a_t_chances_scaledBelow_limb r_t_chances_heardAs r_t_chances_chance r_t_chances_chance_limb r_t_chances_before r_t_chances_before_limb t_now_clearness t_now_isKept t_now_lexicon_words t_now_lexicon_rowLips t_now_lexicon_girlKnows t_now_lexicon_length t_now_lexicon_weight t_now_lexicon_leastLike t_now_lexicon_lipsOf t_chances_words t_chances_heardAs t_chances_total t_chances_part t_chances_chance_limb t_chances_chance_limbs t_chances_before_limb t_chances_before_limbs t_chances_below_limbs t_chances_below_limb t_chances_scaled_limbs t_chances_scaled_limb t_chances_scaledBelow_limbs t_chances_scaledBelow_limb)) rfl 2 rfl rfl rfl (As := [.int p1]) (rest := []) rfl rfl ⟨rfl, rfl, Nat.le_of_ble_eq_true rfl, Nat.le_of_ble_eq_true rfl⟩ (Nat.le_of_ble_eq_true rfl) (Nat.zero_le _) (Nat.zero_le _) dX11_turns_8 (fun H locs hW => ?_)
  refine lv_if_eq (tgt := 34) hx hb dX11_turns_11 (by decide) (fun c1 => ?_) (fun c1 => ?_)
  · have hF := if_y c1 hF
    refine lv_bipush (v := (-10 : Int32)) hx hb dX11_turns_34 (by decide) ?_
    have hq := Option.some.inj hF
    subst hq
    exact hret _ _ _ _ hW dX11_turns_36
  · have hF := if_n c1 hF
    refine lv_iload_n hx hb dX11_turns_14 rfl (lv_at hl 2 rfl) ?_
    refine lv_iconst (v := (0 : Int32)) hx hb dX11_turns_15 (by decide) ?_
    refine lv_bipush (v := (99 : Int32)) hx hb dX11_turns_16 (by decide) ?_
    refine m_callS X hW hA hl.1 lkX11_98 (c_S_within l E _ N   p2 (0 : Int32) (99 : Int32) (F_S_within p2 (0 : Int32) (99 : Int32)) rfl) ([]) (by decide) rfl rfl (ws' := (wd_S_turns E a_t a_t_draft a_t_firstImage a_t_secondImage a_t_news a_t_otherNews a_t_readings a_t_turning a_t_text a_t_fraction a_t_now a_t_now_floor a_t_now_sightings a_t_now_level a_t_now_loss a_t_now_lexicon a_t_now_lexicon_number a_t_now_lexicon_row a_t_now_lexicon_others a_t_now_lexicon_length a_t_now_lexicon_weight a_t_now_lexicon_leastLike a_t_now_lexicon_lipsOf a_t_chances a_t_chances_heardAs a_t_chances_total a_t_chances_part a_t_chances_chance a_t_chances_before a_t_chances_below a_t_chances_below_limb a_t_chances_scaled a_t_chances_scaled_limb a_t_chances_scaledBelow a_t_chances_scaledBelow_limb r_t_chances_heardAs r_t_chances_chance r_t_chances_chance_limb r_t_chances_before r_t_chances_before_limb t_now_clearness t_now_isKept t_now_lexicon_words t_now_lexicon_rowLips t_now_lexicon_girlKnows t_now_lexicon_length t_now_lexicon_weight t_now_lexicon_leastLike t_now_lexicon_lipsOf t_chances_words t_chances_heardAs t_chances_total t_chances_part t_chances_chance_limb t_chances_chance_limbs t_chances_before_limb t_chances_before_limbs t_chances_below_limbs t_chances_below_limb t_chances_scaled_limbs t_chances_scaled_limb t_chances_scaledBelow_limbs t_chances_scaledBelow_limb)) rfl (As := [.int p2, .int (0 : Int32), .int (99 : Int32)]) (rest := []) rfl rfl ⟨rfl, rfl, Nat.le_of_ble_eq_true rfl, Nat.le_of_ble_eq_true rfl⟩ (Nat.le_of_ble_eq_true rfl) (Nat.zero_le _) (Nat.zero_le _) dX11_turns_18 (fun H locs hW => ?_)
    refine lv_if_eq (tgt := 34) hx hb dX11_turns_21 (by decide) (fun c2 => ?_) (fun c2 => ?_)
    · have hF := if_y c2 hF
      refine lv_bipush (v := (-10 : Int32)) hx hb dX11_turns_34 (by decide) ?_
      have hq := Option.some.inj hF
      subst hq
      exact hret _ _ _ _ hW dX11_turns_36
    · have hF := if_n c2 hF
      refine lv_iload_n hx hb dX11_turns_24 rfl (lv_at hl 3 rfl) ?_
      refine lv_iconst (v := (1 : Int32)) hx hb dX11_turns_25 (by decide) ?_
      refine lv_bipush (v := (99 : Int32)) hx hb dX11_turns_26 (by decide) ?_
      refine m_callS X hW hA hl.1 lkX11_98 (c_S_within l E _ N   p3 (1 : Int32) (99 : Int32) (F_S_within p3 (1 : Int32) (99 : Int32)) rfl) ([]) (by decide) rfl rfl (ws' := (wd_S_turns E a_t a_t_draft a_t_firstImage a_t_secondImage a_t_news a_t_otherNews a_t_readings a_t_turning a_t_text a_t_fraction a_t_now a_t_now_floor a_t_now_sightings a_t_now_level a_t_now_loss a_t_now_lexicon a_t_now_lexicon_number a_t_now_lexicon_row a_t_now_lexicon_others a_t_now_lexicon_length a_t_now_lexicon_weight a_t_now_lexicon_leastLike a_t_now_lexicon_lipsOf a_t_chances a_t_chances_heardAs a_t_chances_total a_t_chances_part a_t_chances_chance a_t_chances_before a_t_chances_below a_t_chances_below_limb a_t_chances_scaled a_t_chances_scaled_limb a_t_chances_scaledBelow a_t_chances_scaledBelow_limb r_t_chances_heardAs r_t_chances_chance r_t_chances_chance_limb r_t_chances_before r_t_chances_before_limb t_now_clearness t_now_isKept t_now_lexicon_words t_now_lexicon_rowLips t_now_lexicon_girlKnows t_now_lexicon_length t_now_lexicon_weight t_now_lexicon_leastLike t_now_lexicon_lipsOf t_chances_words t_chances_heardAs t_chances_total t_chances_part t_chances_chance_limb t_chances_chance_limbs t_chances_before_limb t_chances_before_limbs t_chances_below_limbs t_chances_below_limb t_chances_scaled_limbs t_chances_scaled_limb t_chances_scaledBelow_limbs t_chances_scaledBelow_limb)) rfl (As := [.int p3, .int (1 : Int32), .int (99 : Int32)]) (rest := []) rfl rfl ⟨rfl, rfl, Nat.le_of_ble_eq_true rfl, Nat.le_of_ble_eq_true rfl⟩ (Nat.le_of_ble_eq_true rfl) (Nat.zero_le _) (Nat.zero_le _) dX11_turns_28 (fun H locs hW => ?_)
      refine lv_if_ne (tgt := 37) hx hb dX11_turns_31 (by decide) (fun c3 => ?_) (fun c3 => ?_)
      · have hF := if_n c3 hF
        refine lv_aload_n hx hb dX11_turns_37 rfl (lv_at hl 0 rfl) ?_
        refine m_get X hW fdX11_45 0 rfl rfl dX11_turns_38 ?_
        refine lv_aload_n hx hb dX11_turns_41 rfl (lv_at hl 0 rfl) ?_
        refine m_get X hW fdX11_10 0 rfl rfl dX11_turns_42 ?_
        refine m_get X hW fdX11_156 1 rfl rfl dX11_turns_45 ?_
        refine lv_aload_n hx hb dX11_turns_48 rfl (lv_at hl 0 rfl) ?_
        refine m_get X hW fdX11_10 0 rfl rfl dX11_turns_49 ?_
        refine m_get X hW fdX11_208 1 rfl rfl dX11_turns_52 ?_
        refine lv_iload_n hx hb dX11_turns_55 rfl (lv_at hl 1 rfl) ?_
        obtain ⟨t_chances_words'_2, t_chances_heardAs'_2, t_chances_total'_2, t_chances_part'_2, t_chances_chance_limb'_5, t_chances_chance_limbs'_5, t_chances_below_limbs'_5, t_chances_below_limb'_5, hC4, hF⟩ := bO_s8 hF
        refine m_callV X hW hA hl.1 lkX11_211 (c_Chances_say l E _ N a_t_chances a_t_chances_before a_t_chances_scaled a_t_chances_scaledBelow a_t_chances_heardAs a_t_chances_total a_t_chances_part a_t_chances_chance a_t_chances_below a_t_chances_below_limb a_t_now_lexicon a_t_now_lexicon_number a_t_now_lexicon_row a_t_now_lexicon_others a_t_now_lexicon_length a_t_now_lexicon_weight a_t_now_lexicon_leastLike a_t_now_lexicon_lipsOf r_t_chances_heardAs r_t_chances_chance r_t_chances_chance_limb t_chances_words t_chances_heardAs t_chances_total t_chances_part t_chances_chance_limb t_chances_chance_limbs t_chances_below_limbs t_chances_below_limb t_now_lexicon_words t_now_lexicon_rowLips t_now_lexicon_girlKnows t_now_lexicon_length t_now_lexicon_weight t_now_lexicon_leastLike t_now_lexicon_lipsOf t_now_clearness p1 (t_chances_words'_2, t_chances_heardAs'_2, t_chances_total'_2, t_chances_part'_2, t_chances_chance_limb'_5, t_chances_chance_limbs'_5, t_chances_below_limbs'_5, t_chances_below_limb'_5) hC4) ([7, 8, 9, 10, 11, 13, 14, 2, 3, 4, 5, 6] ++ ((List.range 10).map (fun i => 19 + i) ++ ((List.range 10).map (fun i => 29 + i) ++ ((List.range 10).map (fun i => 39 + i) ++ [])))) (by decide +kernel) (m_CA (by rfl) (m_CA (m_CF (b := 19) rfl (by rfl)) (m_CA (m_CF (b := 29) m_sp1 (by rfl)) (m_CA (m_CF (b := 39) m_sp2 (by rfl)) m_Cn)))) (by simp [m_fam]) (ws' := (wd_S_turns E a_t a_t_draft a_t_firstImage a_t_secondImage a_t_news a_t_otherNews a_t_readings a_t_turning a_t_text a_t_fraction a_t_now a_t_now_floor a_t_now_sightings a_t_now_level a_t_now_loss a_t_now_lexicon a_t_now_lexicon_number a_t_now_lexicon_row a_t_now_lexicon_others a_t_now_lexicon_length a_t_now_lexicon_weight a_t_now_lexicon_leastLike a_t_now_lexicon_lipsOf a_t_chances a_t_chances_heardAs a_t_chances_total a_t_chances_part a_t_chances_chance a_t_chances_before a_t_chances_below a_t_chances_below_limb a_t_chances_scaled a_t_chances_scaled_limb a_t_chances_scaledBelow a_t_chances_scaledBelow_limb r_t_chances_heardAs r_t_chances_chance r_t_chances_chance_limb r_t_chances_before r_t_chances_before_limb t_now_clearness t_now_isKept t_now_lexicon_words t_now_lexicon_rowLips t_now_lexicon_girlKnows t_now_lexicon_length t_now_lexicon_weight t_now_lexicon_leastLike t_now_lexicon_lipsOf t_chances_words'_2 t_chances_heardAs'_2 t_chances_total'_2 t_chances_part'_2 t_chances_chance_limb'_5 t_chances_chance_limbs'_5 t_chances_before_limb t_chances_before_limbs t_chances_below_limbs'_5 t_chances_below_limb'_5 t_chances_scaled_limbs t_chances_scaled_limb t_chances_scaledBelow_limbs t_chances_scaledBelow_limb)) (m_putA (ws1 := (wd_S_turns E a_t a_t_draft a_t_firstImage a_t_secondImage a_t_news a_t_otherNews a_t_readings a_t_turning a_t_text a_t_fraction a_t_now a_t_now_floor a_t_now_sightings a_t_now_level a_t_now_loss a_t_now_lexicon a_t_now_lexicon_number a_t_now_lexicon_row a_t_now_lexicon_others a_t_now_lexicon_length a_t_now_lexicon_weight a_t_now_lexicon_leastLike a_t_now_lexicon_lipsOf a_t_chances a_t_chances_heardAs a_t_chances_total a_t_chances_part a_t_chances_chance a_t_chances_before a_t_chances_below a_t_chances_below_limb a_t_chances_scaled a_t_chances_scaled_limb a_t_chances_scaledBelow a_t_chances_scaledBelow_limb r_t_chances_heardAs r_t_chances_chance r_t_chances_chance_limb r_t_chances_before r_t_chances_before_limb t_now_clearness t_now_isKept t_now_lexicon_words t_now_lexicon_rowLips t_now_lexicon_girlKnows t_now_lexicon_length t_now_lexicon_weight t_now_lexicon_leastLike t_now_lexicon_lipsOf t_chances_words'_2 t_chances_heardAs t_chances_total'_2 t_chances_part'_2 t_chances_chance_limb t_chances_chance_limbs t_chances_before_limb t_chances_before_limbs t_chances_below_limbs'_5 t_chances_below_limb'_5 t_chances_scaled_limbs t_chances_scaled_limb t_chances_scaledBelow_limbs t_chances_scaledBelow_limb)) (by rfl) (m_putXS 19 (by rfl) (by decide) [none, none, some 7, some 8, some 9, some 10, some 11, some 0, some 1, some 2, some 3, some 4, none, some 5, some 6, none, none, none, none] (by decide +kernel) (by rfl) (by decide +kernel) (by rfl) (by rfl)) (m_putA (ws1 := (wd_S_turns E a_t a_t_draft a_t_firstImage a_t_secondImage a_t_news a_t_otherNews a_t_readings a_t_turning a_t_text a_t_fraction a_t_now a_t_now_floor a_t_now_sightings a_t_now_level a_t_now_loss a_t_now_lexicon a_t_now_lexicon_number a_t_now_lexicon_row a_t_now_lexicon_others a_t_now_lexicon_length a_t_now_lexicon_weight a_t_now_lexicon_leastLike a_t_now_lexicon_lipsOf a_t_chances a_t_chances_heardAs a_t_chances_total a_t_chances_part a_t_chances_chance a_t_chances_before a_t_chances_below a_t_chances_below_limb a_t_chances_scaled a_t_chances_scaled_limb a_t_chances_scaledBelow a_t_chances_scaledBelow_limb r_t_chances_heardAs r_t_chances_chance r_t_chances_chance_limb r_t_chances_before r_t_chances_before_limb t_now_clearness t_now_isKept t_now_lexicon_words t_now_lexicon_rowLips t_now_lexicon_girlKnows t_now_lexicon_length t_now_lexicon_weight t_now_lexicon_leastLike t_now_lexicon_lipsOf t_chances_words'_2 t_chances_heardAs'_2 t_chances_total'_2 t_chances_part'_2 t_chances_chance_limb t_chances_chance_limbs t_chances_before_limb t_chances_before_limbs t_chances_below_limbs'_5 t_chances_below_limb'_5 t_chances_scaled_limbs t_chances_scaled_limb t_chances_scaledBelow_limbs t_chances_scaledBelow_limb)) (by simp [m_fam]) (m_putF (b := 19) rfl (by rfl) rfl) (m_putA (ws1 := (wd_S_turns E a_t a_t_draft a_t_firstImage a_t_secondImage a_t_news a_t_otherNews a_t_readings a_t_turning a_t_text a_t_fraction a_t_now a_t_now_floor a_t_now_sightings a_t_now_level a_t_now_loss a_t_now_lexicon a_t_now_lexicon_number a_t_now_lexicon_row a_t_now_lexicon_others a_t_now_lexicon_length a_t_now_lexicon_weight a_t_now_lexicon_leastLike a_t_now_lexicon_lipsOf a_t_chances a_t_chances_heardAs a_t_chances_total a_t_chances_part a_t_chances_chance a_t_chances_before a_t_chances_below a_t_chances_below_limb a_t_chances_scaled a_t_chances_scaled_limb a_t_chances_scaledBelow a_t_chances_scaledBelow_limb r_t_chances_heardAs r_t_chances_chance r_t_chances_chance_limb r_t_chances_before r_t_chances_before_limb t_now_clearness t_now_isKept t_now_lexicon_words t_now_lexicon_rowLips t_now_lexicon_girlKnows t_now_lexicon_length t_now_lexicon_weight t_now_lexicon_leastLike t_now_lexicon_lipsOf t_chances_words'_2 t_chances_heardAs'_2 t_chances_total'_2 t_chances_part'_2 t_chances_chance_limb t_chances_chance_limbs'_5 t_chances_before_limb t_chances_before_limbs t_chances_below_limbs'_5 t_chances_below_limb'_5 t_chances_scaled_limbs t_chances_scaled_limb t_chances_scaledBelow_limbs t_chances_scaledBelow_limb)) (by simp [m_fam]) (m_putF (b := 29) m_sp1 (by rfl) m_sp1) (m_putA (ws1 := (wd_S_turns E a_t a_t_draft a_t_firstImage a_t_secondImage a_t_news a_t_otherNews a_t_readings a_t_turning a_t_text a_t_fraction a_t_now a_t_now_floor a_t_now_sightings a_t_now_level a_t_now_loss a_t_now_lexicon a_t_now_lexicon_number a_t_now_lexicon_row a_t_now_lexicon_others a_t_now_lexicon_length a_t_now_lexicon_weight a_t_now_lexicon_leastLike a_t_now_lexicon_lipsOf a_t_chances a_t_chances_heardAs a_t_chances_total a_t_chances_part a_t_chances_chance a_t_chances_before a_t_chances_below a_t_chances_below_limb a_t_chances_scaled a_t_chances_scaled_limb a_t_chances_scaledBelow a_t_chances_scaledBelow_limb r_t_chances_heardAs r_t_chances_chance r_t_chances_chance_limb r_t_chances_before r_t_chances_before_limb t_now_clearness t_now_isKept t_now_lexicon_words t_now_lexicon_rowLips t_now_lexicon_girlKnows t_now_lexicon_length t_now_lexicon_weight t_now_lexicon_leastLike t_now_lexicon_lipsOf t_chances_words'_2 t_chances_heardAs'_2 t_chances_total'_2 t_chances_part'_2 t_chances_chance_limb'_5 t_chances_chance_limbs'_5 t_chances_before_limb t_chances_before_limbs t_chances_below_limbs'_5 t_chances_below_limb'_5 t_chances_scaled_limbs t_chances_scaled_limb t_chances_scaledBelow_limbs t_chances_scaledBelow_limb)) (by simp [m_fam]) (m_putF (b := 39) m_sp2 (by rfl) m_sp2) m_putn)))) 7 rfl rfl rfl (As := [.ref a_t_now_lexicon, .int t_now_clearness, .int p1]) (rest := []) rfl rfl ⟨rfl, rfl, Nat.le_of_ble_eq_true rfl, Nat.le_of_ble_eq_true rfl⟩ (Nat.le_of_ble_eq_true rfl) (Nat.zero_le _) (Nat.zero_le _) dX11_turns_56 (fun H locs hW => ?_)
        clear hC4
        refine lv_iconst (v := (1 : Int32)) hx hb dX11_turns_59 (by decide) ?_
        refine lv_istore (lv' := [(4, .int (1 : Int32)), (0, .ref a_t), (1, .int p1), (2, .int p2), (3, .int p3)]) hx hb dX11_turns_60 hl (by decide) rfl (fun ls hl => ?_)
        obtain ⟨out10, hX6, hr9, hF⟩ := bT_s10 hF
        have L5 : ∀ (k0 : Nat) (x4 : Int32) (t_chances_chance_limbs'_6 : Nat → Int32) (t_chances_chance_limb'_6 : Nat → Nat → Int32) (t_chances_before_limbs'_4 : Nat → Int32) (t_chances_before_limb'_4 : Nat → Nat → Int32) (t_chances_below_limb'_6 : Nat → Int32) (t_chances_below_limbs'_6 : Int32) (t_chances_scaled_limb'_4 : Nat → Int32) (t_chances_scaled_limbs'_4 : Int32) (t_chances_scaledBelow_limb'_4 : Nat → Int32) (t_chances_scaledBelow_limbs'_4 : Int32) (out12 : (Int32 × Int32 × (Nat → Nat → Int32) × (Nat → Int32) × (Nat → Int32) × (Nat → Nat → Int32) × (Nat → Int32) × (Nat → Nat → Int32) × (Nat → Int32) × Int32 × (Nat → Int32) × Int32 × (Nat → Int32) × Int32 × (Nat → Int32)) ⊕ ((Nat → Int32) × (Nat → Nat → Int32) × (Nat → Int32) × (Nat → Nat → Int32) × (Nat → Int32) × Int32 × (Nat → Int32) × Int32 × (Nat → Int32) × Int32))  (H : Heap) (locs : List Loc) (ls : Array Slot), S_turns_L62 N t_chances_words'_2 t_chances_heardAs'_2 t_chances_total'_2 t_chances_part'_2 p1 p2 p3 k0 x4 t_chances_chance_limbs'_6 t_chances_chance_limb'_6 t_chances_before_limbs'_4 t_chances_before_limb'_4 t_chances_below_limb'_6 t_chances_below_limbs'_6 t_chances_scaled_limb'_4 t_chances_scaled_limbs'_4 t_chances_scaledBelow_limb'_4 t_chances_scaledBelow_limbs'_4 = some out12 → m_H E A (wd_S_turns E a_t a_t_draft a_t_firstImage a_t_secondImage a_t_news a_t_otherNews a_t_readings a_t_turning a_t_text a_t_fraction a_t_now a_t_now_floor a_t_now_sightings a_t_now_level a_t_now_loss a_t_now_lexicon a_t_now_lexicon_number a_t_now_lexicon_row a_t_now_lexicon_others a_t_now_lexicon_length a_t_now_lexicon_weight a_t_now_lexicon_leastLike a_t_now_lexicon_lipsOf a_t_chances a_t_chances_heardAs a_t_chances_total a_t_chances_part a_t_chances_chance a_t_chances_before a_t_chances_below a_t_chances_below_limb a_t_chances_scaled a_t_chances_scaled_limb a_t_chances_scaledBelow a_t_chances_scaledBelow_limb r_t_chances_heardAs r_t_chances_chance r_t_chances_chance_limb r_t_chances_before r_t_chances_before_limb t_now_clearness t_now_isKept t_now_lexicon_words t_now_lexicon_rowLips t_now_lexicon_girlKnows t_now_lexicon_length t_now_lexicon_weight t_now_lexicon_leastLike t_now_lexicon_lipsOf t_chances_words'_2 t_chances_heardAs'_2 t_chances_total'_2 t_chances_part'_2 t_chances_chance_limb'_6 t_chances_chance_limbs'_6 t_chances_before_limb'_4 t_chances_before_limbs'_4 t_chances_below_limbs'_6 t_chances_below_limb'_6 t_chances_scaled_limbs'_4 t_chances_scaled_limb'_4 t_chances_scaledBelow_limbs'_4 t_chances_scaledBelow_limb'_4) s.heap H locs → lv_has ls 5 [(4, .int x4), (0, .ref a_t), (1, .int p1), (2, .int p2), (3, .int p3)] → (∀ a, out12 = .inl a → a = ures) → (∀ (t_chances_chance_limbs'_8 : Nat → Int32) (t_chances_chance_limb'_8 : Nat → Nat → Int32) (t_chances_before_limbs'_6 : Nat → Int32) (t_chances_before_limb'_6 : Nat → Nat → Int32) (t_chances_below_limb'_8 : Nat → Int32) (t_chances_below_limbs'_8 : Int32) (t_chances_scaled_limb'_6 : Nat → Int32) (t_chances_scaled_limbs'_6 : Int32) (t_chances_scaledBelow_limb'_6 : Nat → Int32) (t_chances_scaledBelow_limbs'_6 : Int32) (H : Heap) (locs : List Loc) (ls : Array Slot), out12 = .inr (t_chances_chance_limbs'_8, t_chances_chance_limb'_8, t_chances_before_limbs'_6, t_chances_before_limb'_6, t_chances_below_limb'_8, t_chances_below_limbs'_8, t_chances_scaled_limb'_6, t_chances_scaled_limbs'_6, t_chances_scaledBelow_limb'_6, t_chances_scaledBelow_limbs'_6) → m_H E A (wd_S_turns E a_t a_t_draft a_t_firstImage a_t_secondImage a_t_news a_t_otherNews a_t_readings a_t_turning a_t_text a_t_fraction a_t_now a_t_now_floor a_t_now_sightings a_t_now_level a_t_now_loss a_t_now_lexicon a_t_now_lexicon_number a_t_now_lexicon_row a_t_now_lexicon_others a_t_now_lexicon_length a_t_now_lexicon_weight a_t_now_lexicon_leastLike a_t_now_lexicon_lipsOf a_t_chances a_t_chances_heardAs a_t_chances_total a_t_chances_part a_t_chances_chance a_t_chances_before a_t_chances_below a_t_chances_below_limb a_t_chances_scaled a_t_chances_scaled_limb a_t_chances_scaledBelow a_t_chances_scaledBelow_limb r_t_chances_heardAs r_t_chances_chance r_t_chances_chance_limb r_t_chances_before r_t_chances_before_limb t_now_clearness t_now_isKept t_now_lexicon_words t_now_lexicon_rowLips t_now_lexicon_girlKnows t_now_lexicon_length t_now_lexicon_weight t_now_lexicon_leastLike t_now_lexicon_lipsOf t_chances_words'_2 t_chances_heardAs'_2 t_chances_total'_2 t_chances_part'_2 t_chances_chance_limb'_8 t_chances_chance_limbs'_8 t_chances_before_limb'_6 t_chances_before_limbs'_6 t_chances_below_limbs'_8 t_chances_below_limb'_8 t_chances_scaled_limbs'_6 t_chances_scaled_limb'_6 t_chances_scaledBelow_limbs'_6 t_chances_scaledBelow_limb'_6) s.heap H locs → lv_has ls 5 [] → W p l e rm_S_turns s m args below meth c H locs 0 0 Q (F0 m 98 ls [])) → W p l e rm_S_turns s m args below meth c H locs 0 0 Q (F0 m 62 ls []) := by
          clear hF
          intro k0
          induction k0 with
          | zero =>
            intro x4 t_chances_chance_limbs'_6 t_chances_chance_limb'_6 t_chances_before_limbs'_4 t_chances_before_limb'_4 t_chances_below_limb'_6 t_chances_below_limbs'_6 t_chances_scaled_limb'_4 t_chances_scaled_limbs'_4 t_chances_scaledBelow_limb'_4 t_chances_scaledBelow_limbs'_4 out12 H locs ls hF
            cases hF
          | succ k0 ih8 =>
            intro x4 t_chances_chance_limbs'_6 t_chances_chance_limb'_6 t_chances_before_limbs'_4 t_chances_before_limb'_4 t_chances_below_limb'_6 t_chances_below_limbs'_6 t_chances_scaled_limb'_4 t_chances_scaled_limbs'_4 t_chances_scaledBelow_limb'_4 t_chances_scaledBelow_limbs'_4 out12 H locs ls hF hW hl hr11 hk7
            rw [S_turns_L62] at hF
            refine lv_iload hx hb dX11_turns_62 (lv_at hl 0 rfl) ?_
            refine lv_bipush (v := (12 : Int32)) hx hb dX11_turns_64 (by decide) ?_
            refine lv_icmp_gt (tgt := 98) hx hb dX11_turns_66 (by decide) (fun c13 => ?_) (fun c13 => ?_)
            · have hF := if_y c13 hF
              exact hk7 t_chances_chance_limbs'_6 t_chances_chance_limb'_6 t_chances_before_limbs'_4 t_chances_before_limb'_4 t_chances_below_limb'_6 t_chances_below_limbs'_6 t_chances_scaled_limb'_4 t_chances_scaled_limbs'_4 t_chances_scaledBelow_limb'_4 t_chances_scaledBelow_limbs'_4 _ _ _ (Option.some.inj hF).symm hW (lv_sub hl [] rfl)
            · have hF := if_n c13 hF
              refine lv_aload_n hx hb dX11_turns_69 rfl (lv_at hl 1 rfl) ?_
              refine m_get X hW fdX11_45 0 rfl rfl dX11_turns_70 ?_
              obtain ⟨t_chances_chance_limb'_7, t_chances_chance_limbs'_7, t_chances_before_limb'_5, t_chances_before_limbs'_5, t_chances_below_limbs'_7, t_chances_below_limb'_7, hC14, hF⟩ := bO_s6 hF
              refine m_callV X hW hA hl.1 lkX11_215 (c_Chances_passOn l E _ N a_t_chances a_t_chances_scaled a_t_chances_scaledBelow a_t_chances_heardAs a_t_chances_total a_t_chances_part a_t_chances_chance a_t_chances_before a_t_chances_below a_t_chances_below_limb r_t_chances_heardAs r_t_chances_chance r_t_chances_chance_limb r_t_chances_before r_t_chances_before_limb t_chances_words'_2 t_chances_heardAs'_2 t_chances_total'_2 t_chances_part'_2 t_chances_chance_limb'_6 t_chances_chance_limbs'_6 t_chances_before_limb'_4 t_chances_before_limbs'_4 t_chances_below_limbs'_6 t_chances_below_limb'_6  (t_chances_chance_limb'_7, t_chances_chance_limbs'_7, t_chances_before_limb'_5, t_chances_before_limbs'_5, t_chances_below_limbs'_7, t_chances_below_limb'_7) hC14) ([7, 8, 9, 10, 11, 12, 13, 14] ++ ((List.range 10).map (fun i => 19 + i) ++ ((List.range 10).map (fun i => 29 + i) ++ ((List.range 10).map (fun i => 39 + i) ++ ((List.range 10).map (fun i => 49 + i) ++ ((List.range 10).map (fun i => 59 + i) ++ [])))))) (by decide +kernel) (m_CA (by rfl) (m_CA (m_CF (b := 19) rfl (by rfl)) (m_CA (m_CF (b := 29) m_sp1 (by rfl)) (m_CA (m_CF (b := 39) m_sp2 (by rfl)) (m_CA (m_CF (b := 49) m_sp3 (by rfl)) (m_CA (m_CF (b := 59) m_sp4 (by rfl)) m_Cn)))))) (by simp [m_fam]) (ws' := (wd_S_turns E a_t a_t_draft a_t_firstImage a_t_secondImage a_t_news a_t_otherNews a_t_readings a_t_turning a_t_text a_t_fraction a_t_now a_t_now_floor a_t_now_sightings a_t_now_level a_t_now_loss a_t_now_lexicon a_t_now_lexicon_number a_t_now_lexicon_row a_t_now_lexicon_others a_t_now_lexicon_length a_t_now_lexicon_weight a_t_now_lexicon_leastLike a_t_now_lexicon_lipsOf a_t_chances a_t_chances_heardAs a_t_chances_total a_t_chances_part a_t_chances_chance a_t_chances_before a_t_chances_below a_t_chances_below_limb a_t_chances_scaled a_t_chances_scaled_limb a_t_chances_scaledBelow a_t_chances_scaledBelow_limb r_t_chances_heardAs r_t_chances_chance r_t_chances_chance_limb r_t_chances_before r_t_chances_before_limb t_now_clearness t_now_isKept t_now_lexicon_words t_now_lexicon_rowLips t_now_lexicon_girlKnows t_now_lexicon_length t_now_lexicon_weight t_now_lexicon_leastLike t_now_lexicon_lipsOf t_chances_words'_2 t_chances_heardAs'_2 t_chances_total'_2 t_chances_part'_2 t_chances_chance_limb'_7 t_chances_chance_limbs'_7 t_chances_before_limb'_5 t_chances_before_limbs'_5 t_chances_below_limbs'_7 t_chances_below_limb'_7 t_chances_scaled_limbs'_4 t_chances_scaled_limb'_4 t_chances_scaledBelow_limbs'_4 t_chances_scaledBelow_limb'_4)) (m_putA (ws1 := (wd_S_turns E a_t a_t_draft a_t_firstImage a_t_secondImage a_t_news a_t_otherNews a_t_readings a_t_turning a_t_text a_t_fraction a_t_now a_t_now_floor a_t_now_sightings a_t_now_level a_t_now_loss a_t_now_lexicon a_t_now_lexicon_number a_t_now_lexicon_row a_t_now_lexicon_others a_t_now_lexicon_length a_t_now_lexicon_weight a_t_now_lexicon_leastLike a_t_now_lexicon_lipsOf a_t_chances a_t_chances_heardAs a_t_chances_total a_t_chances_part a_t_chances_chance a_t_chances_before a_t_chances_below a_t_chances_below_limb a_t_chances_scaled a_t_chances_scaled_limb a_t_chances_scaledBelow a_t_chances_scaledBelow_limb r_t_chances_heardAs r_t_chances_chance r_t_chances_chance_limb r_t_chances_before r_t_chances_before_limb t_now_clearness t_now_isKept t_now_lexicon_words t_now_lexicon_rowLips t_now_lexicon_girlKnows t_now_lexicon_length t_now_lexicon_weight t_now_lexicon_leastLike t_now_lexicon_lipsOf t_chances_words'_2 t_chances_heardAs'_2 t_chances_total'_2 t_chances_part'_2 t_chances_chance_limb'_6 t_chances_chance_limbs'_6 t_chances_before_limb'_4 t_chances_before_limbs'_4 t_chances_below_limbs'_7 t_chances_below_limb'_7 t_chances_scaled_limbs'_4 t_chances_scaled_limb'_4 t_chances_scaledBelow_limbs'_4 t_chances_scaledBelow_limb'_4)) (by rfl) (by rfl) (m_putA (ws1 := (wd_S_turns E a_t a_t_draft a_t_firstImage a_t_secondImage a_t_news a_t_otherNews a_t_readings a_t_turning a_t_text a_t_fraction a_t_now a_t_now_floor a_t_now_sightings a_t_now_level a_t_now_loss a_t_now_lexicon a_t_now_lexicon_number a_t_now_lexicon_row a_t_now_lexicon_others a_t_now_lexicon_length a_t_now_lexicon_weight a_t_now_lexicon_leastLike a_t_now_lexicon_lipsOf a_t_chances a_t_chances_heardAs a_t_chances_total a_t_chances_part a_t_chances_chance a_t_chances_before a_t_chances_below a_t_chances_below_limb a_t_chances_scaled a_t_chances_scaled_limb a_t_chances_scaledBelow a_t_chances_scaledBelow_limb r_t_chances_heardAs r_t_chances_chance r_t_chances_chance_limb r_t_chances_before r_t_chances_before_limb t_now_clearness t_now_isKept t_now_lexicon_words t_now_lexicon_rowLips t_now_lexicon_girlKnows t_now_lexicon_length t_now_lexicon_weight t_now_lexicon_leastLike t_now_lexicon_lipsOf t_chances_words'_2 t_chances_heardAs'_2 t_chances_total'_2 t_chances_part'_2 t_chances_chance_limb'_6 t_chances_chance_limbs'_6 t_chances_before_limb'_4 t_chances_before_limbs'_4 t_chances_below_limbs'_7 t_chances_below_limb'_7 t_chances_scaled_limbs'_4 t_chances_scaled_limb'_4 t_chances_scaledBelow_limbs'_4 t_chances_scaledBelow_limb'_4)) (by simp [m_fam]) (m_putF (b := 19) rfl (by rfl) rfl) (m_putA (ws1 := (wd_S_turns E a_t a_t_draft a_t_firstImage a_t_secondImage a_t_news a_t_otherNews a_t_readings a_t_turning a_t_text a_t_fraction a_t_now a_t_now_floor a_t_now_sightings a_t_now_level a_t_now_loss a_t_now_lexicon a_t_now_lexicon_number a_t_now_lexicon_row a_t_now_lexicon_others a_t_now_lexicon_length a_t_now_lexicon_weight a_t_now_lexicon_leastLike a_t_now_lexicon_lipsOf a_t_chances a_t_chances_heardAs a_t_chances_total a_t_chances_part a_t_chances_chance a_t_chances_before a_t_chances_below a_t_chances_below_limb a_t_chances_scaled a_t_chances_scaled_limb a_t_chances_scaledBelow a_t_chances_scaledBelow_limb r_t_chances_heardAs r_t_chances_chance r_t_chances_chance_limb r_t_chances_before r_t_chances_before_limb t_now_clearness t_now_isKept t_now_lexicon_words t_now_lexicon_rowLips t_now_lexicon_girlKnows t_now_lexicon_length t_now_lexicon_weight t_now_lexicon_leastLike t_now_lexicon_lipsOf t_chances_words'_2 t_chances_heardAs'_2 t_chances_total'_2 t_chances_part'_2 t_chances_chance_limb'_6 t_chances_chance_limbs'_7 t_chances_before_limb'_4 t_chances_before_limbs'_4 t_chances_below_limbs'_7 t_chances_below_limb'_7 t_chances_scaled_limbs'_4 t_chances_scaled_limb'_4 t_chances_scaledBelow_limbs'_4 t_chances_scaledBelow_limb'_4)) (by simp [m_fam]) (m_putF (b := 29) m_sp1 (by rfl) m_sp1) (m_putA (ws1 := (wd_S_turns E a_t a_t_draft a_t_firstImage a_t_secondImage a_t_news a_t_otherNews a_t_readings a_t_turning a_t_text a_t_fraction a_t_now a_t_now_floor a_t_now_sightings a_t_now_level a_t_now_loss a_t_now_lexicon a_t_now_lexicon_number a_t_now_lexicon_row a_t_now_lexicon_others a_t_now_lexicon_length a_t_now_lexicon_weight a_t_now_lexicon_leastLike a_t_now_lexicon_lipsOf a_t_chances a_t_chances_heardAs a_t_chances_total a_t_chances_part a_t_chances_chance a_t_chances_before a_t_chances_below a_t_chances_below_limb a_t_chances_scaled a_t_chances_scaled_limb a_t_chances_scaledBelow a_t_chances_scaledBelow_limb r_t_chances_heardAs r_t_chances_chance r_t_chances_chance_limb r_t_chances_before r_t_chances_before_limb t_now_clearness t_now_isKept t_now_lexicon_words t_now_lexicon_rowLips t_now_lexicon_girlKnows t_now_lexicon_length t_now_lexicon_weight t_now_lexicon_leastLike t_now_lexicon_lipsOf t_chances_words'_2 t_chances_heardAs'_2 t_chances_total'_2 t_chances_part'_2 t_chances_chance_limb'_7 t_chances_chance_limbs'_7 t_chances_before_limb'_4 t_chances_before_limbs'_4 t_chances_below_limbs'_7 t_chances_below_limb'_7 t_chances_scaled_limbs'_4 t_chances_scaled_limb'_4 t_chances_scaledBelow_limbs'_4 t_chances_scaledBelow_limb'_4)) (by simp [m_fam]) (m_putF (b := 39) m_sp2 (by rfl) m_sp2) (m_putA (ws1 := (wd_S_turns E a_t a_t_draft a_t_firstImage a_t_secondImage a_t_news a_t_otherNews a_t_readings a_t_turning a_t_text a_t_fraction a_t_now a_t_now_floor a_t_now_sightings a_t_now_level a_t_now_loss a_t_now_lexicon a_t_now_lexicon_number a_t_now_lexicon_row a_t_now_lexicon_others a_t_now_lexicon_length a_t_now_lexicon_weight a_t_now_lexicon_leastLike a_t_now_lexicon_lipsOf a_t_chances a_t_chances_heardAs a_t_chances_total a_t_chances_part a_t_chances_chance a_t_chances_before a_t_chances_below a_t_chances_below_limb a_t_chances_scaled a_t_chances_scaled_limb a_t_chances_scaledBelow a_t_chances_scaledBelow_limb r_t_chances_heardAs r_t_chances_chance r_t_chances_chance_limb r_t_chances_before r_t_chances_before_limb t_now_clearness t_now_isKept t_now_lexicon_words t_now_lexicon_rowLips t_now_lexicon_girlKnows t_now_lexicon_length t_now_lexicon_weight t_now_lexicon_leastLike t_now_lexicon_lipsOf t_chances_words'_2 t_chances_heardAs'_2 t_chances_total'_2 t_chances_part'_2 t_chances_chance_limb'_7 t_chances_chance_limbs'_7 t_chances_before_limb'_4 t_chances_before_limbs'_5 t_chances_below_limbs'_7 t_chances_below_limb'_7 t_chances_scaled_limbs'_4 t_chances_scaled_limb'_4 t_chances_scaledBelow_limbs'_4 t_chances_scaledBelow_limb'_4)) (by simp [m_fam]) (m_putF (b := 49) m_sp3 (by rfl) m_sp3) (m_putA (ws1 := (wd_S_turns E a_t a_t_draft a_t_firstImage a_t_secondImage a_t_news a_t_otherNews a_t_readings a_t_turning a_t_text a_t_fraction a_t_now a_t_now_floor a_t_now_sightings a_t_now_level a_t_now_loss a_t_now_lexicon a_t_now_lexicon_number a_t_now_lexicon_row a_t_now_lexicon_others a_t_now_lexicon_length a_t_now_lexicon_weight a_t_now_lexicon_leastLike a_t_now_lexicon_lipsOf a_t_chances a_t_chances_heardAs a_t_chances_total a_t_chances_part a_t_chances_chance a_t_chances_before a_t_chances_below a_t_chances_below_limb a_t_chances_scaled a_t_chances_scaled_limb a_t_chances_scaledBelow a_t_chances_scaledBelow_limb r_t_chances_heardAs r_t_chances_chance r_t_chances_chance_limb r_t_chances_before r_t_chances_before_limb t_now_clearness t_now_isKept t_now_lexicon_words t_now_lexicon_rowLips t_now_lexicon_girlKnows t_now_lexicon_length t_now_lexicon_weight t_now_lexicon_leastLike t_now_lexicon_lipsOf t_chances_words'_2 t_chances_heardAs'_2 t_chances_total'_2 t_chances_part'_2 t_chances_chance_limb'_7 t_chances_chance_limbs'_7 t_chances_before_limb'_5 t_chances_before_limbs'_5 t_chances_below_limbs'_7 t_chances_below_limb'_7 t_chances_scaled_limbs'_4 t_chances_scaled_limb'_4 t_chances_scaledBelow_limbs'_4 t_chances_scaledBelow_limb'_4)) (by simp [m_fam]) (m_putF (b := 59) m_sp4 (by rfl) m_sp4) m_putn)))))) 7 rfl rfl rfl (As := []) (rest := []) rfl rfl ⟨rfl, rfl, Nat.le_of_ble_eq_true rfl, Nat.le_of_ble_eq_true rfl⟩ (Nat.le_of_ble_eq_true rfl) (Nat.zero_le _) (Nat.zero_le _) dX11_turns_73 (fun H locs hW => ?_)
              clear hC14
              refine lv_aload_n hx hb dX11_turns_76 rfl (lv_at hl 1 rfl) ?_
              refine m_get X hW fdX11_45 0 rfl rfl dX11_turns_77 ?_
              refine lv_iload_n hx hb dX11_turns_80 rfl (lv_at hl 2 rfl) ?_
              refine lv_iload_n hx hb dX11_turns_81 rfl (lv_at hl 3 rfl) ?_
              refine lv_iload_n hx hb dX11_turns_82 rfl (lv_at hl 4 rfl) ?_
              obtain ⟨r83, t_chances_scaled_limbs'_5, t_chances_scaled_limb'_5, t_chances_scaledBelow_limbs'_5, t_chances_scaledBelow_limb'_5, hC15, hF⟩ := bO_s5 hF
              refine m_callV X hW hA hl.1 lkX11_222 (c_Chances_isBelow l E _ N a_t_chances a_t_chances_heardAs a_t_chances_total a_t_chances_part a_t_chances_before a_t_chances_chance a_t_chances_below a_t_chances_below_limb a_t_chances_scaled a_t_chances_scaled_limb a_t_chances_scaledBelow a_t_chances_scaledBelow_limb r_t_chances_chance r_t_chances_chance_limb t_chances_words'_2 t_chances_chance_limb'_7 t_chances_chance_limbs'_7 t_chances_below_limbs'_7 t_chances_below_limb'_7 t_chances_scaled_limbs'_4 t_chances_scaled_limb'_4 t_chances_scaledBelow_limbs'_4 t_chances_scaledBelow_limb'_4 p1 p2 p3 (r83, t_chances_scaled_limbs'_5, t_chances_scaled_limb'_5, t_chances_scaledBelow_limbs'_5, t_chances_scaledBelow_limb'_5) hC15) ([7, 11, 13, 14, 15, 16, 17, 18] ++ ((List.range 10).map (fun i => 29 + i) ++ ((List.range 10).map (fun i => 39 + i) ++ []))) (by decide +kernel) (m_CA (by rfl) (m_CA (m_CF (b := 29) m_sp1 (by rfl)) (m_CA (m_CF (b := 39) m_sp2 (by rfl)) m_Cn))) (by simp [m_fam]) (ws' := (wd_S_turns E a_t a_t_draft a_t_firstImage a_t_secondImage a_t_news a_t_otherNews a_t_readings a_t_turning a_t_text a_t_fraction a_t_now a_t_now_floor a_t_now_sightings a_t_now_level a_t_now_loss a_t_now_lexicon a_t_now_lexicon_number a_t_now_lexicon_row a_t_now_lexicon_others a_t_now_lexicon_length a_t_now_lexicon_weight a_t_now_lexicon_leastLike a_t_now_lexicon_lipsOf a_t_chances a_t_chances_heardAs a_t_chances_total a_t_chances_part a_t_chances_chance a_t_chances_before a_t_chances_below a_t_chances_below_limb a_t_chances_scaled a_t_chances_scaled_limb a_t_chances_scaledBelow a_t_chances_scaledBelow_limb r_t_chances_heardAs r_t_chances_chance r_t_chances_chance_limb r_t_chances_before r_t_chances_before_limb t_now_clearness t_now_isKept t_now_lexicon_words t_now_lexicon_rowLips t_now_lexicon_girlKnows t_now_lexicon_length t_now_lexicon_weight t_now_lexicon_leastLike t_now_lexicon_lipsOf t_chances_words'_2 t_chances_heardAs'_2 t_chances_total'_2 t_chances_part'_2 t_chances_chance_limb'_7 t_chances_chance_limbs'_7 t_chances_before_limb'_5 t_chances_before_limbs'_5 t_chances_below_limbs'_7 t_chances_below_limb'_7 t_chances_scaled_limbs'_5 t_chances_scaled_limb'_5 t_chances_scaledBelow_limbs'_5 t_chances_scaledBelow_limb'_5)) (m_putA (ws1 := (wd_S_turns E a_t a_t_draft a_t_firstImage a_t_secondImage a_t_news a_t_otherNews a_t_readings a_t_turning a_t_text a_t_fraction a_t_now a_t_now_floor a_t_now_sightings a_t_now_level a_t_now_loss a_t_now_lexicon a_t_now_lexicon_number a_t_now_lexicon_row a_t_now_lexicon_others a_t_now_lexicon_length a_t_now_lexicon_weight a_t_now_lexicon_leastLike a_t_now_lexicon_lipsOf a_t_chances a_t_chances_heardAs a_t_chances_total a_t_chances_part a_t_chances_chance a_t_chances_before a_t_chances_below a_t_chances_below_limb a_t_chances_scaled a_t_chances_scaled_limb a_t_chances_scaledBelow a_t_chances_scaledBelow_limb r_t_chances_heardAs r_t_chances_chance r_t_chances_chance_limb r_t_chances_before r_t_chances_before_limb t_now_clearness t_now_isKept t_now_lexicon_words t_now_lexicon_rowLips t_now_lexicon_girlKnows t_now_lexicon_length t_now_lexicon_weight t_now_lexicon_leastLike t_now_lexicon_lipsOf t_chances_words'_2 t_chances_heardAs'_2 t_chances_total'_2 t_chances_part'_2 t_chances_chance_limb'_7 t_chances_chance_limbs'_7 t_chances_before_limb'_5 t_chances_before_limbs'_5 t_chances_below_limbs'_7 t_chances_below_limb'_7 t_chances_scaled_limbs'_5 t_chances_scaled_limb'_5 t_chances_scaledBelow_limbs'_5 t_chances_scaledBelow_limb'_5)) (by rfl) (by rfl) (m_putA (ws1 := (wd_S_turns E a_t a_t_draft a_t_firstImage a_t_secondImage a_t_news a_t_otherNews a_t_readings a_t_turning a_t_text a_t_fraction a_t_now a_t_now_floor a_t_now_sightings a_t_now_level a_t_now_loss a_t_now_lexicon a_t_now_lexicon_number a_t_now_lexicon_row a_t_now_lexicon_others a_t_now_lexicon_length a_t_now_lexicon_weight a_t_now_lexicon_leastLike a_t_now_lexicon_lipsOf a_t_chances a_t_chances_heardAs a_t_chances_total a_t_chances_part a_t_chances_chance a_t_chances_before a_t_chances_below a_t_chances_below_limb a_t_chances_scaled a_t_chances_scaled_limb a_t_chances_scaledBelow a_t_chances_scaledBelow_limb r_t_chances_heardAs r_t_chances_chance r_t_chances_chance_limb r_t_chances_before r_t_chances_before_limb t_now_clearness t_now_isKept t_now_lexicon_words t_now_lexicon_rowLips t_now_lexicon_girlKnows t_now_lexicon_length t_now_lexicon_weight t_now_lexicon_leastLike t_now_lexicon_lipsOf t_chances_words'_2 t_chances_heardAs'_2 t_chances_total'_2 t_chances_part'_2 t_chances_chance_limb'_7 t_chances_chance_limbs'_7 t_chances_before_limb'_5 t_chances_before_limbs'_5 t_chances_below_limbs'_7 t_chances_below_limb'_7 t_chances_scaled_limbs'_5 t_chances_scaled_limb'_5 t_chances_scaledBelow_limbs'_5 t_chances_scaledBelow_limb'_5)) (by simp [m_fam]) (m_putF (b := 29) m_sp1 (by rfl) m_sp1) (m_putA (ws1 := (wd_S_turns E a_t a_t_draft a_t_firstImage a_t_secondImage a_t_news a_t_otherNews a_t_readings a_t_turning a_t_text a_t_fraction a_t_now a_t_now_floor a_t_now_sightings a_t_now_level a_t_now_loss a_t_now_lexicon a_t_now_lexicon_number a_t_now_lexicon_row a_t_now_lexicon_others a_t_now_lexicon_length a_t_now_lexicon_weight a_t_now_lexicon_leastLike a_t_now_lexicon_lipsOf a_t_chances a_t_chances_heardAs a_t_chances_total a_t_chances_part a_t_chances_chance a_t_chances_before a_t_chances_below a_t_chances_below_limb a_t_chances_scaled a_t_chances_scaled_limb a_t_chances_scaledBelow a_t_chances_scaledBelow_limb r_t_chances_heardAs r_t_chances_chance r_t_chances_chance_limb r_t_chances_before r_t_chances_before_limb t_now_clearness t_now_isKept t_now_lexicon_words t_now_lexicon_rowLips t_now_lexicon_girlKnows t_now_lexicon_length t_now_lexicon_weight t_now_lexicon_leastLike t_now_lexicon_lipsOf t_chances_words'_2 t_chances_heardAs'_2 t_chances_total'_2 t_chances_part'_2 t_chances_chance_limb'_7 t_chances_chance_limbs'_7 t_chances_before_limb'_5 t_chances_before_limbs'_5 t_chances_below_limbs'_7 t_chances_below_limb'_7 t_chances_scaled_limbs'_5 t_chances_scaled_limb'_5 t_chances_scaledBelow_limbs'_5 t_chances_scaledBelow_limb'_5)) (by simp [m_fam]) (m_putF (b := 39) m_sp2 (by rfl) m_sp2) m_putn))) 7 rfl rfl rfl (As := [.int p1, .int p2, .int p3]) (rest := []) rfl rfl ⟨rfl, rfl, Nat.le_of_ble_eq_true rfl, Nat.le_of_ble_eq_true rfl⟩ (Nat.le_of_ble_eq_true rfl) (Nat.zero_le _) (Nat.zero_le _) dX11_turns_83 (fun H locs hW => ?_)
              clear hC15
              refine lv_if_eq (tgt := 92) hx hb dX11_turns_86 (by decide) (fun c16 => ?_) (fun c16 => ?_)
              · have hF := if_y c16 hF
                refine lv_iinc (v := (x4 + (1 : Int32))) (lv' := [(4, .int (x4 + (1 : Int32))), (0, .ref a_t), (1, .int p1), (2, .int p2), (3, .int p3)]) hx hb dX11_turns_92 hl (k := 0) rfl rfl (by decide) rfl (fun ls hl => ?_)
                refine lv_goto (tgt := 62) hx hb dX11_turns_95 (by decide) ?_
                exact ih8 (x4 + (1 : Int32)) t_chances_chance_limbs'_7 t_chances_chance_limb'_7 t_chances_before_limbs'_5 t_chances_before_limb'_5 t_chances_below_limb'_7 t_chances_below_limbs'_7 t_chances_scaled_limb'_5 t_chances_scaled_limbs'_5 t_chances_scaledBelow_limb'_5 t_chances_scaledBelow_limbs'_5 out12 _ _ _ hF hW (lv_sub hl [0, 1, 2, 3, 4] rfl) hr11 hk7
              · have hF := if_n c16 hF
                refine lv_iload hx hb dX11_turns_89 (lv_at hl 0 rfl) ?_
                have hq := (Option.some.inj hF).symm
                have hq := hr11 _ hq
                subst hq
                exact hret _ _ _ _ hW dX11_turns_91
        refine L5 N (1 : Int32) t_chances_chance_limbs'_5 t_chances_chance_limb'_5 t_chances_before_limbs t_chances_before_limb t_chances_below_limb'_5 t_chances_below_limbs'_5 t_chances_scaled_limb t_chances_scaled_limbs t_chances_scaledBelow_limb t_chances_scaledBelow_limbs out10 _ _ _ hX6 hW (lv_sub hl [0, 1, 2, 3, 4] rfl) hr9 ?_
        intro t_chances_chance_limbs'_8 t_chances_chance_limb'_8 t_chances_before_limbs'_6 t_chances_before_limb'_6 t_chances_below_limb'_8 t_chances_below_limbs'_8 t_chances_scaled_limb'_6 t_chances_scaled_limbs'_6 t_chances_scaledBelow_limb'_6 t_chances_scaledBelow_limbs'_6 H locs ls ho hW hl
        have hF := hF t_chances_chance_limbs'_8 t_chances_chance_limb'_8 t_chances_before_limbs'_6 t_chances_before_limb'_6 t_chances_below_limb'_8 t_chances_below_limbs'_8 t_chances_scaled_limb'_6 t_chances_scaled_limbs'_6 t_chances_scaledBelow_limb'_6 t_chances_scaledBelow_limbs'_6 ho
        clear L5
        refine lv_iconst (v := (-1 : Int32)) hx hb dX11_turns_98 (by decide) ?_
        have hq := Option.some.inj hF
        subst hq
        exact hret _ _ _ _ hW dX11_turns_99
      · have hF := if_y c3 hF
        refine lv_bipush (v := (-10 : Int32)) hx hb dX11_turns_34 (by decide) ?_
        have hq := Option.some.inj hF
        subst hq
        exact hret _ _ _ _ hW dX11_turns_36
abbrev wd_S_girl (E : m_E) (a_t : Nat) (a_t_draft : Nat) (a_t_firstImage : Nat) (a_t_secondImage : Nat) (a_t_news : Nat) (a_t_otherNews : Nat) (a_t_readings : Nat) (a_t_chances : Nat) (a_t_turning : Nat) (a_t_text : Nat) (a_t_fraction : Nat) (a_t_now : Nat) (a_t_now_floor : Nat) (a_t_now_sightings : Nat) (a_t_now_level : Nat) (a_t_now_loss : Nat) (a_t_now_lexicon : Nat) (a_t_now_lexicon_length : Nat) (a_t_now_lexicon_number : Nat) (a_t_now_lexicon_weight : Nat) (a_t_now_lexicon_leastLike : Nat) (a_t_now_lexicon_row : Nat) (a_t_now_lexicon_lipsOf : Nat) (a_t_now_lexicon_others : Nat) (t_now_clearness : Int32) (t_now_isKept : Int32) (t_now_lexicon_words : Int32) (t_now_lexicon_rowLips : Int32) (t_now_lexicon_girlKnows : Int32) : va_W := [(a_t, .inr (11, [.ref a_t_now, .ref a_t_draft, .ref a_t_firstImage, .ref a_t_secondImage, .ref a_t_news, .ref a_t_otherNews, .ref a_t_readings, .ref a_t_chances, .ref a_t_turning, .ref a_t_text, .ref a_t_fraction])), (a_t_now, .inr (7, [.ref a_t_now_floor, .ref a_t_now_sightings, .ref a_t_now_lexicon, .ref a_t_now_level, .ref a_t_now_loss, .int t_now_clearness, .int t_now_isKept])), (a_t_now_lexicon, .inr (3, [.int t_now_lexicon_words, .ref a_t_now_lexicon_length, .ref a_t_now_lexicon_number, .ref a_t_now_lexicon_weight, .ref a_t_now_lexicon_leastLike, .ref a_t_now_lexicon_row, .int t_now_lexicon_rowLips, .int t_now_lexicon_girlKnows, .ref a_t_now_lexicon_lipsOf, .ref a_t_now_lexicon_others]))]
def rm_S_girl : Room := { frames := 2, cells := 0, slots := 0, locals := 43 }
set_option maxHeartbeats 4000000 in
set_option maxRecDepth 100000 in
theorem c_S_girl (l : Launch) (E : m_E) (sz N : Nat) (a_t : Nat) (a_t_draft : Nat) (a_t_firstImage : Nat) (a_t_secondImage : Nat) (a_t_news : Nat) (a_t_otherNews : Nat) (a_t_readings : Nat) (a_t_chances : Nat) (a_t_turning : Nat) (a_t_text : Nat) (a_t_fraction : Nat) (a_t_now : Nat) (a_t_now_floor : Nat) (a_t_now_sightings : Nat) (a_t_now_level : Nat) (a_t_now_loss : Nat) (a_t_now_lexicon : Nat) (a_t_now_lexicon_length : Nat) (a_t_now_lexicon_number : Nat) (a_t_now_lexicon_weight : Nat) (a_t_now_lexicon_leastLike : Nat) (a_t_now_lexicon_row : Nat) (a_t_now_lexicon_lipsOf : Nat) (a_t_now_lexicon_others : Nat) (t_now_clearness : Int32) (t_now_isKept : Int32) (t_now_lexicon_words : Int32) (t_now_lexicon_rowLips : Int32) (t_now_lexicon_girlKnows : Int32) (p1 : Int32) (ures : Int32 × Int32) (hF : F_S_girl p1 t_now_lexicon_words t_now_lexicon_girlKnows = some ures) : m_Met l yX11_girl cX11_girl 3 (some .int) rm_S_girl E (wd_S_girl E a_t a_t_draft a_t_firstImage a_t_secondImage a_t_news a_t_otherNews a_t_readings a_t_chances a_t_turning a_t_text a_t_fraction a_t_now a_t_now_floor a_t_now_sightings a_t_now_level a_t_now_loss a_t_now_lexicon a_t_now_lexicon_length a_t_now_lexicon_number a_t_now_lexicon_weight a_t_now_lexicon_leastLike a_t_now_lexicon_row a_t_now_lexicon_lipsOf a_t_now_lexicon_others t_now_clearness t_now_isKept t_now_lexicon_words t_now_lexicon_rowLips t_now_lexicon_girlKnows) (wd_S_girl E a_t a_t_draft a_t_firstImage a_t_secondImage a_t_news a_t_otherNews a_t_readings a_t_chances a_t_turning a_t_text a_t_fraction a_t_now a_t_now_floor a_t_now_sightings a_t_now_level a_t_now_loss a_t_now_lexicon a_t_now_lexicon_length a_t_now_lexicon_number a_t_now_lexicon_weight a_t_now_lexicon_leastLike a_t_now_lexicon_row a_t_now_lexicon_lipsOf a_t_now_lexicon_others t_now_clearness t_now_isKept t_now_lexicon_words t_now_lexicon_rowLips ures.2) sz [.ref a_t, .int p1] (some (.int ures.1)) := by
  refine m_ofI (by decide) (Nat.le_of_ble_eq_true rfl) ?_
  intro p e s m args below meth c A Q ls X hW hA hl hret
  obtain ⟨hx, hb, -, hown, hts, hK, -, hG⟩ := id X
  have hl : lv_has ls 3 [(0, .ref a_t), (1, .int p1)] := hl
  unfold F_S_girl at hF
  refine lv_aload_n hx hb dX11_girl_0 rfl (lv_at hl 0 rfl) ?_
  refine m_get X hW fdX11_10 0 rfl rfl dX11_girl_1 ?_
  refine m_get X hW fdX11_156 1 rfl rfl dX11_girl_4 ?_
  refine lv_iload_n hx hb dX11_girl_7 rfl (lv_at hl 1 rfl) ?_
  refine m_callV X hW hA hl.1 lkX11_196 (c_Lexicon_areWords l E _ N a_t_now_lexicon a_t_now_lexicon_length a_t_now_lexicon_number a_t_now_lexicon_weight a_t_now_lexicon_leastLike a_t_now_lexicon_row a_t_now_lexicon_lipsOf a_t_now_lexicon_others t_now_lexicon_words t_now_lexicon_rowLips t_now_lexicon_girlKnows p1 (F_Lexicon_areWords p1 t_now_lexicon_words) rfl) ([2]) (by decide) rfl rfl (ws' := (wd_S_girl E a_t a_t_draft a_t_firstImage a_t_secondImage a_t_news a_t_otherNews a_t_readings a_t_chances a_t_turning a_t_text a_t_fraction a_t_now a_t_now_floor a_t_now_sightings a_t_now_level a_t_now_loss a_t_now_lexicon a_t_now_lexicon_length a_t_now_lexicon_number a_t_now_lexicon_weight a_t_now_lexicon_leastLike a_t_now_lexicon_row a_t_now_lexicon_lipsOf a_t_now_lexicon_others t_now_clearness t_now_isKept t_now_lexicon_words t_now_lexicon_rowLips t_now_lexicon_girlKnows)) rfl 2 rfl rfl rfl (As := [.int p1]) (rest := []) rfl rfl ⟨rfl, rfl, Nat.le_of_ble_eq_true rfl, Nat.le_of_ble_eq_true rfl⟩ (Nat.le_of_ble_eq_true rfl) (Nat.zero_le _) (Nat.zero_le _) dX11_girl_8 (fun H locs hW => ?_)
  refine lv_if_ne (tgt := 17) hx hb dX11_girl_11 (by decide) (fun c1 => ?_) (fun c1 => ?_)
  · have hF := if_n c1 hF
    refine lv_aload_n hx hb dX11_girl_17 rfl (lv_at hl 0 rfl) ?_
    refine m_get X hW fdX11_10 0 rfl rfl dX11_girl_18 ?_
    refine m_get X hW fdX11_156 1 rfl rfl dX11_girl_21 ?_
    refine m_get X hW fdX11_225 2 rfl rfl dX11_girl_24 ?_
    refine lv_istore_n (lv' := [(2, .int t_now_lexicon_girlKnows), (0, .ref a_t), (1, .int p1)]) hx hb dX11_girl_27 rfl hl (by decide) rfl (fun ls hl => ?_)
    refine lv_aload_n hx hb dX11_girl_28 rfl (lv_at hl 1 rfl) ?_
    refine m_get X hW fdX11_10 0 rfl rfl dX11_girl_29 ?_
    refine m_get X hW fdX11_156 1 rfl rfl dX11_girl_32 ?_
    refine lv_iload_n hx hb dX11_girl_35 rfl (lv_at hl 2 rfl) ?_
    refine m_putf X hW fdX11_225 2 rfl (Nat.le_of_ble_eq_true rfl) rfl rfl dX11_girl_36 (ws' := (wd_S_girl E a_t a_t_draft a_t_firstImage a_t_secondImage a_t_news a_t_otherNews a_t_readings a_t_chances a_t_turning a_t_text a_t_fraction a_t_now a_t_now_floor a_t_now_sightings a_t_now_level a_t_now_loss a_t_now_lexicon a_t_now_lexicon_length a_t_now_lexicon_number a_t_now_lexicon_weight a_t_now_lexicon_leastLike a_t_now_lexicon_row a_t_now_lexicon_lipsOf a_t_now_lexicon_others t_now_clearness t_now_isKept t_now_lexicon_words t_now_lexicon_rowLips p1)) rfl (fun H locs hW => ?_)
    refine lv_iload_n hx hb dX11_girl_39 rfl (lv_at hl 0 rfl) ?_
    have hq := Option.some.inj hF
    subst hq
    exact hret _ _ _ _ hW dX11_girl_40
  · have hF := if_y c1 hF
    refine lv_bipush (v := (-2 : Int32)) hx hb dX11_girl_14 (by decide) ?_
    have hq := Option.some.inj hF
    subst hq
    exact hret _ _ _ _ hW dX11_girl_16
abbrev wd_Lexicon_findBetterAlike (E : m_E) (a_t : Nat) (a_t_number : Nat) (a_t_row : Nat) (a_t_length : Nat) (a_t_weight : Nat) (a_t_leastLike : Nat) (a_t_lipsOf : Nat) (a_t_others : Nat) (t_words : Int32) (t_rowLips : Int32) (t_girlKnows : Int32) (t_length : Nat → Int32) (t_weight : Nat → Int32) (t_leastLike : Nat → Int32) (t_lipsOf : Nat → Int32) (t_others : Nat → Int32) : va_W := [(a_t, .inr (3, [.int t_words, .ref a_t_length, .ref a_t_number, .ref a_t_weight, .ref a_t_leastLike, .ref a_t_row, .int t_rowLips, .int t_girlKnows, .ref a_t_lipsOf, .ref a_t_others])), (a_t_length, .inl (E.2.1 0, 10, .inl t_length)), (a_t_weight, .inl (E.2.1 0, 10, .inl t_weight)), (a_t_leastLike, .inl (E.2.1 0, 6, .inl t_leastLike)), (a_t_lipsOf, .inl (E.2.1 0, 60, .inl t_lipsOf)), (a_t_others, .inl (E.2.1 0, 10, .inl t_others))]
def rm_Lexicon_findBetterAlike : Room := { frames := 3, cells := 0, slots := 0, locals := 68 }
set_option maxHeartbeats 4000000 in
set_option maxRecDepth 100000 in
theorem c_Lexicon_findBetterAlike (l : Launch) (E : m_E) (sz N : Nat) (a_t : Nat) (a_t_number : Nat) (a_t_row : Nat) (a_t_length : Nat) (a_t_weight : Nat) (a_t_leastLike : Nat) (a_t_lipsOf : Nat) (a_t_others : Nat) (t_words : Int32) (t_rowLips : Int32) (t_girlKnows : Int32) (t_length : Nat → Int32) (t_weight : Nat → Int32) (t_leastLike : Nat → Int32) (t_lipsOf : Nat → Int32) (t_others : Nat → Int32)  (ures : (Nat → Int32)) (hF : F_Lexicon_findBetterAlike N t_words t_length t_weight t_leastLike t_lipsOf t_others = some ures) : m_Met l yX3_findBetterAlike cX3_findBetterAlike 4 none rm_Lexicon_findBetterAlike E (wd_Lexicon_findBetterAlike E a_t a_t_number a_t_row a_t_length a_t_weight a_t_leastLike a_t_lipsOf a_t_others t_words t_rowLips t_girlKnows t_length t_weight t_leastLike t_lipsOf t_others) (wd_Lexicon_findBetterAlike E a_t a_t_number a_t_row a_t_length a_t_weight a_t_leastLike a_t_lipsOf a_t_others t_words t_rowLips t_girlKnows t_length t_weight t_leastLike t_lipsOf ures) sz [.ref a_t] none := by
  refine m_ofV (by decide) (Nat.le_of_ble_eq_true rfl) ?_
  intro p e s m args below meth c A Q ls X hW hA hl hret
  obtain ⟨hx, hb, -, hown, hts, hK, -, hG⟩ := id X
  have hl : lv_has ls 4 [(0, .ref a_t)] := hl
  unfold F_Lexicon_findBetterAlike at hF
  refine lv_iconst (v := (0 : Int32)) hx hb dX3_findBetterAlike_0 (by decide) ?_
  refine lv_istore_n (lv' := [(1, .int (0 : Int32)), (0, .ref a_t)]) hx hb dX3_findBetterAlike_1 rfl hl (by decide) rfl (fun ls hl => ?_)
  obtain ⟨t_others'_8, hX2, hF⟩ := bO_s1 hF
  have L1 : ∀ (k0 : Nat) (x1 : Int32) (t_others'_5 : Nat → Int32) (t_others'_8 : Nat → Int32) (H : Heap) (locs : List Loc) (ls : Array Slot), Lexicon_findBetterAlike_L2 N t_words t_weight t_length t_leastLike t_lipsOf k0 x1 t_others'_5 = some t_others'_8 → m_H E A (wd_Lexicon_findBetterAlike E a_t a_t_number a_t_row a_t_length a_t_weight a_t_leastLike a_t_lipsOf a_t_others t_words t_rowLips t_girlKnows t_length t_weight t_leastLike t_lipsOf t_others'_5) s.heap H locs → lv_has ls 4 [(1, .int x1), (0, .ref a_t)] → (∀ (H : Heap) (locs : List Loc) (ls : Array Slot), m_H E A (wd_Lexicon_findBetterAlike E a_t a_t_number a_t_row a_t_length a_t_weight a_t_leastLike a_t_lipsOf a_t_others t_words t_rowLips t_girlKnows t_length t_weight t_leastLike t_lipsOf t_others'_8) s.heap H locs → lv_has ls 4 [] → W p l e rm_Lexicon_findBetterAlike s m args below meth c H locs 0 0 Q (F0 m 105 ls [])) → W p l e rm_Lexicon_findBetterAlike s m args below meth c H locs 0 0 Q (F0 m 2 ls []) := by
    clear hF
    intro k0
    induction k0 with
    | zero =>
      intro x1 t_others'_5 t_others'_8 H locs ls hF
      cases hF
    | succ k0 ih4 =>
      intro x1 t_others'_5 t_others'_8 H locs ls hF hW hl hk3
      rw [Lexicon_findBetterAlike_L2] at hF
      refine lv_iload_n hx hb dX3_findBetterAlike_2 rfl (lv_at hl 0 rfl) ?_
      refine lv_aload_n hx hb dX3_findBetterAlike_3 rfl (lv_at hl 1 rfl) ?_
      refine m_get X hW fdX3_36 0 rfl rfl dX3_findBetterAlike_4 ?_
      refine lv_icmp_ge (tgt := 105) hx hb dX3_findBetterAlike_7 (by decide) (fun c5 => ?_) (fun c5 => ?_)
      · have hF := if_y c5 hF
        cases hF
        exact hk3 _ _ _ hW (lv_sub hl [] rfl)
      · have hF := if_n c5 hF
        refine lv_aload_n hx hb dX3_findBetterAlike_10 rfl (lv_at hl 1 rfl) ?_
        refine m_get X hW fdX3_30 0 rfl rfl dX3_findBetterAlike_11 ?_
        refine lv_iload_n hx hb dX3_findBetterAlike_14 rfl (lv_at hl 0 rfl) ?_
        refine lv_iconst (v := (0 : Int32)) hx hb dX3_findBetterAlike_15 (by decide) ?_
        obtain ⟨g6, hF⟩ := gd_some hF
        refine m_iast X hW 5 (k := x1.toNatClampNeg) rfl g6 rfl dX3_findBetterAlike_16 (ws' := (wd_Lexicon_findBetterAlike E a_t a_t_number a_t_row a_t_length a_t_weight a_t_leastLike a_t_lipsOf a_t_others t_words t_rowLips t_girlKnows t_length t_weight t_leastLike t_lipsOf (upd t_others'_5 x1.toNatClampNeg (0 : Int32)))) rfl (fun H locs hW => ?_)
        refine lv_iconst (v := (0 : Int32)) hx hb dX3_findBetterAlike_17 (by decide) ?_
        refine lv_istore_n (lv' := [(2, .int (0 : Int32)), (1, .int x1), (0, .ref a_t)]) hx hb dX3_findBetterAlike_18 rfl hl (by decide) rfl (fun ls hl => ?_)
        obtain ⟨t_others'_7, hX8, hF⟩ := bO_s1 hF
        have L7 : ∀ (k0 : Nat) (x2 : Int32) (t_others'_6 : Nat → Int32) (t_others'_7 : Nat → Int32) (H : Heap) (locs : List Loc) (ls : Array Slot), Lexicon_findBetterAlike_L19 N t_words t_weight x1 t_length t_leastLike t_lipsOf k0 x2 t_others'_6 = some t_others'_7 → m_H E A (wd_Lexicon_findBetterAlike E a_t a_t_number a_t_row a_t_length a_t_weight a_t_leastLike a_t_lipsOf a_t_others t_words t_rowLips t_girlKnows t_length t_weight t_leastLike t_lipsOf t_others'_6) s.heap H locs → lv_has ls 4 [(2, .int x2), (1, .int x1), (0, .ref a_t)] → (∀ (H : Heap) (locs : List Loc) (ls : Array Slot), m_H E A (wd_Lexicon_findBetterAlike E a_t a_t_number a_t_row a_t_length a_t_weight a_t_leastLike a_t_lipsOf a_t_others t_words t_rowLips t_girlKnows t_length t_weight t_leastLike t_lipsOf t_others'_7) s.heap H locs → lv_has ls 4 [(1, .int x1), (0, .ref a_t)] → W p l e rm_Lexicon_findBetterAlike s m args below meth c H locs 0 0 Q (F0 m 99 ls [])) → W p l e rm_Lexicon_findBetterAlike s m args below meth c H locs 0 0 Q (F0 m 19 ls []) := by
          clear hF
          intro k0
          induction k0 with
          | zero =>
            intro x2 t_others'_6 t_others'_7 H locs ls hF
            cases hF
          | succ k0 ih10 =>
            intro x2 t_others'_6 t_others'_7 H locs ls hF hW hl hk9
            rw [Lexicon_findBetterAlike_L19] at hF
            refine lv_iload_n hx hb dX3_findBetterAlike_19 rfl (lv_at hl 0 rfl) ?_
            refine lv_aload_n hx hb dX3_findBetterAlike_20 rfl (lv_at hl 2 rfl) ?_
            refine m_get X hW fdX3_36 0 rfl rfl dX3_findBetterAlike_21 ?_
            refine lv_icmp_ge (tgt := 99) hx hb dX3_findBetterAlike_24 (by decide) (fun c11 => ?_) (fun c11 => ?_)
            · have hF := if_y c11 hF
              cases hF
              exact hk9 _ _ _ hW (lv_sub hl [1, 2] rfl)
            · have hF := if_n c11 hF
              refine lv_aload_n hx hb dX3_findBetterAlike_27 rfl (lv_at hl 2 rfl) ?_
              refine m_get X hW fdX3_18 0 rfl rfl dX3_findBetterAlike_28 ?_
              refine lv_iload_n hx hb dX3_findBetterAlike_31 rfl (lv_at hl 0 rfl) ?_
              obtain ⟨g12, hF⟩ := gd_some hF
              refine m_iald X hW 2 (k := x2.toNatClampNeg) rfl g12 rfl dX3_findBetterAlike_32 ?_
              refine lv_aload_n hx hb dX3_findBetterAlike_33 rfl (lv_at hl 2 rfl) ?_
              refine m_get X hW fdX3_18 0 rfl rfl dX3_findBetterAlike_34 ?_
              refine lv_iload_n hx hb dX3_findBetterAlike_37 rfl (lv_at hl 1 rfl) ?_
              refine m_iald X hW 2 (k := x1.toNatClampNeg) rfl g6 rfl dX3_findBetterAlike_38 ?_
              obtain ⟨y0, hX14, hF⟩ := bO_s1 hF
              have J13 : ∀ (H : Heap) (locs : List Loc) (ls : Array Slot), m_H E A (wd_Lexicon_findBetterAlike E a_t a_t_number a_t_row a_t_length a_t_weight a_t_leastLike a_t_lipsOf a_t_others t_words t_rowLips t_girlKnows t_length t_weight t_leastLike t_lipsOf t_others'_6) s.heap H locs → lv_has ls 4 [(2, .int x2), (1, .int x1), (0, .ref a_t)] → W p l e rm_Lexicon_findBetterAlike s m args below meth c H locs 0 0 Q (F0 m 67 ls [.int y0]) := by
                intro H locs ls hW hl
                refine lv_istore_n (lv' := [(3, .int y0), (2, .int x2), (1, .int x1), (0, .ref a_t)]) hx hb dX3_findBetterAlike_67 rfl hl (by decide) rfl (fun ls hl => ?_)
                refine lv_iload_n hx hb dX3_findBetterAlike_68 rfl (lv_at hl 0 rfl) ?_
                refine lv_if_eq (tgt := 93) hx hb dX3_findBetterAlike_69 (by decide) (fun c15 => ?_) (fun c15 => ?_)
                · have hF := if_y c15 hF
                  refine lv_iinc (v := (x2 + (1 : Int32))) (lv' := [(2, .int (x2 + (1 : Int32))), (3, .int y0), (1, .int x1), (0, .ref a_t)]) hx hb dX3_findBetterAlike_93 hl (k := 1) rfl rfl (by decide) rfl (fun ls hl => ?_)
                  refine lv_goto (tgt := 19) hx hb dX3_findBetterAlike_96 (by decide) ?_
                  exact ih10 (x2 + (1 : Int32)) t_others'_6 t_others'_7 _ _ _ hF hW (lv_sub hl [0, 2, 3] rfl) hk9
                · have hF := if_n c15 hF
                  refine lv_aload_n hx hb dX3_findBetterAlike_72 rfl (lv_at hl 3 rfl) ?_
                  refine lv_iload_n hx hb dX3_findBetterAlike_73 rfl (lv_at hl 2 rfl) ?_
                  refine lv_iload_n hx hb dX3_findBetterAlike_74 rfl (lv_at hl 1 rfl) ?_
                  obtain ⟨r75, hC16, hF⟩ := bO_s1 hF
                  refine m_callV X hW hA hl.1 lkX3_89 (c_Lexicon_areAlike l E _ N a_t a_t_number a_t_weight a_t_row a_t_others a_t_length a_t_leastLike a_t_lipsOf t_words t_rowLips t_girlKnows t_length t_leastLike t_lipsOf x1 x2 r75 hC16) ([0, 1, 3, 4]) (by decide) rfl rfl (ws' := (wd_Lexicon_findBetterAlike E a_t a_t_number a_t_row a_t_length a_t_weight a_t_leastLike a_t_lipsOf a_t_others t_words t_rowLips t_girlKnows t_length t_weight t_leastLike t_lipsOf t_others'_6)) rfl 0 rfl rfl rfl (As := [.int x1, .int x2]) (rest := []) rfl rfl ⟨rfl, rfl, Nat.le_of_ble_eq_true rfl, Nat.le_of_ble_eq_true rfl⟩ (Nat.le_of_ble_eq_true rfl) (Nat.zero_le _) (Nat.zero_le _) dX3_findBetterAlike_75 (fun H locs hW => ?_)
                  clear hC16
                  refine lv_if_eq (tgt := 93) hx hb dX3_findBetterAlike_78 (by decide) (fun c17 => ?_) (fun c17 => ?_)
                  · have hF := if_y c17 hF
                    refine lv_iinc (v := (x2 + (1 : Int32))) (lv' := [(2, .int (x2 + (1 : Int32))), (3, .int y0), (1, .int x1), (0, .ref a_t)]) hx hb dX3_findBetterAlike_93 hl (k := 1) rfl rfl (by decide) rfl (fun ls hl => ?_)
                    refine lv_goto (tgt := 19) hx hb dX3_findBetterAlike_96 (by decide) ?_
                    exact ih10 (x2 + (1 : Int32)) t_others'_6 t_others'_7 _ _ _ hF hW (lv_sub hl [0, 2, 3] rfl) hk9
                  · have hF := if_n c17 hF
                    refine lv_aload_n hx hb dX3_findBetterAlike_81 rfl (lv_at hl 3 rfl) ?_
                    refine m_get X hW fdX3_30 0 rfl rfl dX3_findBetterAlike_82 ?_
                    refine lv_iload_n hx hb dX3_findBetterAlike_85 rfl (lv_at hl 2 rfl) ?_
                    refine lv_dup2_11 hx hb dX3_findBetterAlike_86 rfl rfl ?_
                    refine m_iald X hW 5 (k := x1.toNatClampNeg) rfl g6 rfl dX3_findBetterAlike_87 ?_
                    refine lv_iconst (v := (1 : Int32)) hx hb dX3_findBetterAlike_88 (by decide) ?_
                    refine lv_iload_n hx hb dX3_findBetterAlike_89 rfl (lv_at hl 1 rfl) ?_
                    refine m_ishl hx hb dX3_findBetterAlike_90 ?_
                    refine lv_ior hx hb dX3_findBetterAlike_91 ?_
                    refine m_iast X hW 5 (k := x1.toNatClampNeg) rfl g6 rfl dX3_findBetterAlike_92 (ws' := (wd_Lexicon_findBetterAlike E a_t a_t_number a_t_row a_t_length a_t_weight a_t_leastLike a_t_lipsOf a_t_others t_words t_rowLips t_girlKnows t_length t_weight t_leastLike t_lipsOf (upd t_others'_6 x1.toNatClampNeg ((t_others'_6 x1.toNatClampNeg) ||| (jshl (1 : Int32) x2))))) rfl (fun H locs hW => ?_)
                    refine lv_iinc (v := (x2 + (1 : Int32))) (lv' := [(2, .int (x2 + (1 : Int32))), (3, .int y0), (1, .int x1), (0, .ref a_t)]) hx hb dX3_findBetterAlike_93 hl (k := 1) rfl rfl (by decide) rfl (fun ls hl => ?_)
                    refine lv_goto (tgt := 19) hx hb dX3_findBetterAlike_96 (by decide) ?_
                    exact ih10 (x2 + (1 : Int32)) (upd t_others'_6 x1.toNatClampNeg ((t_others'_6 x1.toNatClampNeg) ||| (jshl (1 : Int32) x2))) t_others'_7 _ _ _ hF hW (lv_sub hl [0, 2, 3] rfl) hk9
              clear hF
              have hF := hX14
              clear hX14
              refine lv_icmp_gt (tgt := 62) hx hb dX3_findBetterAlike_39 (by decide) (fun c18 => ?_) (fun c18 => ?_)
              · have hF := if_y c18 hF
                refine lv_iconst (v := (1 : Int32)) hx hb dX3_findBetterAlike_62 (by decide) ?_
                refine lv_goto (tgt := 67) hx hb dX3_findBetterAlike_63 (by decide) ?_
                cases hF
                exact J13 _ _ _ hW (lv_sub hl [0, 1, 2] rfl)
              · have hF := if_n c18 hF
                refine lv_aload_n hx hb dX3_findBetterAlike_42 rfl (lv_at hl 2 rfl) ?_
                refine m_get X hW fdX3_18 0 rfl rfl dX3_findBetterAlike_43 ?_
                refine lv_iload_n hx hb dX3_findBetterAlike_46 rfl (lv_at hl 0 rfl) ?_
                refine m_iald X hW 2 (k := x2.toNatClampNeg) rfl g12 rfl dX3_findBetterAlike_47 ?_
                refine lv_aload_n hx hb dX3_findBetterAlike_48 rfl (lv_at hl 2 rfl) ?_
                refine m_get X hW fdX3_18 0 rfl rfl dX3_findBetterAlike_49 ?_
                refine lv_iload_n hx hb dX3_findBetterAlike_52 rfl (lv_at hl 1 rfl) ?_
                refine m_iald X hW 2 (k := x1.toNatClampNeg) rfl g6 rfl dX3_findBetterAlike_53 ?_
                refine lv_icmp_ne (tgt := 66) hx hb dX3_findBetterAlike_54 (by decide) (fun c19 => ?_) (fun c19 => ?_)
                · have hF := if_n c19 hF
                  refine lv_iconst (v := (0 : Int32)) hx hb dX3_findBetterAlike_66 (by decide) ?_
                  cases hF
                  exact J13 _ _ _ hW (lv_sub hl [0, 1, 2] rfl)
                · have hF := if_y c19 hF
                  refine lv_iload_n hx hb dX3_findBetterAlike_57 rfl (lv_at hl 0 rfl) ?_
                  refine lv_iload_n hx hb dX3_findBetterAlike_58 rfl (lv_at hl 1 rfl) ?_
                  refine lv_icmp_ge (tgt := 66) hx hb dX3_findBetterAlike_59 (by decide) (fun c20 => ?_) (fun c20 => ?_)
                  · have hF := if_y c20 hF
                    refine lv_iconst (v := (0 : Int32)) hx hb dX3_findBetterAlike_66 (by decide) ?_
                    cases hF
                    exact J13 _ _ _ hW (lv_sub hl [0, 1, 2] rfl)
                  · have hF := if_n c20 hF
                    refine lv_iconst (v := (1 : Int32)) hx hb dX3_findBetterAlike_62 (by decide) ?_
                    refine lv_goto (tgt := 67) hx hb dX3_findBetterAlike_63 (by decide) ?_
                    cases hF
                    exact J13 _ _ _ hW (lv_sub hl [0, 1, 2] rfl)
        refine L7 N (0 : Int32) (upd t_others'_5 x1.toNatClampNeg (0 : Int32)) t_others'_7 _ _ _ hX8 hW (lv_sub hl [0, 1, 2] rfl) ?_
        intro H locs ls hW hl
        clear L7
        refine lv_iinc (v := (x1 + (1 : Int32))) (lv' := [(1, .int (x1 + (1 : Int32))), (0, .ref a_t)]) hx hb dX3_findBetterAlike_99 hl (k := 0) rfl rfl (by decide) rfl (fun ls hl => ?_)
        refine lv_goto (tgt := 2) hx hb dX3_findBetterAlike_102 (by decide) ?_
        exact ih4 (x1 + (1 : Int32)) t_others'_7 t_others'_8 _ _ _ hF hW (lv_sub hl [0, 1] rfl) hk3
  refine L1 N (0 : Int32) t_others t_others'_8 _ _ _ hX2 hW (lv_sub hl [0, 1] rfl) ?_
  intro H locs ls hW hl
  clear L1
  have hq := Option.some.inj hF
  subst hq
  exact hret _ _ _ _ hW dX3_findBetterAlike_105
abbrev wd_Lexicon_gottenOf (E : m_E) (a_t : Nat) (a_t_length : Nat) (a_t_number : Nat) (a_t_weight : Nat) (a_t_leastLike : Nat) (a_t_row : Nat) (a_t_lipsOf : Nat) (a_t_others : Nat) (t_words : Int32) (t_rowLips : Int32) (t_girlKnows : Int32) (t_others : Nat → Int32) : va_W := [(a_t, .inr (3, [.int t_words, .ref a_t_length, .ref a_t_number, .ref a_t_weight, .ref a_t_leastLike, .ref a_t_row, .int t_rowLips, .int t_girlKnows, .ref a_t_lipsOf, .ref a_t_others])), (a_t_others, .inl (E.2.1 0, 10, .inl t_others))]
def rm_Lexicon_gottenOf : Room := { frames := 1, cells := 0, slots := 0, locals := 21 }
set_option maxHeartbeats 4000000 in
set_option maxRecDepth 100000 in
theorem c_Lexicon_gottenOf (l : Launch) (E : m_E) (sz N : Nat) (a_t : Nat) (a_t_length : Nat) (a_t_number : Nat) (a_t_weight : Nat) (a_t_leastLike : Nat) (a_t_row : Nat) (a_t_lipsOf : Nat) (a_t_others : Nat) (t_words : Int32) (t_rowLips : Int32) (t_girlKnows : Int32) (t_others : Nat → Int32) (p1 : Int32) (ures : Int32) (hF : F_Lexicon_gottenOf N p1 t_words t_others = some ures) : m_Met l yX3_gottenOf cX3_gottenOf 4 (some .int) rm_Lexicon_gottenOf E (wd_Lexicon_gottenOf E a_t a_t_length a_t_number a_t_weight a_t_leastLike a_t_row a_t_lipsOf a_t_others t_words t_rowLips t_girlKnows t_others) (wd_Lexicon_gottenOf E a_t a_t_length a_t_number a_t_weight a_t_leastLike a_t_row a_t_lipsOf a_t_others t_words t_rowLips t_girlKnows t_others) sz [.ref a_t, .int p1] (some (.int ures)) := by
  refine m_ofI (by decide) (Nat.le_of_ble_eq_true rfl) ?_
  intro p e s m args below meth c A Q ls X hW hA hl hret
  obtain ⟨hx, hb, -, hown, hts, hK, -, hG⟩ := id X
  have hl : lv_has ls 4 [(0, .ref a_t), (1, .int p1)] := hl
  unfold F_Lexicon_gottenOf at hF
  refine lv_iconst (v := (0 : Int32)) hx hb dX3_gottenOf_0 (by decide) ?_
  refine lv_istore_n (lv' := [(2, .int (0 : Int32)), (0, .ref a_t), (1, .int p1)]) hx hb dX3_gottenOf_1 rfl hl (by decide) rfl (fun ls hl => ?_)
  refine lv_iconst (v := (0 : Int32)) hx hb dX3_gottenOf_2 (by decide) ?_
  refine lv_istore_n (lv' := [(3, .int (0 : Int32)), (2, .int (0 : Int32)), (0, .ref a_t), (1, .int p1)]) hx hb dX3_gottenOf_3 rfl hl (by decide) rfl (fun ls hl => ?_)
  obtain ⟨x2_2, hX2, hF⟩ := bO_s1 hF
  have L1 : ∀ (k0 : Nat) (x2 : Int32) (x3 : Int32) (x2_2 : Int32) (H : Heap) (locs : List Loc) (ls : Array Slot), Lexicon_gottenOf_L4 t_words p1 t_others k0 x2 x3 = some x2_2 → m_H E A (wd_Lexicon_gottenOf E a_t a_t_length a_t_number a_t_weight a_t_leastLike a_t_row a_t_lipsOf a_t_others t_words t_rowLips t_girlKnows t_others) s.heap H locs → lv_has ls 4 [(3, .int x3), (2, .int x2), (0, .ref a_t), (1, .int p1)] → (∀ (H : Heap) (locs : List Loc) (ls : Array Slot), m_H E A (wd_Lexicon_gottenOf E a_t a_t_length a_t_number a_t_weight a_t_leastLike a_t_row a_t_lipsOf a_t_others t_words t_rowLips t_girlKnows t_others) s.heap H locs → lv_has ls 4 [(2, .int x2_2)] → W p l e rm_Lexicon_gottenOf s m args below meth c H locs 0 0 Q (F0 m 43 ls [])) → W p l e rm_Lexicon_gottenOf s m args below meth c H locs 0 0 Q (F0 m 4 ls []) := by
    clear hF
    intro k0
    induction k0 with
    | zero =>
      intro x2 x3 x2_2 H locs ls hF
      cases hF
    | succ k0 ih4 =>
      intro x2 x3 x2_2 H locs ls hF hW hl hk3
      rw [Lexicon_gottenOf_L4] at hF
      refine lv_iload_n hx hb dX3_gottenOf_4 rfl (lv_at hl 0 rfl) ?_
      refine lv_aload_n hx hb dX3_gottenOf_5 rfl (lv_at hl 2 rfl) ?_
      refine m_get X hW fdX3_36 0 rfl rfl dX3_gottenOf_6 ?_
      refine lv_icmp_ge (tgt := 43) hx hb dX3_gottenOf_9 (by decide) (fun c5 => ?_) (fun c5 => ?_)
      · have hF := if_y c5 hF
        cases hF
        exact hk3 _ _ _ hW (lv_sub hl [1] rfl)
      · have hF := if_n c5 hF
        refine lv_iload_n hx hb dX3_gottenOf_12 rfl (lv_at hl 3 rfl) ?_
        refine lv_iload_n hx hb dX3_gottenOf_13 rfl (lv_at hl 0 rfl) ?_
        refine m_callN X hW hA hl.1 lkX3_76 (c_S_hasBit l E _ N   p1 x3 (F_S_hasBit p1 x3) rfl) ([]) (by decide) rfl rfl (ws' := (wd_Lexicon_gottenOf E a_t a_t_length a_t_number a_t_weight a_t_leastLike a_t_row a_t_lipsOf a_t_others t_words t_rowLips t_girlKnows t_others)) rfl (As := [.int p1, .int x3]) (rest := []) rfl rfl ⟨rfl, rfl, Nat.le_of_ble_eq_true rfl, Nat.le_of_ble_eq_true rfl⟩ (Nat.le_of_ble_eq_true rfl) (Nat.zero_le _) (Nat.zero_le _) dX3_gottenOf_14 (fun H locs hW => ?_)
        refine lv_if_eq (tgt := 37) hx hb dX3_gottenOf_17 (by decide) (fun c6 => ?_) (fun c6 => ?_)
        · have hF := if_y c6 hF
          refine lv_iinc (v := (x3 + (1 : Int32))) (lv' := [(3, .int (x3 + (1 : Int32))), (2, .int x2), (0, .ref a_t), (1, .int p1)]) hx hb dX3_gottenOf_37 hl (k := 0) rfl rfl (by decide) rfl (fun ls hl => ?_)
          refine lv_goto (tgt := 4) hx hb dX3_gottenOf_40 (by decide) ?_
          exact ih4 x2 (x3 + (1 : Int32)) x2_2 _ _ _ hF hW (lv_sub hl [0, 1, 2, 3] rfl) hk3
        · have hF := if_n c6 hF
          refine lv_aload_n hx hb dX3_gottenOf_20 rfl (lv_at hl 2 rfl) ?_
          refine m_get X hW fdX3_30 0 rfl rfl dX3_gottenOf_21 ?_
          refine lv_iload_n hx hb dX3_gottenOf_24 rfl (lv_at hl 0 rfl) ?_
          obtain ⟨g7, hF⟩ := gd_some hF
          refine m_iald X hW 1 (k := x3.toNatClampNeg) rfl g7 rfl dX3_gottenOf_25 ?_
          refine lv_iload_n hx hb dX3_gottenOf_26 rfl (lv_at hl 3 rfl) ?_
          refine lv_iand hx hb dX3_gottenOf_27 ?_
          refine lv_if_ne (tgt := 37) hx hb dX3_gottenOf_28 (by decide) (fun c8 => ?_) (fun c8 => ?_)
          · have hF := if_n c8 hF
            refine lv_iinc (v := (x3 + (1 : Int32))) (lv' := [(3, .int (x3 + (1 : Int32))), (2, .int x2), (0, .ref a_t), (1, .int p1)]) hx hb dX3_gottenOf_37 hl (k := 0) rfl rfl (by decide) rfl (fun ls hl => ?_)
            refine lv_goto (tgt := 4) hx hb dX3_gottenOf_40 (by decide) ?_
            exact ih4 x2 (x3 + (1 : Int32)) x2_2 _ _ _ hF hW (lv_sub hl [0, 1, 2, 3] rfl) hk3
          · have hF := if_y c8 hF
            refine lv_iload_n hx hb dX3_gottenOf_31 rfl (lv_at hl 1 rfl) ?_
            refine lv_iconst (v := (1 : Int32)) hx hb dX3_gottenOf_32 (by decide) ?_
            refine lv_iload_n hx hb dX3_gottenOf_33 rfl (lv_at hl 0 rfl) ?_
            refine m_ishl hx hb dX3_gottenOf_34 ?_
            refine lv_ior hx hb dX3_gottenOf_35 ?_
            refine lv_istore_n (lv' := [(2, .int (x2 ||| (jshl (1 : Int32) x3))), (3, .int x3), (0, .ref a_t), (1, .int p1)]) hx hb dX3_gottenOf_36 rfl hl (by decide) rfl (fun ls hl => ?_)
            refine lv_iinc (v := (x3 + (1 : Int32))) (lv' := [(3, .int (x3 + (1 : Int32))), (2, .int (x2 ||| (jshl (1 : Int32) x3))), (0, .ref a_t), (1, .int p1)]) hx hb dX3_gottenOf_37 hl (k := 1) rfl rfl (by decide) rfl (fun ls hl => ?_)
            refine lv_goto (tgt := 4) hx hb dX3_gottenOf_40 (by decide) ?_
            exact ih4 (x2 ||| (jshl (1 : Int32) x3)) (x3 + (1 : Int32)) x2_2 _ _ _ hF hW (lv_sub hl [0, 1, 2, 3] rfl) hk3
  refine L1 N (0 : Int32) (0 : Int32) x2_2 _ _ _ hX2 hW (lv_sub hl [0, 1, 2, 3] rfl) ?_
  intro H locs ls hW hl
  clear L1
  refine lv_iload_n hx hb dX3_gottenOf_43 rfl (lv_at hl 0 rfl) ?_
  have hq := Option.some.inj hF
  subst hq
  exact hret _ _ _ _ hW dX3_gottenOf_44
abbrev wd_Lexicon_gotten (E : m_E) (a_t : Nat) (a_t_number : Nat) (a_t_row : Nat) (a_t_length : Nat) (a_t_weight : Nat) (a_t_leastLike : Nat) (a_t_lipsOf : Nat) (a_t_others : Nat) (t_words : Int32) (t_rowLips : Int32) (t_girlKnows : Int32) (t_length : Nat → Int32) (t_weight : Nat → Int32) (t_leastLike : Nat → Int32) (t_lipsOf : Nat → Int32) (t_others : Nat → Int32) : va_W := [(a_t, .inr (3, [.int t_words, .ref a_t_length, .ref a_t_number, .ref a_t_weight, .ref a_t_leastLike, .ref a_t_row, .int t_rowLips, .int t_girlKnows, .ref a_t_lipsOf, .ref a_t_others])), (a_t_length, .inl (E.2.1 0, 10, .inl t_length)), (a_t_weight, .inl (E.2.1 0, 10, .inl t_weight)), (a_t_leastLike, .inl (E.2.1 0, 6, .inl t_leastLike)), (a_t_lipsOf, .inl (E.2.1 0, 60, .inl t_lipsOf)), (a_t_others, .inl (E.2.1 0, 10, .inl t_others))]
def rm_Lexicon_gotten : Room := { frames := 4, cells := 0, slots := 0, locals := 91 }
set_option maxHeartbeats 4000000 in
set_option maxRecDepth 100000 in
theorem c_Lexicon_gotten (l : Launch) (E : m_E) (sz N : Nat) (a_t : Nat) (a_t_number : Nat) (a_t_row : Nat) (a_t_length : Nat) (a_t_weight : Nat) (a_t_leastLike : Nat) (a_t_lipsOf : Nat) (a_t_others : Nat) (t_words : Int32) (t_rowLips : Int32) (t_girlKnows : Int32) (t_length : Nat → Int32) (t_weight : Nat → Int32) (t_leastLike : Nat → Int32) (t_lipsOf : Nat → Int32) (t_others : Nat → Int32) (p1 : Int32) (ures : Int32 × (Nat → Int32)) (hF : F_Lexicon_gotten N p1 t_words t_length t_weight t_leastLike t_lipsOf t_others = some ures) : m_Met l yX3_gotten cX3_gotten 2 (some .int) rm_Lexicon_gotten E (wd_Lexicon_gotten E a_t a_t_number a_t_row a_t_length a_t_weight a_t_leastLike a_t_lipsOf a_t_others t_words t_rowLips t_girlKnows t_length t_weight t_leastLike t_lipsOf t_others) (wd_Lexicon_gotten E a_t a_t_number a_t_row a_t_length a_t_weight a_t_leastLike a_t_lipsOf a_t_others t_words t_rowLips t_girlKnows t_length t_weight t_leastLike t_lipsOf ures.2) sz [.ref a_t, .int p1] (some (.int ures.1)) := by
  refine m_ofI (by decide) (Nat.le_of_ble_eq_true rfl) ?_
  intro p e s m args below meth c A Q ls X hW hA hl hret
  obtain ⟨hx, hb, -, hown, hts, hK, -, hG⟩ := id X
  have hl : lv_has ls 2 [(0, .ref a_t), (1, .int p1)] := hl
  unfold F_Lexicon_gotten at hF
  refine lv_aload_n hx hb dX3_gotten_0 rfl (lv_at hl 0 rfl) ?_
  obtain ⟨t_others'_2, hC1, hF⟩ := bO_s1 hF
  refine m_callV X hW hA hl.1 lkX3_97 (c_Lexicon_findBetterAlike l E _ N a_t a_t_number a_t_row a_t_length a_t_weight a_t_leastLike a_t_lipsOf a_t_others t_words t_rowLips t_girlKnows t_length t_weight t_leastLike t_lipsOf t_others  t_others'_2 hC1) ([0, 1, 2, 3, 4, 5]) (by decide) rfl rfl (ws' := (wd_Lexicon_gotten E a_t a_t_number a_t_row a_t_length a_t_weight a_t_leastLike a_t_lipsOf a_t_others t_words t_rowLips t_girlKnows t_length t_weight t_leastLike t_lipsOf t_others'_2)) rfl 0 rfl rfl rfl (As := []) (rest := []) rfl rfl ⟨rfl, rfl, Nat.le_of_ble_eq_true rfl, Nat.le_of_ble_eq_true rfl⟩ (Nat.le_of_ble_eq_true rfl) (Nat.zero_le _) (Nat.zero_le _) dX3_gotten_1 (fun H locs hW => ?_)
  clear hC1
  refine lv_aload_n hx hb dX3_gotten_4 rfl (lv_at hl 0 rfl) ?_
  refine lv_iload_n hx hb dX3_gotten_5 rfl (lv_at hl 1 rfl) ?_
  obtain ⟨r6, hC2, hF⟩ := bO_s1 hF
  refine m_callV X hW hA hl.1 lkX3_100 (c_Lexicon_gottenOf l E _ N a_t a_t_length a_t_number a_t_weight a_t_leastLike a_t_row a_t_lipsOf a_t_others t_words t_rowLips t_girlKnows t_others'_2 p1 r6 hC2) ([0, 5]) (by decide) rfl rfl (ws' := (wd_Lexicon_gotten E a_t a_t_number a_t_row a_t_length a_t_weight a_t_leastLike a_t_lipsOf a_t_others t_words t_rowLips t_girlKnows t_length t_weight t_leastLike t_lipsOf t_others'_2)) rfl 0 rfl rfl rfl (As := [.int p1]) (rest := []) rfl rfl ⟨rfl, rfl, Nat.le_of_ble_eq_true rfl, Nat.le_of_ble_eq_true rfl⟩ (Nat.le_of_ble_eq_true rfl) (Nat.zero_le _) (Nat.zero_le _) dX3_gotten_6 (fun H locs hW => ?_)
  clear hC2
  have hq := Option.some.inj hF
  subst hq
  exact hret _ _ _ _ hW dX3_gotten_9
abbrev wd_S_gets (E : m_E) (a_t : Nat) (a_t_draft : Nat) (a_t_firstImage : Nat) (a_t_secondImage : Nat) (a_t_news : Nat) (a_t_otherNews : Nat) (a_t_readings : Nat) (a_t_chances : Nat) (a_t_turning : Nat) (a_t_text : Nat) (a_t_fraction : Nat) (a_t_now : Nat) (a_t_now_floor : Nat) (a_t_now_sightings : Nat) (a_t_now_level : Nat) (a_t_now_loss : Nat) (a_t_now_lexicon : Nat) (a_t_now_lexicon_number : Nat) (a_t_now_lexicon_row : Nat) (a_t_now_lexicon_length : Nat) (a_t_now_lexicon_weight : Nat) (a_t_now_lexicon_leastLike : Nat) (a_t_now_lexicon_lipsOf : Nat) (a_t_now_lexicon_others : Nat) (t_now_clearness : Int32) (t_now_isKept : Int32) (t_now_lexicon_words : Int32) (t_now_lexicon_rowLips : Int32) (t_now_lexicon_girlKnows : Int32) (t_now_lexicon_length : Nat → Int32) (t_now_lexicon_weight : Nat → Int32) (t_now_lexicon_leastLike : Nat → Int32) (t_now_lexicon_lipsOf : Nat → Int32) (t_now_lexicon_others : Nat → Int32) : va_W := [(a_t, .inr (11, [.ref a_t_now, .ref a_t_draft, .ref a_t_firstImage, .ref a_t_secondImage, .ref a_t_news, .ref a_t_otherNews, .ref a_t_readings, .ref a_t_chances, .ref a_t_turning, .ref a_t_text, .ref a_t_fraction])), (a_t_now, .inr (7, [.ref a_t_now_floor, .ref a_t_now_sightings, .ref a_t_now_lexicon, .ref a_t_now_level, .ref a_t_now_loss, .int t_now_clearness, .int t_now_isKept])), (a_t_now_lexicon, .inr (3, [.int t_now_lexicon_words, .ref a_t_now_lexicon_length, .ref a_t_now_lexicon_number, .ref a_t_now_lexicon_weight, .ref a_t_now_lexicon_leastLike, .ref a_t_now_lexicon_row, .int t_now_lexicon_rowLips, .int t_now_lexicon_girlKnows, .ref a_t_now_lexicon_lipsOf, .ref a_t_now_lexicon_others])), (a_t_now_lexicon_length, .inl (E.2.1 0, 10, .inl t_now_lexicon_length)), (a_t_now_lexicon_weight, .inl (E.2.1 0, 10, .inl t_now_lexicon_weight)), (a_t_now_lexicon_leastLike, .inl (E.2.1 0, 6, .inl t_now_lexicon_leastLike)), (a_t_now_lexicon_lipsOf, .inl (E.2.1 0, 60, .inl t_now_lexicon_lipsOf)), (a_t_now_lexicon_others, .inl (E.2.1 0, 10, .inl t_now_lexicon_others))]
def rm_S_gets : Room := { frames := 5, cells := 0, slots := 0, locals := 112 }
set_option maxHeartbeats 4000000 in
set_option maxRecDepth 100000 in
theorem c_S_gets (l : Launch) (E : m_E) (sz N : Nat) (a_t : Nat) (a_t_draft : Nat) (a_t_firstImage : Nat) (a_t_secondImage : Nat) (a_t_news : Nat) (a_t_otherNews : Nat) (a_t_readings : Nat) (a_t_chances : Nat) (a_t_turning : Nat) (a_t_text : Nat) (a_t_fraction : Nat) (a_t_now : Nat) (a_t_now_floor : Nat) (a_t_now_sightings : Nat) (a_t_now_level : Nat) (a_t_now_loss : Nat) (a_t_now_lexicon : Nat) (a_t_now_lexicon_number : Nat) (a_t_now_lexicon_row : Nat) (a_t_now_lexicon_length : Nat) (a_t_now_lexicon_weight : Nat) (a_t_now_lexicon_leastLike : Nat) (a_t_now_lexicon_lipsOf : Nat) (a_t_now_lexicon_others : Nat) (t_now_clearness : Int32) (t_now_isKept : Int32) (t_now_lexicon_words : Int32) (t_now_lexicon_rowLips : Int32) (t_now_lexicon_girlKnows : Int32) (t_now_lexicon_length : Nat → Int32) (t_now_lexicon_weight : Nat → Int32) (t_now_lexicon_leastLike : Nat → Int32) (t_now_lexicon_lipsOf : Nat → Int32) (t_now_lexicon_others : Nat → Int32)  (ures : Int32 × (Nat → Int32)) (hF : F_S_gets N t_now_lexicon_words t_now_lexicon_girlKnows t_now_lexicon_length t_now_lexicon_weight t_now_lexicon_leastLike t_now_lexicon_lipsOf t_now_lexicon_others = some ures) : m_Met l yX11_gets cX11_gets 1 (some .int) rm_S_gets E (wd_S_gets E a_t a_t_draft a_t_firstImage a_t_secondImage a_t_news a_t_otherNews a_t_readings a_t_chances a_t_turning a_t_text a_t_fraction a_t_now a_t_now_floor a_t_now_sightings a_t_now_level a_t_now_loss a_t_now_lexicon a_t_now_lexicon_number a_t_now_lexicon_row a_t_now_lexicon_length a_t_now_lexicon_weight a_t_now_lexicon_leastLike a_t_now_lexicon_lipsOf a_t_now_lexicon_others t_now_clearness t_now_isKept t_now_lexicon_words t_now_lexicon_rowLips t_now_lexicon_girlKnows t_now_lexicon_length t_now_lexicon_weight t_now_lexicon_leastLike t_now_lexicon_lipsOf t_now_lexicon_others) (wd_S_gets E a_t a_t_draft a_t_firstImage a_t_secondImage a_t_news a_t_otherNews a_t_readings a_t_chances a_t_turning a_t_text a_t_fraction a_t_now a_t_now_floor a_t_now_sightings a_t_now_level a_t_now_loss a_t_now_lexicon a_t_now_lexicon_number a_t_now_lexicon_row a_t_now_lexicon_length a_t_now_lexicon_weight a_t_now_lexicon_leastLike a_t_now_lexicon_lipsOf a_t_now_lexicon_others t_now_clearness t_now_isKept t_now_lexicon_words t_now_lexicon_rowLips t_now_lexicon_girlKnows t_now_lexicon_length t_now_lexicon_weight t_now_lexicon_leastLike t_now_lexicon_lipsOf ures.2) sz [.ref a_t] (some (.int ures.1)) := by
  refine m_ofI (by decide) (Nat.le_of_ble_eq_true rfl) ?_
  intro p e s m args below meth c A Q ls X hW hA hl hret
  obtain ⟨hx, hb, -, hown, hts, hK, -, hG⟩ := id X
  have hl : lv_has ls 1 [(0, .ref a_t)] := hl
  unfold F_S_gets at hF
  refine lv_aload_n hx hb dX11_gets_0 rfl (lv_at hl 0 rfl) ?_
  refine m_get X hW fdX11_10 0 rfl rfl dX11_gets_1 ?_
  refine m_get X hW fdX11_156 1 rfl rfl dX11_gets_4 ?_
  refine lv_aload_n hx hb dX11_gets_7 rfl (lv_at hl 0 rfl) ?_
  refine m_get X hW fdX11_10 0 rfl rfl dX11_gets_8 ?_
  refine m_get X hW fdX11_156 1 rfl rfl dX11_gets_11 ?_
  refine m_get X hW fdX11_225 2 rfl rfl dX11_gets_14 ?_
  obtain ⟨r17, t_now_lexicon_others'_2, hC1, hF⟩ := bO_s2 hF
  refine m_callV X hW hA hl.1 lkX11_228 (c_Lexicon_gotten l E _ N a_t_now_lexicon a_t_now_lexicon_number a_t_now_lexicon_row a_t_now_lexicon_length a_t_now_lexicon_weight a_t_now_lexicon_leastLike a_t_now_lexicon_lipsOf a_t_now_lexicon_others t_now_lexicon_words t_now_lexicon_rowLips t_now_lexicon_girlKnows t_now_lexicon_length t_now_lexicon_weight t_now_lexicon_leastLike t_now_lexicon_lipsOf t_now_lexicon_others t_now_lexicon_girlKnows (r17, t_now_lexicon_others'_2) hC1) ([2, 3, 4, 5, 6, 7]) (by decide) rfl rfl (ws' := (wd_S_gets E a_t a_t_draft a_t_firstImage a_t_secondImage a_t_news a_t_otherNews a_t_readings a_t_chances a_t_turning a_t_text a_t_fraction a_t_now a_t_now_floor a_t_now_sightings a_t_now_level a_t_now_loss a_t_now_lexicon a_t_now_lexicon_number a_t_now_lexicon_row a_t_now_lexicon_length a_t_now_lexicon_weight a_t_now_lexicon_leastLike a_t_now_lexicon_lipsOf a_t_now_lexicon_others t_now_clearness t_now_isKept t_now_lexicon_words t_now_lexicon_rowLips t_now_lexicon_girlKnows t_now_lexicon_length t_now_lexicon_weight t_now_lexicon_leastLike t_now_lexicon_lipsOf t_now_lexicon_others'_2)) rfl 2 rfl rfl rfl (As := [.int t_now_lexicon_girlKnows]) (rest := []) rfl rfl ⟨rfl, rfl, Nat.le_of_ble_eq_true rfl, Nat.le_of_ble_eq_true rfl⟩ (Nat.le_of_ble_eq_true rfl) (Nat.zero_le _) (Nat.zero_le _) dX11_gets_17 (fun H locs hW => ?_)
  clear hC1
  have hq := Option.some.inj hF
  subst hq
  exact hret _ _ _ _ hW dX11_gets_20
abbrev wd_Fraction_put0 (E : m_E) (a_t : Nat) (a_t_above : Nat) (a_t_above_limb : Nat) (a_t_below : Nat) (a_t_below_limb : Nat) (t_above_limbs : Int32) (t_above_limb : Nat → Int32) (t_below_limbs : Int32) (t_below_limb : Nat → Int32) : va_W := [(a_t, .inr (2, [.ref a_t_above, .ref a_t_below])), (a_t_above, .inr (4, [.ref a_t_above_limb, .int t_above_limbs])), (a_t_above_limb, .inl (E.2.1 0, 40, .inl t_above_limb)), (a_t_below, .inr (4, [.ref a_t_below_limb, .int t_below_limbs])), (a_t_below_limb, .inl (E.2.1 0, 40, .inl t_below_limb))]
def rm_Fraction_put0 : Room := { frames := 3, cells := 0, slots := 0, locals := 67 }
set_option maxHeartbeats 4000000 in
set_option maxRecDepth 100000 in
theorem c_Fraction_put0 (l : Launch) (E : m_E) (sz N : Nat) (a_t : Nat) (a_t_above : Nat) (a_t_above_limb : Nat) (a_t_below : Nat) (a_t_below_limb : Nat) (t_above_limbs : Int32) (t_above_limb : Nat → Int32) (t_below_limbs : Int32) (t_below_limb : Nat → Int32) (p1 : Int32) (p2 : Int32) (ures : Int32 × (Nat → Int32) × Int32 × (Nat → Int32)) (hF : F_Fraction_put0 N p1 p2 t_above_limb t_below_limb = some ures) : m_Met l yX2_put cX2_put 3 none rm_Fraction_put0 E (wd_Fraction_put0 E a_t a_t_above a_t_above_limb a_t_below a_t_below_limb t_above_limbs t_above_limb t_below_limbs t_below_limb) (wd_Fraction_put0 E a_t a_t_above a_t_above_limb a_t_below a_t_below_limb ures.1 ures.2.1 ures.2.2.1 ures.2.2.2) sz [.ref a_t, .int p1, .int p2] none := by
  refine m_ofV (by decide) (Nat.le_of_ble_eq_true rfl) ?_
  intro p e s m args below meth c A Q ls X hW hA hl hret
  obtain ⟨hx, hb, -, hown, hts, hK, -, hG⟩ := id X
  have hl : lv_has ls 3 [(0, .ref a_t), (1, .int p1), (2, .int p2)] := hl
  unfold F_Fraction_put0 at hF
  refine lv_aload_n hx hb dX2_put_0 rfl (lv_at hl 0 rfl) ?_
  refine m_get X hW fdX2_10 0 rfl rfl dX2_put_1 ?_
  refine lv_iload_n hx hb dX2_put_4 rfl (lv_at hl 1 rfl) ?_
  obtain ⟨t_above_limbs'_3, t_above_limb'_3, hC1, hF⟩ := bO_s2 hF
  refine m_callV X hW hA hl.1 lkX2_19 (c_Natural_put l E _ N a_t_above a_t_above_limb t_above_limbs t_above_limb p1 (t_above_limbs'_3, t_above_limb'_3) hC1) ([1, 2]) (by decide) rfl rfl (ws' := (wd_Fraction_put0 E a_t a_t_above a_t_above_limb a_t_below a_t_below_limb t_above_limbs'_3 t_above_limb'_3 t_below_limbs t_below_limb)) rfl 1 rfl rfl rfl (As := [.int p1]) (rest := []) rfl rfl ⟨rfl, rfl, Nat.le_of_ble_eq_true rfl, Nat.le_of_ble_eq_true rfl⟩ (Nat.le_of_ble_eq_true rfl) (Nat.zero_le _) (Nat.zero_le _) dX2_put_5 (fun H locs hW => ?_)
  clear hC1
  refine lv_aload_n hx hb dX2_put_8 rfl (lv_at hl 0 rfl) ?_
  refine m_get X hW fdX2_16 0 rfl rfl dX2_put_9 ?_
  refine lv_iload_n hx hb dX2_put_12 rfl (lv_at hl 2 rfl) ?_
  obtain ⟨t_below_limbs'_3, t_below_limb'_3, hC2, hF⟩ := bO_s2 hF
  refine m_callV X hW hA hl.1 lkX2_19 (c_Natural_put l E _ N a_t_below a_t_below_limb t_below_limbs t_below_limb p2 (t_below_limbs'_3, t_below_limb'_3) hC2) ([3, 4]) (by decide) rfl rfl (ws' := (wd_Fraction_put0 E a_t a_t_above a_t_above_limb a_t_below a_t_below_limb t_above_limbs'_3 t_above_limb'_3 t_below_limbs'_3 t_below_limb'_3)) rfl 3 rfl rfl rfl (As := [.int p2]) (rest := []) rfl rfl ⟨rfl, rfl, Nat.le_of_ble_eq_true rfl, Nat.le_of_ble_eq_true rfl⟩ (Nat.le_of_ble_eq_true rfl) (Nat.zero_le _) (Nat.zero_le _) dX2_put_13 (fun H locs hW => ?_)
  clear hC2
  refine lv_aload_n hx hb dX2_put_16 rfl (lv_at hl 0 rfl) ?_
  obtain ⟨t_above_limbs'_4, t_above_limb'_4, t_below_limbs'_4, t_below_limb'_4, hC3, hF⟩ := bO_s4 hF
  refine m_callV X hW hA hl.1 lkX2_27 (c_Fraction_toLowestTerms l E _ N a_t a_t_above a_t_above_limb a_t_below a_t_below_limb t_above_limbs'_3 t_above_limb'_3 t_below_limbs'_3 t_below_limb'_3  (t_above_limbs'_4, t_above_limb'_4, t_below_limbs'_4, t_below_limb'_4) hC3) ([0, 1, 2, 3, 4]) (by decide) rfl rfl (ws' := (wd_Fraction_put0 E a_t a_t_above a_t_above_limb a_t_below a_t_below_limb t_above_limbs'_4 t_above_limb'_4 t_below_limbs'_4 t_below_limb'_4)) rfl 0 rfl rfl rfl (As := []) (rest := []) rfl rfl ⟨rfl, rfl, Nat.le_of_ble_eq_true rfl, Nat.le_of_ble_eq_true rfl⟩ (Nat.le_of_ble_eq_true rfl) (Nat.zero_le _) (Nat.zero_le _) dX2_put_17 (fun H locs hW => ?_)
  clear hC3
  have hq := Option.some.inj hF
  subst hq
  exact hret _ _ _ _ hW dX2_put_20
abbrev wd_S_share (E : m_E) (a_t : Nat) (a_t_draft : Nat) (a_t_firstImage : Nat) (a_t_secondImage : Nat) (a_t_news : Nat) (a_t_otherNews : Nat) (a_t_readings : Nat) (a_t_chances : Nat) (a_t_turning : Nat) (a_t_text : Nat) (a_t_now : Nat) (a_t_now_floor : Nat) (a_t_now_sightings : Nat) (a_t_now_level : Nat) (a_t_now_loss : Nat) (a_t_now_lexicon : Nat) (a_t_now_lexicon_number : Nat) (a_t_now_lexicon_row : Nat) (a_t_now_lexicon_length : Nat) (a_t_now_lexicon_weight : Nat) (a_t_now_lexicon_leastLike : Nat) (a_t_now_lexicon_lipsOf : Nat) (a_t_now_lexicon_others : Nat) (a_t_fraction : Nat) (a_t_fraction_above : Nat) (a_t_fraction_above_limb : Nat) (a_t_fraction_below : Nat) (a_t_fraction_below_limb : Nat) (t_now_clearness : Int32) (t_now_isKept : Int32) (t_now_lexicon_words : Int32) (t_now_lexicon_rowLips : Int32) (t_now_lexicon_girlKnows : Int32) (t_now_lexicon_length : Nat → Int32) (t_now_lexicon_weight : Nat → Int32) (t_now_lexicon_leastLike : Nat → Int32) (t_now_lexicon_lipsOf : Nat → Int32) (t_now_lexicon_others : Nat → Int32) (t_fraction_above_limbs : Int32) (t_fraction_above_limb : Nat → Int32) (t_fraction_below_limbs : Int32) (t_fraction_below_limb : Nat → Int32) : va_W := [(a_t, .inr (11, [.ref a_t_now, .ref a_t_draft, .ref a_t_firstImage, .ref a_t_secondImage, .ref a_t_news, .ref a_t_otherNews, .ref a_t_readings, .ref a_t_chances, .ref a_t_turning, .ref a_t_text, .ref a_t_fraction])), (a_t_now, .inr (7, [.ref a_t_now_floor, .ref a_t_now_sightings, .ref a_t_now_lexicon, .ref a_t_now_level, .ref a_t_now_loss, .int t_now_clearness, .int t_now_isKept])), (a_t_now_lexicon, .inr (3, [.int t_now_lexicon_words, .ref a_t_now_lexicon_length, .ref a_t_now_lexicon_number, .ref a_t_now_lexicon_weight, .ref a_t_now_lexicon_leastLike, .ref a_t_now_lexicon_row, .int t_now_lexicon_rowLips, .int t_now_lexicon_girlKnows, .ref a_t_now_lexicon_lipsOf, .ref a_t_now_lexicon_others])), (a_t_now_lexicon_length, .inl (E.2.1 0, 10, .inl t_now_lexicon_length)), (a_t_now_lexicon_weight, .inl (E.2.1 0, 10, .inl t_now_lexicon_weight)), (a_t_now_lexicon_leastLike, .inl (E.2.1 0, 6, .inl t_now_lexicon_leastLike)), (a_t_now_lexicon_lipsOf, .inl (E.2.1 0, 60, .inl t_now_lexicon_lipsOf)), (a_t_now_lexicon_others, .inl (E.2.1 0, 10, .inl t_now_lexicon_others)), (a_t_fraction, .inr (2, [.ref a_t_fraction_above, .ref a_t_fraction_below])), (a_t_fraction_above, .inr (4, [.ref a_t_fraction_above_limb, .int t_fraction_above_limbs])), (a_t_fraction_above_limb, .inl (E.2.1 0, 40, .inl t_fraction_above_limb)), (a_t_fraction_below, .inr (4, [.ref a_t_fraction_below_limb, .int t_fraction_below_limbs])), (a_t_fraction_below_limb, .inl (E.2.1 0, 40, .inl t_fraction_below_limb))]
def rm_S_share : Room := { frames := 5, cells := 0, slots := 0, locals := 112 }
set_option maxHeartbeats 4000000 in
set_option maxRecDepth 100000 in
theorem c_S_share (l : Launch) (E : m_E) (sz N : Nat) (a_t : Nat) (a_t_draft : Nat) (a_t_firstImage : Nat) (a_t_secondImage : Nat) (a_t_news : Nat) (a_t_otherNews : Nat) (a_t_readings : Nat) (a_t_chances : Nat) (a_t_turning : Nat) (a_t_text : Nat) (a_t_now : Nat) (a_t_now_floor : Nat) (a_t_now_sightings : Nat) (a_t_now_level : Nat) (a_t_now_loss : Nat) (a_t_now_lexicon : Nat) (a_t_now_lexicon_number : Nat) (a_t_now_lexicon_row : Nat) (a_t_now_lexicon_length : Nat) (a_t_now_lexicon_weight : Nat) (a_t_now_lexicon_leastLike : Nat) (a_t_now_lexicon_lipsOf : Nat) (a_t_now_lexicon_others : Nat) (a_t_fraction : Nat) (a_t_fraction_above : Nat) (a_t_fraction_above_limb : Nat) (a_t_fraction_below : Nat) (a_t_fraction_below_limb : Nat) (t_now_clearness : Int32) (t_now_isKept : Int32) (t_now_lexicon_words : Int32) (t_now_lexicon_rowLips : Int32) (t_now_lexicon_girlKnows : Int32) (t_now_lexicon_length : Nat → Int32) (t_now_lexicon_weight : Nat → Int32) (t_now_lexicon_leastLike : Nat → Int32) (t_now_lexicon_lipsOf : Nat → Int32) (t_now_lexicon_others : Nat → Int32) (t_fraction_above_limbs : Int32) (t_fraction_above_limb : Nat → Int32) (t_fraction_below_limbs : Int32) (t_fraction_below_limb : Nat → Int32)  (ures : Int32 × (Nat → Int32) × Int32 × (Nat → Int32) × Int32 × (Nat → Int32)) (hF : F_S_share N t_now_lexicon_words t_now_lexicon_girlKnows t_now_lexicon_length t_now_lexicon_weight t_now_lexicon_leastLike t_now_lexicon_lipsOf t_now_lexicon_others t_fraction_above_limbs t_fraction_above_limb t_fraction_below_limbs t_fraction_below_limb = some ures) : m_Met l yX11_share cX11_share 2 (some .int) rm_S_share E (wd_S_share E a_t a_t_draft a_t_firstImage a_t_secondImage a_t_news a_t_otherNews a_t_readings a_t_chances a_t_turning a_t_text a_t_now a_t_now_floor a_t_now_sightings a_t_now_level a_t_now_loss a_t_now_lexicon a_t_now_lexicon_number a_t_now_lexicon_row a_t_now_lexicon_length a_t_now_lexicon_weight a_t_now_lexicon_leastLike a_t_now_lexicon_lipsOf a_t_now_lexicon_others a_t_fraction a_t_fraction_above a_t_fraction_above_limb a_t_fraction_below a_t_fraction_below_limb t_now_clearness t_now_isKept t_now_lexicon_words t_now_lexicon_rowLips t_now_lexicon_girlKnows t_now_lexicon_length t_now_lexicon_weight t_now_lexicon_leastLike t_now_lexicon_lipsOf t_now_lexicon_others t_fraction_above_limbs t_fraction_above_limb t_fraction_below_limbs t_fraction_below_limb) (wd_S_share E a_t a_t_draft a_t_firstImage a_t_secondImage a_t_news a_t_otherNews a_t_readings a_t_chances a_t_turning a_t_text a_t_now a_t_now_floor a_t_now_sightings a_t_now_level a_t_now_loss a_t_now_lexicon a_t_now_lexicon_number a_t_now_lexicon_row a_t_now_lexicon_length a_t_now_lexicon_weight a_t_now_lexicon_leastLike a_t_now_lexicon_lipsOf a_t_now_lexicon_others a_t_fraction a_t_fraction_above a_t_fraction_above_limb a_t_fraction_below a_t_fraction_below_limb t_now_clearness t_now_isKept t_now_lexicon_words t_now_lexicon_rowLips t_now_lexicon_girlKnows t_now_lexicon_length t_now_lexicon_weight t_now_lexicon_leastLike t_now_lexicon_lipsOf ures.2.1 ures.2.2.1 ures.2.2.2.1 ures.2.2.2.2.1 ures.2.2.2.2.2) sz [.ref a_t] (some (.int ures.1)) := by
  refine m_ofI (by decide) (Nat.le_of_ble_eq_true rfl) ?_
  intro p e s m args below meth c A Q ls X hW hA hl hret
  obtain ⟨hx, hb, -, hown, hts, hK, -, hG⟩ := id X
  have hl : lv_has ls 2 [(0, .ref a_t)] := hl
  unfold F_S_share at hF
  refine lv_aload_n hx hb dX11_share_0 rfl (lv_at hl 0 rfl) ?_
  refine m_get X hW fdX11_10 0 rfl rfl dX11_share_1 ?_
  refine m_get X hW fdX11_156 1 rfl rfl dX11_share_4 ?_
  refine lv_astore_n (lv' := [(1, .ref a_t_now_lexicon), (0, .ref a_t)]) hx hb dX11_share_7 rfl hl (by decide) rfl (fun ls hl => ?_)
  refine lv_aload_n hx hb dX11_share_8 rfl (lv_at hl 0 rfl) ?_
  refine m_get X hW fdX11_202 2 rfl rfl dX11_share_9 ?_
  refine lv_if_ne (tgt := 18) hx hb dX11_share_12 (by decide) (fun c1 => ?_) (fun c1 => ?_)
  · have hF := if_n c1 hF
    refine lv_aload_n hx hb dX11_share_18 rfl (lv_at hl 1 rfl) ?_
    refine m_get X hW fdX11_66 0 rfl rfl dX11_share_19 ?_
    refine lv_aload_n hx hb dX11_share_22 rfl (lv_at hl 0 rfl) ?_
    refine lv_aload_n hx hb dX11_share_23 rfl (lv_at hl 0 rfl) ?_
    refine lv_aload_n hx hb dX11_share_24 rfl (lv_at hl 0 rfl) ?_
    refine m_get X hW fdX11_225 2 rfl rfl dX11_share_25 ?_
    obtain ⟨r28, t_now_lexicon_others'_2, hC2, hF⟩ := bO_s2 hF
    refine m_callV X hW hA hl.1 lkX11_228 (c_Lexicon_gotten l E _ N a_t_now_lexicon a_t_now_lexicon_number a_t_now_lexicon_row a_t_now_lexicon_length a_t_now_lexicon_weight a_t_now_lexicon_leastLike a_t_now_lexicon_lipsOf a_t_now_lexicon_others t_now_lexicon_words t_now_lexicon_rowLips t_now_lexicon_girlKnows t_now_lexicon_length t_now_lexicon_weight t_now_lexicon_leastLike t_now_lexicon_lipsOf t_now_lexicon_others t_now_lexicon_girlKnows (r28, t_now_lexicon_others'_2) hC2) ([2, 3, 4, 5, 6, 7]) (by decide) rfl rfl (ws' := (wd_S_share E a_t a_t_draft a_t_firstImage a_t_secondImage a_t_news a_t_otherNews a_t_readings a_t_chances a_t_turning a_t_text a_t_now a_t_now_floor a_t_now_sightings a_t_now_level a_t_now_loss a_t_now_lexicon a_t_now_lexicon_number a_t_now_lexicon_row a_t_now_lexicon_length a_t_now_lexicon_weight a_t_now_lexicon_leastLike a_t_now_lexicon_lipsOf a_t_now_lexicon_others a_t_fraction a_t_fraction_above a_t_fraction_above_limb a_t_fraction_below a_t_fraction_below_limb t_now_clearness t_now_isKept t_now_lexicon_words t_now_lexicon_rowLips t_now_lexicon_girlKnows t_now_lexicon_length t_now_lexicon_weight t_now_lexicon_leastLike t_now_lexicon_lipsOf t_now_lexicon_others'_2 t_fraction_above_limbs t_fraction_above_limb t_fraction_below_limbs t_fraction_below_limb)) rfl 2 rfl rfl rfl (As := [.int t_now_lexicon_girlKnows]) (rest := [.ref a_t_now_lexicon, .ref a_t_fraction]) rfl rfl ⟨rfl, rfl, Nat.le_of_ble_eq_true rfl, Nat.le_of_ble_eq_true rfl⟩ (Nat.le_of_ble_eq_true rfl) (Nat.zero_le _) (Nat.zero_le _) dX11_share_28 (fun H locs hW => ?_)
    clear hC2
    obtain ⟨r31, hC3, hF⟩ := bO_s1 hF
    refine m_callV X hW hA hl.1 lkX11_231 (c_Lexicon_weightOf l E _ N a_t_now_lexicon a_t_now_lexicon_length a_t_now_lexicon_number a_t_now_lexicon_leastLike a_t_now_lexicon_row a_t_now_lexicon_lipsOf a_t_now_lexicon_others a_t_now_lexicon_weight t_now_lexicon_words t_now_lexicon_rowLips t_now_lexicon_girlKnows t_now_lexicon_weight r28 r31 hC3) ([2, 4]) (by decide) rfl rfl (ws' := (wd_S_share E a_t a_t_draft a_t_firstImage a_t_secondImage a_t_news a_t_otherNews a_t_readings a_t_chances a_t_turning a_t_text a_t_now a_t_now_floor a_t_now_sightings a_t_now_level a_t_now_loss a_t_now_lexicon a_t_now_lexicon_number a_t_now_lexicon_row a_t_now_lexicon_length a_t_now_lexicon_weight a_t_now_lexicon_leastLike a_t_now_lexicon_lipsOf a_t_now_lexicon_others a_t_fraction a_t_fraction_above a_t_fraction_above_limb a_t_fraction_below a_t_fraction_below_limb t_now_clearness t_now_isKept t_now_lexicon_words t_now_lexicon_rowLips t_now_lexicon_girlKnows t_now_lexicon_length t_now_lexicon_weight t_now_lexicon_leastLike t_now_lexicon_lipsOf t_now_lexicon_others'_2 t_fraction_above_limbs t_fraction_above_limb t_fraction_below_limbs t_fraction_below_limb)) rfl 2 rfl rfl rfl (As := [.int r28]) (rest := [.ref a_t_fraction]) rfl rfl ⟨rfl, rfl, Nat.le_of_ble_eq_true rfl, Nat.le_of_ble_eq_true rfl⟩ (Nat.le_of_ble_eq_true rfl) (Nat.zero_le _) (Nat.zero_le _) dX11_share_31 (fun H locs hW => ?_)
    clear hC3
    refine lv_aload_n hx hb dX11_share_34 rfl (lv_at hl 0 rfl) ?_
    refine lv_aload_n hx hb dX11_share_35 rfl (lv_at hl 0 rfl) ?_
    refine m_callV X hW hA hl.1 lkX11_234 (c_Lexicon_allWords l E _ N a_t_now_lexicon a_t_now_lexicon_length a_t_now_lexicon_number a_t_now_lexicon_weight a_t_now_lexicon_leastLike a_t_now_lexicon_row a_t_now_lexicon_lipsOf a_t_now_lexicon_others t_now_lexicon_words t_now_lexicon_rowLips t_now_lexicon_girlKnows  (F_Lexicon_allWords t_now_lexicon_words) rfl) ([2]) (by decide) rfl rfl (ws' := (wd_S_share E a_t a_t_draft a_t_firstImage a_t_secondImage a_t_news a_t_otherNews a_t_readings a_t_chances a_t_turning a_t_text a_t_now a_t_now_floor a_t_now_sightings a_t_now_level a_t_now_loss a_t_now_lexicon a_t_now_lexicon_number a_t_now_lexicon_row a_t_now_lexicon_length a_t_now_lexicon_weight a_t_now_lexicon_leastLike a_t_now_lexicon_lipsOf a_t_now_lexicon_others a_t_fraction a_t_fraction_above a_t_fraction_above_limb a_t_fraction_below a_t_fraction_below_limb t_now_clearness t_now_isKept t_now_lexicon_words t_now_lexicon_rowLips t_now_lexicon_girlKnows t_now_lexicon_length t_now_lexicon_weight t_now_lexicon_leastLike t_now_lexicon_lipsOf t_now_lexicon_others'_2 t_fraction_above_limbs t_fraction_above_limb t_fraction_below_limbs t_fraction_below_limb)) rfl 2 rfl rfl rfl (As := []) (rest := [.ref a_t_now_lexicon, .int r31, .ref a_t_fraction]) rfl rfl ⟨rfl, rfl, Nat.le_of_ble_eq_true rfl, Nat.le_of_ble_eq_true rfl⟩ (Nat.le_of_ble_eq_true rfl) (Nat.zero_le _) (Nat.zero_le _) dX11_share_36 (fun H locs hW => ?_)
    obtain ⟨r39, hC4, hF⟩ := bO_s1 hF
    refine m_callV X hW hA hl.1 lkX11_231 (c_Lexicon_weightOf l E _ N a_t_now_lexicon a_t_now_lexicon_length a_t_now_lexicon_number a_t_now_lexicon_leastLike a_t_now_lexicon_row a_t_now_lexicon_lipsOf a_t_now_lexicon_others a_t_now_lexicon_weight t_now_lexicon_words t_now_lexicon_rowLips t_now_lexicon_girlKnows t_now_lexicon_weight (F_Lexicon_allWords t_now_lexicon_words) r39 hC4) ([2, 4]) (by decide) rfl rfl (ws' := (wd_S_share E a_t a_t_draft a_t_firstImage a_t_secondImage a_t_news a_t_otherNews a_t_readings a_t_chances a_t_turning a_t_text a_t_now a_t_now_floor a_t_now_sightings a_t_now_level a_t_now_loss a_t_now_lexicon a_t_now_lexicon_number a_t_now_lexicon_row a_t_now_lexicon_length a_t_now_lexicon_weight a_t_now_lexicon_leastLike a_t_now_lexicon_lipsOf a_t_now_lexicon_others a_t_fraction a_t_fraction_above a_t_fraction_above_limb a_t_fraction_below a_t_fraction_below_limb t_now_clearness t_now_isKept t_now_lexicon_words t_now_lexicon_rowLips t_now_lexicon_girlKnows t_now_lexicon_length t_now_lexicon_weight t_now_lexicon_leastLike t_now_lexicon_lipsOf t_now_lexicon_others'_2 t_fraction_above_limbs t_fraction_above_limb t_fraction_below_limbs t_fraction_below_limb)) rfl 2 rfl rfl rfl (As := [.int (F_Lexicon_allWords t_now_lexicon_words)]) (rest := [.int r31, .ref a_t_fraction]) rfl rfl ⟨rfl, rfl, Nat.le_of_ble_eq_true rfl, Nat.le_of_ble_eq_true rfl⟩ (Nat.le_of_ble_eq_true rfl) (Nat.zero_le _) (Nat.zero_le _) dX11_share_39 (fun H locs hW => ?_)
    clear hC4
    obtain ⟨t_fraction_above_limbs'_2, t_fraction_above_limb'_2, t_fraction_below_limbs'_2, t_fraction_below_limb'_2, hC5, hF⟩ := bO_s4 hF
    refine m_callV X hW hA hl.1 lkX11_237 (c_Fraction_put0 l E _ N a_t_fraction a_t_fraction_above a_t_fraction_above_limb a_t_fraction_below a_t_fraction_below_limb t_fraction_above_limbs t_fraction_above_limb t_fraction_below_limbs t_fraction_below_limb r31 r39 (t_fraction_above_limbs'_2, t_fraction_above_limb'_2, t_fraction_below_limbs'_2, t_fraction_below_limb'_2) hC5) ([8, 9, 10, 11, 12]) (by decide) rfl rfl (ws' := (wd_S_share E a_t a_t_draft a_t_firstImage a_t_secondImage a_t_news a_t_otherNews a_t_readings a_t_chances a_t_turning a_t_text a_t_now a_t_now_floor a_t_now_sightings a_t_now_level a_t_now_loss a_t_now_lexicon a_t_now_lexicon_number a_t_now_lexicon_row a_t_now_lexicon_length a_t_now_lexicon_weight a_t_now_lexicon_leastLike a_t_now_lexicon_lipsOf a_t_now_lexicon_others a_t_fraction a_t_fraction_above a_t_fraction_above_limb a_t_fraction_below a_t_fraction_below_limb t_now_clearness t_now_isKept t_now_lexicon_words t_now_lexicon_rowLips t_now_lexicon_girlKnows t_now_lexicon_length t_now_lexicon_weight t_now_lexicon_leastLike t_now_lexicon_lipsOf t_now_lexicon_others'_2 t_fraction_above_limbs'_2 t_fraction_above_limb'_2 t_fraction_below_limbs'_2 t_fraction_below_limb'_2)) rfl 8 rfl rfl rfl (As := [.int r31, .int r39]) (rest := []) rfl rfl ⟨rfl, rfl, Nat.le_of_ble_eq_true rfl, Nat.le_of_ble_eq_true rfl⟩ (Nat.le_of_ble_eq_true rfl) (Nat.zero_le _) (Nat.zero_le _) dX11_share_42 (fun H locs hW => ?_)
    clear hC5
    refine lv_iconst (v := (1 : Int32)) hx hb dX11_share_45 (by decide) ?_
    have hq := Option.some.inj hF
    subst hq
    exact hret _ _ _ _ hW dX11_share_46
  · have hF := if_y c1 hF
    refine lv_bipush (v := (-3 : Int32)) hx hb dX11_share_15 (by decide) ?_
    have hq := Option.some.inj hF
    subst hq
    exact hret _ _ _ _ hW dX11_share_17
abbrev wd_Lexicon_bestTaught (E : m_E) (a_t : Nat) (a_t_number : Nat) (a_t_row : Nat) (a_t_length : Nat) (a_t_weight : Nat) (a_t_leastLike : Nat) (a_t_lipsOf : Nat) (a_t_others : Nat) (t_words : Int32) (t_rowLips : Int32) (t_girlKnows : Int32) (t_length : Nat → Int32) (t_weight : Nat → Int32) (t_leastLike : Nat → Int32) (t_lipsOf : Nat → Int32) (t_others : Nat → Int32) : va_W := [(a_t, .inr (3, [.int t_words, .ref a_t_length, .ref a_t_number, .ref a_t_weight, .ref a_t_leastLike, .ref a_t_row, .int t_rowLips, .int t_girlKnows, .ref a_t_lipsOf, .ref a_t_others])), (a_t_length, .inl (E.2.1 0, 10, .inl t_length)), (a_t_weight, .inl (E.2.1 0, 10, .inl t_weight)), (a_t_leastLike, .inl (E.2.1 0, 6, .inl t_leastLike)), (a_t_lipsOf, .inl (E.2.1 0, 60, .inl t_lipsOf)), (a_t_others, .inl (E.2.1 0, 10, .inl t_others))]
def rm_Lexicon_bestTaught : Room := { frames := 4, cells := 0, slots := 0, locals := 91 }
set_option maxHeartbeats 4000000 in
set_option maxRecDepth 100000 in
theorem c_Lexicon_bestTaught (l : Launch) (E : m_E) (sz N : Nat) (a_t : Nat) (a_t_number : Nat) (a_t_row : Nat) (a_t_length : Nat) (a_t_weight : Nat) (a_t_leastLike : Nat) (a_t_lipsOf : Nat) (a_t_others : Nat) (t_words : Int32) (t_rowLips : Int32) (t_girlKnows : Int32) (t_length : Nat → Int32) (t_weight : Nat → Int32) (t_leastLike : Nat → Int32) (t_lipsOf : Nat → Int32) (t_others : Nat → Int32) (p1 : Int32) (ures : Int32 × (Nat → Int32)) (hF : F_Lexicon_bestTaught N p1 t_words t_girlKnows t_length t_weight t_leastLike t_lipsOf t_others = some ures) : m_Met l yX3_bestTaught cX3_bestTaught 6 (some .int) rm_Lexicon_bestTaught E (wd_Lexicon_bestTaught E a_t a_t_number a_t_row a_t_length a_t_weight a_t_leastLike a_t_lipsOf a_t_others t_words t_rowLips t_girlKnows t_length t_weight t_leastLike t_lipsOf t_others) (wd_Lexicon_bestTaught E a_t a_t_number a_t_row a_t_length a_t_weight a_t_leastLike a_t_lipsOf a_t_others t_words t_rowLips t_girlKnows t_length t_weight t_leastLike t_lipsOf ures.2) sz [.ref a_t, .int p1] (some (.int ures.1)) := by
  refine m_ofI (by decide) (Nat.le_of_ble_eq_true rfl) ?_
  intro p e s m args below meth c A Q ls X hW hA hl hret
  obtain ⟨hx, hb, -, hown, hts, hK, -, hG⟩ := id X
  have hl : lv_has ls 6 [(0, .ref a_t), (1, .int p1)] := hl
  unfold F_Lexicon_bestTaught at hF
  refine lv_aload_n hx hb dX3_bestTaught_0 rfl (lv_at hl 0 rfl) ?_
  obtain ⟨t_others'_2, hC1, hF⟩ := bO_s1 hF
  refine m_callV X hW hA hl.1 lkX3_97 (c_Lexicon_findBetterAlike l E _ N a_t a_t_number a_t_row a_t_length a_t_weight a_t_leastLike a_t_lipsOf a_t_others t_words t_rowLips t_girlKnows t_length t_weight t_leastLike t_lipsOf t_others  t_others'_2 hC1) ([0, 1, 2, 3, 4, 5]) (by decide) rfl rfl (ws' := (wd_Lexicon_bestTaught E a_t a_t_number a_t_row a_t_length a_t_weight a_t_leastLike a_t_lipsOf a_t_others t_words t_rowLips t_girlKnows t_length t_weight t_leastLike t_lipsOf t_others'_2)) rfl 0 rfl rfl rfl (As := []) (rest := []) rfl rfl ⟨rfl, rfl, Nat.le_of_ble_eq_true rfl, Nat.le_of_ble_eq_true rfl⟩ (Nat.le_of_ble_eq_true rfl) (Nat.zero_le _) (Nat.zero_le _) dX3_bestTaught_1 (fun H locs hW => ?_)
  clear hC1
  refine lv_iconst (v := (-1 : Int32)) hx hb dX3_bestTaught_4 (by decide) ?_
  refine lv_istore_n (lv' := [(2, .int (-1 : Int32)), (0, .ref a_t), (1, .int p1)]) hx hb dX3_bestTaught_5 rfl hl (by decide) rfl (fun ls hl => ?_)
  refine lv_iconst (v := (0 : Int32)) hx hb dX3_bestTaught_6 (by decide) ?_
  refine lv_istore_n (lv' := [(3, .int (0 : Int32)), (2, .int (-1 : Int32)), (0, .ref a_t), (1, .int p1)]) hx hb dX3_bestTaught_7 rfl hl (by decide) rfl (fun ls hl => ?_)
  refine lv_iconst (v := (0 : Int32)) hx hb dX3_bestTaught_8 (by decide) ?_
  refine lv_istore (lv' := [(4, .int (0 : Int32)), (3, .int (0 : Int32)), (2, .int (-1 : Int32)), (0, .ref a_t), (1, .int p1)]) hx hb dX3_bestTaught_9 hl (by decide) rfl (fun ls hl => ?_)
  obtain ⟨x2_2, hX3, hF⟩ := bO_s1 hF
  have L2 : ∀ (k0 : Nat) (x2 : Int32) (x3 : Int32) (x4 : Int32) (x2_2 : Int32) (H : Heap) (locs : List Loc) (ls : Array Slot), Lexicon_bestTaught_L11 N t_words t_girlKnows p1 t_others'_2 t_weight k0 x2 x3 x4 = some x2_2 → m_H E A (wd_Lexicon_bestTaught E a_t a_t_number a_t_row a_t_length a_t_weight a_t_leastLike a_t_lipsOf a_t_others t_words t_rowLips t_girlKnows t_length t_weight t_leastLike t_lipsOf t_others'_2) s.heap H locs → lv_has ls 6 [(4, .int x4), (3, .int x3), (2, .int x2), (0, .ref a_t), (1, .int p1)] → (∀ (H : Heap) (locs : List Loc) (ls : Array Slot), m_H E A (wd_Lexicon_bestTaught E a_t a_t_number a_t_row a_t_length a_t_weight a_t_leastLike a_t_lipsOf a_t_others t_words t_rowLips t_girlKnows t_length t_weight t_leastLike t_lipsOf t_others'_2) s.heap H locs → lv_has ls 6 [(2, .int x2_2)] → W p l e rm_Lexicon_bestTaught s m args below meth c H locs 0 0 Q (F0 m 82 ls [])) → W p l e rm_Lexicon_bestTaught s m args below meth c H locs 0 0 Q (F0 m 11 ls []) := by
    clear hF
    intro k0
    induction k0 with
    | zero =>
      intro x2 x3 x4 x2_2 H locs ls hF
      cases hF
    | succ k0 ih5 =>
      intro x2 x3 x4 x2_2 H locs ls hF hW hl hk4
      rw [Lexicon_bestTaught_L11] at hF
      refine lv_iload hx hb dX3_bestTaught_11 (lv_at hl 0 rfl) ?_
      refine lv_aload_n hx hb dX3_bestTaught_13 rfl (lv_at hl 3 rfl) ?_
      refine m_callV X hW hA hl.1 lkX3_56 (c_Lexicon_allWords l E _ N a_t a_t_length a_t_number a_t_weight a_t_leastLike a_t_row a_t_lipsOf a_t_others t_words t_rowLips t_girlKnows  (F_Lexicon_allWords t_words) rfl) ([0]) (by decide) rfl rfl (ws' := (wd_Lexicon_bestTaught E a_t a_t_number a_t_row a_t_length a_t_weight a_t_leastLike a_t_lipsOf a_t_others t_words t_rowLips t_girlKnows t_length t_weight t_leastLike t_lipsOf t_others'_2)) rfl 0 rfl rfl rfl (As := []) (rest := [.int x4]) rfl rfl ⟨rfl, rfl, Nat.le_of_ble_eq_true rfl, Nat.le_of_ble_eq_true rfl⟩ (Nat.le_of_ble_eq_true rfl) (Nat.zero_le _) (Nat.zero_le _) dX3_bestTaught_14 (fun H locs hW => ?_)
      refine lv_icmp_gt (tgt := 82) hx hb dX3_bestTaught_17 (by decide) (fun c6 => ?_) (fun c6 => ?_)
      · have hF := if_y c6 hF
        cases hF
        exact hk4 _ _ _ hW (lv_sub hl [2] rfl)
      · have hF := if_n c6 hF
        refine lv_iload hx hb dX3_bestTaught_20 (lv_at hl 0 rfl) ?_
        refine lv_aload_n hx hb dX3_bestTaught_22 rfl (lv_at hl 3 rfl) ?_
        refine m_get X hW fdX3_43 0 rfl rfl dX3_bestTaught_23 ?_
        refine lv_iand hx hb dX3_bestTaught_26 ?_
        refine lv_if_ne (tgt := 76) hx hb dX3_bestTaught_27 (by decide) (fun c7 => ?_) (fun c7 => ?_)
        · have hF := if_n c7 hF
          refine lv_iinc (v := (x4 + (1 : Int32))) (lv' := [(4, .int (x4 + (1 : Int32))), (3, .int x3), (2, .int x2), (0, .ref a_t), (1, .int p1)]) hx hb dX3_bestTaught_76 hl (k := 0) rfl rfl (by decide) rfl (fun ls hl => ?_)
          refine lv_goto (tgt := 11) hx hb dX3_bestTaught_79 (by decide) ?_
          exact ih5 x2 x3 (x4 + (1 : Int32)) x2_2 _ _ _ hF hW (lv_sub hl [0, 1, 2, 3, 4] rfl) hk4
        · have hF := if_y c7 hF
          refine lv_iload hx hb dX3_bestTaught_30 (lv_at hl 0 rfl) ?_
          refine m_callS X hW hA hl.1 lkX3_92 (c_Integer_bitCount l E _ N   x4 (F_Integer_bitCount x4) rfl) ([]) (by decide) rfl rfl (ws' := (wd_Lexicon_bestTaught E a_t a_t_number a_t_row a_t_length a_t_weight a_t_leastLike a_t_lipsOf a_t_others t_words t_rowLips t_girlKnows t_length t_weight t_leastLike t_lipsOf t_others'_2)) rfl (As := [.int x4]) (rest := []) rfl rfl ⟨rfl, rfl, Nat.le_of_ble_eq_true rfl, Nat.le_of_ble_eq_true rfl⟩ (Nat.le_of_ble_eq_true rfl) (Nat.zero_le _) (Nat.zero_le _) dX3_bestTaught_32 (fun H locs hW => ?_)
          refine lv_iload_n hx hb dX3_bestTaught_35 rfl (lv_at hl 4 rfl) ?_
          refine lv_icmp_eq (tgt := 42) hx hb dX3_bestTaught_36 (by decide) (fun c8 => ?_) (fun c8 => ?_)
          · have hF := if_y c8 hF
            refine lv_aload_n hx hb dX3_bestTaught_42 rfl (lv_at hl 3 rfl) ?_
            refine lv_aload_n hx hb dX3_bestTaught_43 rfl (lv_at hl 3 rfl) ?_
            refine lv_aload_n hx hb dX3_bestTaught_44 rfl (lv_at hl 3 rfl) ?_
            refine m_get X hW fdX3_43 0 rfl rfl dX3_bestTaught_45 ?_
            refine lv_iload hx hb dX3_bestTaught_48 (lv_at hl 0 rfl) ?_
            refine lv_ior hx hb dX3_bestTaught_50 ?_
            obtain ⟨r51, hC9, hF⟩ := bO_s1 hF
            refine m_callV X hW hA hl.1 lkX3_100 (c_Lexicon_gottenOf l E _ N a_t a_t_length a_t_number a_t_weight a_t_leastLike a_t_row a_t_lipsOf a_t_others t_words t_rowLips t_girlKnows t_others'_2 (t_girlKnows ||| x4) r51 hC9) ([0, 5]) (by decide) rfl rfl (ws' := (wd_Lexicon_bestTaught E a_t a_t_number a_t_row a_t_length a_t_weight a_t_leastLike a_t_lipsOf a_t_others t_words t_rowLips t_girlKnows t_length t_weight t_leastLike t_lipsOf t_others'_2)) rfl 0 rfl rfl rfl (As := [.int (t_girlKnows ||| x4)]) (rest := [.ref a_t]) rfl rfl ⟨rfl, rfl, Nat.le_of_ble_eq_true rfl, Nat.le_of_ble_eq_true rfl⟩ (Nat.le_of_ble_eq_true rfl) (Nat.zero_le _) (Nat.zero_le _) dX3_bestTaught_51 (fun H locs hW => ?_)
            clear hC9
            obtain ⟨r54, hC10, hF⟩ := bO_s1 hF
            refine m_callV X hW hA hl.1 lkX3_86 (c_Lexicon_weightOf l E _ N a_t a_t_length a_t_number a_t_leastLike a_t_row a_t_lipsOf a_t_others a_t_weight t_words t_rowLips t_girlKnows t_weight r51 r54 hC10) ([0, 2]) (by decide) rfl rfl (ws' := (wd_Lexicon_bestTaught E a_t a_t_number a_t_row a_t_length a_t_weight a_t_leastLike a_t_lipsOf a_t_others t_words t_rowLips t_girlKnows t_length t_weight t_leastLike t_lipsOf t_others'_2)) rfl 0 rfl rfl rfl (As := [.int r51]) (rest := []) rfl rfl ⟨rfl, rfl, Nat.le_of_ble_eq_true rfl, Nat.le_of_ble_eq_true rfl⟩ (Nat.le_of_ble_eq_true rfl) (Nat.zero_le _) (Nat.zero_le _) dX3_bestTaught_54 (fun H locs hW => ?_)
            clear hC10
            refine lv_istore (lv' := [(5, .int r54), (4, .int x4), (3, .int x3), (2, .int x2), (0, .ref a_t), (1, .int p1)]) hx hb dX3_bestTaught_57 hl (by decide) rfl (fun ls hl => ?_)
            refine lv_iload_n hx hb dX3_bestTaught_59 rfl (lv_at hl 3 rfl) ?_
            refine lv_iconst (v := (-1 : Int32)) hx hb dX3_bestTaught_60 (by decide) ?_
            refine lv_icmp_eq (tgt := 70) hx hb dX3_bestTaught_61 (by decide) (fun c11 => ?_) (fun c11 => ?_)
            · have hF := if_y c11 hF
              refine lv_iload hx hb dX3_bestTaught_70 (lv_at hl 1 rfl) ?_
              refine lv_istore_n (lv' := [(2, .int x4), (5, .int r54), (4, .int x4), (3, .int x3), (0, .ref a_t), (1, .int p1)]) hx hb dX3_bestTaught_72 rfl hl (by decide) rfl (fun ls hl => ?_)
              refine lv_iload hx hb dX3_bestTaught_73 (lv_at hl 1 rfl) ?_
              refine lv_istore_n (lv' := [(3, .int r54), (2, .int x4), (5, .int r54), (4, .int x4), (0, .ref a_t), (1, .int p1)]) hx hb dX3_bestTaught_75 rfl hl (by decide) rfl (fun ls hl => ?_)
              refine lv_iinc (v := (x4 + (1 : Int32))) (lv' := [(4, .int (x4 + (1 : Int32))), (3, .int r54), (2, .int x4), (5, .int r54), (0, .ref a_t), (1, .int p1)]) hx hb dX3_bestTaught_76 hl (k := 3) rfl rfl (by decide) rfl (fun ls hl => ?_)
              refine lv_goto (tgt := 11) hx hb dX3_bestTaught_79 (by decide) ?_
              exact ih5 x4 r54 (x4 + (1 : Int32)) x2_2 _ _ _ hF hW (lv_sub hl [0, 1, 2, 4, 5] rfl) hk4
            · have hF := if_n c11 hF
              refine lv_iload hx hb dX3_bestTaught_64 (lv_at hl 0 rfl) ?_
              refine lv_iload_n hx hb dX3_bestTaught_66 rfl (lv_at hl 2 rfl) ?_
              refine lv_icmp_le (tgt := 76) hx hb dX3_bestTaught_67 (by decide) (fun c12 => ?_) (fun c12 => ?_)
              · have hF := if_y c12 hF
                refine lv_iinc (v := (x4 + (1 : Int32))) (lv' := [(4, .int (x4 + (1 : Int32))), (5, .int r54), (3, .int x3), (2, .int x2), (0, .ref a_t), (1, .int p1)]) hx hb dX3_bestTaught_76 hl (k := 1) rfl rfl (by decide) rfl (fun ls hl => ?_)
                refine lv_goto (tgt := 11) hx hb dX3_bestTaught_79 (by decide) ?_
                exact ih5 x2 x3 (x4 + (1 : Int32)) x2_2 _ _ _ hF hW (lv_sub hl [0, 2, 3, 4, 5] rfl) hk4
              · have hF := if_n c12 hF
                refine lv_iload hx hb dX3_bestTaught_70 (lv_at hl 1 rfl) ?_
                refine lv_istore_n (lv' := [(2, .int x4), (5, .int r54), (4, .int x4), (3, .int x3), (0, .ref a_t), (1, .int p1)]) hx hb dX3_bestTaught_72 rfl hl (by decide) rfl (fun ls hl => ?_)
                refine lv_iload hx hb dX3_bestTaught_73 (lv_at hl 1 rfl) ?_
                refine lv_istore_n (lv' := [(3, .int r54), (2, .int x4), (5, .int r54), (4, .int x4), (0, .ref a_t), (1, .int p1)]) hx hb dX3_bestTaught_75 rfl hl (by decide) rfl (fun ls hl => ?_)
                refine lv_iinc (v := (x4 + (1 : Int32))) (lv' := [(4, .int (x4 + (1 : Int32))), (3, .int r54), (2, .int x4), (5, .int r54), (0, .ref a_t), (1, .int p1)]) hx hb dX3_bestTaught_76 hl (k := 3) rfl rfl (by decide) rfl (fun ls hl => ?_)
                refine lv_goto (tgt := 11) hx hb dX3_bestTaught_79 (by decide) ?_
                exact ih5 x4 r54 (x4 + (1 : Int32)) x2_2 _ _ _ hF hW (lv_sub hl [0, 1, 2, 4, 5] rfl) hk4
          · have hF := if_n c8 hF
            refine lv_goto (tgt := 76) hx hb dX3_bestTaught_39 (by decide) ?_
            refine lv_iinc (v := (x4 + (1 : Int32))) (lv' := [(4, .int (x4 + (1 : Int32))), (3, .int x3), (2, .int x2), (0, .ref a_t), (1, .int p1)]) hx hb dX3_bestTaught_76 hl (k := 0) rfl rfl (by decide) rfl (fun ls hl => ?_)
            refine lv_goto (tgt := 11) hx hb dX3_bestTaught_79 (by decide) ?_
            exact ih5 x2 x3 (x4 + (1 : Int32)) x2_2 _ _ _ hF hW (lv_sub hl [0, 1, 2, 3, 4] rfl) hk4
  refine L2 N (-1 : Int32) (0 : Int32) (0 : Int32) x2_2 _ _ _ hX3 hW (lv_sub hl [0, 1, 2, 3, 4] rfl) ?_
  intro H locs ls hW hl
  clear L2
  refine lv_iload_n hx hb dX3_bestTaught_82 rfl (lv_at hl 0 rfl) ?_
  have hq := Option.some.inj hF
  subst hq
  exact hret _ _ _ _ hW dX3_bestTaught_83
abbrev wd_S_teach (E : m_E) (a_t : Nat) (a_t_draft : Nat) (a_t_firstImage : Nat) (a_t_secondImage : Nat) (a_t_news : Nat) (a_t_otherNews : Nat) (a_t_readings : Nat) (a_t_chances : Nat) (a_t_turning : Nat) (a_t_text : Nat) (a_t_fraction : Nat) (a_t_now : Nat) (a_t_now_floor : Nat) (a_t_now_sightings : Nat) (a_t_now_level : Nat) (a_t_now_loss : Nat) (a_t_now_lexicon : Nat) (a_t_now_lexicon_number : Nat) (a_t_now_lexicon_row : Nat) (a_t_now_lexicon_length : Nat) (a_t_now_lexicon_weight : Nat) (a_t_now_lexicon_leastLike : Nat) (a_t_now_lexicon_lipsOf : Nat) (a_t_now_lexicon_others : Nat) (t_now_clearness : Int32) (t_now_isKept : Int32) (t_now_lexicon_words : Int32) (t_now_lexicon_rowLips : Int32) (t_now_lexicon_girlKnows : Int32) (t_now_lexicon_length : Nat → Int32) (t_now_lexicon_weight : Nat → Int32) (t_now_lexicon_leastLike : Nat → Int32) (t_now_lexicon_lipsOf : Nat → Int32) (t_now_lexicon_others : Nat → Int32) : va_W := [(a_t, .inr (11, [.ref a_t_now, .ref a_t_draft, .ref a_t_firstImage, .ref a_t_secondImage, .ref a_t_news, .ref a_t_otherNews, .ref a_t_readings, .ref a_t_chances, .ref a_t_turning, .ref a_t_text, .ref a_t_fraction])), (a_t_now, .inr (7, [.ref a_t_now_floor, .ref a_t_now_sightings, .ref a_t_now_lexicon, .ref a_t_now_level, .ref a_t_now_loss, .int t_now_clearness, .int t_now_isKept])), (a_t_now_lexicon, .inr (3, [.int t_now_lexicon_words, .ref a_t_now_lexicon_length, .ref a_t_now_lexicon_number, .ref a_t_now_lexicon_weight, .ref a_t_now_lexicon_leastLike, .ref a_t_now_lexicon_row, .int t_now_lexicon_rowLips, .int t_now_lexicon_girlKnows, .ref a_t_now_lexicon_lipsOf, .ref a_t_now_lexicon_others])), (a_t_now_lexicon_length, .inl (E.2.1 0, 10, .inl t_now_lexicon_length)), (a_t_now_lexicon_weight, .inl (E.2.1 0, 10, .inl t_now_lexicon_weight)), (a_t_now_lexicon_leastLike, .inl (E.2.1 0, 6, .inl t_now_lexicon_leastLike)), (a_t_now_lexicon_lipsOf, .inl (E.2.1 0, 60, .inl t_now_lexicon_lipsOf)), (a_t_now_lexicon_others, .inl (E.2.1 0, 10, .inl t_now_lexicon_others))]
def rm_S_teach : Room := { frames := 5, cells := 0, slots := 0, locals := 116 }
set_option maxHeartbeats 4000000 in
set_option maxRecDepth 100000 in
theorem c_S_teach (l : Launch) (E : m_E) (sz N : Nat) (a_t : Nat) (a_t_draft : Nat) (a_t_firstImage : Nat) (a_t_secondImage : Nat) (a_t_news : Nat) (a_t_otherNews : Nat) (a_t_readings : Nat) (a_t_chances : Nat) (a_t_turning : Nat) (a_t_text : Nat) (a_t_fraction : Nat) (a_t_now : Nat) (a_t_now_floor : Nat) (a_t_now_sightings : Nat) (a_t_now_level : Nat) (a_t_now_loss : Nat) (a_t_now_lexicon : Nat) (a_t_now_lexicon_number : Nat) (a_t_now_lexicon_row : Nat) (a_t_now_lexicon_length : Nat) (a_t_now_lexicon_weight : Nat) (a_t_now_lexicon_leastLike : Nat) (a_t_now_lexicon_lipsOf : Nat) (a_t_now_lexicon_others : Nat) (t_now_clearness : Int32) (t_now_isKept : Int32) (t_now_lexicon_words : Int32) (t_now_lexicon_rowLips : Int32) (t_now_lexicon_girlKnows : Int32) (t_now_lexicon_length : Nat → Int32) (t_now_lexicon_weight : Nat → Int32) (t_now_lexicon_leastLike : Nat → Int32) (t_now_lexicon_lipsOf : Nat → Int32) (t_now_lexicon_others : Nat → Int32) (p1 : Int32) (ures : Int32 × (Nat → Int32)) (hF : F_S_teach N p1 t_now_lexicon_words t_now_lexicon_girlKnows t_now_lexicon_length t_now_lexicon_weight t_now_lexicon_leastLike t_now_lexicon_lipsOf t_now_lexicon_others = some ures) : m_Met l yX11_teach cX11_teach 2 (some .int) rm_S_teach E (wd_S_teach E a_t a_t_draft a_t_firstImage a_t_secondImage a_t_news a_t_otherNews a_t_readings a_t_chances a_t_turning a_t_text a_t_fraction a_t_now a_t_now_floor a_t_now_sightings a_t_now_level a_t_now_loss a_t_now_lexicon a_t_now_lexicon_number a_t_now_lexicon_row a_t_now_lexicon_length a_t_now_lexicon_weight a_t_now_lexicon_leastLike a_t_now_lexicon_lipsOf a_t_now_lexicon_others t_now_clearness t_now_isKept t_now_lexicon_words t_now_lexicon_rowLips t_now_lexicon_girlKnows t_now_lexicon_length t_now_lexicon_weight t_now_lexicon_leastLike t_now_lexicon_lipsOf t_now_lexicon_others) (wd_S_teach E a_t a_t_draft a_t_firstImage a_t_secondImage a_t_news a_t_otherNews a_t_readings a_t_chances a_t_turning a_t_text a_t_fraction a_t_now a_t_now_floor a_t_now_sightings a_t_now_level a_t_now_loss a_t_now_lexicon a_t_now_lexicon_number a_t_now_lexicon_row a_t_now_lexicon_length a_t_now_lexicon_weight a_t_now_lexicon_leastLike a_t_now_lexicon_lipsOf a_t_now_lexicon_others t_now_clearness t_now_isKept t_now_lexicon_words t_now_lexicon_rowLips t_now_lexicon_girlKnows t_now_lexicon_length t_now_lexicon_weight t_now_lexicon_leastLike t_now_lexicon_lipsOf ures.2) sz [.ref a_t, .int p1] (some (.int ures.1)) := by
  refine m_ofI (by decide) (Nat.le_of_ble_eq_true rfl) ?_
  intro p e s m args below meth c A Q ls X hW hA hl hret
  obtain ⟨hx, hb, -, hown, hts, hK, -, hG⟩ := id X
  have hl : lv_has ls 2 [(0, .ref a_t), (1, .int p1)] := hl
  unfold F_S_teach at hF
  refine lv_iload_n hx hb dX11_teach_0 rfl (lv_at hl 1 rfl) ?_
  refine lv_iconst (v := (0 : Int32)) hx hb dX11_teach_1 (by decide) ?_
  refine lv_aload_n hx hb dX11_teach_2 rfl (lv_at hl 0 rfl) ?_
  refine m_get X hW fdX11_10 0 rfl rfl dX11_teach_3 ?_
  refine m_get X hW fdX11_156 1 rfl rfl dX11_teach_6 ?_
  refine m_get X hW fdX11_202 2 rfl rfl dX11_teach_9 ?_
  refine lv_aload_n hx hb dX11_teach_12 rfl (lv_at hl 0 rfl) ?_
  refine m_get X hW fdX11_10 0 rfl rfl dX11_teach_13 ?_
  refine m_get X hW fdX11_156 1 rfl rfl dX11_teach_16 ?_
  refine m_get X hW fdX11_225 2 rfl rfl dX11_teach_19 ?_
  refine m_callS X hW hA hl.1 lkX11_241 (c_Integer_bitCount l E _ N   t_now_lexicon_girlKnows (F_Integer_bitCount t_now_lexicon_girlKnows) rfl) ([]) (by decide) rfl rfl (ws' := (wd_S_teach E a_t a_t_draft a_t_firstImage a_t_secondImage a_t_news a_t_otherNews a_t_readings a_t_chances a_t_turning a_t_text a_t_fraction a_t_now a_t_now_floor a_t_now_sightings a_t_now_level a_t_now_loss a_t_now_lexicon a_t_now_lexicon_number a_t_now_lexicon_row a_t_now_lexicon_length a_t_now_lexicon_weight a_t_now_lexicon_leastLike a_t_now_lexicon_lipsOf a_t_now_lexicon_others t_now_clearness t_now_isKept t_now_lexicon_words t_now_lexicon_rowLips t_now_lexicon_girlKnows t_now_lexicon_length t_now_lexicon_weight t_now_lexicon_leastLike t_now_lexicon_lipsOf t_now_lexicon_others)) rfl (As := [.int t_now_lexicon_girlKnows]) (rest := [.int t_now_lexicon_words, .int (0 : Int32), .int p1]) rfl rfl ⟨rfl, rfl, Nat.le_of_ble_eq_true rfl, Nat.le_of_ble_eq_true rfl⟩ (Nat.le_of_ble_eq_true rfl) (Nat.zero_le _) (Nat.zero_le _) dX11_teach_22 (fun H locs hW => ?_)
  refine lv_isub hx hb dX11_teach_25 ?_
  refine m_callS X hW hA hl.1 lkX11_98 (c_S_within l E _ N   p1 (0 : Int32) (t_now_lexicon_words - (F_Integer_bitCount t_now_lexicon_girlKnows)) (F_S_within p1 (0 : Int32) (t_now_lexicon_words - (F_Integer_bitCount t_now_lexicon_girlKnows))) rfl) ([]) (by decide) rfl rfl (ws' := (wd_S_teach E a_t a_t_draft a_t_firstImage a_t_secondImage a_t_news a_t_otherNews a_t_readings a_t_chances a_t_turning a_t_text a_t_fraction a_t_now a_t_now_floor a_t_now_sightings a_t_now_level a_t_now_loss a_t_now_lexicon a_t_now_lexicon_number a_t_now_lexicon_row a_t_now_lexicon_length a_t_now_lexicon_weight a_t_now_lexicon_leastLike a_t_now_lexicon_lipsOf a_t_now_lexicon_others t_now_clearness t_now_isKept t_now_lexicon_words t_now_lexicon_rowLips t_now_lexicon_girlKnows t_now_lexicon_length t_now_lexicon_weight t_now_lexicon_leastLike t_now_lexicon_lipsOf t_now_lexicon_others)) rfl (As := [.int p1, .int (0 : Int32), .int (t_now_lexicon_words - (F_Integer_bitCount t_now_lexicon_girlKnows))]) (rest := []) rfl rfl ⟨rfl, rfl, Nat.le_of_ble_eq_true rfl, Nat.le_of_ble_eq_true rfl⟩ (Nat.le_of_ble_eq_true rfl) (Nat.zero_le _) (Nat.zero_le _) dX11_teach_26 (fun H locs hW => ?_)
  refine lv_if_ne (tgt := 35) hx hb dX11_teach_29 (by decide) (fun c1 => ?_) (fun c1 => ?_)
  · have hF := if_n c1 hF
    refine lv_aload_n hx hb dX11_teach_35 rfl (lv_at hl 0 rfl) ?_
    refine m_get X hW fdX11_10 0 rfl rfl dX11_teach_36 ?_
    refine m_get X hW fdX11_156 1 rfl rfl dX11_teach_39 ?_
    refine lv_iload_n hx hb dX11_teach_42 rfl (lv_at hl 1 rfl) ?_
    obtain ⟨r43, t_now_lexicon_others'_2, hC2, hF⟩ := bO_s2 hF
    refine m_callV X hW hA hl.1 lkX11_246 (c_Lexicon_bestTaught l E _ N a_t_now_lexicon a_t_now_lexicon_number a_t_now_lexicon_row a_t_now_lexicon_length a_t_now_lexicon_weight a_t_now_lexicon_leastLike a_t_now_lexicon_lipsOf a_t_now_lexicon_others t_now_lexicon_words t_now_lexicon_rowLips t_now_lexicon_girlKnows t_now_lexicon_length t_now_lexicon_weight t_now_lexicon_leastLike t_now_lexicon_lipsOf t_now_lexicon_others p1 (r43, t_now_lexicon_others'_2) hC2) ([2, 3, 4, 5, 6, 7]) (by decide) rfl rfl (ws' := (wd_S_teach E a_t a_t_draft a_t_firstImage a_t_secondImage a_t_news a_t_otherNews a_t_readings a_t_chances a_t_turning a_t_text a_t_fraction a_t_now a_t_now_floor a_t_now_sightings a_t_now_level a_t_now_loss a_t_now_lexicon a_t_now_lexicon_number a_t_now_lexicon_row a_t_now_lexicon_length a_t_now_lexicon_weight a_t_now_lexicon_leastLike a_t_now_lexicon_lipsOf a_t_now_lexicon_others t_now_clearness t_now_isKept t_now_lexicon_words t_now_lexicon_rowLips t_now_lexicon_girlKnows t_now_lexicon_length t_now_lexicon_weight t_now_lexicon_leastLike t_now_lexicon_lipsOf t_now_lexicon_others'_2)) rfl 2 rfl rfl rfl (As := [.int p1]) (rest := []) rfl rfl ⟨rfl, rfl, Nat.le_of_ble_eq_true rfl, Nat.le_of_ble_eq_true rfl⟩ (Nat.le_of_ble_eq_true rfl) (Nat.zero_le _) (Nat.zero_le _) dX11_teach_43 (fun H locs hW => ?_)
    clear hC2
    have hq := Option.some.inj hF
    subst hq
    exact hret _ _ _ _ hW dX11_teach_46
  · have hF := if_y c1 hF
    refine lv_bipush (v := (-2 : Int32)) hx hb dX11_teach_32 (by decide) ?_
    have hq := Option.some.inj hF
    subst hq
    exact hret _ _ _ _ hW dX11_teach_34
abbrev wd_S_band (E : m_E) (a_t : Nat) (a_t_draft : Nat) (a_t_firstImage : Nat) (a_t_secondImage : Nat) (a_t_news : Nat) (a_t_otherNews : Nat) (a_t_readings : Nat) (a_t_chances : Nat) (a_t_turning : Nat) (a_t_text : Nat) (a_t_fraction : Nat) (a_t_now : Nat) (a_t_now_floor : Nat) (a_t_now_sightings : Nat) (a_t_now_lexicon : Nat) (a_t_now_level : Nat) (a_t_now_loss : Nat) (t_now_clearness : Int32) (t_now_isKept : Int32) (t_now_level : Nat → Int32) (t_now_loss : Nat → Int32) : va_W := [(a_t, .inr (11, [.ref a_t_now, .ref a_t_draft, .ref a_t_firstImage, .ref a_t_secondImage, .ref a_t_news, .ref a_t_otherNews, .ref a_t_readings, .ref a_t_chances, .ref a_t_turning, .ref a_t_text, .ref a_t_fraction])), (a_t_now, .inr (7, [.ref a_t_now_floor, .ref a_t_now_sightings, .ref a_t_now_lexicon, .ref a_t_now_level, .ref a_t_now_loss, .int t_now_clearness, .int t_now_isKept])), (a_t_now_level, .inl (E.2.1 0, 6, .inl t_now_level)), (a_t_now_loss, .inl (E.2.1 0, 6, .inl t_now_loss))]
def rm_S_band : Room := { frames := 1, cells := 0, slots := 0, locals := 22 }
set_option maxHeartbeats 4000000 in
set_option maxRecDepth 100000 in
theorem c_S_band (l : Launch) (E : m_E) (sz N : Nat) (a_t : Nat) (a_t_draft : Nat) (a_t_firstImage : Nat) (a_t_secondImage : Nat) (a_t_news : Nat) (a_t_otherNews : Nat) (a_t_readings : Nat) (a_t_chances : Nat) (a_t_turning : Nat) (a_t_text : Nat) (a_t_fraction : Nat) (a_t_now : Nat) (a_t_now_floor : Nat) (a_t_now_sightings : Nat) (a_t_now_lexicon : Nat) (a_t_now_level : Nat) (a_t_now_loss : Nat) (t_now_clearness : Int32) (t_now_isKept : Int32) (t_now_level : Nat → Int32) (t_now_loss : Nat → Int32) (p1 : Int32) (p2 : Int32) (p3 : Int32) (ures : Int32 × (Nat → Int32) × (Nat → Int32)) (hF : F_S_band p1 p2 p3 t_now_level t_now_loss = some ures) : m_Met l yX11_band cX11_band 4 (some .int) rm_S_band E (wd_S_band E a_t a_t_draft a_t_firstImage a_t_secondImage a_t_news a_t_otherNews a_t_readings a_t_chances a_t_turning a_t_text a_t_fraction a_t_now a_t_now_floor a_t_now_sightings a_t_now_lexicon a_t_now_level a_t_now_loss t_now_clearness t_now_isKept t_now_level t_now_loss) (wd_S_band E a_t a_t_draft a_t_firstImage a_t_secondImage a_t_news a_t_otherNews a_t_readings a_t_chances a_t_turning a_t_text a_t_fraction a_t_now a_t_now_floor a_t_now_sightings a_t_now_lexicon a_t_now_level a_t_now_loss t_now_clearness t_now_isKept ures.2.1 ures.2.2) sz [.ref a_t, .int p1, .int p2, .int p3] (some (.int ures.1)) := by
  refine m_ofI (by decide) (Nat.le_of_ble_eq_true rfl) ?_
  intro p e s m args below meth c A Q ls X hW hA hl hret
  obtain ⟨hx, hb, -, hown, hts, hK, -, hG⟩ := id X
  have hl : lv_has ls 4 [(0, .ref a_t), (1, .int p1), (2, .int p2), (3, .int p3)] := hl
  unfold F_S_band at hF
  refine lv_iload_n hx hb dX11_band_0 rfl (lv_at hl 1 rfl) ?_
  refine lv_iconst (v := (0 : Int32)) hx hb dX11_band_1 (by decide) ?_
  refine lv_iconst (v := (5 : Int32)) hx hb dX11_band_2 (by decide) ?_
  refine m_callS X hW hA hl.1 lkX11_98 (c_S_within l E _ N   p1 (0 : Int32) (5 : Int32) (F_S_within p1 (0 : Int32) (5 : Int32)) rfl) ([]) (by decide) rfl rfl (ws' := (wd_S_band E a_t a_t_draft a_t_firstImage a_t_secondImage a_t_news a_t_otherNews a_t_readings a_t_chances a_t_turning a_t_text a_t_fraction a_t_now a_t_now_floor a_t_now_sightings a_t_now_lexicon a_t_now_level a_t_now_loss t_now_clearness t_now_isKept t_now_level t_now_loss)) rfl (As := [.int p1, .int (0 : Int32), .int (5 : Int32)]) (rest := []) rfl rfl ⟨rfl, rfl, Nat.le_of_ble_eq_true rfl, Nat.le_of_ble_eq_true rfl⟩ (Nat.le_of_ble_eq_true rfl) (Nat.zero_le _) (Nat.zero_le _) dX11_band_3 (fun H locs hW => ?_)
  refine lv_if_eq (tgt := 29) hx hb dX11_band_6 (by decide) (fun c1 => ?_) (fun c1 => ?_)
  · have hF := if_y c1 hF
    refine lv_bipush (v := (-2 : Int32)) hx hb dX11_band_29 (by decide) ?_
    have hq := Option.some.inj hF
    subst hq
    exact hret _ _ _ _ hW dX11_band_31
  · have hF := if_n c1 hF
    refine lv_iload_n hx hb dX11_band_9 rfl (lv_at hl 2 rfl) ?_
    refine lv_iconst (v := (0 : Int32)) hx hb dX11_band_10 (by decide) ?_
    refine lv_bipush (v := (99 : Int32)) hx hb dX11_band_11 (by decide) ?_
    refine m_callS X hW hA hl.1 lkX11_98 (c_S_within l E _ N   p2 (0 : Int32) (99 : Int32) (F_S_within p2 (0 : Int32) (99 : Int32)) rfl) ([]) (by decide) rfl rfl (ws' := (wd_S_band E a_t a_t_draft a_t_firstImage a_t_secondImage a_t_news a_t_otherNews a_t_readings a_t_chances a_t_turning a_t_text a_t_fraction a_t_now a_t_now_floor a_t_now_sightings a_t_now_lexicon a_t_now_level a_t_now_loss t_now_clearness t_now_isKept t_now_level t_now_loss)) rfl (As := [.int p2, .int (0 : Int32), .int (99 : Int32)]) (rest := []) rfl rfl ⟨rfl, rfl, Nat.le_of_ble_eq_true rfl, Nat.le_of_ble_eq_true rfl⟩ (Nat.le_of_ble_eq_true rfl) (Nat.zero_le _) (Nat.zero_le _) dX11_band_13 (fun H locs hW => ?_)
    refine lv_if_eq (tgt := 29) hx hb dX11_band_16 (by decide) (fun c2 => ?_) (fun c2 => ?_)
    · have hF := if_y c2 hF
      refine lv_bipush (v := (-2 : Int32)) hx hb dX11_band_29 (by decide) ?_
      have hq := Option.some.inj hF
      subst hq
      exact hret _ _ _ _ hW dX11_band_31
    · have hF := if_n c2 hF
      refine lv_iload_n hx hb dX11_band_19 rfl (lv_at hl 3 rfl) ?_
      refine lv_iconst (v := (0 : Int32)) hx hb dX11_band_20 (by decide) ?_
      refine lv_bipush (v := (9 : Int32)) hx hb dX11_band_21 (by decide) ?_
      refine m_callS X hW hA hl.1 lkX11_98 (c_S_within l E _ N   p3 (0 : Int32) (9 : Int32) (F_S_within p3 (0 : Int32) (9 : Int32)) rfl) ([]) (by decide) rfl rfl (ws' := (wd_S_band E a_t a_t_draft a_t_firstImage a_t_secondImage a_t_news a_t_otherNews a_t_readings a_t_chances a_t_turning a_t_text a_t_fraction a_t_now a_t_now_floor a_t_now_sightings a_t_now_lexicon a_t_now_level a_t_now_loss t_now_clearness t_now_isKept t_now_level t_now_loss)) rfl (As := [.int p3, .int (0 : Int32), .int (9 : Int32)]) (rest := []) rfl rfl ⟨rfl, rfl, Nat.le_of_ble_eq_true rfl, Nat.le_of_ble_eq_true rfl⟩ (Nat.le_of_ble_eq_true rfl) (Nat.zero_le _) (Nat.zero_le _) dX11_band_23 (fun H locs hW => ?_)
      refine lv_if_ne (tgt := 32) hx hb dX11_band_26 (by decide) (fun c3 => ?_) (fun c3 => ?_)
      · have hF := if_n c3 hF
        refine lv_aload_n hx hb dX11_band_32 rfl (lv_at hl 0 rfl) ?_
        refine m_get X hW fdX11_10 0 rfl rfl dX11_band_33 ?_
        refine m_get X hW fdX11_249 1 rfl rfl dX11_band_36 ?_
        refine lv_iload_n hx hb dX11_band_39 rfl (lv_at hl 1 rfl) ?_
        refine lv_iload_n hx hb dX11_band_40 rfl (lv_at hl 2 rfl) ?_
        obtain ⟨g4, hF⟩ := gd_some hF
        refine m_iast X hW 2 (k := p1.toNatClampNeg) rfl g4 rfl dX11_band_41 (ws' := (wd_S_band E a_t a_t_draft a_t_firstImage a_t_secondImage a_t_news a_t_otherNews a_t_readings a_t_chances a_t_turning a_t_text a_t_fraction a_t_now a_t_now_floor a_t_now_sightings a_t_now_lexicon a_t_now_level a_t_now_loss t_now_clearness t_now_isKept (upd t_now_level p1.toNatClampNeg p2) t_now_loss)) rfl (fun H locs hW => ?_)
        refine lv_aload_n hx hb dX11_band_42 rfl (lv_at hl 0 rfl) ?_
        refine m_get X hW fdX11_10 0 rfl rfl dX11_band_43 ?_
        refine m_get X hW fdX11_252 1 rfl rfl dX11_band_46 ?_
        refine lv_iload_n hx hb dX11_band_49 rfl (lv_at hl 1 rfl) ?_
        refine lv_iload_n hx hb dX11_band_50 rfl (lv_at hl 3 rfl) ?_
        refine m_iast X hW 3 (k := p1.toNatClampNeg) rfl g4 rfl dX11_band_51 (ws' := (wd_S_band E a_t a_t_draft a_t_firstImage a_t_secondImage a_t_news a_t_otherNews a_t_readings a_t_chances a_t_turning a_t_text a_t_fraction a_t_now a_t_now_floor a_t_now_sightings a_t_now_lexicon a_t_now_level a_t_now_loss t_now_clearness t_now_isKept (upd t_now_level p1.toNatClampNeg p2) (upd t_now_loss p1.toNatClampNeg p3))) rfl (fun H locs hW => ?_)
        refine lv_iconst (v := (1 : Int32)) hx hb dX11_band_52 (by decide) ?_
        have hq := Option.some.inj hF
        subst hq
        exact hret _ _ _ _ hW dX11_band_53
      · have hF := if_y c3 hF
        refine lv_bipush (v := (-2 : Int32)) hx hb dX11_band_29 (by decide) ?_
        have hq := Option.some.inj hF
        subst hq
        exact hret _ _ _ _ hW dX11_band_31
abbrev wd_S_heard (E : m_E) (a_t : Nat) (a_t_draft : Nat) (a_t_firstImage : Nat) (a_t_secondImage : Nat) (a_t_news : Nat) (a_t_otherNews : Nat) (a_t_readings : Nat) (a_t_chances : Nat) (a_t_turning : Nat) (a_t_text : Nat) (a_t_fraction : Nat) (a_t_now : Nat) (a_t_now_floor : Nat) (a_t_now_sightings : Nat) (a_t_now_lexicon : Nat) (a_t_now_level : Nat) (a_t_now_loss : Nat) (t_now_clearness : Int32) (t_now_isKept : Int32) (t_now_level : Nat → Int32) (t_now_loss : Nat → Int32) : va_W := [(a_t, .inr (11, [.ref a_t_now, .ref a_t_draft, .ref a_t_firstImage, .ref a_t_secondImage, .ref a_t_news, .ref a_t_otherNews, .ref a_t_readings, .ref a_t_chances, .ref a_t_turning, .ref a_t_text, .ref a_t_fraction])), (a_t_now, .inr (7, [.ref a_t_now_floor, .ref a_t_now_sightings, .ref a_t_now_lexicon, .ref a_t_now_level, .ref a_t_now_loss, .int t_now_clearness, .int t_now_isKept])), (a_t_now_level, .inl (E.2.1 0, 6, .inl t_now_level)), (a_t_now_loss, .inl (E.2.1 0, 6, .inl t_now_loss))]
def rm_S_heard : Room := { frames := 1, cells := 0, slots := 0, locals := 22 }
set_option maxHeartbeats 4000000 in
set_option maxRecDepth 100000 in
theorem c_S_heard (l : Launch) (E : m_E) (sz N : Nat) (a_t : Nat) (a_t_draft : Nat) (a_t_firstImage : Nat) (a_t_secondImage : Nat) (a_t_news : Nat) (a_t_otherNews : Nat) (a_t_readings : Nat) (a_t_chances : Nat) (a_t_turning : Nat) (a_t_text : Nat) (a_t_fraction : Nat) (a_t_now : Nat) (a_t_now_floor : Nat) (a_t_now_sightings : Nat) (a_t_now_lexicon : Nat) (a_t_now_level : Nat) (a_t_now_loss : Nat) (t_now_clearness : Int32) (t_now_isKept : Int32) (t_now_level : Nat → Int32) (t_now_loss : Nat → Int32) (p1 : Int32) (p2 : Int32) (ures : Int32) (hF : F_S_heard N p1 p2 t_now_level t_now_loss = some ures) : m_Met l yX11_heard cX11_heard 5 (some .int) rm_S_heard E (wd_S_heard E a_t a_t_draft a_t_firstImage a_t_secondImage a_t_news a_t_otherNews a_t_readings a_t_chances a_t_turning a_t_text a_t_fraction a_t_now a_t_now_floor a_t_now_sightings a_t_now_lexicon a_t_now_level a_t_now_loss t_now_clearness t_now_isKept t_now_level t_now_loss) (wd_S_heard E a_t a_t_draft a_t_firstImage a_t_secondImage a_t_news a_t_otherNews a_t_readings a_t_chances a_t_turning a_t_text a_t_fraction a_t_now a_t_now_floor a_t_now_sightings a_t_now_lexicon a_t_now_level a_t_now_loss t_now_clearness t_now_isKept t_now_level t_now_loss) sz [.ref a_t, .int p1, .int p2] (some (.int ures)) := by
  refine m_ofI (by decide) (Nat.le_of_ble_eq_true rfl) ?_
  intro p e s m args below meth c A Q ls X hW hA hl hret
  obtain ⟨hx, hb, -, hown, hts, hK, -, hG⟩ := id X
  have hl : lv_has ls 5 [(0, .ref a_t), (1, .int p1), (2, .int p2)] := hl
  unfold F_S_heard at hF
  refine lv_iload_n hx hb dX11_heard_0 rfl (lv_at hl 1 rfl) ?_
  refine lv_iconst (v := (0 : Int32)) hx hb dX11_heard_1 (by decide) ?_
  refine lv_bipush (v := (60 : Int32)) hx hb dX11_heard_2 (by decide) ?_
  refine m_callS X hW hA hl.1 lkX11_98 (c_S_within l E _ N   p1 (0 : Int32) (60 : Int32) (F_S_within p1 (0 : Int32) (60 : Int32)) rfl) ([]) (by decide) rfl rfl (ws' := (wd_S_heard E a_t a_t_draft a_t_firstImage a_t_secondImage a_t_news a_t_otherNews a_t_readings a_t_chances a_t_turning a_t_text a_t_fraction a_t_now a_t_now_floor a_t_now_sightings a_t_now_lexicon a_t_now_level a_t_now_loss t_now_clearness t_now_isKept t_now_level t_now_loss)) rfl (As := [.int p1, .int (0 : Int32), .int (60 : Int32)]) (rest := []) rfl rfl ⟨rfl, rfl, Nat.le_of_ble_eq_true rfl, Nat.le_of_ble_eq_true rfl⟩ (Nat.le_of_ble_eq_true rfl) (Nat.zero_le _) (Nat.zero_le _) dX11_heard_4 (fun H locs hW => ?_)
  refine lv_if_eq (tgt := 20) hx hb dX11_heard_7 (by decide) (fun c1 => ?_) (fun c1 => ?_)
  · have hF := if_y c1 hF
    refine lv_bipush (v := (-2 : Int32)) hx hb dX11_heard_20 (by decide) ?_
    have hq := Option.some.inj hF
    subst hq
    exact hret _ _ _ _ hW dX11_heard_22
  · have hF := if_n c1 hF
    refine lv_iload_n hx hb dX11_heard_10 rfl (lv_at hl 2 rfl) ?_
    refine lv_iconst (v := (0 : Int32)) hx hb dX11_heard_11 (by decide) ?_
    refine lv_bipush (v := (99 : Int32)) hx hb dX11_heard_12 (by decide) ?_
    refine m_callS X hW hA hl.1 lkX11_98 (c_S_within l E _ N   p2 (0 : Int32) (99 : Int32) (F_S_within p2 (0 : Int32) (99 : Int32)) rfl) ([]) (by decide) rfl rfl (ws' := (wd_S_heard E a_t a_t_draft a_t_firstImage a_t_secondImage a_t_news a_t_otherNews a_t_readings a_t_chances a_t_turning a_t_text a_t_fraction a_t_now a_t_now_floor a_t_now_sightings a_t_now_lexicon a_t_now_level a_t_now_loss t_now_clearness t_now_isKept t_now_level t_now_loss)) rfl (As := [.int p2, .int (0 : Int32), .int (99 : Int32)]) (rest := []) rfl rfl ⟨rfl, rfl, Nat.le_of_ble_eq_true rfl, Nat.le_of_ble_eq_true rfl⟩ (Nat.le_of_ble_eq_true rfl) (Nat.zero_le _) (Nat.zero_le _) dX11_heard_14 (fun H locs hW => ?_)
    refine lv_if_ne (tgt := 23) hx hb dX11_heard_17 (by decide) (fun c2 => ?_) (fun c2 => ?_)
    · have hF := if_n c2 hF
      refine lv_iconst (v := (0 : Int32)) hx hb dX11_heard_23 (by decide) ?_
      refine lv_istore_n (lv' := [(3, .int (0 : Int32)), (0, .ref a_t), (1, .int p1), (2, .int p2)]) hx hb dX11_heard_24 rfl hl (by decide) rfl (fun ls hl => ?_)
      refine lv_iconst (v := (0 : Int32)) hx hb dX11_heard_25 (by decide) ?_
      refine lv_istore (lv' := [(4, .int (0 : Int32)), (3, .int (0 : Int32)), (0, .ref a_t), (1, .int p1), (2, .int p2)]) hx hb dX11_heard_26 hl (by decide) rfl (fun ls hl => ?_)
      obtain ⟨x3_2, hX4, hF⟩ := bO_s1 hF
      have L3 : ∀ (k0 : Nat) (x3 : Int32) (x4 : Int32) (x3_2 : Int32) (H : Heap) (locs : List Loc) (ls : Array Slot), S_heard_L28 t_now_level t_now_loss p1 p2 k0 x3 x4 = some x3_2 → m_H E A (wd_S_heard E a_t a_t_draft a_t_firstImage a_t_secondImage a_t_news a_t_otherNews a_t_readings a_t_chances a_t_turning a_t_text a_t_fraction a_t_now a_t_now_floor a_t_now_sightings a_t_now_lexicon a_t_now_level a_t_now_loss t_now_clearness t_now_isKept t_now_level t_now_loss) s.heap H locs → lv_has ls 5 [(4, .int x4), (3, .int x3), (0, .ref a_t), (1, .int p1), (2, .int p2)] → (∀ (H : Heap) (locs : List Loc) (ls : Array Slot), m_H E A (wd_S_heard E a_t a_t_draft a_t_firstImage a_t_secondImage a_t_news a_t_otherNews a_t_readings a_t_chances a_t_turning a_t_text a_t_fraction a_t_now a_t_now_floor a_t_now_sightings a_t_now_lexicon a_t_now_level a_t_now_loss t_now_clearness t_now_isKept t_now_level t_now_loss) s.heap H locs → lv_has ls 5 [(3, .int x3_2)] → W p l e rm_S_heard s m args below meth c H locs 0 0 Q (F0 m 75 ls [])) → W p l e rm_S_heard s m args below meth c H locs 0 0 Q (F0 m 28 ls []) := by
        clear hF
        intro k0
        induction k0 with
        | zero =>
          intro x3 x4 x3_2 H locs ls hF
          cases hF
        | succ k0 ih6 =>
          intro x3 x4 x3_2 H locs ls hF hW hl hk5
          rw [S_heard_L28] at hF
          refine lv_iload hx hb dX11_heard_28 (lv_at hl 0 rfl) ?_
          refine lv_bipush (v := (6 : Int32)) hx hb dX11_heard_30 (by decide) ?_
          refine lv_icmp_ge (tgt := 75) hx hb dX11_heard_32 (by decide) (fun c7 => ?_) (fun c7 => ?_)
          · have hF := if_y c7 hF
            cases hF
            exact hk5 _ _ _ hW (lv_sub hl [1] rfl)
          · have hF := if_n c7 hF
            refine lv_aload_n hx hb dX11_heard_35 rfl (lv_at hl 2 rfl) ?_
            refine m_get X hW fdX11_10 0 rfl rfl dX11_heard_36 ?_
            refine m_get X hW fdX11_249 1 rfl rfl dX11_heard_39 ?_
            refine lv_iload hx hb dX11_heard_42 (lv_at hl 0 rfl) ?_
            obtain ⟨g8, hF⟩ := gd_some hF
            refine m_iald X hW 2 (k := x4.toNatClampNeg) rfl g8 rfl dX11_heard_44 ?_
            refine lv_aload_n hx hb dX11_heard_45 rfl (lv_at hl 2 rfl) ?_
            refine m_get X hW fdX11_10 0 rfl rfl dX11_heard_46 ?_
            refine m_get X hW fdX11_252 1 rfl rfl dX11_heard_49 ?_
            refine lv_iload hx hb dX11_heard_52 (lv_at hl 0 rfl) ?_
            refine m_iald X hW 3 (k := x4.toNatClampNeg) rfl g8 rfl dX11_heard_54 ?_
            refine lv_iload_n hx hb dX11_heard_55 rfl (lv_at hl 3 rfl) ?_
            refine lv_imul hx hb dX11_heard_56 ?_
            refine lv_isub hx hb dX11_heard_57 ?_
            refine lv_iload_n hx hb dX11_heard_58 rfl (lv_at hl 4 rfl) ?_
            refine lv_icmp_le (tgt := 69) hx hb dX11_heard_59 (by decide) (fun c9 => ?_) (fun c9 => ?_)
            · have hF := if_y c9 hF
              refine lv_iinc (v := (x4 + (1 : Int32))) (lv' := [(4, .int (x4 + (1 : Int32))), (3, .int x3), (0, .ref a_t), (1, .int p1), (2, .int p2)]) hx hb dX11_heard_69 hl (k := 0) rfl rfl (by decide) rfl (fun ls hl => ?_)
              refine lv_goto (tgt := 28) hx hb dX11_heard_72 (by decide) ?_
              exact ih6 x3 (x4 + (1 : Int32)) x3_2 _ _ _ hF hW (lv_sub hl [0, 1, 2, 3, 4] rfl) hk5
            · have hF := if_n c9 hF
              refine lv_iload_n hx hb dX11_heard_62 rfl (lv_at hl 1 rfl) ?_
              refine lv_iconst (v := (1 : Int32)) hx hb dX11_heard_63 (by decide) ?_
              refine lv_iload hx hb dX11_heard_64 (lv_at hl 0 rfl) ?_
              refine m_ishl hx hb dX11_heard_66 ?_
              refine lv_ior hx hb dX11_heard_67 ?_
              refine lv_istore_n (lv' := [(3, .int (x3 ||| (jshl (1 : Int32) x4))), (4, .int x4), (0, .ref a_t), (1, .int p1), (2, .int p2)]) hx hb dX11_heard_68 rfl hl (by decide) rfl (fun ls hl => ?_)
              refine lv_iinc (v := (x4 + (1 : Int32))) (lv' := [(4, .int (x4 + (1 : Int32))), (3, .int (x3 ||| (jshl (1 : Int32) x4))), (0, .ref a_t), (1, .int p1), (2, .int p2)]) hx hb dX11_heard_69 hl (k := 1) rfl rfl (by decide) rfl (fun ls hl => ?_)
              refine lv_goto (tgt := 28) hx hb dX11_heard_72 (by decide) ?_
              exact ih6 (x3 ||| (jshl (1 : Int32) x4)) (x4 + (1 : Int32)) x3_2 _ _ _ hF hW (lv_sub hl [0, 1, 2, 3, 4] rfl) hk5
      refine L3 N (0 : Int32) (0 : Int32) x3_2 _ _ _ hX4 hW (lv_sub hl [0, 1, 2, 3, 4] rfl) ?_
      intro H locs ls hW hl
      clear L3
      refine lv_iload_n hx hb dX11_heard_75 rfl (lv_at hl 0 rfl) ?_
      have hq := Option.some.inj hF
      subst hq
      exact hret _ _ _ _ hW dX11_heard_76
    · have hF := if_y c2 hF
      refine lv_bipush (v := (-2 : Int32)) hx hb dX11_heard_20 (by decide) ?_
      have hq := Option.some.inj hF
      subst hq
      exact hret _ _ _ _ hW dX11_heard_22
abbrev wd_Turning_joinWays (E : m_E) (a_t : Nat) (a_t_way : Nat) (a_t_bestWay : Nat) (a_t_chosen : Nat) (a_t_pairs : Nat) (a_t_readers : Nat) (a_p1 : Nat) (a_p1_way : Nat) (a_p1_tell : Nat) (a_p1_look : Nat) (a_p1_farSquare : Nat) (a_p1_place : Nat) (t_bestPairs : Int32) (t_readers : Nat → Int32) (p1_pillars : Int64) (p1_weavers : Int32) (p1_place : Nat → Int32) : va_W := [(a_t, .inr (10, [.int t_bestPairs, .ref a_t_way, .ref a_t_bestWay, .ref a_t_readers, .ref a_t_chosen, .ref a_t_pairs])), (a_t_readers, .inl (E.2.1 0, 24, .inl t_readers)), (a_p1, .inr (1, [.long p1_pillars, .int p1_weavers, .ref a_p1_place, .ref a_p1_way, .ref a_p1_tell, .ref a_p1_look, .ref a_p1_farSquare])), (a_p1_place, .inl (E.2.1 0, 8, .inl p1_place))]
def rm_Turning_joinWays : Room := { frames := 2, cells := 0, slots := 0, locals := 48 }
set_option maxHeartbeats 4000000 in
set_option maxRecDepth 100000 in
theorem c_Turning_joinWays (l : Launch) (E : m_E) (sz N : Nat) (a_t : Nat) (a_t_way : Nat) (a_t_bestWay : Nat) (a_t_chosen : Nat) (a_t_pairs : Nat) (a_t_readers : Nat) (a_p1 : Nat) (a_p1_way : Nat) (a_p1_tell : Nat) (a_p1_look : Nat) (a_p1_farSquare : Nat) (a_p1_place : Nat) (t_bestPairs : Int32) (t_readers : Nat → Int32) (p1_pillars : Int64) (p1_weavers : Int32) (p1_place : Nat → Int32) (p2 : Int32) (p3 : Int32) (ures : (Nat → Int32)) (hF : F_Turning_joinWays N p2 p3 t_readers p1_place = some ures) : m_Met l yX10_joinWays cX10_joinWays 6 none rm_Turning_joinWays E (wd_Turning_joinWays E a_t a_t_way a_t_bestWay a_t_chosen a_t_pairs a_t_readers a_p1 a_p1_way a_p1_tell a_p1_look a_p1_farSquare a_p1_place t_bestPairs t_readers p1_pillars p1_weavers p1_place) (wd_Turning_joinWays E a_t a_t_way a_t_bestWay a_t_chosen a_t_pairs a_t_readers a_p1 a_p1_way a_p1_tell a_p1_look a_p1_farSquare a_p1_place t_bestPairs ures p1_pillars p1_weavers p1_place) sz [.ref a_t, .ref a_p1, .int p2, .int p3] none := by
  refine m_ofV (by decide) (Nat.le_of_ble_eq_true rfl) ?_
  intro p e s m args below meth c A Q ls X hW hA hl hret
  obtain ⟨hx, hb, -, hown, hts, hK, -, hG⟩ := id X
  have hl : lv_has ls 6 [(0, .ref a_t), (1, .ref a_p1), (2, .int p2), (3, .int p3)] := hl
  unfold F_Turning_joinWays at hF
  refine lv_iconst (v := (0 : Int32)) hx hb dX10_joinWays_0 (by decide) ?_
  refine lv_istore (lv' := [(4, .int (0 : Int32)), (0, .ref a_t), (1, .ref a_p1), (2, .int p2), (3, .int p3)]) hx hb dX10_joinWays_1 hl (by decide) rfl (fun ls hl => ?_)
  obtain ⟨t_readers'_8, hX2, hF⟩ := bO_s1 hF
  have L1 : ∀ (k0 : Nat) (x4 : Int32) (t_readers'_5 : Nat → Int32) (t_readers'_8 : Nat → Int32) (H : Heap) (locs : List Loc) (ls : Array Slot), Turning_joinWays_L3 N p2 p3 p1_place k0 x4 t_readers'_5 = some t_readers'_8 → m_H E A (wd_Turning_joinWays E a_t a_t_way a_t_bestWay a_t_chosen a_t_pairs a_t_readers a_p1 a_p1_way a_p1_tell a_p1_look a_p1_farSquare a_p1_place t_bestPairs t_readers'_5 p1_pillars p1_weavers p1_place) s.heap H locs → lv_has ls 6 [(4, .int x4), (0, .ref a_t), (1, .ref a_p1), (2, .int p2), (3, .int p3)] → (∀ (H : Heap) (locs : List Loc) (ls : Array Slot), m_H E A (wd_Turning_joinWays E a_t a_t_way a_t_bestWay a_t_chosen a_t_pairs a_t_readers a_p1 a_p1_way a_p1_tell a_p1_look a_p1_farSquare a_p1_place t_bestPairs t_readers'_8 p1_pillars p1_weavers p1_place) s.heap H locs → lv_has ls 6 [] → W p l e rm_Turning_joinWays s m args below meth c H locs 0 0 Q (F0 m 65 ls [])) → W p l e rm_Turning_joinWays s m args below meth c H locs 0 0 Q (F0 m 3 ls []) := by
    clear hF
    intro k0
    induction k0 with
    | zero =>
      intro x4 t_readers'_5 t_readers'_8 H locs ls hF
      cases hF
    | succ k0 ih4 =>
      intro x4 t_readers'_5 t_readers'_8 H locs ls hF hW hl hk3
      rw [Turning_joinWays_L3] at hF
      refine lv_iload hx hb dX10_joinWays_3 (lv_at hl 0 rfl) ?_
      refine lv_iconst (v := (4 : Int32)) hx hb dX10_joinWays_5 (by decide) ?_
      refine lv_icmp_ge (tgt := 65) hx hb dX10_joinWays_6 (by decide) (fun c5 => ?_) (fun c5 => ?_)
      · have hF := if_y c5 hF
        cases hF
        exact hk3 _ _ _ hW (lv_sub hl [] rfl)
      · have hF := if_n c5 hF
        refine lv_iconst (v := (0 : Int32)) hx hb dX10_joinWays_9 (by decide) ?_
        refine lv_istore (lv' := [(5, .int (0 : Int32)), (4, .int x4), (0, .ref a_t), (1, .ref a_p1), (2, .int p2), (3, .int p3)]) hx hb dX10_joinWays_10 hl (by decide) rfl (fun ls hl => ?_)
        obtain ⟨t_readers'_7, hX7, hF⟩ := bO_s1 hF
        have L6 : ∀ (k0 : Nat) (x5 : Int32) (t_readers'_6 : Nat → Int32) (t_readers'_7 : Nat → Int32) (H : Heap) (locs : List Loc) (ls : Array Slot), Turning_joinWays_L12 p2 x4 p3 p1_place k0 x5 t_readers'_6 = some t_readers'_7 → m_H E A (wd_Turning_joinWays E a_t a_t_way a_t_bestWay a_t_chosen a_t_pairs a_t_readers a_p1 a_p1_way a_p1_tell a_p1_look a_p1_farSquare a_p1_place t_bestPairs t_readers'_6 p1_pillars p1_weavers p1_place) s.heap H locs → lv_has ls 6 [(5, .int x5), (4, .int x4), (0, .ref a_t), (1, .ref a_p1), (2, .int p2), (3, .int p3)] → (∀ (H : Heap) (locs : List Loc) (ls : Array Slot), m_H E A (wd_Turning_joinWays E a_t a_t_way a_t_bestWay a_t_chosen a_t_pairs a_t_readers a_p1 a_p1_way a_p1_tell a_p1_look a_p1_farSquare a_p1_place t_bestPairs t_readers'_7 p1_pillars p1_weavers p1_place) s.heap H locs → lv_has ls 6 [(4, .int x4), (0, .ref a_t), (1, .ref a_p1), (2, .int p2), (3, .int p3)] → W p l e rm_Turning_joinWays s m args below meth c H locs 0 0 Q (F0 m 59 ls [])) → W p l e rm_Turning_joinWays s m args below meth c H locs 0 0 Q (F0 m 12 ls []) := by
          clear hF
          intro k0
          induction k0 with
          | zero =>
            intro x5 t_readers'_6 t_readers'_7 H locs ls hF
            cases hF
          | succ k0 ih9 =>
            intro x5 t_readers'_6 t_readers'_7 H locs ls hF hW hl hk8
            rw [Turning_joinWays_L12] at hF
            refine lv_iload hx hb dX10_joinWays_12 (lv_at hl 0 rfl) ?_
            refine lv_iconst (v := (4 : Int32)) hx hb dX10_joinWays_14 (by decide) ?_
            refine lv_icmp_ge (tgt := 59) hx hb dX10_joinWays_15 (by decide) (fun c10 => ?_) (fun c10 => ?_)
            · have hF := if_y c10 hF
              cases hF
              exact hk8 _ _ _ hW (lv_sub hl [1, 2, 3, 4, 5] rfl)
            · have hF := if_n c10 hF
              refine lv_aload_n hx hb dX10_joinWays_18 rfl (lv_at hl 3 rfl) ?_
              refine lv_iload_n hx hb dX10_joinWays_19 rfl (lv_at hl 4 rfl) ?_
              refine lv_iload hx hb dX10_joinWays_20 (lv_at hl 1 rfl) ?_
              refine lv_iload_n hx hb dX10_joinWays_22 rfl (lv_at hl 5 rfl) ?_
              refine lv_iload hx hb dX10_joinWays_23 (lv_at hl 0 rfl) ?_
              obtain ⟨r25, hC11, hF⟩ := bO_s1 hF
              refine m_callV X hW hA hl.1 lkX10_72 (c_Floor_faceEachOther l E _ N a_p1 a_p1_way a_p1_tell a_p1_look a_p1_farSquare a_p1_place p1_pillars p1_weavers p1_place p2 x4 p3 x5 r25 hC11) ([2, 3]) (by decide) rfl rfl (ws' := (wd_Turning_joinWays E a_t a_t_way a_t_bestWay a_t_chosen a_t_pairs a_t_readers a_p1 a_p1_way a_p1_tell a_p1_look a_p1_farSquare a_p1_place t_bestPairs t_readers'_6 p1_pillars p1_weavers p1_place)) rfl 2 rfl rfl rfl (As := [.int p2, .int x4, .int p3, .int x5]) (rest := []) rfl rfl ⟨rfl, rfl, Nat.le_of_ble_eq_true rfl, Nat.le_of_ble_eq_true rfl⟩ (Nat.le_of_ble_eq_true rfl) (Nat.zero_le _) (Nat.zero_le _) dX10_joinWays_25 (fun H locs hW => ?_)
              clear hC11
              refine lv_if_eq (tgt := 53) hx hb dX10_joinWays_28 (by decide) (fun c12 => ?_) (fun c12 => ?_)
              · have hF := if_y c12 hF
                refine lv_iinc (v := (x5 + (1 : Int32))) (lv' := [(5, .int (x5 + (1 : Int32))), (4, .int x4), (0, .ref a_t), (1, .ref a_p1), (2, .int p2), (3, .int p3)]) hx hb dX10_joinWays_53 hl (k := 0) rfl rfl (by decide) rfl (fun ls hl => ?_)
                refine lv_goto (tgt := 12) hx hb dX10_joinWays_56 (by decide) ?_
                exact ih9 (x5 + (1 : Int32)) t_readers'_6 t_readers'_7 _ _ _ hF hW (lv_sub hl [0, 1, 2, 3, 4, 5] rfl) hk8
              · have hF := if_n c12 hF
                refine lv_aload_n hx hb dX10_joinWays_31 rfl (lv_at hl 2 rfl) ?_
                refine m_get X hW fdX10_18 0 rfl rfl dX10_joinWays_32 ?_
                refine lv_iload_n hx hb dX10_joinWays_35 rfl (lv_at hl 4 rfl) ?_
                refine lv_iconst (v := (4 : Int32)) hx hb dX10_joinWays_36 (by decide) ?_
                refine lv_imul hx hb dX10_joinWays_37 ?_
                refine lv_iload hx hb dX10_joinWays_38 (lv_at hl 1 rfl) ?_
                refine lv_iadd hx hb dX10_joinWays_40 ?_
                refine lv_dup2_11 hx hb dX10_joinWays_41 rfl rfl ?_
                obtain ⟨g13, hF⟩ := gd_some hF
                refine m_iald X hW 1 (k := ((p2 * (4 : Int32)) + x4).toNatClampNeg) rfl g13 rfl dX10_joinWays_42 ?_
                refine lv_iconst (v := (1 : Int32)) hx hb dX10_joinWays_43 (by decide) ?_
                refine lv_iload_n hx hb dX10_joinWays_44 rfl (lv_at hl 5 rfl) ?_
                refine lv_iconst (v := (4 : Int32)) hx hb dX10_joinWays_45 (by decide) ?_
                refine lv_imul hx hb dX10_joinWays_46 ?_
                refine lv_iload hx hb dX10_joinWays_47 (lv_at hl 0 rfl) ?_
                refine lv_iadd hx hb dX10_joinWays_49 ?_
                refine m_ishl hx hb dX10_joinWays_50 ?_
                refine lv_ior hx hb dX10_joinWays_51 ?_
                refine m_iast X hW 1 (k := ((p2 * (4 : Int32)) + x4).toNatClampNeg) rfl g13 rfl dX10_joinWays_52 (ws' := (wd_Turning_joinWays E a_t a_t_way a_t_bestWay a_t_chosen a_t_pairs a_t_readers a_p1 a_p1_way a_p1_tell a_p1_look a_p1_farSquare a_p1_place t_bestPairs (upd t_readers'_6 ((p2 * (4 : Int32)) + x4).toNatClampNeg ((t_readers'_6 ((p2 * (4 : Int32)) + x4).toNatClampNeg) ||| (jshl (1 : Int32) ((p3 * (4 : Int32)) + x5)))) p1_pillars p1_weavers p1_place)) rfl (fun H locs hW => ?_)
                refine lv_iinc (v := (x5 + (1 : Int32))) (lv' := [(5, .int (x5 + (1 : Int32))), (4, .int x4), (0, .ref a_t), (1, .ref a_p1), (2, .int p2), (3, .int p3)]) hx hb dX10_joinWays_53 hl (k := 0) rfl rfl (by decide) rfl (fun ls hl => ?_)
                refine lv_goto (tgt := 12) hx hb dX10_joinWays_56 (by decide) ?_
                exact ih9 (x5 + (1 : Int32)) (upd t_readers'_6 ((p2 * (4 : Int32)) + x4).toNatClampNeg ((t_readers'_6 ((p2 * (4 : Int32)) + x4).toNatClampNeg) ||| (jshl (1 : Int32) ((p3 * (4 : Int32)) + x5)))) t_readers'_7 _ _ _ hF hW (lv_sub hl [0, 1, 2, 3, 4, 5] rfl) hk8
        refine L6 N (0 : Int32) t_readers'_5 t_readers'_7 _ _ _ hX7 hW (lv_sub hl [0, 1, 2, 3, 4, 5] rfl) ?_
        intro H locs ls hW hl
        clear L6
        refine lv_iinc (v := (x4 + (1 : Int32))) (lv' := [(4, .int (x4 + (1 : Int32))), (0, .ref a_t), (1, .ref a_p1), (2, .int p2), (3, .int p3)]) hx hb dX10_joinWays_59 hl (k := 0) rfl rfl (by decide) rfl (fun ls hl => ?_)
        refine lv_goto (tgt := 3) hx hb dX10_joinWays_62 (by decide) ?_
        exact ih4 (x4 + (1 : Int32)) t_readers'_7 t_readers'_8 _ _ _ hF hW (lv_sub hl [0, 1, 2, 3, 4] rfl) hk3
  refine L1 N (0 : Int32) t_readers t_readers'_8 _ _ _ hX2 hW (lv_sub hl [0, 1, 2, 3, 4] rfl) ?_
  intro H locs ls hW hl
  clear L1
  have hq := Option.some.inj hF
  subst hq
  exact hret _ _ _ _ hW dX10_joinWays_65
abbrev wd_Turning_findReaders (E : m_E) (a_t : Nat) (a_t_way : Nat) (a_t_bestWay : Nat) (a_t_chosen : Nat) (a_t_pairs : Nat) (a_t_readers : Nat) (a_p1 : Nat) (a_p1_way : Nat) (a_p1_tell : Nat) (a_p1_look : Nat) (a_p1_place : Nat) (a_p1_farSquare : Nat) (t_bestPairs : Int32) (t_readers : Nat → Int32) (p1_pillars : Int64) (p1_weavers : Int32) (p1_place : Nat → Int32) (p1_farSquare : Nat → Int32) : va_W := [(a_t, .inr (10, [.int t_bestPairs, .ref a_t_way, .ref a_t_bestWay, .ref a_t_readers, .ref a_t_chosen, .ref a_t_pairs])), (a_t_readers, .inl (E.2.1 0, 24, .inl t_readers)), (a_p1, .inr (1, [.long p1_pillars, .int p1_weavers, .ref a_p1_place, .ref a_p1_way, .ref a_p1_tell, .ref a_p1_look, .ref a_p1_farSquare])), (a_p1_place, .inl (E.2.1 0, 8, .inl p1_place)), (a_p1_farSquare, .inl (E.2.1 0, 2, .inl p1_farSquare))]
def rm_Turning_findReaders : Room := { frames := 3, cells := 0, slots := 0, locals := 74 }
set_option maxHeartbeats 4000000 in
set_option maxRecDepth 100000 in
theorem c_Turning_findReaders (l : Launch) (E : m_E) (sz N : Nat) (a_t : Nat) (a_t_way : Nat) (a_t_bestWay : Nat) (a_t_chosen : Nat) (a_t_pairs : Nat) (a_t_readers : Nat) (a_p1 : Nat) (a_p1_way : Nat) (a_p1_tell : Nat) (a_p1_look : Nat) (a_p1_place : Nat) (a_p1_farSquare : Nat) (t_bestPairs : Int32) (t_readers : Nat → Int32) (p1_pillars : Int64) (p1_weavers : Int32) (p1_place : Nat → Int32) (p1_farSquare : Nat → Int32) (p2 : Int32) (ures : (Nat → Int32)) (hF : F_Turning_findReaders N p2 t_readers p1_pillars p1_place p1_farSquare = some ures) : m_Met l yX10_findReaders cX10_findReaders 5 none rm_Turning_findReaders E (wd_Turning_findReaders E a_t a_t_way a_t_bestWay a_t_chosen a_t_pairs a_t_readers a_p1 a_p1_way a_p1_tell a_p1_look a_p1_place a_p1_farSquare t_bestPairs t_readers p1_pillars p1_weavers p1_place p1_farSquare) (wd_Turning_findReaders E a_t a_t_way a_t_bestWay a_t_chosen a_t_pairs a_t_readers a_p1 a_p1_way a_p1_tell a_p1_look a_p1_place a_p1_farSquare t_bestPairs ures p1_pillars p1_weavers p1_place p1_farSquare) sz [.ref a_t, .ref a_p1, .int p2] none := by
  refine m_ofV (by decide) (Nat.le_of_ble_eq_true rfl) ?_
  intro p e s m args below meth c A Q ls X hW hA hl hret
  obtain ⟨hx, hb, -, hown, hts, hK, -, hG⟩ := id X
  have hl : lv_has ls 5 [(0, .ref a_t), (1, .ref a_p1), (2, .int p2)] := hl
  unfold F_Turning_findReaders at hF
  refine lv_iconst (v := (0 : Int32)) hx hb dX10_findReaders_0 (by decide) ?_
  refine lv_istore_n (lv' := [(3, .int (0 : Int32)), (0, .ref a_t), (1, .ref a_p1), (2, .int p2)]) hx hb dX10_findReaders_1 rfl hl (by decide) rfl (fun ls hl => ?_)
  obtain ⟨t_readers'_9, hX2, hF⟩ := bO_s1 hF
  have L1 : ∀ (k0 : Nat) (x3 : Int32) (t_readers'_8 : Nat → Int32) (t_readers'_9 : Nat → Int32) (H : Heap) (locs : List Loc) (ls : Array Slot), Turning_findReaders_L2  k0 x3 t_readers'_8 = some t_readers'_9 → m_H E A (wd_Turning_findReaders E a_t a_t_way a_t_bestWay a_t_chosen a_t_pairs a_t_readers a_p1 a_p1_way a_p1_tell a_p1_look a_p1_place a_p1_farSquare t_bestPairs t_readers'_8 p1_pillars p1_weavers p1_place p1_farSquare) s.heap H locs → lv_has ls 5 [(3, .int x3), (0, .ref a_t), (1, .ref a_p1), (2, .int p2)] → (∀ (H : Heap) (locs : List Loc) (ls : Array Slot), m_H E A (wd_Turning_findReaders E a_t a_t_way a_t_bestWay a_t_chosen a_t_pairs a_t_readers a_p1 a_p1_way a_p1_tell a_p1_look a_p1_place a_p1_farSquare t_bestPairs t_readers'_9 p1_pillars p1_weavers p1_place p1_farSquare) s.heap H locs → lv_has ls 5 [(0, .ref a_t), (1, .ref a_p1), (2, .int p2)] → W p l e rm_Turning_findReaders s m args below meth c H locs 0 0 Q (F0 m 21 ls [])) → W p l e rm_Turning_findReaders s m args below meth c H locs 0 0 Q (F0 m 2 ls []) := by
    clear hF
    intro k0
    induction k0 with
    | zero =>
      intro x3 t_readers'_8 t_readers'_9 H locs ls hF
      cases hF
    | succ k0 ih4 =>
      intro x3 t_readers'_8 t_readers'_9 H locs ls hF hW hl hk3
      rw [Turning_findReaders_L2] at hF
      refine lv_iload_n hx hb dX10_findReaders_2 rfl (lv_at hl 0 rfl) ?_
      refine lv_bipush (v := (24 : Int32)) hx hb dX10_findReaders_3 (by decide) ?_
      refine lv_icmp_ge (tgt := 21) hx hb dX10_findReaders_5 (by decide) (fun c5 => ?_) (fun c5 => ?_)
      · have hF := if_y c5 hF
        cases hF
        exact hk3 _ _ _ hW (lv_sub hl [1, 2, 3] rfl)
      · have hF := if_n c5 hF
        refine lv_aload_n hx hb dX10_findReaders_8 rfl (lv_at hl 1 rfl) ?_
        refine m_get X hW fdX10_18 0 rfl rfl dX10_findReaders_9 ?_
        refine lv_iload_n hx hb dX10_findReaders_12 rfl (lv_at hl 0 rfl) ?_
        refine lv_iconst (v := (0 : Int32)) hx hb dX10_findReaders_13 (by decide) ?_
        obtain ⟨g6, hF⟩ := gd_some hF
        refine m_iast X hW 1 (k := x3.toNatClampNeg) rfl g6 rfl dX10_findReaders_14 (ws' := (wd_Turning_findReaders E a_t a_t_way a_t_bestWay a_t_chosen a_t_pairs a_t_readers a_p1 a_p1_way a_p1_tell a_p1_look a_p1_place a_p1_farSquare t_bestPairs (upd t_readers'_8 x3.toNatClampNeg (0 : Int32)) p1_pillars p1_weavers p1_place p1_farSquare)) rfl (fun H locs hW => ?_)
        refine lv_iinc (v := (x3 + (1 : Int32))) (lv' := [(3, .int (x3 + (1 : Int32))), (0, .ref a_t), (1, .ref a_p1), (2, .int p2)]) hx hb dX10_findReaders_15 hl (k := 0) rfl rfl (by decide) rfl (fun ls hl => ?_)
        refine lv_goto (tgt := 2) hx hb dX10_findReaders_18 (by decide) ?_
        exact ih4 (x3 + (1 : Int32)) (upd t_readers'_8 x3.toNatClampNeg (0 : Int32)) t_readers'_9 _ _ _ hF hW (lv_sub hl [0, 1, 2, 3] rfl) hk3
  refine L1 N (0 : Int32) t_readers t_readers'_9 _ _ _ hX2 hW (lv_sub hl [0, 1, 2, 3] rfl) ?_
  intro H locs ls hW hl
  clear L1
  refine lv_iconst (v := (0 : Int32)) hx hb dX10_findReaders_21 (by decide) ?_
  refine lv_istore_n (lv' := [(3, .int (0 : Int32)), (0, .ref a_t), (1, .ref a_p1), (2, .int p2)]) hx hb dX10_findReaders_22 rfl hl (by decide) rfl (fun ls hl => ?_)
  obtain ⟨t_readers'_14, hX8, hF⟩ := bO_s1 hF
  have L7 : ∀ (k0 : Nat) (x3_2 : Int32) (t_readers'_10 : Nat → Int32) (t_readers'_14 : Nat → Int32) (H : Heap) (locs : List Loc) (ls : Array Slot), Turning_findReaders_L23 N p2 p1_pillars p1_place p1_farSquare k0 x3_2 t_readers'_10 = some t_readers'_14 → m_H E A (wd_Turning_findReaders E a_t a_t_way a_t_bestWay a_t_chosen a_t_pairs a_t_readers a_p1 a_p1_way a_p1_tell a_p1_look a_p1_place a_p1_farSquare t_bestPairs t_readers'_10 p1_pillars p1_weavers p1_place p1_farSquare) s.heap H locs → lv_has ls 5 [(3, .int x3_2), (0, .ref a_t), (1, .ref a_p1), (2, .int p2)] → (∀ (H : Heap) (locs : List Loc) (ls : Array Slot), m_H E A (wd_Turning_findReaders E a_t a_t_way a_t_bestWay a_t_chosen a_t_pairs a_t_readers a_p1 a_p1_way a_p1_tell a_p1_look a_p1_place a_p1_farSquare t_bestPairs t_readers'_14 p1_pillars p1_weavers p1_place p1_farSquare) s.heap H locs → lv_has ls 5 [] → W p l e rm_Turning_findReaders s m args below meth c H locs 0 0 Q (F0 m 67 ls [])) → W p l e rm_Turning_findReaders s m args below meth c H locs 0 0 Q (F0 m 23 ls []) := by
    clear hF
    intro k0
    induction k0 with
    | zero =>
      intro x3_2 t_readers'_10 t_readers'_14 H locs ls hF
      cases hF
    | succ k0 ih10 =>
      intro x3_2 t_readers'_10 t_readers'_14 H locs ls hF hW hl hk9
      rw [Turning_findReaders_L23] at hF
      refine lv_iload_n hx hb dX10_findReaders_23 rfl (lv_at hl 0 rfl) ?_
      refine lv_iload_n hx hb dX10_findReaders_24 rfl (lv_at hl 3 rfl) ?_
      refine lv_icmp_ge (tgt := 67) hx hb dX10_findReaders_25 (by decide) (fun c11 => ?_) (fun c11 => ?_)
      · have hF := if_y c11 hF
        cases hF
        exact hk9 _ _ _ hW (lv_sub hl [] rfl)
      · have hF := if_n c11 hF
        refine lv_iconst (v := (0 : Int32)) hx hb dX10_findReaders_28 (by decide) ?_
        refine lv_istore (lv' := [(4, .int (0 : Int32)), (3, .int x3_2), (0, .ref a_t), (1, .ref a_p1), (2, .int p2)]) hx hb dX10_findReaders_29 hl (by decide) rfl (fun ls hl => ?_)
        obtain ⟨t_readers'_13, hX13, hF⟩ := bO_s1 hF
        have L12 : ∀ (k0 : Nat) (x4 : Int32) (t_readers'_11 : Nat → Int32) (t_readers'_13 : Nat → Int32) (H : Heap) (locs : List Loc) (ls : Array Slot), Turning_findReaders_L31 N x3_2 p1_pillars p1_place p1_farSquare k0 x4 t_readers'_11 = some t_readers'_13 → m_H E A (wd_Turning_findReaders E a_t a_t_way a_t_bestWay a_t_chosen a_t_pairs a_t_readers a_p1 a_p1_way a_p1_tell a_p1_look a_p1_place a_p1_farSquare t_bestPairs t_readers'_11 p1_pillars p1_weavers p1_place p1_farSquare) s.heap H locs → lv_has ls 5 [(4, .int x4), (3, .int x3_2), (0, .ref a_t), (1, .ref a_p1), (2, .int p2)] → (∀ (H : Heap) (locs : List Loc) (ls : Array Slot), m_H E A (wd_Turning_findReaders E a_t a_t_way a_t_bestWay a_t_chosen a_t_pairs a_t_readers a_p1 a_p1_way a_p1_tell a_p1_look a_p1_place a_p1_farSquare t_bestPairs t_readers'_13 p1_pillars p1_weavers p1_place p1_farSquare) s.heap H locs → lv_has ls 5 [(3, .int x3_2), (0, .ref a_t), (1, .ref a_p1), (2, .int p2)] → W p l e rm_Turning_findReaders s m args below meth c H locs 0 0 Q (F0 m 61 ls [])) → W p l e rm_Turning_findReaders s m args below meth c H locs 0 0 Q (F0 m 31 ls []) := by
          clear hF
          intro k0
          induction k0 with
          | zero =>
            intro x4 t_readers'_11 t_readers'_13 H locs ls hF
            cases hF
          | succ k0 ih15 =>
            intro x4 t_readers'_11 t_readers'_13 H locs ls hF hW hl hk14
            rw [Turning_findReaders_L31] at hF
            refine lv_iload hx hb dX10_findReaders_31 (lv_at hl 0 rfl) ?_
            refine lv_iload_n hx hb dX10_findReaders_33 rfl (lv_at hl 1 rfl) ?_
            refine lv_icmp_ge (tgt := 61) hx hb dX10_findReaders_34 (by decide) (fun c16 => ?_) (fun c16 => ?_)
            · have hF := if_y c16 hF
              cases hF
              exact hk14 _ _ _ hW (lv_sub hl [1, 2, 3, 4] rfl)
            · have hF := if_n c16 hF
              refine lv_aload_n hx hb dX10_findReaders_37 rfl (lv_at hl 3 rfl) ?_
              refine lv_iload_n hx hb dX10_findReaders_38 rfl (lv_at hl 1 rfl) ?_
              refine lv_iload hx hb dX10_findReaders_39 (lv_at hl 0 rfl) ?_
              obtain ⟨r41, hC17, hF⟩ := bO_s1 hF
              refine m_callV X hW hA hl.1 lkX10_64 (c_Floor_mayRead l E _ N a_p1 a_p1_way a_p1_tell a_p1_look a_p1_place a_p1_farSquare p1_pillars p1_weavers p1_place p1_farSquare x3_2 x4 r41 hC17) ([2, 3, 4]) (by decide) rfl rfl (ws' := (wd_Turning_findReaders E a_t a_t_way a_t_bestWay a_t_chosen a_t_pairs a_t_readers a_p1 a_p1_way a_p1_tell a_p1_look a_p1_place a_p1_farSquare t_bestPairs t_readers'_11 p1_pillars p1_weavers p1_place p1_farSquare)) rfl 2 rfl rfl rfl (As := [.int x3_2, .int x4]) (rest := []) rfl rfl ⟨rfl, rfl, Nat.le_of_ble_eq_true rfl, Nat.le_of_ble_eq_true rfl⟩ (Nat.le_of_ble_eq_true rfl) (Nat.zero_le _) (Nat.zero_le _) dX10_findReaders_41 (fun H locs hW => ?_)
              clear hC17
              refine lv_if_eq (tgt := 55) hx hb dX10_findReaders_44 (by decide) (fun c18 => ?_) (fun c18 => ?_)
              · have hF := if_y c18 hF
                refine lv_iinc (v := (x4 + (1 : Int32))) (lv' := [(4, .int (x4 + (1 : Int32))), (3, .int x3_2), (0, .ref a_t), (1, .ref a_p1), (2, .int p2)]) hx hb dX10_findReaders_55 hl (k := 0) rfl rfl (by decide) rfl (fun ls hl => ?_)
                refine lv_goto (tgt := 31) hx hb dX10_findReaders_58 (by decide) ?_
                exact ih15 (x4 + (1 : Int32)) t_readers'_11 t_readers'_13 _ _ _ hF hW (lv_sub hl [0, 1, 2, 3, 4] rfl) hk14
              · have hF := if_n c18 hF
                refine lv_aload_n hx hb dX10_findReaders_47 rfl (lv_at hl 2 rfl) ?_
                refine lv_aload_n hx hb dX10_findReaders_48 rfl (lv_at hl 3 rfl) ?_
                refine lv_iload_n hx hb dX10_findReaders_49 rfl (lv_at hl 1 rfl) ?_
                refine lv_iload hx hb dX10_findReaders_50 (lv_at hl 0 rfl) ?_
                obtain ⟨t_readers'_12, hC19, hF⟩ := bO_s1 hF
                refine m_callV X hW hA hl.1 lkX10_68 (c_Turning_joinWays l E _ N a_t a_t_way a_t_bestWay a_t_chosen a_t_pairs a_t_readers a_p1 a_p1_way a_p1_tell a_p1_look a_p1_farSquare a_p1_place t_bestPairs t_readers'_11 p1_pillars p1_weavers p1_place x3_2 x4 t_readers'_12 hC19) ([0, 1, 2, 3]) (by decide) rfl rfl (ws' := (wd_Turning_findReaders E a_t a_t_way a_t_bestWay a_t_chosen a_t_pairs a_t_readers a_p1 a_p1_way a_p1_tell a_p1_look a_p1_place a_p1_farSquare t_bestPairs t_readers'_12 p1_pillars p1_weavers p1_place p1_farSquare)) rfl 0 rfl rfl rfl (As := [.ref a_p1, .int x3_2, .int x4]) (rest := []) rfl rfl ⟨rfl, rfl, Nat.le_of_ble_eq_true rfl, Nat.le_of_ble_eq_true rfl⟩ (Nat.le_of_ble_eq_true rfl) (Nat.zero_le _) (Nat.zero_le _) dX10_findReaders_52 (fun H locs hW => ?_)
                clear hC19
                refine lv_iinc (v := (x4 + (1 : Int32))) (lv' := [(4, .int (x4 + (1 : Int32))), (3, .int x3_2), (0, .ref a_t), (1, .ref a_p1), (2, .int p2)]) hx hb dX10_findReaders_55 hl (k := 0) rfl rfl (by decide) rfl (fun ls hl => ?_)
                refine lv_goto (tgt := 31) hx hb dX10_findReaders_58 (by decide) ?_
                exact ih15 (x4 + (1 : Int32)) t_readers'_12 t_readers'_13 _ _ _ hF hW (lv_sub hl [0, 1, 2, 3, 4] rfl) hk14
        refine L12 N (0 : Int32) t_readers'_10 t_readers'_13 _ _ _ hX13 hW (lv_sub hl [0, 1, 2, 3, 4] rfl) ?_
        intro H locs ls hW hl
        clear L12
        refine lv_iinc (v := (x3_2 + (1 : Int32))) (lv' := [(3, .int (x3_2 + (1 : Int32))), (0, .ref a_t), (1, .ref a_p1), (2, .int p2)]) hx hb dX10_findReaders_61 hl (k := 0) rfl rfl (by decide) rfl (fun ls hl => ?_)
        refine lv_goto (tgt := 23) hx hb dX10_findReaders_64 (by decide) ?_
        exact ih10 (x3_2 + (1 : Int32)) t_readers'_13 t_readers'_14 _ _ _ hF hW (lv_sub hl [0, 1, 2, 3] rfl) hk9
  refine L7 N (0 : Int32) t_readers'_9 t_readers'_14 _ _ _ hX8 hW (lv_sub hl [0, 1, 2, 3] rfl) ?_
  intro H locs ls hW hl
  clear L7
  have hq := Option.some.inj hF
  subst hq
  exact hret _ _ _ _ hW dX10_findReaders_67
abbrev wd_Turning_countPairs (E : m_E) (a_t : Nat) (a_t_bestWay : Nat) (a_t_way : Nat) (a_t_readers : Nat) (a_t_chosen : Nat) (a_t_pairs : Nat) (t_bestPairs : Int32) (t_way : Nat → Int32) (t_readers : Nat → Int32) (t_chosen : Nat → Int32) (t_pairs : Nat → Int32) : va_W := [(a_t, .inr (10, [.int t_bestPairs, .ref a_t_way, .ref a_t_bestWay, .ref a_t_readers, .ref a_t_chosen, .ref a_t_pairs])), (a_t_way, .inl (E.2.1 0, 6, .inl t_way)), (a_t_readers, .inl (E.2.1 0, 24, .inl t_readers)), (a_t_chosen, .inl (E.2.1 0, 7, .inl t_chosen)), (a_t_pairs, .inl (E.2.1 0, 7, .inl t_pairs))]
def rm_Turning_countPairs : Room := { frames := 1, cells := 0, slots := 0, locals := 20 }
set_option maxHeartbeats 4000000 in
set_option maxRecDepth 100000 in
theorem c_Turning_countPairs (l : Launch) (E : m_E) (sz N : Nat) (a_t : Nat) (a_t_bestWay : Nat) (a_t_way : Nat) (a_t_readers : Nat) (a_t_chosen : Nat) (a_t_pairs : Nat) (t_bestPairs : Int32) (t_way : Nat → Int32) (t_readers : Nat → Int32) (t_chosen : Nat → Int32) (t_pairs : Nat → Int32) (p1 : Int32) (p2 : Int32) (ures : (Nat → Int32) × (Nat → Int32)) (hF : F_Turning_countPairs N p1 p2 t_way t_readers t_chosen t_pairs = some ures) : m_Met l yX10_countPairs cX10_countPairs 4 none rm_Turning_countPairs E (wd_Turning_countPairs E a_t a_t_bestWay a_t_way a_t_readers a_t_chosen a_t_pairs t_bestPairs t_way t_readers t_chosen t_pairs) (wd_Turning_countPairs E a_t a_t_bestWay a_t_way a_t_readers a_t_chosen a_t_pairs t_bestPairs t_way t_readers ures.1 ures.2) sz [.ref a_t, .int p1, .int p2] none := by
  refine m_ofV (by decide) (Nat.le_of_ble_eq_true rfl) ?_
  intro p e s m args below meth c A Q ls X hW hA hl hret
  obtain ⟨hx, hb, -, hown, hts, hK, -, hG⟩ := id X
  have hl : lv_has ls 4 [(0, .ref a_t), (1, .int p1), (2, .int p2)] := hl
  unfold F_Turning_countPairs at hF
  refine lv_iload_n hx hb dX10_countPairs_0 rfl (lv_at hl 1 rfl) ?_
  refine lv_istore_n (lv' := [(3, .int p1), (0, .ref a_t), (1, .int p1), (2, .int p2)]) hx hb dX10_countPairs_1 rfl hl (by decide) rfl (fun ls hl => ?_)
  obtain ⟨t_chosen'_4, t_pairs'_4, hX2, hF⟩ := bO_s2 hF
  have L1 : ∀ (k0 : Nat) (x3 : Int32) (t_chosen'_3 : Nat → Int32) (t_pairs'_3 : Nat → Int32) (t_chosen'_4 : Nat → Int32) (t_pairs'_4 : Nat → Int32) (H : Heap) (locs : List Loc) (ls : Array Slot), Turning_countPairs_L2 p2 t_way t_readers k0 x3 t_chosen'_3 t_pairs'_3 = some (t_chosen'_4, t_pairs'_4) → m_H E A (wd_Turning_countPairs E a_t a_t_bestWay a_t_way a_t_readers a_t_chosen a_t_pairs t_bestPairs t_way t_readers t_chosen'_3 t_pairs'_3) s.heap H locs → lv_has ls 4 [(3, .int x3), (0, .ref a_t), (2, .int p2)] → (∀ (H : Heap) (locs : List Loc) (ls : Array Slot), m_H E A (wd_Turning_countPairs E a_t a_t_bestWay a_t_way a_t_readers a_t_chosen a_t_pairs t_bestPairs t_way t_readers t_chosen'_4 t_pairs'_4) s.heap H locs → lv_has ls 4 [] → W p l e rm_Turning_countPairs s m args below meth c H locs 0 0 Q (F0 m 80 ls [])) → W p l e rm_Turning_countPairs s m args below meth c H locs 0 0 Q (F0 m 2 ls []) := by
    clear hF
    intro k0
    induction k0 with
    | zero =>
      intro x3 t_chosen'_3 t_pairs'_3 t_chosen'_4 t_pairs'_4 H locs ls hF
      cases hF
    | succ k0 ih4 =>
      intro x3 t_chosen'_3 t_pairs'_3 t_chosen'_4 t_pairs'_4 H locs ls hF hW hl hk3
      rw [Turning_countPairs_L2] at hF
      refine lv_iload_n hx hb dX10_countPairs_2 rfl (lv_at hl 0 rfl) ?_
      refine lv_iload_n hx hb dX10_countPairs_3 rfl (lv_at hl 2 rfl) ?_
      refine lv_icmp_ge (tgt := 80) hx hb dX10_countPairs_4 (by decide) (fun c5 => ?_) (fun c5 => ?_)
      · have hF := if_y c5 hF
        cases hF
        exact hk3 _ _ _ hW (lv_sub hl [] rfl)
      · have hF := if_n c5 hF
        refine lv_aload_n hx hb dX10_countPairs_7 rfl (lv_at hl 1 rfl) ?_
        refine m_get X hW fdX10_21 0 rfl rfl dX10_countPairs_8 ?_
        refine lv_iload_n hx hb dX10_countPairs_11 rfl (lv_at hl 0 rfl) ?_
        refine lv_iconst (v := (1 : Int32)) hx hb dX10_countPairs_12 (by decide) ?_
        refine lv_iadd hx hb dX10_countPairs_13 ?_
        refine lv_aload_n hx hb dX10_countPairs_14 rfl (lv_at hl 1 rfl) ?_
        refine m_get X hW fdX10_21 0 rfl rfl dX10_countPairs_15 ?_
        refine lv_iload_n hx hb dX10_countPairs_18 rfl (lv_at hl 0 rfl) ?_
        obtain ⟨g6, hF⟩ := gd_some hF
        refine m_iald X hW 3 (k := x3.toNatClampNeg) rfl g6 rfl dX10_countPairs_19 ?_
        refine lv_iconst (v := (1 : Int32)) hx hb dX10_countPairs_20 (by decide) ?_
        refine lv_iload_n hx hb dX10_countPairs_21 rfl (lv_at hl 0 rfl) ?_
        refine lv_iconst (v := (4 : Int32)) hx hb dX10_countPairs_22 (by decide) ?_
        refine lv_imul hx hb dX10_countPairs_23 ?_
        refine lv_aload_n hx hb dX10_countPairs_24 rfl (lv_at hl 1 rfl) ?_
        refine m_get X hW fdX10_11 0 rfl rfl dX10_countPairs_25 ?_
        refine lv_iload_n hx hb dX10_countPairs_28 rfl (lv_at hl 0 rfl) ?_
        obtain ⟨g7, hF⟩ := gd_some hF
        refine m_iald X hW 1 (k := x3.toNatClampNeg) rfl g7 rfl dX10_countPairs_29 ?_
        refine lv_iadd hx hb dX10_countPairs_30 ?_
        refine m_ishl hx hb dX10_countPairs_31 ?_
        refine lv_ior hx hb dX10_countPairs_32 ?_
        obtain ⟨g8, hF⟩ := gd_some hF
        refine m_iast X hW 3 (k := (x3 + (1 : Int32)).toNatClampNeg) rfl g8 rfl dX10_countPairs_33 (ws' := (wd_Turning_countPairs E a_t a_t_bestWay a_t_way a_t_readers a_t_chosen a_t_pairs t_bestPairs t_way t_readers (upd t_chosen'_3 (x3 + (1 : Int32)).toNatClampNeg ((t_chosen'_3 x3.toNatClampNeg) ||| (jshl (1 : Int32) ((x3 * (4 : Int32)) + (t_way x3.toNatClampNeg))))) t_pairs'_3)) rfl (fun H locs hW => ?_)
        refine lv_aload_n hx hb dX10_countPairs_34 rfl (lv_at hl 1 rfl) ?_
        refine m_get X hW fdX10_24 0 rfl rfl dX10_countPairs_35 ?_
        refine lv_iload_n hx hb dX10_countPairs_38 rfl (lv_at hl 0 rfl) ?_
        refine lv_iconst (v := (1 : Int32)) hx hb dX10_countPairs_39 (by decide) ?_
        refine lv_iadd hx hb dX10_countPairs_40 ?_
        refine lv_aload_n hx hb dX10_countPairs_41 rfl (lv_at hl 1 rfl) ?_
        refine m_get X hW fdX10_24 0 rfl rfl dX10_countPairs_42 ?_
        refine lv_iload_n hx hb dX10_countPairs_45 rfl (lv_at hl 0 rfl) ?_
        refine m_iald X hW 4 (k := x3.toNatClampNeg) rfl g6 rfl dX10_countPairs_46 ?_
        refine lv_aload_n hx hb dX10_countPairs_47 rfl (lv_at hl 1 rfl) ?_
        refine m_get X hW fdX10_18 0 rfl rfl dX10_countPairs_48 ?_
        refine lv_iload_n hx hb dX10_countPairs_51 rfl (lv_at hl 0 rfl) ?_
        refine lv_iconst (v := (4 : Int32)) hx hb dX10_countPairs_52 (by decide) ?_
        refine lv_imul hx hb dX10_countPairs_53 ?_
        refine lv_aload_n hx hb dX10_countPairs_54 rfl (lv_at hl 1 rfl) ?_
        refine m_get X hW fdX10_11 0 rfl rfl dX10_countPairs_55 ?_
        refine lv_iload_n hx hb dX10_countPairs_58 rfl (lv_at hl 0 rfl) ?_
        refine m_iald X hW 1 (k := x3.toNatClampNeg) rfl g7 rfl dX10_countPairs_59 ?_
        refine lv_iadd hx hb dX10_countPairs_60 ?_
        obtain ⟨g9, hF⟩ := gd_some hF
        refine m_iald X hW 2 (k := ((x3 * (4 : Int32)) + (t_way x3.toNatClampNeg)).toNatClampNeg) rfl g9 rfl dX10_countPairs_61 ?_
        refine lv_aload_n hx hb dX10_countPairs_62 rfl (lv_at hl 1 rfl) ?_
        refine m_get X hW fdX10_21 0 rfl rfl dX10_countPairs_63 ?_
        refine lv_iload_n hx hb dX10_countPairs_66 rfl (lv_at hl 0 rfl) ?_
        refine m_iald X hW 3 (k := x3.toNatClampNeg) rfl g6 rfl dX10_countPairs_67 ?_
        refine lv_iand hx hb dX10_countPairs_68 ?_
        refine m_callS X hW hA hl.1 lkX10_76 (c_Integer_bitCount l E _ N   ((t_readers ((x3 * (4 : Int32)) + (t_way x3.toNatClampNeg)).toNatClampNeg) &&& ((upd t_chosen'_3 (x3 + (1 : Int32)).toNatClampNeg ((t_chosen'_3 x3.toNatClampNeg) ||| (jshl (1 : Int32) ((x3 * (4 : Int32)) + (t_way x3.toNatClampNeg))))) x3.toNatClampNeg)) (F_Integer_bitCount ((t_readers ((x3 * (4 : Int32)) + (t_way x3.toNatClampNeg)).toNatClampNeg) &&& ((upd t_chosen'_3 (x3 + (1 : Int32)).toNatClampNeg ((t_chosen'_3 x3.toNatClampNeg) ||| (jshl (1 : Int32) ((x3 * (4 : Int32)) + (t_way x3.toNatClampNeg))))) x3.toNatClampNeg))) rfl) ([]) (by decide) rfl rfl (ws' := (wd_Turning_countPairs E a_t a_t_bestWay a_t_way a_t_readers a_t_chosen a_t_pairs t_bestPairs t_way t_readers (upd t_chosen'_3 (x3 + (1 : Int32)).toNatClampNeg ((t_chosen'_3 x3.toNatClampNeg) ||| (jshl (1 : Int32) ((x3 * (4 : Int32)) + (t_way x3.toNatClampNeg))))) t_pairs'_3)) rfl (As := [.int ((t_readers ((x3 * (4 : Int32)) + (t_way x3.toNatClampNeg)).toNatClampNeg) &&& ((upd t_chosen'_3 (x3 + (1 : Int32)).toNatClampNeg ((t_chosen'_3 x3.toNatClampNeg) ||| (jshl (1 : Int32) ((x3 * (4 : Int32)) + (t_way x3.toNatClampNeg))))) x3.toNatClampNeg))]) (rest := [.int (t_pairs'_3 x3.toNatClampNeg), .int (x3 + (1 : Int32)), .ref a_t_pairs]) rfl rfl ⟨rfl, rfl, Nat.le_of_ble_eq_true rfl, Nat.le_of_ble_eq_true rfl⟩ (Nat.le_of_ble_eq_true rfl) (Nat.zero_le _) (Nat.zero_le _) dX10_countPairs_69 (fun H locs hW => ?_)
        refine lv_iadd hx hb dX10_countPairs_72 ?_
        refine m_iast X hW 4 (k := (x3 + (1 : Int32)).toNatClampNeg) rfl g8 rfl dX10_countPairs_73 (ws' := (wd_Turning_countPairs E a_t a_t_bestWay a_t_way a_t_readers a_t_chosen a_t_pairs t_bestPairs t_way t_readers (upd t_chosen'_3 (x3 + (1 : Int32)).toNatClampNeg ((t_chosen'_3 x3.toNatClampNeg) ||| (jshl (1 : Int32) ((x3 * (4 : Int32)) + (t_way x3.toNatClampNeg))))) (upd t_pairs'_3 (x3 + (1 : Int32)).toNatClampNeg ((t_pairs'_3 x3.toNatClampNeg) + (F_Integer_bitCount ((t_readers ((x3 * (4 : Int32)) + (t_way x3.toNatClampNeg)).toNatClampNeg) &&& ((upd t_chosen'_3 (x3 + (1 : Int32)).toNatClampNeg ((t_chosen'_3 x3.toNatClampNeg) ||| (jshl (1 : Int32) ((x3 * (4 : Int32)) + (t_way x3.toNatClampNeg))))) x3.toNatClampNeg))))))) rfl (fun H locs hW => ?_)
        refine lv_iinc (v := (x3 + (1 : Int32))) (lv' := [(3, .int (x3 + (1 : Int32))), (0, .ref a_t), (2, .int p2)]) hx hb dX10_countPairs_74 hl (k := 0) rfl rfl (by decide) rfl (fun ls hl => ?_)
        refine lv_goto (tgt := 2) hx hb dX10_countPairs_77 (by decide) ?_
        exact ih4 (x3 + (1 : Int32)) (upd t_chosen'_3 (x3 + (1 : Int32)).toNatClampNeg ((t_chosen'_3 x3.toNatClampNeg) ||| (jshl (1 : Int32) ((x3 * (4 : Int32)) + (t_way x3.toNatClampNeg))))) (upd t_pairs'_3 (x3 + (1 : Int32)).toNatClampNeg ((t_pairs'_3 x3.toNatClampNeg) + (F_Integer_bitCount ((t_readers ((x3 * (4 : Int32)) + (t_way x3.toNatClampNeg)).toNatClampNeg) &&& ((upd t_chosen'_3 (x3 + (1 : Int32)).toNatClampNeg ((t_chosen'_3 x3.toNatClampNeg) ||| (jshl (1 : Int32) ((x3 * (4 : Int32)) + (t_way x3.toNatClampNeg))))) x3.toNatClampNeg))))) t_chosen'_4 t_pairs'_4 _ _ _ hF hW (lv_sub hl [0, 1, 2] rfl) hk3
  refine L1 N p1 t_chosen t_pairs t_chosen'_4 t_pairs'_4 _ _ _ hX2 hW (lv_sub hl [0, 1, 3] rfl) ?_
  intro H locs ls hW hl
  clear L1
  have hq := Option.some.inj hF
  subst hq
  exact hret _ _ _ _ hW dX10_countPairs_80
abbrev wd_Turning_turnToNext (E : m_E) (a_t : Nat) (a_t_bestWay : Nat) (a_t_readers : Nat) (a_t_chosen : Nat) (a_t_pairs : Nat) (a_t_way : Nat) (t_bestPairs : Int32) (t_way : Nat → Int32) : va_W := [(a_t, .inr (10, [.int t_bestPairs, .ref a_t_way, .ref a_t_bestWay, .ref a_t_readers, .ref a_t_chosen, .ref a_t_pairs])), (a_t_way, .inl (E.2.1 0, 6, .inl t_way))]
def rm_Turning_turnToNext : Room := { frames := 0, cells := 0, slots := 0, locals := 0 }
set_option maxHeartbeats 4000000 in
set_option maxRecDepth 100000 in
theorem c_Turning_turnToNext (l : Launch) (E : m_E) (sz N : Nat) (a_t : Nat) (a_t_bestWay : Nat) (a_t_readers : Nat) (a_t_chosen : Nat) (a_t_pairs : Nat) (a_t_way : Nat) (t_bestPairs : Int32) (t_way : Nat → Int32) (p1 : Int32) (ures : Int32 × (Nat → Int32)) (hF : F_Turning_turnToNext N p1 t_way = some ures) : m_Met l yX10_turnToNext cX10_turnToNext 3 (some .int) rm_Turning_turnToNext E (wd_Turning_turnToNext E a_t a_t_bestWay a_t_readers a_t_chosen a_t_pairs a_t_way t_bestPairs t_way) (wd_Turning_turnToNext E a_t a_t_bestWay a_t_readers a_t_chosen a_t_pairs a_t_way t_bestPairs ures.2) sz [.ref a_t, .int p1] (some (.int ures.1)) := by
  refine m_ofI (by decide) (Nat.le_of_ble_eq_true rfl) ?_
  intro p e s m args below meth c A Q ls X hW hA hl hret
  obtain ⟨hx, hb, -, hown, hts, hK, -, hG⟩ := id X
  have hl : lv_has ls 3 [(0, .ref a_t), (1, .int p1)] := hl
  unfold F_Turning_turnToNext at hF
  refine lv_iload_n hx hb dX10_turnToNext_0 rfl (lv_at hl 1 rfl) ?_
  refine lv_iconst (v := (1 : Int32)) hx hb dX10_turnToNext_1 (by decide) ?_
  refine lv_isub hx hb dX10_turnToNext_2 ?_
  refine lv_istore_n (lv' := [(2, .int (p1 - (1 : Int32))), (0, .ref a_t), (1, .int p1)]) hx hb dX10_turnToNext_3 rfl hl (by decide) rfl (fun ls hl => ?_)
  obtain ⟨out6, hX2, hr5, hF⟩ := bT_s1 hF
  have L1 : ∀ (k0 : Nat) (x2 : Int32) (t_way'_3 : Nat → Int32) (out8 : (Int32 × (Nat → Int32)) ⊕ ((Nat → Int32)))  (H : Heap) (locs : List Loc) (ls : Array Slot), Turning_turnToNext_L4  k0 x2 t_way'_3 = some out8 → m_H E A (wd_Turning_turnToNext E a_t a_t_bestWay a_t_readers a_t_chosen a_t_pairs a_t_way t_bestPairs t_way'_3) s.heap H locs → lv_has ls 3 [(2, .int x2), (0, .ref a_t)] → (∀ a, out8 = .inl a → a = ures) → (∀ (t_way'_4 : Nat → Int32) (H : Heap) (locs : List Loc) (ls : Array Slot), out8 = .inr t_way'_4 → m_H E A (wd_Turning_turnToNext E a_t a_t_bestWay a_t_readers a_t_chosen a_t_pairs a_t_way t_bestPairs t_way'_4) s.heap H locs → lv_has ls 3 [] → W p l e rm_Turning_turnToNext s m args below meth c H locs 0 0 Q (F0 m 43 ls [])) → W p l e rm_Turning_turnToNext s m args below meth c H locs 0 0 Q (F0 m 4 ls []) := by
    clear hF
    intro k0
    induction k0 with
    | zero =>
      intro x2 t_way'_3 out8 H locs ls hF
      cases hF
    | succ k0 ih4 =>
      intro x2 t_way'_3 out8 H locs ls hF hW hl hr7 hk3
      rw [Turning_turnToNext_L4] at hF
      refine lv_iload_n hx hb dX10_turnToNext_4 rfl (lv_at hl 0 rfl) ?_
      refine lv_if_lt (tgt := 43) hx hb dX10_turnToNext_5 (by decide) (fun c9 => ?_) (fun c9 => ?_)
      · have hF := if_y c9 hF
        exact hk3 t_way'_3 _ _ _ (Option.some.inj hF).symm hW (lv_sub hl [] rfl)
      · have hF := if_n c9 hF
        refine lv_aload_n hx hb dX10_turnToNext_8 rfl (lv_at hl 1 rfl) ?_
        refine m_get X hW fdX10_11 0 rfl rfl dX10_turnToNext_9 ?_
        refine lv_iload_n hx hb dX10_turnToNext_12 rfl (lv_at hl 0 rfl) ?_
        obtain ⟨g10, hF⟩ := gd_some hF
        refine m_iald X hW 1 (k := x2.toNatClampNeg) rfl g10 rfl dX10_turnToNext_13 ?_
        refine lv_iconst (v := (3 : Int32)) hx hb dX10_turnToNext_14 (by decide) ?_
        refine lv_icmp_ge (tgt := 30) hx hb dX10_turnToNext_15 (by decide) (fun c11 => ?_) (fun c11 => ?_)
        · have hF := if_y c11 hF
          refine lv_aload_n hx hb dX10_turnToNext_30 rfl (lv_at hl 1 rfl) ?_
          refine m_get X hW fdX10_11 0 rfl rfl dX10_turnToNext_31 ?_
          refine lv_iload_n hx hb dX10_turnToNext_34 rfl (lv_at hl 0 rfl) ?_
          refine lv_iconst (v := (0 : Int32)) hx hb dX10_turnToNext_35 (by decide) ?_
          refine m_iast X hW 1 (k := x2.toNatClampNeg) rfl g10 rfl dX10_turnToNext_36 (ws' := (wd_Turning_turnToNext E a_t a_t_bestWay a_t_readers a_t_chosen a_t_pairs a_t_way t_bestPairs (upd t_way'_3 x2.toNatClampNeg (0 : Int32)))) rfl (fun H locs hW => ?_)
          refine lv_iinc (v := (x2 + (-1 : Int32))) (lv' := [(2, .int (x2 + (-1 : Int32))), (0, .ref a_t)]) hx hb dX10_turnToNext_37 hl (k := 0) rfl rfl (by decide) rfl (fun ls hl => ?_)
          refine lv_goto (tgt := 4) hx hb dX10_turnToNext_40 (by decide) ?_
          exact ih4 (x2 + (-1 : Int32)) (upd t_way'_3 x2.toNatClampNeg (0 : Int32)) out8 _ _ _ hF hW (lv_sub hl [0, 1] rfl) hr7 hk3
        · have hF := if_n c11 hF
          refine lv_aload_n hx hb dX10_turnToNext_18 rfl (lv_at hl 1 rfl) ?_
          refine m_get X hW fdX10_11 0 rfl rfl dX10_turnToNext_19 ?_
          refine lv_iload_n hx hb dX10_turnToNext_22 rfl (lv_at hl 0 rfl) ?_
          refine lv_dup2_11 hx hb dX10_turnToNext_23 rfl rfl ?_
          refine m_iald X hW 1 (k := x2.toNatClampNeg) rfl g10 rfl dX10_turnToNext_24 ?_
          refine lv_iconst (v := (1 : Int32)) hx hb dX10_turnToNext_25 (by decide) ?_
          refine lv_iadd hx hb dX10_turnToNext_26 ?_
          refine m_iast X hW 1 (k := x2.toNatClampNeg) rfl g10 rfl dX10_turnToNext_27 (ws' := (wd_Turning_turnToNext E a_t a_t_bestWay a_t_readers a_t_chosen a_t_pairs a_t_way t_bestPairs (upd t_way'_3 x2.toNatClampNeg ((t_way'_3 x2.toNatClampNeg) + (1 : Int32))))) rfl (fun H locs hW => ?_)
          refine lv_iload_n hx hb dX10_turnToNext_28 rfl (lv_at hl 0 rfl) ?_
          have hq := (Option.some.inj hF).symm
          have hq := hr7 _ hq
          subst hq
          exact hret _ _ _ _ hW dX10_turnToNext_29
  refine L1 N (p1 - (1 : Int32)) t_way out6 _ _ _ hX2 hW (lv_sub hl [0, 1] rfl) hr5 ?_
  intro t_way'_4 H locs ls ho hW hl
  have hF := hF t_way'_4 ho
  clear L1
  refine lv_iconst (v := (0 : Int32)) hx hb dX10_turnToNext_43 (by decide) ?_
  have hq := Option.some.inj hF
  subst hq
  exact hret _ _ _ _ hW dX10_turnToNext_44
abbrev wd_Turning_search (E : m_E) (a_t : Nat) (a_t_way : Nat) (a_t_bestWay : Nat) (a_t_readers : Nat) (a_t_chosen : Nat) (a_t_pairs : Nat) (a_p1 : Nat) (a_p1_way : Nat) (a_p1_tell : Nat) (a_p1_look : Nat) (a_p1_place : Nat) (a_p1_farSquare : Nat) (t_bestPairs : Int32) (t_way : Nat → Int32) (t_bestWay : Nat → Int32) (t_readers : Nat → Int32) (t_chosen : Nat → Int32) (t_pairs : Nat → Int32) (p1_pillars : Int64) (p1_weavers : Int32) (p1_place : Nat → Int32) (p1_farSquare : Nat → Int32) : va_W := [(a_t, .inr (10, [.int t_bestPairs, .ref a_t_way, .ref a_t_bestWay, .ref a_t_readers, .ref a_t_chosen, .ref a_t_pairs])), (a_t_way, .inl (E.2.1 0, 6, .inl t_way)), (a_t_bestWay, .inl (E.2.1 0, 6, .inl t_bestWay)), (a_t_readers, .inl (E.2.1 0, 24, .inl t_readers)), (a_t_chosen, .inl (E.2.1 0, 7, .inl t_chosen)), (a_t_pairs, .inl (E.2.1 0, 7, .inl t_pairs)), (a_p1, .inr (1, [.long p1_pillars, .int p1_weavers, .ref a_p1_place, .ref a_p1_way, .ref a_p1_tell, .ref a_p1_look, .ref a_p1_farSquare])), (a_p1_place, .inl (E.2.1 0, 8, .inl p1_place)), (a_p1_farSquare, .inl (E.2.1 0, 2, .inl p1_farSquare))]
def rm_Turning_search : Room := { frames := 4, cells := 0, slots := 0, locals := 98 }
set_option maxHeartbeats 4000000 in
set_option maxRecDepth 100000 in
theorem c_Turning_search (l : Launch) (E : m_E) (sz N : Nat) (a_t : Nat) (a_t_way : Nat) (a_t_bestWay : Nat) (a_t_readers : Nat) (a_t_chosen : Nat) (a_t_pairs : Nat) (a_p1 : Nat) (a_p1_way : Nat) (a_p1_tell : Nat) (a_p1_look : Nat) (a_p1_place : Nat) (a_p1_farSquare : Nat) (t_bestPairs : Int32) (t_way : Nat → Int32) (t_bestWay : Nat → Int32) (t_readers : Nat → Int32) (t_chosen : Nat → Int32) (t_pairs : Nat → Int32) (p1_pillars : Int64) (p1_weavers : Int32) (p1_place : Nat → Int32) (p1_farSquare : Nat → Int32) (p2 : Int32) (ures : Int32 × (Nat → Int32) × (Nat → Int32) × (Nat → Int32) × (Nat → Int32) × (Nat → Int32)) (hF : F_Turning_search N p2 t_bestPairs t_way t_bestWay t_readers t_chosen t_pairs p1_pillars p1_weavers p1_place p1_farSquare = some ures) : m_Met l yX10_search cX10_search 7 none rm_Turning_search E (wd_Turning_search E a_t a_t_way a_t_bestWay a_t_readers a_t_chosen a_t_pairs a_p1 a_p1_way a_p1_tell a_p1_look a_p1_place a_p1_farSquare t_bestPairs t_way t_bestWay t_readers t_chosen t_pairs p1_pillars p1_weavers p1_place p1_farSquare) (wd_Turning_search E a_t a_t_way a_t_bestWay a_t_readers a_t_chosen a_t_pairs a_p1 a_p1_way a_p1_tell a_p1_look a_p1_place a_p1_farSquare ures.1 ures.2.1 ures.2.2.1 ures.2.2.2.1 ures.2.2.2.2.1 ures.2.2.2.2.2 p1_pillars p1_weavers p1_place p1_farSquare) sz [.ref a_t, .ref a_p1, .int p2] none := by
  refine m_ofV (by decide) (Nat.le_of_ble_eq_true rfl) ?_
  intro p e s m args below meth c A Q ls X hW hA hl hret
  obtain ⟨hx, hb, -, hown, hts, hK, -, hG⟩ := id X
  have hl : lv_has ls 7 [(0, .ref a_t), (1, .ref a_p1), (2, .int p2)] := hl
  unfold F_Turning_search at hF
  refine lv_aload_n hx hb dX10_search_0 rfl (lv_at hl 1 rfl) ?_
  refine m_get X hW fdX10_31 6 rfl rfl dX10_search_1 ?_
  refine lv_bipush (v := (6 : Int32)) hx hb dX10_search_4 (by decide) ?_
  refine va_mmin hx hb (X.2.2.1.trans hl.1.symm) hown (hts _ wk_850) (hts _ wk_579) (hts _ wk_15) (hts _ wk_580) (Nat.le_of_ble_eq_true rfl) (Nat.le_of_ble_eq_true rfl) (Nat.zero_le _) (Nat.zero_le _) dX10_search_6 ?_
  refine lv_istore_n (lv' := [(3, .int (jmin p1_weavers (6 : Int32))), (0, .ref a_t), (1, .ref a_p1), (2, .int p2)]) hx hb dX10_search_9 rfl hl (by decide) rfl (fun ls hl => ?_)
  refine lv_aload_n hx hb dX10_search_10 rfl (lv_at hl 1 rfl) ?_
  refine lv_aload_n hx hb dX10_search_11 rfl (lv_at hl 2 rfl) ?_
  refine lv_iload_n hx hb dX10_search_12 rfl (lv_at hl 0 rfl) ?_
  obtain ⟨t_readers'_2, hC1, hF⟩ := bO_s1 hF
  refine m_callV X hW hA hl.1 lkX10_43 (c_Turning_findReaders l E _ N a_t a_t_way a_t_bestWay a_t_chosen a_t_pairs a_t_readers a_p1 a_p1_way a_p1_tell a_p1_look a_p1_place a_p1_farSquare t_bestPairs t_readers p1_pillars p1_weavers p1_place p1_farSquare (jmin p1_weavers (6 : Int32)) t_readers'_2 hC1) ([0, 3, 6, 7, 8]) (by decide) rfl rfl (ws' := (wd_Turning_search E a_t a_t_way a_t_bestWay a_t_readers a_t_chosen a_t_pairs a_p1 a_p1_way a_p1_tell a_p1_look a_p1_place a_p1_farSquare t_bestPairs t_way t_bestWay t_readers'_2 t_chosen t_pairs p1_pillars p1_weavers p1_place p1_farSquare)) rfl 0 rfl rfl rfl (As := [.ref a_p1, .int (jmin p1_weavers (6 : Int32))]) (rest := []) rfl rfl ⟨rfl, rfl, Nat.le_of_ble_eq_true rfl, Nat.le_of_ble_eq_true rfl⟩ (Nat.le_of_ble_eq_true rfl) (Nat.zero_le _) (Nat.zero_le _) dX10_search_13 (fun H locs hW => ?_)
  clear hC1
  refine lv_iconst (v := (0 : Int32)) hx hb dX10_search_16 (by decide) ?_
  refine lv_istore (lv' := [(4, .int (0 : Int32)), (3, .int (jmin p1_weavers (6 : Int32))), (0, .ref a_t), (1, .ref a_p1), (2, .int p2)]) hx hb dX10_search_17 hl (by decide) rfl (fun ls hl => ?_)
  obtain ⟨t_way'_7, hX3, hF⟩ := bO_s1 hF
  obtain ⟨c3, ec3⟩ : ∃ z : Int32, z = (jmin p1_weavers (6 : Int32)) := ⟨_, rfl⟩
  have L2 : ∀ (k0 : Nat) (x4 : Int32) (t_way'_6 : Nat → Int32) (t_way'_7 : Nat → Int32) (H : Heap) (locs : List Loc) (ls : Array Slot), Turning_search_L19  k0 x4 t_way'_6 = some t_way'_7 → m_H E A (wd_Turning_search E a_t a_t_way a_t_bestWay a_t_readers a_t_chosen a_t_pairs a_p1 a_p1_way a_p1_tell a_p1_look a_p1_place a_p1_farSquare t_bestPairs t_way'_6 t_bestWay t_readers'_2 t_chosen t_pairs p1_pillars p1_weavers p1_place p1_farSquare) s.heap H locs → lv_has ls 7 [(4, .int x4), (3, .int c3), (0, .ref a_t), (2, .int p2)] → (∀ (H : Heap) (locs : List Loc) (ls : Array Slot), m_H E A (wd_Turning_search E a_t a_t_way a_t_bestWay a_t_readers a_t_chosen a_t_pairs a_p1 a_p1_way a_p1_tell a_p1_look a_p1_place a_p1_farSquare t_bestPairs t_way'_7 t_bestWay t_readers'_2 t_chosen t_pairs p1_pillars p1_weavers p1_place p1_farSquare) s.heap H locs → lv_has ls 7 [(3, .int c3), (0, .ref a_t), (2, .int p2)] → W p l e rm_Turning_search s m args below meth c H locs 0 0 Q (F0 m 40 ls [])) → W p l e rm_Turning_search s m args below meth c H locs 0 0 Q (F0 m 19 ls []) := by
    clear hF
    intro k0
    induction k0 with
    | zero =>
      intro x4 t_way'_6 t_way'_7 H locs ls hF
      cases hF
    | succ k0 ih5 =>
      intro x4 t_way'_6 t_way'_7 H locs ls hF hW hl hk4
      rw [Turning_search_L19] at hF
      refine lv_iload hx hb dX10_search_19 (lv_at hl 0 rfl) ?_
      refine lv_bipush (v := (6 : Int32)) hx hb dX10_search_21 (by decide) ?_
      refine lv_icmp_ge (tgt := 40) hx hb dX10_search_23 (by decide) (fun c6 => ?_) (fun c6 => ?_)
      · have hF := if_y c6 hF
        cases hF
        exact hk4 _ _ _ hW (lv_sub hl [1, 2, 3] rfl)
      · have hF := if_n c6 hF
        refine lv_aload_n hx hb dX10_search_26 rfl (lv_at hl 2 rfl) ?_
        refine m_get X hW fdX10_11 0 rfl rfl dX10_search_27 ?_
        refine lv_iload hx hb dX10_search_30 (lv_at hl 0 rfl) ?_
        refine lv_iconst (v := (0 : Int32)) hx hb dX10_search_32 (by decide) ?_
        obtain ⟨g7, hF⟩ := gd_some hF
        refine m_iast X hW 1 (k := x4.toNatClampNeg) rfl g7 rfl dX10_search_33 (ws' := (wd_Turning_search E a_t a_t_way a_t_bestWay a_t_readers a_t_chosen a_t_pairs a_p1 a_p1_way a_p1_tell a_p1_look a_p1_place a_p1_farSquare t_bestPairs (upd t_way'_6 x4.toNatClampNeg (0 : Int32)) t_bestWay t_readers'_2 t_chosen t_pairs p1_pillars p1_weavers p1_place p1_farSquare)) rfl (fun H locs hW => ?_)
        refine lv_iinc (v := (x4 + (1 : Int32))) (lv' := [(4, .int (x4 + (1 : Int32))), (3, .int c3), (0, .ref a_t), (2, .int p2)]) hx hb dX10_search_34 hl (k := 0) rfl rfl (by decide) rfl (fun ls hl => ?_)
        refine lv_goto (tgt := 19) hx hb dX10_search_37 (by decide) ?_
        exact ih5 (x4 + (1 : Int32)) (upd t_way'_6 x4.toNatClampNeg (0 : Int32)) t_way'_7 _ _ _ hF hW (lv_sub hl [0, 1, 2, 3] rfl) hk4
  subst ec3
  refine L2 N (0 : Int32) t_way t_way'_7 _ _ _ hX3 hW (lv_sub hl [0, 1, 2, 4] rfl) ?_
  intro H locs ls hW hl
  clear L2
  refine lv_iconst (v := (0 : Int32)) hx hb dX10_search_40 (by decide) ?_
  refine lv_istore (lv' := [(4, .int (0 : Int32)), (3, .int (jmin p1_weavers (6 : Int32))), (0, .ref a_t), (2, .int p2)]) hx hb dX10_search_41 hl (by decide) rfl (fun ls hl => ?_)
  refine lv_iconst (v := (0 : Int32)) hx hb dX10_search_43 (by decide) ?_
  refine lv_istore (lv' := [(5, .int (0 : Int32)), (4, .int (0 : Int32)), (3, .int (jmin p1_weavers (6 : Int32))), (0, .ref a_t), (2, .int p2)]) hx hb dX10_search_44 hl (by decide) rfl (fun ls hl => ?_)
  obtain ⟨t_way'_10, t_bestWay'_6, t_chosen'_6, t_pairs'_6, t_bestPairs'_6, hX9, hF⟩ := bO_s5 hF
  obtain ⟨c3_2, ec3_2⟩ : ∃ z : Int32, z = (jmin p1_weavers (6 : Int32)) := ⟨_, rfl⟩
  have L8 : ∀ (k0 : Nat) (x4_2 : Int32) (x5 : Int32) (t_way'_8 : Nat → Int32) (t_bestWay'_4 : Nat → Int32) (t_chosen'_4 : Nat → Int32) (t_pairs'_4 : Nat → Int32) (t_bestPairs'_4 : Int32) (t_way'_10 : Nat → Int32) (t_bestWay'_6 : Nat → Int32) (t_chosen'_6 : Nat → Int32) (t_pairs'_6 : Nat → Int32) (t_bestPairs'_6 : Int32) (H : Heap) (locs : List Loc) (ls : Array Slot), Turning_search_L46 N c3_2 t_readers'_2 p2 k0 x4_2 x5 t_way'_8 t_bestWay'_4 t_chosen'_4 t_pairs'_4 t_bestPairs'_4 = some (t_way'_10, t_bestWay'_6, t_chosen'_6, t_pairs'_6, t_bestPairs'_6) → m_H E A (wd_Turning_search E a_t a_t_way a_t_bestWay a_t_readers a_t_chosen a_t_pairs a_p1 a_p1_way a_p1_tell a_p1_look a_p1_place a_p1_farSquare t_bestPairs'_4 t_way'_8 t_bestWay'_4 t_readers'_2 t_chosen'_4 t_pairs'_4 p1_pillars p1_weavers p1_place p1_farSquare) s.heap H locs → lv_has ls 7 [(5, .int x5), (4, .int x4_2), (3, .int c3_2), (0, .ref a_t), (2, .int p2)] → (∀ (H : Heap) (locs : List Loc) (ls : Array Slot), m_H E A (wd_Turning_search E a_t a_t_way a_t_bestWay a_t_readers a_t_chosen a_t_pairs a_p1 a_p1_way a_p1_tell a_p1_look a_p1_place a_p1_farSquare t_bestPairs'_6 t_way'_10 t_bestWay'_6 t_readers'_2 t_chosen'_6 t_pairs'_6 p1_pillars p1_weavers p1_place p1_farSquare) s.heap H locs → lv_has ls 7 [] → W p l e rm_Turning_search s m args below meth c H locs 0 0 Q (F0 m 135 ls [])) → W p l e rm_Turning_search s m args below meth c H locs 0 0 Q (F0 m 46 ls []) := by
    clear hF
    intro k0
    induction k0 with
    | zero =>
      intro x4_2 x5 t_way'_8 t_bestWay'_4 t_chosen'_4 t_pairs'_4 t_bestPairs'_4 t_way'_10 t_bestWay'_6 t_chosen'_6 t_pairs'_6 t_bestPairs'_6 H locs ls hF
      cases hF
    | succ k0 ih11 =>
      intro x4_2 x5 t_way'_8 t_bestWay'_4 t_chosen'_4 t_pairs'_4 t_bestPairs'_4 t_way'_10 t_bestWay'_6 t_chosen'_6 t_pairs'_6 t_bestPairs'_6 H locs ls hF hW hl hk10
      rw [Turning_search_L46] at hF
      refine lv_iload hx hb dX10_search_46 (lv_at hl 0 rfl) ?_
      refine lv_iconst (v := (1 : Int32)) hx hb dX10_search_48 (by decide) ?_
      refine lv_iconst (v := (2 : Int32)) hx hb dX10_search_49 (by decide) ?_
      refine lv_iload_n hx hb dX10_search_50 rfl (lv_at hl 2 rfl) ?_
      refine lv_imul hx hb dX10_search_51 ?_
      refine m_ishl hx hb dX10_search_52 ?_
      refine lv_icmp_ge (tgt := 135) hx hb dX10_search_53 (by decide) (fun c12 => ?_) (fun c12 => ?_)
      · have hF := if_y c12 hF
        cases hF
        exact hk10 _ _ _ hW (lv_sub hl [] rfl)
      · have hF := if_n c12 hF
        refine lv_aload_n hx hb dX10_search_56 rfl (lv_at hl 3 rfl) ?_
        refine lv_iload hx hb dX10_search_57 (lv_at hl 1 rfl) ?_
        refine lv_iload_n hx hb dX10_search_59 rfl (lv_at hl 2 rfl) ?_
        obtain ⟨t_chosen'_5, t_pairs'_5, hC13, hF⟩ := bO_s2 hF
        refine m_callV X hW hA hl.1 lkX10_47 (c_Turning_countPairs l E _ N a_t a_t_bestWay a_t_way a_t_readers a_t_chosen a_t_pairs t_bestPairs'_4 t_way'_8 t_readers'_2 t_chosen'_4 t_pairs'_4 x4_2 c3_2 (t_chosen'_5, t_pairs'_5) hC13) ([0, 1, 3, 4, 5]) (by decide) rfl rfl (ws' := (wd_Turning_search E a_t a_t_way a_t_bestWay a_t_readers a_t_chosen a_t_pairs a_p1 a_p1_way a_p1_tell a_p1_look a_p1_place a_p1_farSquare t_bestPairs'_4 t_way'_8 t_bestWay'_4 t_readers'_2 t_chosen'_5 t_pairs'_5 p1_pillars p1_weavers p1_place p1_farSquare)) rfl 0 rfl rfl rfl (As := [.int x4_2, .int c3_2]) (rest := []) rfl rfl ⟨rfl, rfl, Nat.le_of_ble_eq_true rfl, Nat.le_of_ble_eq_true rfl⟩ (Nat.le_of_ble_eq_true rfl) (Nat.zero_le _) (Nat.zero_le _) dX10_search_60 (fun H locs hW => ?_)
        clear hC13
        refine lv_aload_n hx hb dX10_search_63 rfl (lv_at hl 3 rfl) ?_
        refine m_get X hW fdX10_24 0 rfl rfl dX10_search_64 ?_
        refine lv_iload_n hx hb dX10_search_67 rfl (lv_at hl 2 rfl) ?_
        obtain ⟨g14, hF⟩ := gd_some hF
        refine m_iald X hW 5 (k := c3_2.toNatClampNeg) rfl g14 rfl dX10_search_68 ?_
        refine lv_istore (lv' := [(6, .int (t_pairs'_5 c3_2.toNatClampNeg)), (5, .int x5), (4, .int x4_2), (3, .int c3_2), (0, .ref a_t), (2, .int p2)]) hx hb dX10_search_69 hl (by decide) rfl (fun ls hl => ?_)
        refine lv_iload hx hb dX10_search_71 (lv_at hl 1 rfl) ?_
        obtain ⟨t_bestPairs'_5, t_bestWay'_5, hX16, hF⟩ := bO_s2 hF
        have J15 : ∀ (H : Heap) (locs : List Loc) (ls : Array Slot), m_H E A (wd_Turning_search E a_t a_t_way a_t_bestWay a_t_readers a_t_chosen a_t_pairs a_p1 a_p1_way a_p1_tell a_p1_look a_p1_place a_p1_farSquare t_bestPairs'_5 t_way'_8 t_bestWay'_5 t_readers'_2 t_chosen'_5 t_pairs'_5 p1_pillars p1_weavers p1_place p1_farSquare) s.heap H locs → lv_has ls 7 [(5, .int x5), (3, .int c3_2), (0, .ref a_t), (2, .int p2)] → W p l e rm_Turning_search s m args below meth c H locs 0 0 Q (F0 m 122 ls []) := by
          intro H locs ls hW hl
          refine lv_aload_n hx hb dX10_search_122 rfl (lv_at hl 2 rfl) ?_
          refine lv_iload_n hx hb dX10_search_123 rfl (lv_at hl 1 rfl) ?_
          obtain ⟨r124, t_way'_9, hC17, hF⟩ := bO_s2 hF
          refine m_callV X hW hA hl.1 lkX10_60 (c_Turning_turnToNext l E _ N a_t a_t_bestWay a_t_readers a_t_chosen a_t_pairs a_t_way t_bestPairs'_5 t_way'_8 c3_2 (r124, t_way'_9) hC17) ([0, 1]) (by decide) rfl rfl (ws' := (wd_Turning_search E a_t a_t_way a_t_bestWay a_t_readers a_t_chosen a_t_pairs a_p1 a_p1_way a_p1_tell a_p1_look a_p1_place a_p1_farSquare t_bestPairs'_5 t_way'_9 t_bestWay'_5 t_readers'_2 t_chosen'_5 t_pairs'_5 p1_pillars p1_weavers p1_place p1_farSquare)) rfl 0 rfl rfl rfl (As := [.int c3_2]) (rest := []) rfl rfl ⟨rfl, rfl, Nat.le_of_ble_eq_true rfl, Nat.le_of_ble_eq_true rfl⟩ (Nat.le_of_ble_eq_true rfl) (Nat.zero_le _) (Nat.zero_le _) dX10_search_124 (fun H locs hW => ?_)
          clear hC17
          refine lv_istore (lv' := [(4, .int r124), (5, .int x5), (3, .int c3_2), (0, .ref a_t), (2, .int p2)]) hx hb dX10_search_127 hl (by decide) rfl (fun ls hl => ?_)
          refine lv_iinc (v := (x5 + (1 : Int32))) (lv' := [(5, .int (x5 + (1 : Int32))), (4, .int r124), (3, .int c3_2), (0, .ref a_t), (2, .int p2)]) hx hb dX10_search_129 hl (k := 1) rfl rfl (by decide) rfl (fun ls hl => ?_)
          refine lv_goto (tgt := 46) hx hb dX10_search_132 (by decide) ?_
          exact ih11 r124 (x5 + (1 : Int32)) t_way'_9 t_bestWay'_5 t_chosen'_5 t_pairs'_5 t_bestPairs'_5 t_way'_10 t_bestWay'_6 t_chosen'_6 t_pairs'_6 t_bestPairs'_6 _ _ _ hF hW (lv_sub hl [0, 1, 2, 3, 4] rfl) hk10
        clear hF
        have hF := hX16
        clear hX16
        refine lv_if_eq (tgt := 101) hx hb dX10_search_73 (by decide) (fun c18 => ?_) (fun c18 => ?_)
        · have hF := if_y c18 hF
          refine lv_aload_n hx hb dX10_search_101 rfl (lv_at hl 4 rfl) ?_
          refine lv_iload hx hb dX10_search_102 (lv_at hl 0 rfl) ?_
          refine m_putf X hW fdX10_51 0 rfl (Nat.le_of_ble_eq_true rfl) rfl rfl dX10_search_104 (ws' := (wd_Turning_search E a_t a_t_way a_t_bestWay a_t_readers a_t_chosen a_t_pairs a_p1 a_p1_way a_p1_tell a_p1_look a_p1_place a_p1_farSquare (t_pairs'_5 c3_2.toNatClampNeg) t_way'_8 t_bestWay'_4 t_readers'_2 t_chosen'_5 t_pairs'_5 p1_pillars p1_weavers p1_place p1_farSquare)) rfl (fun H locs hW => ?_)
          refine lv_aload_n hx hb dX10_search_107 rfl (lv_at hl 4 rfl) ?_
          refine m_get X hW fdX10_11 0 rfl rfl dX10_search_108 ?_
          refine lv_iconst (v := (0 : Int32)) hx hb dX10_search_111 (by decide) ?_
          refine lv_aload_n hx hb dX10_search_112 rfl (lv_at hl 4 rfl) ?_
          refine m_get X hW fdX10_15 0 rfl rfl dX10_search_113 ?_
          refine lv_iconst (v := (0 : Int32)) hx hb dX10_search_116 (by decide) ?_
          refine lv_bipush (v := (6 : Int32)) hx hb dX10_search_117 (by decide) ?_
          refine m_copyi X hW hl.1 wk_866 wk_734 wk_733 wk_16 1 2 rfl rfl (by decide) rfl rfl rfl (Nat.le_of_ble_eq_true rfl) (Nat.le_of_ble_eq_true rfl) dX10_search_119 (ws' := (wd_Turning_search E a_t a_t_way a_t_bestWay a_t_readers a_t_chosen a_t_pairs a_p1 a_p1_way a_p1_tell a_p1_look a_p1_place a_p1_farSquare (t_pairs'_5 c3_2.toNatClampNeg) t_way'_8 (va_cpy t_way'_8 t_bestWay'_4 0 0 6) t_readers'_2 t_chosen'_5 t_pairs'_5 p1_pillars p1_weavers p1_place p1_farSquare)) (ksp := 0) (kdp := 0) (kn := 6) rfl (fun H locs hW => ?_)
          cases hF
          exact J15 _ _ _ hW (lv_sub hl [1, 3, 4, 5] rfl)
        · have hF := if_n c18 hF
          refine lv_iload_n hx hb dX10_search_76 rfl (lv_at hl 5 rfl) ?_
          refine lv_if_eq (tgt := 92) hx hb dX10_search_77 (by decide) (fun c19 => ?_) (fun c19 => ?_)
          · have hF := if_y c19 hF
            refine lv_iload hx hb dX10_search_92 (lv_at hl 0 rfl) ?_
            refine lv_aload_n hx hb dX10_search_94 rfl (lv_at hl 4 rfl) ?_
            refine m_get X hW fdX10_51 0 rfl rfl dX10_search_95 ?_
            refine lv_icmp_le (tgt := 122) hx hb dX10_search_98 (by decide) (fun c20 => ?_) (fun c20 => ?_)
            · have hF := if_y c20 hF
              cases hF
              exact J15 _ _ _ hW (lv_sub hl [1, 3, 4, 5] rfl)
            · have hF := if_n c20 hF
              refine lv_aload_n hx hb dX10_search_101 rfl (lv_at hl 4 rfl) ?_
              refine lv_iload hx hb dX10_search_102 (lv_at hl 0 rfl) ?_
              refine m_putf X hW fdX10_51 0 rfl (Nat.le_of_ble_eq_true rfl) rfl rfl dX10_search_104 (ws' := (wd_Turning_search E a_t a_t_way a_t_bestWay a_t_readers a_t_chosen a_t_pairs a_p1 a_p1_way a_p1_tell a_p1_look a_p1_place a_p1_farSquare (t_pairs'_5 c3_2.toNatClampNeg) t_way'_8 t_bestWay'_4 t_readers'_2 t_chosen'_5 t_pairs'_5 p1_pillars p1_weavers p1_place p1_farSquare)) rfl (fun H locs hW => ?_)
              refine lv_aload_n hx hb dX10_search_107 rfl (lv_at hl 4 rfl) ?_
              refine m_get X hW fdX10_11 0 rfl rfl dX10_search_108 ?_
              refine lv_iconst (v := (0 : Int32)) hx hb dX10_search_111 (by decide) ?_
              refine lv_aload_n hx hb dX10_search_112 rfl (lv_at hl 4 rfl) ?_
              refine m_get X hW fdX10_15 0 rfl rfl dX10_search_113 ?_
              refine lv_iconst (v := (0 : Int32)) hx hb dX10_search_116 (by decide) ?_
              refine lv_bipush (v := (6 : Int32)) hx hb dX10_search_117 (by decide) ?_
              refine m_copyi X hW hl.1 wk_866 wk_734 wk_733 wk_16 1 2 rfl rfl (by decide) rfl rfl rfl (Nat.le_of_ble_eq_true rfl) (Nat.le_of_ble_eq_true rfl) dX10_search_119 (ws' := (wd_Turning_search E a_t a_t_way a_t_bestWay a_t_readers a_t_chosen a_t_pairs a_p1 a_p1_way a_p1_tell a_p1_look a_p1_place a_p1_farSquare (t_pairs'_5 c3_2.toNatClampNeg) t_way'_8 (va_cpy t_way'_8 t_bestWay'_4 0 0 6) t_readers'_2 t_chosen'_5 t_pairs'_5 p1_pillars p1_weavers p1_place p1_farSquare)) (ksp := 0) (kdp := 0) (kn := 6) rfl (fun H locs hW => ?_)
              cases hF
              exact J15 _ _ _ hW (lv_sub hl [1, 3, 4, 5] rfl)
          · have hF := if_n c19 hF
            refine lv_iload hx hb dX10_search_80 (lv_at hl 0 rfl) ?_
            refine lv_aload_n hx hb dX10_search_82 rfl (lv_at hl 4 rfl) ?_
            refine m_get X hW fdX10_51 0 rfl rfl dX10_search_83 ?_
            refine lv_icmp_ge (tgt := 122) hx hb dX10_search_86 (by decide) (fun c21 => ?_) (fun c21 => ?_)
            · have hF := if_y c21 hF
              cases hF
              exact J15 _ _ _ hW (lv_sub hl [1, 3, 4, 5] rfl)
            · have hF := if_n c21 hF
              refine lv_goto (tgt := 101) hx hb dX10_search_89 (by decide) ?_
              refine lv_aload_n hx hb dX10_search_101 rfl (lv_at hl 4 rfl) ?_
              refine lv_iload hx hb dX10_search_102 (lv_at hl 0 rfl) ?_
              refine m_putf X hW fdX10_51 0 rfl (Nat.le_of_ble_eq_true rfl) rfl rfl dX10_search_104 (ws' := (wd_Turning_search E a_t a_t_way a_t_bestWay a_t_readers a_t_chosen a_t_pairs a_p1 a_p1_way a_p1_tell a_p1_look a_p1_place a_p1_farSquare (t_pairs'_5 c3_2.toNatClampNeg) t_way'_8 t_bestWay'_4 t_readers'_2 t_chosen'_5 t_pairs'_5 p1_pillars p1_weavers p1_place p1_farSquare)) rfl (fun H locs hW => ?_)
              refine lv_aload_n hx hb dX10_search_107 rfl (lv_at hl 4 rfl) ?_
              refine m_get X hW fdX10_11 0 rfl rfl dX10_search_108 ?_
              refine lv_iconst (v := (0 : Int32)) hx hb dX10_search_111 (by decide) ?_
              refine lv_aload_n hx hb dX10_search_112 rfl (lv_at hl 4 rfl) ?_
              refine m_get X hW fdX10_15 0 rfl rfl dX10_search_113 ?_
              refine lv_iconst (v := (0 : Int32)) hx hb dX10_search_116 (by decide) ?_
              refine lv_bipush (v := (6 : Int32)) hx hb dX10_search_117 (by decide) ?_
              refine m_copyi X hW hl.1 wk_866 wk_734 wk_733 wk_16 1 2 rfl rfl (by decide) rfl rfl rfl (Nat.le_of_ble_eq_true rfl) (Nat.le_of_ble_eq_true rfl) dX10_search_119 (ws' := (wd_Turning_search E a_t a_t_way a_t_bestWay a_t_readers a_t_chosen a_t_pairs a_p1 a_p1_way a_p1_tell a_p1_look a_p1_place a_p1_farSquare (t_pairs'_5 c3_2.toNatClampNeg) t_way'_8 (va_cpy t_way'_8 t_bestWay'_4 0 0 6) t_readers'_2 t_chosen'_5 t_pairs'_5 p1_pillars p1_weavers p1_place p1_farSquare)) (ksp := 0) (kdp := 0) (kn := 6) rfl (fun H locs hW => ?_)
              cases hF
              exact J15 _ _ _ hW (lv_sub hl [1, 3, 4, 5] rfl)
  subst ec3_2
  refine L8 N (0 : Int32) (0 : Int32) t_way'_7 t_bestWay t_chosen t_pairs t_bestPairs t_way'_10 t_bestWay'_6 t_chosen'_6 t_pairs'_6 t_bestPairs'_6 _ _ _ hX9 hW (lv_sub hl [0, 1, 2, 3, 4] rfl) ?_
  intro H locs ls hW hl
  clear L8
  have hq := Option.some.inj hF
  subst hq
  exact hret _ _ _ _ hW dX10_search_135
abbrev wd_Turning_bestWayOf (E : m_E) (a_t : Nat) (a_t_way : Nat) (a_t_readers : Nat) (a_t_chosen : Nat) (a_t_pairs : Nat) (a_t_bestWay : Nat) (t_bestPairs : Int32) (t_bestWay : Nat → Int32) : va_W := [(a_t, .inr (10, [.int t_bestPairs, .ref a_t_way, .ref a_t_bestWay, .ref a_t_readers, .ref a_t_chosen, .ref a_t_pairs])), (a_t_bestWay, .inl (E.2.1 0, 6, .inl t_bestWay))]
def rm_Turning_bestWayOf : Room := { frames := 1, cells := 0, slots := 0, locals := 22 }
set_option maxHeartbeats 4000000 in
set_option maxRecDepth 100000 in
theorem c_Turning_bestWayOf (l : Launch) (E : m_E) (sz N : Nat) (a_t : Nat) (a_t_way : Nat) (a_t_readers : Nat) (a_t_chosen : Nat) (a_t_pairs : Nat) (a_t_bestWay : Nat) (t_bestPairs : Int32) (t_bestWay : Nat → Int32) (p1 : Int32) (ures : Int32) (hF : F_Turning_bestWayOf p1 t_bestWay = some ures) : m_Met l yX10_bestWayOf cX10_bestWayOf 2 (some .int) rm_Turning_bestWayOf E (wd_Turning_bestWayOf E a_t a_t_way a_t_readers a_t_chosen a_t_pairs a_t_bestWay t_bestPairs t_bestWay) (wd_Turning_bestWayOf E a_t a_t_way a_t_readers a_t_chosen a_t_pairs a_t_bestWay t_bestPairs t_bestWay) sz [.ref a_t, .int p1] (some (.int ures)) := by
  refine m_ofI (by decide) (Nat.le_of_ble_eq_true rfl) ?_
  intro p e s m args below meth c A Q ls X hW hA hl hret
  obtain ⟨hx, hb, -, hown, hts, hK, -, hG⟩ := id X
  have hl : lv_has ls 2 [(0, .ref a_t), (1, .int p1)] := hl
  unfold F_Turning_bestWayOf at hF
  refine lv_iload_n hx hb dX10_bestWayOf_0 rfl (lv_at hl 1 rfl) ?_
  refine lv_iconst (v := (0 : Int32)) hx hb dX10_bestWayOf_1 (by decide) ?_
  refine lv_iconst (v := (5 : Int32)) hx hb dX10_bestWayOf_2 (by decide) ?_
  refine m_callN X hW hA hl.1 lkX10_27 (c_S_within l E _ N   p1 (0 : Int32) (5 : Int32) (F_S_within p1 (0 : Int32) (5 : Int32)) rfl) ([]) (by decide) rfl rfl (ws' := (wd_Turning_bestWayOf E a_t a_t_way a_t_readers a_t_chosen a_t_pairs a_t_bestWay t_bestPairs t_bestWay)) rfl (As := [.int p1, .int (0 : Int32), .int (5 : Int32)]) (rest := []) rfl rfl ⟨rfl, rfl, Nat.le_of_ble_eq_true rfl, Nat.le_of_ble_eq_true rfl⟩ (Nat.le_of_ble_eq_true rfl) (Nat.zero_le _) (Nat.zero_le _) dX10_bestWayOf_3 (fun H locs hW => ?_)
  refine lv_if_eq (tgt := 18) hx hb dX10_bestWayOf_6 (by decide) (fun c1 => ?_) (fun c1 => ?_)
  · have hF := if_y c1 hF
    refine lv_iconst (v := (-1 : Int32)) hx hb dX10_bestWayOf_18 (by decide) ?_
    have hq := Option.some.inj hF
    subst hq
    exact hret _ _ _ _ hW dX10_bestWayOf_19
  · have hF := if_n c1 hF
    refine lv_aload_n hx hb dX10_bestWayOf_9 rfl (lv_at hl 0 rfl) ?_
    refine m_get X hW fdX10_15 0 rfl rfl dX10_bestWayOf_10 ?_
    refine lv_iload_n hx hb dX10_bestWayOf_13 rfl (lv_at hl 1 rfl) ?_
    obtain ⟨g2, hF⟩ := gd_some hF
    refine m_iald X hW 1 (k := p1.toNatClampNeg) rfl g2 rfl dX10_bestWayOf_14 ?_
    refine lv_goto (tgt := 19) hx hb dX10_bestWayOf_15 (by decide) ?_
    have hq := Option.some.inj hF
    subst hq
    exact hret _ _ _ _ hW dX10_bestWayOf_19
abbrev wd_S_anew (E : m_E) (a_t : Nat) (a_t_draft : Nat) (a_t_firstImage : Nat) (a_t_secondImage : Nat) (a_t_news : Nat) (a_t_otherNews : Nat) (a_t_readings : Nat) (a_t_chances : Nat) (a_t_text : Nat) (a_t_fraction : Nat) (a_t_now : Nat) (a_t_now_sightings : Nat) (a_t_now_lexicon : Nat) (a_t_now_level : Nat) (a_t_now_loss : Nat) (a_t_now_floor : Nat) (a_t_now_floor_way : Nat) (a_t_now_floor_tell : Nat) (a_t_now_floor_look : Nat) (a_t_now_floor_place : Nat) (a_t_now_floor_farSquare : Nat) (a_t_turning : Nat) (a_t_turning_way : Nat) (a_t_turning_bestWay : Nat) (a_t_turning_readers : Nat) (a_t_turning_chosen : Nat) (a_t_turning_pairs : Nat) (t_now_clearness : Int32) (t_now_isKept : Int32) (t_now_floor_pillars : Int64) (t_now_floor_weavers : Int32) (t_now_floor_place : Nat → Int32) (t_now_floor_farSquare : Nat → Int32) (t_turning_bestPairs : Int32) (t_turning_way : Nat → Int32) (t_turning_bestWay : Nat → Int32) (t_turning_readers : Nat → Int32) (t_turning_chosen : Nat → Int32) (t_turning_pairs : Nat → Int32) : va_W := [(a_t, .inr (11, [.ref a_t_now, .ref a_t_draft, .ref a_t_firstImage, .ref a_t_secondImage, .ref a_t_news, .ref a_t_otherNews, .ref a_t_readings, .ref a_t_chances, .ref a_t_turning, .ref a_t_text, .ref a_t_fraction])), (a_t_now, .inr (7, [.ref a_t_now_floor, .ref a_t_now_sightings, .ref a_t_now_lexicon, .ref a_t_now_level, .ref a_t_now_loss, .int t_now_clearness, .int t_now_isKept])), (a_t_now_floor, .inr (1, [.long t_now_floor_pillars, .int t_now_floor_weavers, .ref a_t_now_floor_place, .ref a_t_now_floor_way, .ref a_t_now_floor_tell, .ref a_t_now_floor_look, .ref a_t_now_floor_farSquare])), (a_t_now_floor_place, .inl (E.2.1 0, 8, .inl t_now_floor_place)), (a_t_now_floor_farSquare, .inl (E.2.1 0, 2, .inl t_now_floor_farSquare)), (a_t_turning, .inr (10, [.int t_turning_bestPairs, .ref a_t_turning_way, .ref a_t_turning_bestWay, .ref a_t_turning_readers, .ref a_t_turning_chosen, .ref a_t_turning_pairs])), (a_t_turning_way, .inl (E.2.1 0, 6, .inl t_turning_way)), (a_t_turning_bestWay, .inl (E.2.1 0, 6, .inl t_turning_bestWay)), (a_t_turning_readers, .inl (E.2.1 0, 24, .inl t_turning_readers)), (a_t_turning_chosen, .inl (E.2.1 0, 7, .inl t_turning_chosen)), (a_t_turning_pairs, .inl (E.2.1 0, 7, .inl t_turning_pairs))]
def rm_S_anew : Room := { frames := 5, cells := 0, slots := 0, locals := 124 }
set_option maxHeartbeats 4000000 in
set_option maxRecDepth 100000 in
theorem c_S_anew (l : Launch) (E : m_E) (sz N : Nat) (a_t : Nat) (a_t_draft : Nat) (a_t_firstImage : Nat) (a_t_secondImage : Nat) (a_t_news : Nat) (a_t_otherNews : Nat) (a_t_readings : Nat) (a_t_chances : Nat) (a_t_text : Nat) (a_t_fraction : Nat) (a_t_now : Nat) (a_t_now_sightings : Nat) (a_t_now_lexicon : Nat) (a_t_now_level : Nat) (a_t_now_loss : Nat) (a_t_now_floor : Nat) (a_t_now_floor_way : Nat) (a_t_now_floor_tell : Nat) (a_t_now_floor_look : Nat) (a_t_now_floor_place : Nat) (a_t_now_floor_farSquare : Nat) (a_t_turning : Nat) (a_t_turning_way : Nat) (a_t_turning_bestWay : Nat) (a_t_turning_readers : Nat) (a_t_turning_chosen : Nat) (a_t_turning_pairs : Nat) (t_now_clearness : Int32) (t_now_isKept : Int32) (t_now_floor_pillars : Int64) (t_now_floor_weavers : Int32) (t_now_floor_place : Nat → Int32) (t_now_floor_farSquare : Nat → Int32) (t_turning_bestPairs : Int32) (t_turning_way : Nat → Int32) (t_turning_bestWay : Nat → Int32) (t_turning_readers : Nat → Int32) (t_turning_chosen : Nat → Int32) (t_turning_pairs : Nat → Int32) (p1 : Int32) (p2 : Int32) (ures : Int32 × Int32 × (Nat → Int32) × (Nat → Int32) × (Nat → Int32) × (Nat → Int32) × (Nat → Int32)) (hF : F_S_anew N p1 p2 t_now_floor_pillars t_now_floor_weavers t_now_floor_place t_now_floor_farSquare t_turning_bestPairs t_turning_way t_turning_bestWay t_turning_readers t_turning_chosen t_turning_pairs = some ures) : m_Met l yX11_anew cX11_anew 3 (some .int) rm_S_anew E (wd_S_anew E a_t a_t_draft a_t_firstImage a_t_secondImage a_t_news a_t_otherNews a_t_readings a_t_chances a_t_text a_t_fraction a_t_now a_t_now_sightings a_t_now_lexicon a_t_now_level a_t_now_loss a_t_now_floor a_t_now_floor_way a_t_now_floor_tell a_t_now_floor_look a_t_now_floor_place a_t_now_floor_farSquare a_t_turning a_t_turning_way a_t_turning_bestWay a_t_turning_readers a_t_turning_chosen a_t_turning_pairs t_now_clearness t_now_isKept t_now_floor_pillars t_now_floor_weavers t_now_floor_place t_now_floor_farSquare t_turning_bestPairs t_turning_way t_turning_bestWay t_turning_readers t_turning_chosen t_turning_pairs) (wd_S_anew E a_t a_t_draft a_t_firstImage a_t_secondImage a_t_news a_t_otherNews a_t_readings a_t_chances a_t_text a_t_fraction a_t_now a_t_now_sightings a_t_now_lexicon a_t_now_level a_t_now_loss a_t_now_floor a_t_now_floor_way a_t_now_floor_tell a_t_now_floor_look a_t_now_floor_place a_t_now_floor_farSquare a_t_turning a_t_turning_way a_t_turning_bestWay a_t_turning_readers a_t_turning_chosen a_t_turning_pairs t_now_clearness t_now_isKept t_now_floor_pillars t_now_floor_weavers t_now_floor_place t_now_floor_farSquare ures.2.1 ures.2.2.1 ures.2.2.2.1 ures.2.2.2.2.1 ures.2.2.2.2.2.1 ures.2.2.2.2.2.2) sz [.ref a_t, .int p1, .int p2] (some (.int ures.1)) := by
  refine m_ofI (by decide) (Nat.le_of_ble_eq_true rfl) ?_
  intro p e s m args below meth c A Q ls X hW hA hl hret
  obtain ⟨hx, hb, -, hown, hts, hK, -, hG⟩ := id X
  have hl : lv_has ls 3 [(0, .ref a_t), (1, .int p1), (2, .int p2)] := hl
  unfold F_S_anew at hF
  refine lv_iload_n hx hb dX11_anew_0 rfl (lv_at hl 1 rfl) ?_
  refine lv_iconst (v := (0 : Int32)) hx hb dX11_anew_1 (by decide) ?_
  refine lv_iconst (v := (1 : Int32)) hx hb dX11_anew_2 (by decide) ?_
  refine m_callS X hW hA hl.1 lkX11_98 (c_S_within l E _ N   p1 (0 : Int32) (1 : Int32) (F_S_within p1 (0 : Int32) (1 : Int32)) rfl) ([]) (by decide) rfl rfl (ws' := (wd_S_anew E a_t a_t_draft a_t_firstImage a_t_secondImage a_t_news a_t_otherNews a_t_readings a_t_chances a_t_text a_t_fraction a_t_now a_t_now_sightings a_t_now_lexicon a_t_now_level a_t_now_loss a_t_now_floor a_t_now_floor_way a_t_now_floor_tell a_t_now_floor_look a_t_now_floor_place a_t_now_floor_farSquare a_t_turning a_t_turning_way a_t_turning_bestWay a_t_turning_readers a_t_turning_chosen a_t_turning_pairs t_now_clearness t_now_isKept t_now_floor_pillars t_now_floor_weavers t_now_floor_place t_now_floor_farSquare t_turning_bestPairs t_turning_way t_turning_bestWay t_turning_readers t_turning_chosen t_turning_pairs)) rfl (As := [.int p1, .int (0 : Int32), .int (1 : Int32)]) (rest := []) rfl rfl ⟨rfl, rfl, Nat.le_of_ble_eq_true rfl, Nat.le_of_ble_eq_true rfl⟩ (Nat.le_of_ble_eq_true rfl) (Nat.zero_le _) (Nat.zero_le _) dX11_anew_3 (fun H locs hW => ?_)
  refine lv_if_eq (tgt := 29) hx hb dX11_anew_6 (by decide) (fun c1 => ?_) (fun c1 => ?_)
  · have hF := if_y c1 hF
    refine lv_bipush (v := (-10 : Int32)) hx hb dX11_anew_29 (by decide) ?_
    have hq := Option.some.inj hF
    subst hq
    exact hret _ _ _ _ hW dX11_anew_31
  · have hF := if_n c1 hF
    refine lv_iload_n hx hb dX11_anew_9 rfl (lv_at hl 2 rfl) ?_
    refine lv_iconst (v := (-1 : Int32)) hx hb dX11_anew_10 (by decide) ?_
    refine lv_aload_n hx hb dX11_anew_11 rfl (lv_at hl 0 rfl) ?_
    refine m_get X hW fdX11_10 0 rfl rfl dX11_anew_12 ?_
    refine m_get X hW fdX11_70 1 rfl rfl dX11_anew_15 ?_
    refine m_get X hW fdX11_144 2 rfl rfl dX11_anew_18 ?_
    refine lv_iconst (v := (1 : Int32)) hx hb dX11_anew_21 (by decide) ?_
    refine lv_isub hx hb dX11_anew_22 ?_
    refine m_callS X hW hA hl.1 lkX11_98 (c_S_within l E _ N   p2 (-1 : Int32) (t_now_floor_weavers - (1 : Int32)) (F_S_within p2 (-1 : Int32) (t_now_floor_weavers - (1 : Int32))) rfl) ([]) (by decide) rfl rfl (ws' := (wd_S_anew E a_t a_t_draft a_t_firstImage a_t_secondImage a_t_news a_t_otherNews a_t_readings a_t_chances a_t_text a_t_fraction a_t_now a_t_now_sightings a_t_now_lexicon a_t_now_level a_t_now_loss a_t_now_floor a_t_now_floor_way a_t_now_floor_tell a_t_now_floor_look a_t_now_floor_place a_t_now_floor_farSquare a_t_turning a_t_turning_way a_t_turning_bestWay a_t_turning_readers a_t_turning_chosen a_t_turning_pairs t_now_clearness t_now_isKept t_now_floor_pillars t_now_floor_weavers t_now_floor_place t_now_floor_farSquare t_turning_bestPairs t_turning_way t_turning_bestWay t_turning_readers t_turning_chosen t_turning_pairs)) rfl (As := [.int p2, .int (-1 : Int32), .int (t_now_floor_weavers - (1 : Int32))]) (rest := []) rfl rfl ⟨rfl, rfl, Nat.le_of_ble_eq_true rfl, Nat.le_of_ble_eq_true rfl⟩ (Nat.le_of_ble_eq_true rfl) (Nat.zero_le _) (Nat.zero_le _) dX11_anew_23 (fun H locs hW => ?_)
    refine lv_if_ne (tgt := 32) hx hb dX11_anew_26 (by decide) (fun c2 => ?_) (fun c2 => ?_)
    · have hF := if_n c2 hF
      refine lv_aload_n hx hb dX11_anew_32 rfl (lv_at hl 0 rfl) ?_
      refine m_get X hW fdX11_10 0 rfl rfl dX11_anew_33 ?_
      refine m_get X hW fdX11_70 1 rfl rfl dX11_anew_36 ?_
      refine m_get X hW fdX11_144 2 rfl rfl dX11_anew_39 ?_
      refine lv_bipush (v := (6 : Int32)) hx hb dX11_anew_42 (by decide) ?_
      refine lv_icmp_le (tgt := 50) hx hb dX11_anew_44 (by decide) (fun c3 => ?_) (fun c3 => ?_)
      · have hF := if_y c3 hF
        refine lv_aload_n hx hb dX11_anew_50 rfl (lv_at hl 0 rfl) ?_
        refine m_get X hW fdX11_52 0 rfl rfl dX11_anew_51 ?_
        refine lv_aload_n hx hb dX11_anew_54 rfl (lv_at hl 0 rfl) ?_
        refine m_get X hW fdX11_10 0 rfl rfl dX11_anew_55 ?_
        refine m_get X hW fdX11_70 1 rfl rfl dX11_anew_58 ?_
        refine lv_iload_n hx hb dX11_anew_61 rfl (lv_at hl 1 rfl) ?_
        refine lv_iconst (v := (1 : Int32)) hx hb dX11_anew_62 (by decide) ?_
        obtain ⟨y2, hX5, hF⟩ := bO_s1 hF
        have J4 : ∀ (H : Heap) (locs : List Loc) (ls : Array Slot), m_H E A (wd_S_anew E a_t a_t_draft a_t_firstImage a_t_secondImage a_t_news a_t_otherNews a_t_readings a_t_chances a_t_text a_t_fraction a_t_now a_t_now_sightings a_t_now_lexicon a_t_now_level a_t_now_loss a_t_now_floor a_t_now_floor_way a_t_now_floor_tell a_t_now_floor_look a_t_now_floor_place a_t_now_floor_farSquare a_t_turning a_t_turning_way a_t_turning_bestWay a_t_turning_readers a_t_turning_chosen a_t_turning_pairs t_now_clearness t_now_isKept t_now_floor_pillars t_now_floor_weavers t_now_floor_place t_now_floor_farSquare t_turning_bestPairs t_turning_way t_turning_bestWay t_turning_readers t_turning_chosen t_turning_pairs) s.heap H locs → lv_has ls 3 [(0, .ref a_t), (2, .int p2)] → W p l e rm_S_anew s m args below meth c H locs 0 0 Q (F0 m 71 ls [.int y2, .ref a_t_now_floor, .ref a_t_turning]) := by
          intro H locs ls hW hl
          obtain ⟨t_turning_bestPairs'_2, t_turning_way'_2, t_turning_bestWay'_2, t_turning_readers'_2, t_turning_chosen'_2, t_turning_pairs'_2, hC6, hF⟩ := bO_s6 hF
          refine m_callV X hW hA hl.1 lkX11_255 (c_Turning_search l E _ N a_t_turning a_t_turning_way a_t_turning_bestWay a_t_turning_readers a_t_turning_chosen a_t_turning_pairs a_t_now_floor a_t_now_floor_way a_t_now_floor_tell a_t_now_floor_look a_t_now_floor_place a_t_now_floor_farSquare t_turning_bestPairs t_turning_way t_turning_bestWay t_turning_readers t_turning_chosen t_turning_pairs t_now_floor_pillars t_now_floor_weavers t_now_floor_place t_now_floor_farSquare y2 (t_turning_bestPairs'_2, t_turning_way'_2, t_turning_bestWay'_2, t_turning_readers'_2, t_turning_chosen'_2, t_turning_pairs'_2) hC6) ([5, 6, 7, 8, 9, 10, 2, 3, 4]) (by decide) rfl rfl (ws' := (wd_S_anew E a_t a_t_draft a_t_firstImage a_t_secondImage a_t_news a_t_otherNews a_t_readings a_t_chances a_t_text a_t_fraction a_t_now a_t_now_sightings a_t_now_lexicon a_t_now_level a_t_now_loss a_t_now_floor a_t_now_floor_way a_t_now_floor_tell a_t_now_floor_look a_t_now_floor_place a_t_now_floor_farSquare a_t_turning a_t_turning_way a_t_turning_bestWay a_t_turning_readers a_t_turning_chosen a_t_turning_pairs t_now_clearness t_now_isKept t_now_floor_pillars t_now_floor_weavers t_now_floor_place t_now_floor_farSquare t_turning_bestPairs'_2 t_turning_way'_2 t_turning_bestWay'_2 t_turning_readers'_2 t_turning_chosen'_2 t_turning_pairs'_2)) (m_putS [none, none, some 6, some 7, some 8, some 0, some 1, some 2, some 3, some 4, some 5] (by decide +kernel) (by rfl) (by decide +kernel) (by rfl) (by rfl)) 5 rfl rfl rfl (As := [.ref a_t_now_floor, .int y2]) (rest := []) rfl rfl ⟨rfl, rfl, Nat.le_of_ble_eq_true rfl, Nat.le_of_ble_eq_true rfl⟩ (Nat.le_of_ble_eq_true rfl) (Nat.zero_le _) (Nat.zero_le _) dX11_anew_71 (fun H locs hW => ?_)
          clear hC6
          refine lv_iload_n hx hb dX11_anew_74 rfl (lv_at hl 1 rfl) ?_
          refine lv_iconst (v := (-1 : Int32)) hx hb dX11_anew_75 (by decide) ?_
          refine lv_icmp_ne (tgt := 89) hx hb dX11_anew_76 (by decide) (fun c7 => ?_) (fun c7 => ?_)
          · have hF := if_n c7 hF
            refine lv_aload_n hx hb dX11_anew_89 rfl (lv_at hl 0 rfl) ?_
            refine m_get X hW fdX11_52 0 rfl rfl dX11_anew_90 ?_
            refine lv_iload_n hx hb dX11_anew_93 rfl (lv_at hl 1 rfl) ?_
            obtain ⟨r94, hC8, hF⟩ := bO_s1 hF
            refine m_callV X hW hA hl.1 lkX11_262 (c_Turning_bestWayOf l E _ N a_t_turning a_t_turning_way a_t_turning_readers a_t_turning_chosen a_t_turning_pairs a_t_turning_bestWay t_turning_bestPairs'_2 t_turning_bestWay'_2 p2 r94 hC8) ([5, 7]) (by decide) rfl rfl (ws' := (wd_S_anew E a_t a_t_draft a_t_firstImage a_t_secondImage a_t_news a_t_otherNews a_t_readings a_t_chances a_t_text a_t_fraction a_t_now a_t_now_sightings a_t_now_lexicon a_t_now_level a_t_now_loss a_t_now_floor a_t_now_floor_way a_t_now_floor_tell a_t_now_floor_look a_t_now_floor_place a_t_now_floor_farSquare a_t_turning a_t_turning_way a_t_turning_bestWay a_t_turning_readers a_t_turning_chosen a_t_turning_pairs t_now_clearness t_now_isKept t_now_floor_pillars t_now_floor_weavers t_now_floor_place t_now_floor_farSquare t_turning_bestPairs'_2 t_turning_way'_2 t_turning_bestWay'_2 t_turning_readers'_2 t_turning_chosen'_2 t_turning_pairs'_2)) rfl 5 rfl rfl rfl (As := [.int p2]) (rest := []) rfl rfl ⟨rfl, rfl, Nat.le_of_ble_eq_true rfl, Nat.le_of_ble_eq_true rfl⟩ (Nat.le_of_ble_eq_true rfl) (Nat.zero_le _) (Nat.zero_le _) dX11_anew_94 (fun H locs hW => ?_)
            clear hC8
            have hq := Option.some.inj hF
            subst hq
            exact hret _ _ _ _ hW dX11_anew_97
          · have hF := if_y c7 hF
            refine lv_aload_n hx hb dX11_anew_79 rfl (lv_at hl 0 rfl) ?_
            refine m_get X hW fdX11_52 0 rfl rfl dX11_anew_80 ?_
            refine m_get X hW fdX11_259 5 rfl rfl dX11_anew_83 ?_
            refine lv_goto (tgt := 97) hx hb dX11_anew_86 (by decide) ?_
            have hq := Option.some.inj hF
            subst hq
            exact hret _ _ _ _ hW dX11_anew_97
        clear hF
        have hF := hX5
        clear hX5
        refine lv_icmp_ne (tgt := 70) hx hb dX11_anew_63 (by decide) (fun c9 => ?_) (fun c9 => ?_)
        · have hF := if_n c9 hF
          refine lv_iconst (v := (0 : Int32)) hx hb dX11_anew_70 (by decide) ?_
          cases hF
          exact J4 _ _ _ hW (lv_sub hl [0, 2] rfl)
        · have hF := if_y c9 hF
          refine lv_iconst (v := (1 : Int32)) hx hb dX11_anew_66 (by decide) ?_
          refine lv_goto (tgt := 71) hx hb dX11_anew_67 (by decide) ?_
          cases hF
          exact J4 _ _ _ hW (lv_sub hl [0, 2] rfl)
      · have hF := if_n c3 hF
        refine lv_bipush (v := (-20 : Int32)) hx hb dX11_anew_47 (by decide) ?_
        have hq := Option.some.inj hF
        subst hq
        exact hret _ _ _ _ hW dX11_anew_49
    · have hF := if_y c2 hF
      refine lv_bipush (v := (-10 : Int32)) hx hb dX11_anew_29 (by decide) ?_
      have hq := Option.some.inj hF
      subst hq
      exact hret _ _ _ _ hW dX11_anew_31
abbrev wd_Text_add (E : m_E) (a_t : Nat) (a_t_itemKind : Nat) (a_t_numbersOf : Nat) (a_t_number : Nat) (a_t_row : Nat) (t_bytes : Int32) (t_items : Int32) (t_at : Int32) (t_token : Int32) (t_tokenAt : Int32) (t_tokenNumber : Int32) (t_row : Nat → Int32) : va_W := [(a_t, .inr (9, [.int t_bytes, .int t_items, .ref a_t_row, .ref a_t_itemKind, .ref a_t_numbersOf, .ref a_t_number, .int t_at, .int t_token, .int t_tokenAt, .int t_tokenNumber])), (a_t_row, .inl (E.2.1 0, 240, .inl t_row))]
def rm_Text_add : Room := { frames := 1, cells := 0, slots := 0, locals := 22 }
set_option maxHeartbeats 4000000 in
set_option maxRecDepth 100000 in
theorem c_Text_add (l : Launch) (E : m_E) (sz N : Nat) (a_t : Nat) (a_t_itemKind : Nat) (a_t_numbersOf : Nat) (a_t_number : Nat) (a_t_row : Nat) (t_bytes : Int32) (t_items : Int32) (t_at : Int32) (t_token : Int32) (t_tokenAt : Int32) (t_tokenNumber : Int32) (t_row : Nat → Int32) (p1 : Int64) (p2 : Int32) (ures : Int32 × Int32 × (Nat → Int32)) (hF : F_Text_add N p1 p2 t_bytes t_row = some ures) : m_Met l yX9_add cX9_add 5 (some .int) rm_Text_add E (wd_Text_add E a_t a_t_itemKind a_t_numbersOf a_t_number a_t_row t_bytes t_items t_at t_token t_tokenAt t_tokenNumber t_row) (wd_Text_add E a_t a_t_itemKind a_t_numbersOf a_t_number a_t_row ures.2.1 t_items t_at t_token t_tokenAt t_tokenNumber ures.2.2) sz [.ref a_t, .long p1, .int p2] (some (.int ures.1)) := by
  refine m_ofI (by decide) (Nat.le_of_ble_eq_true rfl) ?_
  intro p e s m args below meth c A Q ls X hW hA hl hret
  obtain ⟨hx, hb, -, hown, hts, hK, -, hG⟩ := id X
  have hl : lv_has ls 5 [(0, .ref a_t), (1, .long p1), (3, .int p2)] := hl
  unfold F_Text_add at hF
  refine lv_iload_n hx hb dX9_add_0 rfl (lv_at hl 2 rfl) ?_
  refine lv_iconst (v := (1 : Int32)) hx hb dX9_add_1 (by decide) ?_
  refine lv_bipush (v := (8 : Int32)) hx hb dX9_add_2 (by decide) ?_
  refine m_callN X hW hA hl.1 lkX9_26 (c_S_within l E _ N   p2 (1 : Int32) (8 : Int32) (F_S_within p2 (1 : Int32) (8 : Int32)) rfl) ([]) (by decide) rfl rfl (ws' := (wd_Text_add E a_t a_t_itemKind a_t_numbersOf a_t_number a_t_row t_bytes t_items t_at t_token t_tokenAt t_tokenNumber t_row)) rfl (As := [.int p2, .int (1 : Int32), .int (8 : Int32)]) (rest := []) rfl rfl ⟨rfl, rfl, Nat.le_of_ble_eq_true rfl, Nat.le_of_ble_eq_true rfl⟩ (Nat.le_of_ble_eq_true rfl) (Nat.zero_le _) (Nat.zero_le _) dX9_add_4 (fun H locs hW => ?_)
  refine lv_if_ne (tgt := 13) hx hb dX9_add_7 (by decide) (fun c1 => ?_) (fun c1 => ?_)
  · have hF := if_n c1 hF
    refine lv_aload_n hx hb dX9_add_13 rfl (lv_at hl 0 rfl) ?_
    refine m_get X hW fdX9_30 0 rfl rfl dX9_add_14 ?_
    refine lv_iload_n hx hb dX9_add_17 rfl (lv_at hl 2 rfl) ?_
    refine lv_iadd hx hb dX9_add_18 ?_
    refine lv_sipush (v := (240 : Int32)) hx hb dX9_add_19 (by decide) ?_
    refine lv_icmp_le (tgt := 28) hx hb dX9_add_22 (by decide) (fun c2 => ?_) (fun c2 => ?_)
    · have hF := if_y c2 hF
      refine lv_iload_n hx hb dX9_add_28 rfl (lv_at hl 2 rfl) ?_
      refine lv_iconst (v := (1 : Int32)) hx hb dX9_add_29 (by decide) ?_
      refine lv_isub hx hb dX9_add_30 ?_
      refine lv_istore (lv' := [(4, .int (p2 - (1 : Int32))), (0, .ref a_t), (1, .long p1), (3, .int p2)]) hx hb dX9_add_31 hl (by decide) rfl (fun ls hl => ?_)
      obtain ⟨t_row'_4, t_bytes'_4, hX4, hF⟩ := bO_s2 hF
      have L3 : ∀ (k0 : Nat) (x4 : Int32) (t_row'_3 : Nat → Int32) (t_bytes'_3 : Int32) (t_row'_4 : Nat → Int32) (t_bytes'_4 : Int32) (H : Heap) (locs : List Loc) (ls : Array Slot), Text_add_L33 p1 k0 x4 t_row'_3 t_bytes'_3 = some (t_row'_4, t_bytes'_4) → m_H E A (wd_Text_add E a_t a_t_itemKind a_t_numbersOf a_t_number a_t_row t_bytes'_3 t_items t_at t_token t_tokenAt t_tokenNumber t_row'_3) s.heap H locs → lv_has ls 5 [(4, .int x4), (0, .ref a_t), (1, .long p1)] → (∀ (H : Heap) (locs : List Loc) (ls : Array Slot), m_H E A (wd_Text_add E a_t a_t_itemKind a_t_numbersOf a_t_number a_t_row t_bytes'_4 t_items t_at t_token t_tokenAt t_tokenNumber t_row'_4) s.heap H locs → lv_has ls 5 [(0, .ref a_t)] → W p l e rm_Text_add s m args below meth c H locs 0 0 Q (F0 m 75 ls [])) → W p l e rm_Text_add s m args below meth c H locs 0 0 Q (F0 m 33 ls []) := by
        clear hF
        intro k0
        induction k0 with
        | zero =>
          intro x4 t_row'_3 t_bytes'_3 t_row'_4 t_bytes'_4 H locs ls hF
          cases hF
        | succ k0 ih6 =>
          intro x4 t_row'_3 t_bytes'_3 t_row'_4 t_bytes'_4 H locs ls hF hW hl hk5
          rw [Text_add_L33] at hF
          refine lv_iload hx hb dX9_add_33 (lv_at hl 0 rfl) ?_
          refine lv_if_lt (tgt := 75) hx hb dX9_add_35 (by decide) (fun c7 => ?_) (fun c7 => ?_)
          · have hF := if_y c7 hF
            cases hF
            exact hk5 _ _ _ hW (lv_sub hl [1] rfl)
          · have hF := if_n c7 hF
            refine lv_aload_n hx hb dX9_add_38 rfl (lv_at hl 1 rfl) ?_
            refine m_get X hW fdX9_11 0 rfl rfl dX9_add_39 ?_
            refine lv_aload_n hx hb dX9_add_42 rfl (lv_at hl 1 rfl) ?_
            refine m_get X hW fdX9_30 0 rfl rfl dX9_add_43 ?_
            refine lv_lload_n hx hb dX9_add_46 rfl (lv_at hl 2 rfl) ?_
            refine lv_bipush (v := (8 : Int32)) hx hb dX9_add_47 (by decide) ?_
            refine lv_iload hx hb dX9_add_49 (lv_at hl 0 rfl) ?_
            refine lv_imul hx hb dX9_add_51 ?_
            refine m_lushr hx hb dX9_add_52 ?_
            refine lv_ldc2 (v := (255 : Int64)) hx hb hown (hts _ wk_885) dX9_add_53 ?_
            refine lv_land hx hb dX9_add_56 ?_
            refine lv_l2i (v := ((jushrL p1 ((8 : Int32) * x4)) &&& (255 : Int64)).toInt32) hx hb dX9_add_57 rfl ?_
            obtain ⟨g8, hF⟩ := gd_some hF
            refine m_iast X hW 1 (k := t_bytes'_3.toNatClampNeg) rfl g8 rfl dX9_add_58 (ws' := (wd_Text_add E a_t a_t_itemKind a_t_numbersOf a_t_number a_t_row t_bytes'_3 t_items t_at t_token t_tokenAt t_tokenNumber (upd t_row'_3 t_bytes'_3.toNatClampNeg ((jushrL p1 ((8 : Int32) * x4)) &&& (255 : Int64)).toInt32))) rfl (fun H locs hW => ?_)
            refine lv_aload_n hx hb dX9_add_59 rfl (lv_at hl 1 rfl) ?_
            refine lv_dup hx hb dX9_add_60 rfl ?_
            refine m_get X hW fdX9_30 0 rfl rfl dX9_add_61 ?_
            refine lv_iconst (v := (1 : Int32)) hx hb dX9_add_64 (by decide) ?_
            refine lv_iadd hx hb dX9_add_65 ?_
            refine m_putf X hW fdX9_30 0 rfl (Nat.le_of_ble_eq_true rfl) rfl rfl dX9_add_66 (ws' := (wd_Text_add E a_t a_t_itemKind a_t_numbersOf a_t_number a_t_row (t_bytes'_3 + (1 : Int32)) t_items t_at t_token t_tokenAt t_tokenNumber (upd t_row'_3 t_bytes'_3.toNatClampNeg ((jushrL p1 ((8 : Int32) * x4)) &&& (255 : Int64)).toInt32))) rfl (fun H locs hW => ?_)
            refine lv_iinc (v := (x4 + (-1 : Int32))) (lv' := [(4, .int (x4 + (-1 : Int32))), (0, .ref a_t), (1, .long p1)]) hx hb dX9_add_69 hl (k := 0) rfl rfl (by decide) rfl (fun ls hl => ?_)
            refine lv_goto (tgt := 33) hx hb dX9_add_72 (by decide) ?_
            exact ih6 (x4 + (-1 : Int32)) (upd t_row'_3 t_bytes'_3.toNatClampNeg ((jushrL p1 ((8 : Int32) * x4)) &&& (255 : Int64)).toInt32) (t_bytes'_3 + (1 : Int32)) t_row'_4 t_bytes'_4 _ _ _ hF hW (lv_sub hl [0, 1, 2] rfl) hk5
      refine L3 N (p2 - (1 : Int32)) t_row t_bytes t_row'_4 t_bytes'_4 _ _ _ hX4 hW (lv_sub hl [0, 1, 2] rfl) ?_
      intro H locs ls hW hl
      clear L3
      refine lv_aload_n hx hb dX9_add_75 rfl (lv_at hl 0 rfl) ?_
      refine m_get X hW fdX9_30 0 rfl rfl dX9_add_76 ?_
      have hq := Option.some.inj hF
      subst hq
      exact hret _ _ _ _ hW dX9_add_79
    · have hF := if_n c2 hF
      refine lv_bipush (v := (-4 : Int32)) hx hb dX9_add_25 (by decide) ?_
      have hq := Option.some.inj hF
      subst hq
      exact hret _ _ _ _ hW dX9_add_27
  · have hF := if_y c1 hF
    refine lv_bipush (v := (-2 : Int32)) hx hb dX9_add_10 (by decide) ?_
    have hq := Option.some.inj hF
    subst hq
    exact hret _ _ _ _ hW dX9_add_12
abbrev wd_S_type (E : m_E) (a_t : Nat) (a_t_now : Nat) (a_t_draft : Nat) (a_t_firstImage : Nat) (a_t_secondImage : Nat) (a_t_news : Nat) (a_t_otherNews : Nat) (a_t_readings : Nat) (a_t_chances : Nat) (a_t_turning : Nat) (a_t_fraction : Nat) (a_t_text : Nat) (a_t_text_itemKind : Nat) (a_t_text_numbersOf : Nat) (a_t_text_number : Nat) (a_t_text_row : Nat) (t_text_bytes : Int32) (t_text_items : Int32) (t_text_at : Int32) (t_text_token : Int32) (t_text_tokenAt : Int32) (t_text_tokenNumber : Int32) (t_text_row : Nat → Int32) : va_W := [(a_t, .inr (11, [.ref a_t_now, .ref a_t_draft, .ref a_t_firstImage, .ref a_t_secondImage, .ref a_t_news, .ref a_t_otherNews, .ref a_t_readings, .ref a_t_chances, .ref a_t_turning, .ref a_t_text, .ref a_t_fraction])), (a_t_text, .inr (9, [.int t_text_bytes, .int t_text_items, .ref a_t_text_row, .ref a_t_text_itemKind, .ref a_t_text_numbersOf, .ref a_t_text_number, .int t_text_at, .int t_text_token, .int t_text_tokenAt, .int t_text_tokenNumber])), (a_t_text_row, .inl (E.2.1 0, 240, .inl t_text_row))]
def rm_S_type : Room := { frames := 2, cells := 0, slots := 0, locals := 46 }
set_option maxHeartbeats 4000000 in
set_option maxRecDepth 100000 in
theorem c_S_type (l : Launch) (E : m_E) (sz N : Nat) (a_t : Nat) (a_t_now : Nat) (a_t_draft : Nat) (a_t_firstImage : Nat) (a_t_secondImage : Nat) (a_t_news : Nat) (a_t_otherNews : Nat) (a_t_readings : Nat) (a_t_chances : Nat) (a_t_turning : Nat) (a_t_fraction : Nat) (a_t_text : Nat) (a_t_text_itemKind : Nat) (a_t_text_numbersOf : Nat) (a_t_text_number : Nat) (a_t_text_row : Nat) (t_text_bytes : Int32) (t_text_items : Int32) (t_text_at : Int32) (t_text_token : Int32) (t_text_tokenAt : Int32) (t_text_tokenNumber : Int32) (t_text_row : Nat → Int32) (p1 : Int64) (p2 : Int32) (ures : Int32 × Int32 × (Nat → Int32)) (hF : F_S_type N p1 p2 t_text_bytes t_text_row = some ures) : m_Met l yX11_type cX11_type 4 (some .int) rm_S_type E (wd_S_type E a_t a_t_now a_t_draft a_t_firstImage a_t_secondImage a_t_news a_t_otherNews a_t_readings a_t_chances a_t_turning a_t_fraction a_t_text a_t_text_itemKind a_t_text_numbersOf a_t_text_number a_t_text_row t_text_bytes t_text_items t_text_at t_text_token t_text_tokenAt t_text_tokenNumber t_text_row) (wd_S_type E a_t a_t_now a_t_draft a_t_firstImage a_t_secondImage a_t_news a_t_otherNews a_t_readings a_t_chances a_t_turning a_t_fraction a_t_text a_t_text_itemKind a_t_text_numbersOf a_t_text_number a_t_text_row ures.2.1 t_text_items t_text_at t_text_token t_text_tokenAt t_text_tokenNumber ures.2.2) sz [.ref a_t, .long p1, .int p2] (some (.int ures.1)) := by
  refine m_ofI (by decide) (Nat.le_of_ble_eq_true rfl) ?_
  intro p e s m args below meth c A Q ls X hW hA hl hret
  obtain ⟨hx, hb, -, hown, hts, hK, -, hG⟩ := id X
  have hl : lv_has ls 4 [(0, .ref a_t), (1, .long p1), (3, .int p2)] := hl
  unfold F_S_type at hF
  refine lv_aload_n hx hb dX11_type_0 rfl (lv_at hl 0 rfl) ?_
  refine m_get X hW fdX11_59 0 rfl rfl dX11_type_1 ?_
  refine lv_lload_n hx hb dX11_type_4 rfl (lv_at hl 1 rfl) ?_
  refine lv_iload_n hx hb dX11_type_5 rfl (lv_at hl 2 rfl) ?_
  obtain ⟨r6, t_text_bytes'_2, t_text_row'_2, hC1, hF⟩ := bO_s3 hF
  refine m_callV X hW hA hl.1 lkX11_265 (c_Text_add l E _ N a_t_text a_t_text_itemKind a_t_text_numbersOf a_t_text_number a_t_text_row t_text_bytes t_text_items t_text_at t_text_token t_text_tokenAt t_text_tokenNumber t_text_row p1 p2 (r6, t_text_bytes'_2, t_text_row'_2) hC1) ([1, 2]) (by decide) rfl rfl (ws' := (wd_S_type E a_t a_t_now a_t_draft a_t_firstImage a_t_secondImage a_t_news a_t_otherNews a_t_readings a_t_chances a_t_turning a_t_fraction a_t_text a_t_text_itemKind a_t_text_numbersOf a_t_text_number a_t_text_row t_text_bytes'_2 t_text_items t_text_at t_text_token t_text_tokenAt t_text_tokenNumber t_text_row'_2)) rfl 1 rfl rfl rfl (As := [.long p1, .int p2]) (rest := []) rfl rfl ⟨rfl, rfl, Nat.le_of_ble_eq_true rfl, Nat.le_of_ble_eq_true rfl⟩ (Nat.le_of_ble_eq_true rfl) (Nat.zero_le _) (Nat.zero_le _) dX11_type_6 (fun H locs hW => ?_)
  clear hC1
  have hq := Option.some.inj hF
  subst hq
  exact hret _ _ _ _ hW dX11_type_9
