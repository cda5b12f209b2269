abbrev wd_R_face (E : m_E) (a_t : Nat) (a_t_images : Nat) (a_t_kept : Nat) (a_t_aside : Nat) (a_t_limbs : Nat) (a_t_wide : Nat) (a_t_hears : Nat) (a_t_spies : Nat) (a_t_known : Nat) (a_t_by : Nat) (a_t_ways : Nat) (a_t_fewest : Nat) (a_t_heavy : Nat) (a_t_sums : Nat) (a_t_faces : Nat) (a_t_bestFaces : Nat) (a_t_text : Nat) (a_t_verbs : Nat) (a_t_many : Nat) (a_t_nums : Nat) (a_t_book : Nat) (t_typed : Int32) (t_at : Int32) (t_start : Int32) (t_token : Int32) (t_value : Int32) (t_items : Int32) (t_book : Nat → Int32) : va_W := [(a_t, .inr (12, [.ref a_t_book, .ref a_t_images, .ref a_t_kept, .ref a_t_aside, .ref a_t_limbs, .ref a_t_wide, .ref a_t_hears, .ref a_t_spies, .ref a_t_known, .ref a_t_by, .ref a_t_ways, .ref a_t_fewest, .ref a_t_heavy, .ref a_t_sums, .ref a_t_faces, .ref a_t_bestFaces, .ref a_t_text, .int t_typed, .int t_at, .int t_start, .int t_token, .int t_value, .ref a_t_verbs, .ref a_t_many, .ref a_t_nums, .int t_items])), (a_t_book, .inl (E.2.1 0, 240, .inl t_book))]
def rm_R_face : Room := { frames := 2, cells := 0, slots := 0, locals := 46 }
set_option maxHeartbeats 4000000 in
set_option maxRecDepth 100000 in
theorem c_R_face (l : Launch) (E : m_E) (sz N : Nat) (a_t : Nat) (a_t_images : Nat) (a_t_kept : Nat) (a_t_aside : Nat) (a_t_limbs : Nat) (a_t_wide : Nat) (a_t_hears : Nat) (a_t_spies : Nat) (a_t_known : Nat) (a_t_by : Nat) (a_t_ways : Nat) (a_t_fewest : Nat) (a_t_heavy : Nat) (a_t_sums : Nat) (a_t_faces : Nat) (a_t_bestFaces : Nat) (a_t_text : Nat) (a_t_verbs : Nat) (a_t_many : Nat) (a_t_nums : Nat) (a_t_book : Nat) (t_typed : Int32) (t_at : Int32) (t_start : Int32) (t_token : Int32) (t_value : Int32) (t_items : Int32) (t_book : Nat → Int32) (p1 : Int32) (p2 : Int32) (ures : Int32 × (Nat → Int32)) (hF : F_R_face p1 p2 t_book = some ures) : m_Met l yX12_face cX12_face 3 (some .int) rm_R_face E (wd_R_face E a_t a_t_images a_t_kept a_t_aside a_t_limbs a_t_wide a_t_hears a_t_spies a_t_known a_t_by a_t_ways a_t_fewest a_t_heavy a_t_sums a_t_faces a_t_bestFaces a_t_text a_t_verbs a_t_many a_t_nums a_t_book t_typed t_at t_start t_token t_value t_items t_book) (wd_R_face E a_t a_t_images a_t_kept a_t_aside a_t_limbs a_t_wide a_t_hears a_t_spies a_t_known a_t_by a_t_ways a_t_fewest a_t_heavy a_t_sums a_t_faces a_t_bestFaces a_t_text a_t_verbs a_t_many a_t_nums a_t_book t_typed t_at t_start t_token t_value t_items ures.2) sz [.ref a_t, .int p1, .int p2] (some (.int ures.1)) := by
  refine m_ofI (by decide) (Nat.le_of_ble_eq_true rfl) ?_
  intro p e s m args below meth c A Q ls X hW hA hl hret
  obtain ⟨hx, hb, -, hown, hts, hK, -, hG⟩ := id X
  have hl : lv_has ls 3 [(0, .ref a_t), (1, .int p1), (2, .int p2)] := hl
  unfold F_R_face at hF
  refine lv_aload_n hx hb dX12_face_0 rfl (lv_at hl 0 rfl) ?_
  refine lv_iload_n hx hb dX12_face_1 rfl (lv_at hl 1 rfl) ?_
  refine m_callV X hW hA hl.1 lkX12_127 (c_R_isWeaver l E _ N a_t a_t_images a_t_kept a_t_aside a_t_limbs a_t_wide a_t_hears a_t_spies a_t_known a_t_by a_t_ways a_t_fewest a_t_heavy a_t_sums a_t_faces a_t_bestFaces a_t_text a_t_verbs a_t_many a_t_nums a_t_book t_typed t_at t_start t_token t_value t_items t_book p1 (F_R_isWeaver p1 t_book) rfl) ([0, 1]) (by decide) rfl rfl (ws' := (wd_R_face E a_t a_t_images a_t_kept a_t_aside a_t_limbs a_t_wide a_t_hears a_t_spies a_t_known a_t_by a_t_ways a_t_fewest a_t_heavy a_t_sums a_t_faces a_t_bestFaces a_t_text a_t_verbs a_t_many a_t_nums a_t_book t_typed t_at t_start t_token t_value t_items t_book)) rfl 0 rfl rfl rfl (As := [.int p1]) (rest := []) rfl rfl ⟨rfl, rfl, Nat.le_of_ble_eq_true rfl, Nat.le_of_ble_eq_true rfl⟩ (Nat.le_of_ble_eq_true rfl) (Nat.zero_le _) (Nat.zero_le _) dX12_face_2 (fun H locs hW => ?_)
  refine lv_if_eq (tgt := 36) hx hb dX12_face_5 (by decide) (fun c1 => ?_) (fun c1 => ?_)
  · have hF := if_y c1 hF
    refine lv_bipush (v := (-2 : Int32)) hx hb dX12_face_36 (by decide) ?_
    have hq := Option.some.inj hF
    subst hq
    exact hret _ _ _ _ hW dX12_face_38
  · have hF := if_n c1 hF
    refine lv_iload_n hx hb dX12_face_8 rfl (lv_at hl 2 rfl) ?_
    refine lv_i2l (v := p2.toInt64) hx hb dX12_face_9 rfl ?_
    refine lv_lconst (v := (0 : Int64)) hx hb dX12_face_10 (by decide) ?_
    refine lv_ldc2 (v := (3 : Int64)) hx hb hown (hts _ wk_1235) dX12_face_11 ?_
    refine m_callS X hW hA hl.1 lkX12_109 (c_R_in l E _ N   p2.toInt64 (0 : Int64) (3 : Int64) (F_R_in p2.toInt64 (0 : Int64) (3 : Int64)) rfl) ([]) (by decide) rfl rfl (ws' := (wd_R_face E a_t a_t_images a_t_kept a_t_aside a_t_limbs a_t_wide a_t_hears a_t_spies a_t_known a_t_by a_t_ways a_t_fewest a_t_heavy a_t_sums a_t_faces a_t_bestFaces a_t_text a_t_verbs a_t_many a_t_nums a_t_book t_typed t_at t_start t_token t_value t_items t_book)) rfl (As := [.long p2.toInt64, .long (0 : Int64), .long (3 : Int64)]) (rest := []) rfl rfl ⟨rfl, rfl, Nat.le_of_ble_eq_true rfl, Nat.le_of_ble_eq_true rfl⟩ (Nat.le_of_ble_eq_true rfl) (Nat.zero_le _) (Nat.zero_le _) dX12_face_14 (fun H locs hW => ?_)
    refine lv_if_eq (tgt := 36) hx hb dX12_face_17 (by decide) (fun c2 => ?_) (fun c2 => ?_)
    · have hF := if_y c2 hF
      refine lv_bipush (v := (-2 : Int32)) hx hb dX12_face_36 (by decide) ?_
      have hq := Option.some.inj hF
      subst hq
      exact hret _ _ _ _ hW dX12_face_38
    · have hF := if_n c2 hF
      refine lv_aload_n hx hb dX12_face_20 rfl (lv_at hl 0 rfl) ?_
      refine lv_bipush (v := (80 : Int32)) hx hb dX12_face_21 (by decide) ?_
      refine lv_iconst (v := (4 : Int32)) hx hb dX12_face_23 (by decide) ?_
      refine lv_iload_n hx hb dX12_face_24 rfl (lv_at hl 1 rfl) ?_
      refine lv_imul hx hb dX12_face_25 ?_
      refine lv_iadd hx hb dX12_face_26 ?_
      refine lv_iconst (v := (1 : Int32)) hx hb dX12_face_27 (by decide) ?_
      refine lv_iadd hx hb dX12_face_28 ?_
      refine lv_iload_n hx hb dX12_face_29 rfl (lv_at hl 2 rfl) ?_
      obtain ⟨r30, t_book'_2, hC3, hF⟩ := bO_s2 hF
      refine m_callV X hW hA hl.1 lkX12_130 (c_R_puts l E _ N a_t a_t_images a_t_kept a_t_aside a_t_limbs a_t_wide a_t_hears a_t_spies a_t_known a_t_by a_t_ways a_t_fewest a_t_heavy a_t_sums a_t_faces a_t_bestFaces a_t_text a_t_verbs a_t_many a_t_nums a_t_book t_typed t_at t_start t_token t_value t_items t_book (((80 : Int32) + ((4 : Int32) * p1)) + (1 : Int32)) p2 (r30, t_book'_2) hC3) ([0, 1]) (by decide) rfl rfl (ws' := (wd_R_face E a_t a_t_images a_t_kept a_t_aside a_t_limbs a_t_wide a_t_hears a_t_spies a_t_known a_t_by a_t_ways a_t_fewest a_t_heavy a_t_sums a_t_faces a_t_bestFaces a_t_text a_t_verbs a_t_many a_t_nums a_t_book t_typed t_at t_start t_token t_value t_items t_book'_2)) rfl 0 rfl rfl rfl (As := [.int (((80 : Int32) + ((4 : Int32) * p1)) + (1 : Int32)), .int p2]) (rest := []) rfl rfl ⟨rfl, rfl, Nat.le_of_ble_eq_true rfl, Nat.le_of_ble_eq_true rfl⟩ (Nat.le_of_ble_eq_true rfl) (Nat.zero_le _) (Nat.zero_le _) dX12_face_30 (fun H locs hW => ?_)
      clear hC3
      refine lv_goto (tgt := 38) hx hb dX12_face_33 (by decide) ?_
      have hq := Option.some.inj hF
      subst hq
      exact hret _ _ _ _ hW dX12_face_38
abbrev wd_R_free (E : m_E) (a_t : Nat) (a_t_images : Nat) (a_t_kept : Nat) (a_t_aside : Nat) (a_t_limbs : Nat) (a_t_wide : Nat) (a_t_hears : Nat) (a_t_spies : Nat) (a_t_known : Nat) (a_t_by : Nat) (a_t_ways : Nat) (a_t_fewest : Nat) (a_t_heavy : Nat) (a_t_sums : Nat) (a_t_faces : Nat) (a_t_bestFaces : Nat) (a_t_text : Nat) (a_t_verbs : Nat) (a_t_many : Nat) (a_t_nums : Nat) (a_t_book : Nat) (t_typed : Int32) (t_at : Int32) (t_start : Int32) (t_token : Int32) (t_value : Int32) (t_items : Int32) (t_book : Nat → Int32) : va_W := [(a_t, .inr (12, [.ref a_t_book, .ref a_t_images, .ref a_t_kept, .ref a_t_aside, .ref a_t_limbs, .ref a_t_wide, .ref a_t_hears, .ref a_t_spies, .ref a_t_known, .ref a_t_by, .ref a_t_ways, .ref a_t_fewest, .ref a_t_heavy, .ref a_t_sums, .ref a_t_faces, .ref a_t_bestFaces, .ref a_t_text, .int t_typed, .int t_at, .int t_start, .int t_token, .int t_value, .ref a_t_verbs, .ref a_t_many, .ref a_t_nums, .int t_items])), (a_t_book, .inl (E.2.1 0, 240, .inl t_book))]
def rm_R_free : Room := { frames := 2, cells := 0, slots := 0, locals := 46 }
set_option maxHeartbeats 4000000 in
set_option maxRecDepth 100000 in
theorem c_R_free (l : Launch) (E : m_E) (sz N : Nat) (a_t : Nat) (a_t_images : Nat) (a_t_kept : Nat) (a_t_aside : Nat) (a_t_limbs : Nat) (a_t_wide : Nat) (a_t_hears : Nat) (a_t_spies : Nat) (a_t_known : Nat) (a_t_by : Nat) (a_t_ways : Nat) (a_t_fewest : Nat) (a_t_heavy : Nat) (a_t_sums : Nat) (a_t_faces : Nat) (a_t_bestFaces : Nat) (a_t_text : Nat) (a_t_verbs : Nat) (a_t_many : Nat) (a_t_nums : Nat) (a_t_book : Nat) (t_typed : Int32) (t_at : Int32) (t_start : Int32) (t_token : Int32) (t_value : Int32) (t_items : Int32) (t_book : Nat → Int32) (p1 : Int32) (p2 : Int32) (p3 : Int32) (p4 : Int32) (ures : Int32 × (Nat → Int32)) (hF : F_R_free N p1 p2 p3 p4 t_book = some ures) : m_Met l yX12_free cX12_free 7 (some .int) rm_R_free E (wd_R_free E a_t a_t_images a_t_kept a_t_aside a_t_limbs a_t_wide a_t_hears a_t_spies a_t_known a_t_by a_t_ways a_t_fewest a_t_heavy a_t_sums a_t_faces a_t_bestFaces a_t_text a_t_verbs a_t_many a_t_nums a_t_book t_typed t_at t_start t_token t_value t_items t_book) (wd_R_free E a_t a_t_images a_t_kept a_t_aside a_t_limbs a_t_wide a_t_hears a_t_spies a_t_known a_t_by a_t_ways a_t_fewest a_t_heavy a_t_sums a_t_faces a_t_bestFaces a_t_text a_t_verbs a_t_many a_t_nums a_t_book t_typed t_at t_start t_token t_value t_items ures.2) sz [.ref a_t, .int p1, .int p2, .int p3, .int p4] (some (.int ures.1)) := by
  refine m_ofI (by decide) (Nat.le_of_ble_eq_true rfl) ?_
  intro p e s m args below meth c A Q ls X hW hA hl hret
  obtain ⟨hx, hb, -, hown, hts, hK, -, hG⟩ := id X
  have hl : lv_has ls 7 [(0, .ref a_t), (1, .int p1), (2, .int p2), (3, .int p3), (4, .int p4)] := hl
  unfold F_R_free at hF
  refine lv_aload_n hx hb dX12_free_0 rfl (lv_at hl 0 rfl) ?_
  refine lv_iload_n hx hb dX12_free_1 rfl (lv_at hl 1 rfl) ?_
  refine m_callV X hW hA hl.1 lkX12_127 (c_R_isWeaver l E _ N a_t a_t_images a_t_kept a_t_aside a_t_limbs a_t_wide a_t_hears a_t_spies a_t_known a_t_by a_t_ways a_t_fewest a_t_heavy a_t_sums a_t_faces a_t_bestFaces a_t_text a_t_verbs a_t_many a_t_nums a_t_book t_typed t_at t_start t_token t_value t_items t_book p1 (F_R_isWeaver p1 t_book) rfl) ([0, 1]) (by decide) rfl rfl (ws' := (wd_R_free E a_t a_t_images a_t_kept a_t_aside a_t_limbs a_t_wide a_t_hears a_t_spies a_t_known a_t_by a_t_ways a_t_fewest a_t_heavy a_t_sums a_t_faces a_t_bestFaces a_t_text a_t_verbs a_t_many a_t_nums a_t_book t_typed t_at t_start t_token t_value t_items t_book)) rfl 0 rfl rfl rfl (As := [.int p1]) (rest := []) rfl rfl ⟨rfl, rfl, Nat.le_of_ble_eq_true rfl, Nat.le_of_ble_eq_true rfl⟩ (Nat.le_of_ble_eq_true rfl) (Nat.zero_le _) (Nat.zero_le _) dX12_free_2 (fun H locs hW => ?_)
  refine lv_if_eq (tgt := 43) hx hb dX12_free_5 (by decide) (fun c1 => ?_) (fun c1 => ?_)
  · have hF := if_y c1 hF
    refine lv_bipush (v := (-2 : Int32)) hx hb dX12_free_43 (by decide) ?_
    have hq := Option.some.inj hF
    subst hq
    exact hret _ _ _ _ hW dX12_free_45
  · have hF := if_n c1 hF
    refine lv_iload_n hx hb dX12_free_8 rfl (lv_at hl 2 rfl) ?_
    refine lv_i2l (v := p2.toInt64) hx hb dX12_free_9 rfl ?_
    refine lv_lconst (v := (0 : Int64)) hx hb dX12_free_10 (by decide) ?_
    refine lv_lconst (v := (1 : Int64)) hx hb dX12_free_11 (by decide) ?_
    refine m_callS X hW hA hl.1 lkX12_109 (c_R_in l E _ N   p2.toInt64 (0 : Int64) (1 : Int64) (F_R_in p2.toInt64 (0 : Int64) (1 : Int64)) rfl) ([]) (by decide) rfl rfl (ws' := (wd_R_free E a_t a_t_images a_t_kept a_t_aside a_t_limbs a_t_wide a_t_hears a_t_spies a_t_known a_t_by a_t_ways a_t_fewest a_t_heavy a_t_sums a_t_faces a_t_bestFaces a_t_text a_t_verbs a_t_many a_t_nums a_t_book t_typed t_at t_start t_token t_value t_items t_book)) rfl (As := [.long p2.toInt64, .long (0 : Int64), .long (1 : Int64)]) (rest := []) rfl rfl ⟨rfl, rfl, Nat.le_of_ble_eq_true rfl, Nat.le_of_ble_eq_true rfl⟩ (Nat.le_of_ble_eq_true rfl) (Nat.zero_le _) (Nat.zero_le _) dX12_free_12 (fun H locs hW => ?_)
    refine lv_if_eq (tgt := 43) hx hb dX12_free_15 (by decide) (fun c2 => ?_) (fun c2 => ?_)
    · have hF := if_y c2 hF
      refine lv_bipush (v := (-2 : Int32)) hx hb dX12_free_43 (by decide) ?_
      have hq := Option.some.inj hF
      subst hq
      exact hret _ _ _ _ hW dX12_free_45
    · have hF := if_n c2 hF
      refine lv_iload hx hb dX12_free_18 (lv_at hl 4 rfl) ?_
      refine lv_i2l (v := p4.toInt64) hx hb dX12_free_20 rfl ?_
      refine lv_lconst (v := (0 : Int64)) hx hb dX12_free_21 (by decide) ?_
      refine lv_ldc2 (v := (11 : Int64)) hx hb hown (hts _ wk_1252) dX12_free_22 ?_
      refine m_callS X hW hA hl.1 lkX12_109 (c_R_in l E _ N   p4.toInt64 (0 : Int64) (11 : Int64) (F_R_in p4.toInt64 (0 : Int64) (11 : Int64)) rfl) ([]) (by decide) rfl rfl (ws' := (wd_R_free E a_t a_t_images a_t_kept a_t_aside a_t_limbs a_t_wide a_t_hears a_t_spies a_t_known a_t_by a_t_ways a_t_fewest a_t_heavy a_t_sums a_t_faces a_t_bestFaces a_t_text a_t_verbs a_t_many a_t_nums a_t_book t_typed t_at t_start t_token t_value t_items t_book)) rfl (As := [.long p4.toInt64, .long (0 : Int64), .long (11 : Int64)]) (rest := []) rfl rfl ⟨rfl, rfl, Nat.le_of_ble_eq_true rfl, Nat.le_of_ble_eq_true rfl⟩ (Nat.le_of_ble_eq_true rfl) (Nat.zero_le _) (Nat.zero_le _) dX12_free_25 (fun H locs hW => ?_)
      refine lv_if_eq (tgt := 43) hx hb dX12_free_28 (by decide) (fun c3 => ?_) (fun c3 => ?_)
      · have hF := if_y c3 hF
        refine lv_bipush (v := (-2 : Int32)) hx hb dX12_free_43 (by decide) ?_
        have hq := Option.some.inj hF
        subst hq
        exact hret _ _ _ _ hW dX12_free_45
      · have hF := if_n c3 hF
        refine lv_iload_n hx hb dX12_free_31 rfl (lv_at hl 3 rfl) ?_
        refine lv_i2l (v := p3.toInt64) hx hb dX12_free_32 rfl ?_
        refine lv_lconst (v := (0 : Int64)) hx hb dX12_free_33 (by decide) ?_
        refine lv_iload hx hb dX12_free_34 (lv_at hl 4 rfl) ?_
        refine lv_i2l (v := p4.toInt64) hx hb dX12_free_36 rfl ?_
        refine m_callS X hW hA hl.1 lkX12_109 (c_R_in l E _ N   p3.toInt64 (0 : Int64) p4.toInt64 (F_R_in p3.toInt64 (0 : Int64) p4.toInt64) rfl) ([]) (by decide) rfl rfl (ws' := (wd_R_free E a_t a_t_images a_t_kept a_t_aside a_t_limbs a_t_wide a_t_hears a_t_spies a_t_known a_t_by a_t_ways a_t_fewest a_t_heavy a_t_sums a_t_faces a_t_bestFaces a_t_text a_t_verbs a_t_many a_t_nums a_t_book t_typed t_at t_start t_token t_value t_items t_book)) rfl (As := [.long p3.toInt64, .long (0 : Int64), .long p4.toInt64]) (rest := []) rfl rfl ⟨rfl, rfl, Nat.le_of_ble_eq_true rfl, Nat.le_of_ble_eq_true rfl⟩ (Nat.le_of_ble_eq_true rfl) (Nat.zero_le _) (Nat.zero_le _) dX12_free_37 (fun H locs hW => ?_)
        refine lv_if_ne (tgt := 46) hx hb dX12_free_40 (by decide) (fun c4 => ?_) (fun c4 => ?_)
        · have hF := if_n c4 hF
          refine lv_iconst (v := (0 : Int32)) hx hb dX12_free_46 (by decide) ?_
          refine lv_istore (lv' := [(5, .int (0 : Int32)), (0, .ref a_t), (1, .int p1), (2, .int p2), (3, .int p3), (4, .int p4)]) hx hb dX12_free_47 hl (by decide) rfl (fun ls hl => ?_)
          refine lv_iload_n hx hb dX12_free_49 rfl (lv_at hl 4 rfl) ?_
          refine lv_istore (lv' := [(6, .int p3), (5, .int (0 : Int32)), (0, .ref a_t), (1, .int p1), (2, .int p2), (3, .int p3), (4, .int p4)]) hx hb dX12_free_50 hl (by decide) rfl (fun ls hl => ?_)
          obtain ⟨x5_2, hX6, hF⟩ := bO_s1 hF
          have L5 : ∀ (k0 : Nat) (x5 : Int32) (x6 : Int32) (x5_2 : Int32) (H : Heap) (locs : List Loc) (ls : Array Slot), R_free_L52 p4 k0 x5 x6 = some x5_2 → m_H E A (wd_R_free E a_t a_t_images a_t_kept a_t_aside a_t_limbs a_t_wide a_t_hears a_t_spies a_t_known a_t_by a_t_ways a_t_fewest a_t_heavy a_t_sums a_t_faces a_t_bestFaces a_t_text a_t_verbs a_t_many a_t_nums a_t_book t_typed t_at t_start t_token t_value t_items t_book) s.heap H locs → lv_has ls 7 [(6, .int x6), (5, .int x5), (0, .ref a_t), (1, .int p1), (2, .int p2), (4, .int p4)] → (∀ (H : Heap) (locs : List Loc) (ls : Array Slot), m_H E A (wd_R_free E a_t a_t_images a_t_kept a_t_aside a_t_limbs a_t_wide a_t_hears a_t_spies a_t_known a_t_by a_t_ways a_t_fewest a_t_heavy a_t_sums a_t_faces a_t_bestFaces a_t_text a_t_verbs a_t_many a_t_nums a_t_book t_typed t_at t_start t_token t_value t_items t_book) s.heap H locs → lv_has ls 7 [(5, .int x5_2), (0, .ref a_t), (1, .int p1), (2, .int p2)] → W p l e rm_R_free s m args below meth c H locs 0 0 Q (F0 m 74 ls [])) → W p l e rm_R_free s m args below meth c H locs 0 0 Q (F0 m 52 ls []) := by
            clear hF
            intro k0
            induction k0 with
            | zero =>
              intro x5 x6 x5_2 H locs ls hF
              cases hF
            | succ k0 ih8 =>
              intro x5 x6 x5_2 H locs ls hF hW hl hk7
              rw [R_free_L52] at hF
              refine lv_iload hx hb dX12_free_52 (lv_at hl 0 rfl) ?_
              refine lv_iload hx hb dX12_free_54 (lv_at hl 5 rfl) ?_
              refine lv_icmp_gt (tgt := 74) hx hb dX12_free_56 (by decide) (fun c9 => ?_) (fun c9 => ?_)
              · have hF := if_y c9 hF
                cases hF
                exact hk7 _ _ _ hW (lv_sub hl [1, 2, 3, 4] rfl)
              · have hF := if_n c9 hF
                refine lv_iload hx hb dX12_free_59 (lv_at hl 1 rfl) ?_
                refine lv_iconst (v := (1 : Int32)) hx hb dX12_free_61 (by decide) ?_
                refine lv_iload hx hb dX12_free_62 (lv_at hl 0 rfl) ?_
                refine m_ishl hx hb dX12_free_64 ?_
                refine lv_ior hx hb dX12_free_65 ?_
                refine lv_istore (lv' := [(5, .int (x5 ||| (jshl (1 : Int32) x6))), (6, .int x6), (0, .ref a_t), (1, .int p1), (2, .int p2), (4, .int p4)]) hx hb dX12_free_66 hl (by decide) rfl (fun ls hl => ?_)
                refine lv_iinc (v := (x6 + (1 : Int32))) (lv' := [(6, .int (x6 + (1 : Int32))), (5, .int (x5 ||| (jshl (1 : Int32) x6))), (0, .ref a_t), (1, .int p1), (2, .int p2), (4, .int p4)]) hx hb dX12_free_68 hl (k := 1) rfl rfl (by decide) rfl (fun ls hl => ?_)
                refine lv_goto (tgt := 52) hx hb dX12_free_71 (by decide) ?_
                exact ih8 (x5 ||| (jshl (1 : Int32) x6)) (x6 + (1 : Int32)) x5_2 _ _ _ hF hW (lv_sub hl [0, 1, 2, 3, 4, 5] rfl) hk7
          refine L5 N (0 : Int32) p3 x5_2 _ _ _ hX6 hW (lv_sub hl [0, 1, 2, 3, 4, 6] rfl) ?_
          intro H locs ls hW hl
          clear L5
          refine lv_aload_n hx hb dX12_free_74 rfl (lv_at hl 1 rfl) ?_
          refine m_get X hW fdX12_7 0 rfl rfl dX12_free_75 ?_
          refine lv_bipush (v := (80 : Int32)) hx hb dX12_free_78 (by decide) ?_
          refine lv_iconst (v := (4 : Int32)) hx hb dX12_free_80 (by decide) ?_
          refine lv_iload_n hx hb dX12_free_81 rfl (lv_at hl 2 rfl) ?_
          refine lv_imul hx hb dX12_free_82 ?_
          refine lv_iadd hx hb dX12_free_83 ?_
          refine lv_iconst (v := (2 : Int32)) hx hb dX12_free_84 (by decide) ?_
          refine lv_iadd hx hb dX12_free_85 ?_
          refine lv_iload_n hx hb dX12_free_86 rfl (lv_at hl 3 rfl) ?_
          refine lv_iadd hx hb dX12_free_87 ?_
          refine lv_iload hx hb dX12_free_88 (lv_at hl 0 rfl) ?_
          obtain ⟨g10, hF⟩ := gd_some hF
          refine m_iast X hW 1 (k := ((((80 : Int32) + ((4 : Int32) * p1)) + (2 : Int32)) + p2).toNatClampNeg) rfl g10 rfl dX12_free_90 (ws' := (wd_R_free E a_t a_t_images a_t_kept a_t_aside a_t_limbs a_t_wide a_t_hears a_t_spies a_t_known a_t_by a_t_ways a_t_fewest a_t_heavy a_t_sums a_t_faces a_t_bestFaces a_t_text a_t_verbs a_t_many a_t_nums a_t_book t_typed t_at t_start t_token t_value t_items (upd t_book ((((80 : Int32) + ((4 : Int32) * p1)) + (2 : Int32)) + p2).toNatClampNeg x5_2))) rfl (fun H locs hW => ?_)
          refine lv_iconst (v := (1 : Int32)) hx hb dX12_free_91 (by decide) ?_
          have hq := Option.some.inj hF
          subst hq
          exact hret _ _ _ _ hW dX12_free_92
        · have hF := if_y c4 hF
          refine lv_bipush (v := (-2 : Int32)) hx hb dX12_free_43 (by decide) ?_
          have hq := Option.some.inj hF
          subst hq
          exact hret _ _ _ _ hW dX12_free_45
abbrev wd_R_far (E : m_E) (a_t : Nat) (a_t_images : Nat) (a_t_kept : Nat) (a_t_aside : Nat) (a_t_limbs : Nat) (a_t_wide : Nat) (a_t_hears : Nat) (a_t_spies : Nat) (a_t_known : Nat) (a_t_by : Nat) (a_t_ways : Nat) (a_t_fewest : Nat) (a_t_heavy : Nat) (a_t_sums : Nat) (a_t_faces : Nat) (a_t_bestFaces : Nat) (a_t_text : Nat) (a_t_verbs : Nat) (a_t_many : Nat) (a_t_nums : Nat) (a_t_book : Nat) (t_typed : Int32) (t_at : Int32) (t_start : Int32) (t_token : Int32) (t_value : Int32) (t_items : Int32) (t_book : Nat → Int32) : va_W := [(a_t, .inr (12, [.ref a_t_book, .ref a_t_images, .ref a_t_kept, .ref a_t_aside, .ref a_t_limbs, .ref a_t_wide, .ref a_t_hears, .ref a_t_spies, .ref a_t_known, .ref a_t_by, .ref a_t_ways, .ref a_t_fewest, .ref a_t_heavy, .ref a_t_sums, .ref a_t_faces, .ref a_t_bestFaces, .ref a_t_text, .int t_typed, .int t_at, .int t_start, .int t_token, .int t_value, .ref a_t_verbs, .ref a_t_many, .ref a_t_nums, .int t_items])), (a_t_book, .inl (E.2.1 0, 240, .inl t_book))]
def rm_R_far : Room := { frames := 1, cells := 0, slots := 0, locals := 25 }
set_option maxHeartbeats 4000000 in
set_option maxRecDepth 100000 in
theorem c_R_far (l : Launch) (E : m_E) (sz N : Nat) (a_t : Nat) (a_t_images : Nat) (a_t_kept : Nat) (a_t_aside : Nat) (a_t_limbs : Nat) (a_t_wide : Nat) (a_t_hears : Nat) (a_t_spies : Nat) (a_t_known : Nat) (a_t_by : Nat) (a_t_ways : Nat) (a_t_fewest : Nat) (a_t_heavy : Nat) (a_t_sums : Nat) (a_t_faces : Nat) (a_t_bestFaces : Nat) (a_t_text : Nat) (a_t_verbs : Nat) (a_t_many : Nat) (a_t_nums : Nat) (a_t_book : Nat) (t_typed : Int32) (t_at : Int32) (t_start : Int32) (t_token : Int32) (t_value : Int32) (t_items : Int32) (t_book : Nat → Int32) (p1 : Int32) (p2 : Int32) (ures : Int32 × (Nat → Int32)) (hF : F_R_far p1 p2 t_book = some ures) : m_Met l yX12_far cX12_far 3 (some .int) rm_R_far E (wd_R_far E a_t a_t_images a_t_kept a_t_aside a_t_limbs a_t_wide a_t_hears a_t_spies a_t_known a_t_by a_t_ways a_t_fewest a_t_heavy a_t_sums a_t_faces a_t_bestFaces a_t_text a_t_verbs a_t_many a_t_nums a_t_book t_typed t_at t_start t_token t_value t_items t_book) (wd_R_far E a_t a_t_images a_t_kept a_t_aside a_t_limbs a_t_wide a_t_hears a_t_spies a_t_known a_t_by a_t_ways a_t_fewest a_t_heavy a_t_sums a_t_faces a_t_bestFaces a_t_text a_t_verbs a_t_many a_t_nums a_t_book t_typed t_at t_start t_token t_value t_items ures.2) sz [.ref a_t, .int p1, .int p2] (some (.int ures.1)) := by
  refine m_ofI (by decide) (Nat.le_of_ble_eq_true rfl) ?_
  intro p e s m args below meth c A Q ls X hW hA hl hret
  obtain ⟨hx, hb, -, hown, hts, hK, -, hG⟩ := id X
  have hl : lv_has ls 3 [(0, .ref a_t), (1, .int p1), (2, .int p2)] := hl
  unfold F_R_far at hF
  refine lv_iload_n hx hb dX12_far_0 rfl (lv_at hl 1 rfl) ?_
  refine lv_i2l (v := p1.toInt64) hx hb dX12_far_1 rfl ?_
  refine lv_lconst (v := (0 : Int64)) hx hb dX12_far_2 (by decide) ?_
  refine lv_lconst (v := (1 : Int64)) hx hb dX12_far_3 (by decide) ?_
  refine m_callS X hW hA hl.1 lkX12_109 (c_R_in l E _ N   p1.toInt64 (0 : Int64) (1 : Int64) (F_R_in p1.toInt64 (0 : Int64) (1 : Int64)) rfl) ([]) (by decide) rfl rfl (ws' := (wd_R_far E a_t a_t_images a_t_kept a_t_aside a_t_limbs a_t_wide a_t_hears a_t_spies a_t_known a_t_by a_t_ways a_t_fewest a_t_heavy a_t_sums a_t_faces a_t_bestFaces a_t_text a_t_verbs a_t_many a_t_nums a_t_book t_typed t_at t_start t_token t_value t_items t_book)) rfl (As := [.long p1.toInt64, .long (0 : Int64), .long (1 : Int64)]) (rest := []) rfl rfl ⟨rfl, rfl, Nat.le_of_ble_eq_true rfl, Nat.le_of_ble_eq_true rfl⟩ (Nat.le_of_ble_eq_true rfl) (Nat.zero_le _) (Nat.zero_le _) dX12_far_4 (fun H locs hW => ?_)
  refine lv_if_eq (tgt := 34) hx hb dX12_far_7 (by decide) (fun c1 => ?_) (fun c1 => ?_)
  · have hF := if_y c1 hF
    refine lv_bipush (v := (-2 : Int32)) hx hb dX12_far_34 (by decide) ?_
    have hq := Option.some.inj hF
    subst hq
    exact hret _ _ _ _ hW dX12_far_36
  · have hF := if_n c1 hF
    refine lv_iload_n hx hb dX12_far_10 rfl (lv_at hl 2 rfl) ?_
    refine lv_i2l (v := p2.toInt64) hx hb dX12_far_11 rfl ?_
    refine lv_lconst (v := (1 : Int64)) hx hb dX12_far_12 (by decide) ?_
    refine lv_ldc2 (v := (98 : Int64)) hx hb hown (hts _ wk_1257) dX12_far_13 ?_
    refine m_callS X hW hA hl.1 lkX12_109 (c_R_in l E _ N   p2.toInt64 (1 : Int64) (98 : Int64) (F_R_in p2.toInt64 (1 : Int64) (98 : Int64)) rfl) ([]) (by decide) rfl rfl (ws' := (wd_R_far E a_t a_t_images a_t_kept a_t_aside a_t_limbs a_t_wide a_t_hears a_t_spies a_t_known a_t_by a_t_ways a_t_fewest a_t_heavy a_t_sums a_t_faces a_t_bestFaces a_t_text a_t_verbs a_t_many a_t_nums a_t_book t_typed t_at t_start t_token t_value t_items t_book)) rfl (As := [.long p2.toInt64, .long (1 : Int64), .long (98 : Int64)]) (rest := []) rfl rfl ⟨rfl, rfl, Nat.le_of_ble_eq_true rfl, Nat.le_of_ble_eq_true rfl⟩ (Nat.le_of_ble_eq_true rfl) (Nat.zero_le _) (Nat.zero_le _) dX12_far_16 (fun H locs hW => ?_)
    refine lv_if_eq (tgt := 34) hx hb dX12_far_19 (by decide) (fun c2 => ?_) (fun c2 => ?_)
    · have hF := if_y c2 hF
      refine lv_bipush (v := (-2 : Int32)) hx hb dX12_far_34 (by decide) ?_
      have hq := Option.some.inj hF
      subst hq
      exact hret _ _ _ _ hW dX12_far_36
    · have hF := if_n c2 hF
      refine lv_aload_n hx hb dX12_far_22 rfl (lv_at hl 0 rfl) ?_
      refine lv_bipush (v := (6 : Int32)) hx hb dX12_far_23 (by decide) ?_
      refine lv_iload_n hx hb dX12_far_25 rfl (lv_at hl 1 rfl) ?_
      refine lv_iadd hx hb dX12_far_26 ?_
      refine lv_iload_n hx hb dX12_far_27 rfl (lv_at hl 2 rfl) ?_
      obtain ⟨r28, t_book'_2, hC3, hF⟩ := bO_s2 hF
      refine m_callV X hW hA hl.1 lkX12_130 (c_R_puts l E _ N a_t a_t_images a_t_kept a_t_aside a_t_limbs a_t_wide a_t_hears a_t_spies a_t_known a_t_by a_t_ways a_t_fewest a_t_heavy a_t_sums a_t_faces a_t_bestFaces a_t_text a_t_verbs a_t_many a_t_nums a_t_book t_typed t_at t_start t_token t_value t_items t_book ((6 : Int32) + p1) p2 (r28, t_book'_2) hC3) ([0, 1]) (by decide) rfl rfl (ws' := (wd_R_far E a_t a_t_images a_t_kept a_t_aside a_t_limbs a_t_wide a_t_hears a_t_spies a_t_known a_t_by a_t_ways a_t_fewest a_t_heavy a_t_sums a_t_faces a_t_bestFaces a_t_text a_t_verbs a_t_many a_t_nums a_t_book t_typed t_at t_start t_token t_value t_items t_book'_2)) rfl 0 rfl rfl rfl (As := [.int ((6 : Int32) + p1), .int p2]) (rest := []) rfl rfl ⟨rfl, rfl, Nat.le_of_ble_eq_true rfl, Nat.le_of_ble_eq_true rfl⟩ (Nat.le_of_ble_eq_true rfl) (Nat.zero_le _) (Nat.zero_le _) dX12_far_28 (fun H locs hW => ?_)
      clear hC3
      refine lv_goto (tgt := 36) hx hb dX12_far_31 (by decide) ?_
      have hq := Option.some.inj hF
      subst hq
      exact hret _ _ _ _ hW dX12_far_36
abbrev wd_R_toward (E : m_E)   : va_W := []
def rm_R_toward : Room := { frames := 0, cells := 0, slots := 0, locals := 0 }
set_option maxHeartbeats 4000000 in
set_option maxRecDepth 100000 in
theorem c_R_toward (l : Launch) (E : m_E) (sz N : Nat)   (p1 : Int32) (p2 : Int32) (p3 : Int32) (ures : Int32) (hF : F_R_toward p1 p2 p3 = ures) : m_Met l yX12_toward cX12_toward 5 (some .int) rm_R_toward E (wd_R_toward E) (wd_R_toward E) sz [.int p1, .int p2, .int p3] (some (.int ures)) := by
  refine m_ofI (by decide) (Nat.le_of_ble_eq_true rfl) ?_
  intro p e s m args below meth c A Q ls X hW hA hl hret
  obtain ⟨hx, hb, -, hown, hts, hK, -, hG⟩ := id X
  have hl : lv_has ls 5 [(0, .int p1), (1, .int p2), (2, .int p3)] := hl
  unfold F_R_toward at hF
  refine lv_iload_n hx hb dX12_toward_0 rfl (lv_at hl 1 rfl) ?_
  refine lv_bipush (v := (8 : Int32)) hx hb dX12_toward_1 (by decide) ?_
  refine lv_idiv hx hb dX12_toward_3 (by decide) ?_
  refine lv_iload_n hx hb dX12_toward_4 rfl (lv_at hl 0 rfl) ?_
  refine lv_bipush (v := (8 : Int32)) hx hb dX12_toward_5 (by decide) ?_
  refine lv_idiv hx hb dX12_toward_7 (by decide) ?_
  refine lv_isub hx hb dX12_toward_8 ?_
  refine lv_istore_n (lv' := [(3, .int ((p2 / (8 : Int32)) - (p1 / (8 : Int32)))), (0, .int p1), (1, .int p2), (2, .int p3)]) hx hb dX12_toward_9 rfl hl (by decide) rfl (fun ls hl => ?_)
  refine lv_iload_n hx hb dX12_toward_10 rfl (lv_at hl 2 rfl) ?_
  refine lv_bipush (v := (8 : Int32)) hx hb dX12_toward_11 (by decide) ?_
  refine m_irem hx hb dX12_toward_13 (by decide) ?_
  refine lv_iload_n hx hb dX12_toward_14 rfl (lv_at hl 1 rfl) ?_
  refine lv_bipush (v := (8 : Int32)) hx hb dX12_toward_15 (by decide) ?_
  refine m_irem hx hb dX12_toward_17 (by decide) ?_
  refine lv_isub hx hb dX12_toward_18 ?_
  refine lv_istore (lv' := [(4, .int ((jrem p2 (8 : Int32)) - (jrem p1 (8 : Int32)))), (3, .int ((p2 / (8 : Int32)) - (p1 / (8 : Int32)))), (0, .int p1), (1, .int p2), (2, .int p3)]) hx hb dX12_toward_19 hl (by decide) rfl (fun ls hl => ?_)
  refine lv_iload_n hx hb dX12_toward_21 rfl (lv_at hl 4 rfl) ?_
  refine lv_if_ne (tgt := 30) hx hb dX12_toward_22 (by decide) (fun c1 => ?_) (fun c1 => ?_)
  · have hF := if_n c1 hF
    refine lv_iload_n hx hb dX12_toward_30 rfl (lv_at hl 4 rfl) ?_
    refine lv_iconst (v := (1 : Int32)) hx hb dX12_toward_31 (by decide) ?_
    refine lv_icmp_ne (tgt := 40) hx hb dX12_toward_32 (by decide) (fun c2 => ?_) (fun c2 => ?_)
    · have hF := if_n c2 hF
      refine lv_iload_n hx hb dX12_toward_40 rfl (lv_at hl 4 rfl) ?_
      refine lv_iconst (v := (2 : Int32)) hx hb dX12_toward_41 (by decide) ?_
      refine lv_icmp_ne (tgt := 49) hx hb dX12_toward_42 (by decide) (fun c3 => ?_) (fun c3 => ?_)
      · have hF := if_n c3 hF
        refine lv_iload hx hb dX12_toward_49 (lv_at hl 0 rfl) ?_
        refine lv_ineg hx hb dX12_toward_51 ?_
        have hq := hF
        subst hq
        exact hret _ _ _ _ hW dX12_toward_52
      · have hF := if_y c3 hF
        refine lv_iload_n hx hb dX12_toward_45 rfl (lv_at hl 1 rfl) ?_
        refine lv_goto (tgt := 52) hx hb dX12_toward_46 (by decide) ?_
        have hq := hF
        subst hq
        exact hret _ _ _ _ hW dX12_toward_52
    · have hF := if_y c2 hF
      refine lv_iload hx hb dX12_toward_35 (lv_at hl 0 rfl) ?_
      refine lv_goto (tgt := 52) hx hb dX12_toward_37 (by decide) ?_
      have hq := hF
      subst hq
      exact hret _ _ _ _ hW dX12_toward_52
  · have hF := if_y c1 hF
    refine lv_iload_n hx hb dX12_toward_25 rfl (lv_at hl 1 rfl) ?_
    refine lv_ineg hx hb dX12_toward_26 ?_
    refine lv_goto (tgt := 52) hx hb dX12_toward_27 (by decide) ?_
    have hq := hF
    subst hq
    exact hret _ _ _ _ hW dX12_toward_52
abbrev wd_R_square (E : m_E)   : va_W := []
def rm_R_square : Room := { frames := 0, cells := 0, slots := 0, locals := 0 }
set_option maxHeartbeats 4000000 in
set_option maxRecDepth 100000 in
theorem c_R_square (l : Launch) (E : m_E) (sz N : Nat)   (p1 : Int32) (p2 : Int32) (ures : Int32) (hF : F_R_square p1 p2 = ures) : m_Met l yX12_square cX12_square 4 (some .int) rm_R_square E (wd_R_square E) (wd_R_square E) sz [.int p1, .int p2] (some (.int ures)) := by
  refine m_ofI (by decide) (Nat.le_of_ble_eq_true rfl) ?_
  intro p e s m args below meth c A Q ls X hW hA hl hret
  obtain ⟨hx, hb, -, hown, hts, hK, -, hG⟩ := id X
  have hl : lv_has ls 4 [(0, .int p1), (1, .int p2)] := hl
  unfold F_R_square at hF
  refine lv_iload_n hx hb dX12_square_0 rfl (lv_at hl 0 rfl) ?_
  refine lv_bipush (v := (8 : Int32)) hx hb dX12_square_1 (by decide) ?_
  refine lv_idiv hx hb dX12_square_3 (by decide) ?_
  refine lv_iload_n hx hb dX12_square_4 rfl (lv_at hl 1 rfl) ?_
  refine lv_bipush (v := (8 : Int32)) hx hb dX12_square_5 (by decide) ?_
  refine lv_idiv hx hb dX12_square_7 (by decide) ?_
  refine lv_isub hx hb dX12_square_8 ?_
  refine lv_istore_n (lv' := [(2, .int ((p1 / (8 : Int32)) - (p2 / (8 : Int32)))), (0, .int p1), (1, .int p2)]) hx hb dX12_square_9 rfl hl (by decide) rfl (fun ls hl => ?_)
  refine lv_iload_n hx hb dX12_square_10 rfl (lv_at hl 1 rfl) ?_
  refine lv_bipush (v := (8 : Int32)) hx hb dX12_square_11 (by decide) ?_
  refine m_irem hx hb dX12_square_13 (by decide) ?_
  refine lv_iload_n hx hb dX12_square_14 rfl (lv_at hl 2 rfl) ?_
  refine lv_bipush (v := (8 : Int32)) hx hb dX12_square_15 (by decide) ?_
  refine m_irem hx hb dX12_square_17 (by decide) ?_
  refine lv_isub hx hb dX12_square_18 ?_
  refine lv_istore_n (lv' := [(3, .int ((jrem p1 (8 : Int32)) - (jrem p2 (8 : Int32)))), (2, .int ((p1 / (8 : Int32)) - (p2 / (8 : Int32)))), (0, .int p1), (1, .int p2)]) hx hb dX12_square_19 rfl hl (by decide) rfl (fun ls hl => ?_)
  refine lv_iload_n hx hb dX12_square_20 rfl (lv_at hl 1 rfl) ?_
  refine lv_iload_n hx hb dX12_square_21 rfl (lv_at hl 1 rfl) ?_
  refine lv_imul hx hb dX12_square_22 ?_
  refine lv_iload_n hx hb dX12_square_23 rfl (lv_at hl 0 rfl) ?_
  refine lv_iload_n hx hb dX12_square_24 rfl (lv_at hl 0 rfl) ?_
  refine lv_imul hx hb dX12_square_25 ?_
  refine lv_iadd hx hb dX12_square_26 ?_
  have hq := hF
  subst hq
  exact hret _ _ _ _ hW dX12_square_27
abbrev wd_R_isClear (E : m_E) (a_t : Nat) (a_t_images : Nat) (a_t_kept : Nat) (a_t_aside : Nat) (a_t_limbs : Nat) (a_t_wide : Nat) (a_t_hears : Nat) (a_t_spies : Nat) (a_t_known : Nat) (a_t_by : Nat) (a_t_ways : Nat) (a_t_fewest : Nat) (a_t_heavy : Nat) (a_t_sums : Nat) (a_t_faces : Nat) (a_t_bestFaces : Nat) (a_t_text : Nat) (a_t_verbs : Nat) (a_t_many : Nat) (a_t_nums : Nat) (a_t_book : Nat) (t_typed : Int32) (t_at : Int32) (t_start : Int32) (t_token : Int32) (t_value : Int32) (t_items : Int32) (t_book : Nat → Int32) : va_W := [(a_t, .inr (12, [.ref a_t_book, .ref a_t_images, .ref a_t_kept, .ref a_t_aside, .ref a_t_limbs, .ref a_t_wide, .ref a_t_hears, .ref a_t_spies, .ref a_t_known, .ref a_t_by, .ref a_t_ways, .ref a_t_fewest, .ref a_t_heavy, .ref a_t_sums, .ref a_t_faces, .ref a_t_bestFaces, .ref a_t_text, .int t_typed, .int t_at, .int t_start, .int t_token, .int t_value, .ref a_t_verbs, .ref a_t_many, .ref a_t_nums, .int t_items])), (a_t_book, .inl (E.2.1 0, 240, .inl t_book))]
def rm_R_isClear : Room := { frames := 1, cells := 0, slots := 0, locals := 23 }
set_option maxHeartbeats 4000000 in
set_option maxRecDepth 100000 in
theorem c_R_isClear (l : Launch) (E : m_E) (sz N : Nat) (a_t : Nat) (a_t_images : Nat) (a_t_kept : Nat) (a_t_aside : Nat) (a_t_limbs : Nat) (a_t_wide : Nat) (a_t_hears : Nat) (a_t_spies : Nat) (a_t_known : Nat) (a_t_by : Nat) (a_t_ways : Nat) (a_t_fewest : Nat) (a_t_heavy : Nat) (a_t_sums : Nat) (a_t_faces : Nat) (a_t_bestFaces : Nat) (a_t_text : Nat) (a_t_verbs : Nat) (a_t_many : Nat) (a_t_nums : Nat) (a_t_book : Nat) (t_typed : Int32) (t_at : Int32) (t_start : Int32) (t_token : Int32) (t_value : Int32) (t_items : Int32) (t_book : Nat → Int32) (p1 : Int32) (p2 : Int32) (ures : Int32) (hF : F_R_isClear N p1 p2 t_book = some ures) : m_Met l yX12_isClear cX12_isClear 12 (some .boolean) rm_R_isClear E (wd_R_isClear E a_t a_t_images a_t_kept a_t_aside a_t_limbs a_t_wide a_t_hears a_t_spies a_t_known a_t_by a_t_ways a_t_fewest a_t_heavy a_t_sums a_t_faces a_t_bestFaces a_t_text a_t_verbs a_t_many a_t_nums a_t_book t_typed t_at t_start t_token t_value t_items t_book) (wd_R_isClear E a_t a_t_images a_t_kept a_t_aside a_t_limbs a_t_wide a_t_hears a_t_spies a_t_known a_t_by a_t_ways a_t_fewest a_t_heavy a_t_sums a_t_faces a_t_bestFaces a_t_text a_t_verbs a_t_many a_t_nums a_t_book t_typed t_at t_start t_token t_value t_items t_book) sz [.ref a_t, .int p1, .int p2] (some (.int ures)) := by
  refine m_ofZ (by decide) (Nat.le_of_ble_eq_true rfl) ?_
  intro p e s m args below meth c A Q ls X hW hA hl hret
  obtain ⟨hx, hb, -, hown, hts, hK, -, hG⟩ := id X
  have hl : lv_has ls 12 [(0, .ref a_t), (1, .int p1), (2, .int p2)] := hl
  unfold F_R_isClear at hF
  refine lv_iconst (v := (1 : Int32)) hx hb dX12_isClear_0 (by decide) ?_
  refine lv_istore_n (lv' := [(3, .int (1 : Int32)), (0, .ref a_t), (1, .int p1), (2, .int p2)]) hx hb dX12_isClear_1 rfl hl (by decide) rfl (fun ls hl => ?_)
  refine lv_iload_n hx hb dX12_isClear_2 rfl (lv_at hl 2 rfl) ?_
  refine lv_iload_n hx hb dX12_isClear_3 rfl (lv_at hl 3 rfl) ?_
  refine m_callS X hW hA hl.1 lkX12_137 (c_R_square l E _ N   p1 p2 (F_R_square p1 p2) rfl) ([]) (by decide) rfl rfl (ws' := (wd_R_isClear E a_t a_t_images a_t_kept a_t_aside a_t_limbs a_t_wide a_t_hears a_t_spies a_t_known a_t_by a_t_ways a_t_fewest a_t_heavy a_t_sums a_t_faces a_t_bestFaces a_t_text a_t_verbs a_t_many a_t_nums a_t_book t_typed t_at t_start t_token t_value t_items t_book)) rfl (As := [.int p1, .int p2]) (rest := []) rfl rfl ⟨rfl, rfl, Nat.le_of_ble_eq_true rfl, Nat.le_of_ble_eq_true rfl⟩ (Nat.le_of_ble_eq_true rfl) (Nat.zero_le _) (Nat.zero_le _) dX12_isClear_4 (fun H locs hW => ?_)
  refine lv_istore (lv' := [(4, .int (F_R_square p1 p2)), (3, .int (1 : Int32)), (0, .ref a_t), (1, .int p1), (2, .int p2)]) hx hb dX12_isClear_7 hl (by decide) rfl (fun ls hl => ?_)
  refine lv_iconst (v := (0 : Int32)) hx hb dX12_isClear_9 (by decide) ?_
  refine lv_istore (lv' := [(5, .int (0 : Int32)), (4, .int (F_R_square p1 p2)), (3, .int (1 : Int32)), (0, .ref a_t), (1, .int p1), (2, .int p2)]) hx hb dX12_isClear_10 hl (by decide) rfl (fun ls hl => ?_)
  obtain ⟨x3_2, hX2, hF⟩ := bO_s1 hF
  obtain ⟨c4, ec4⟩ : ∃ z : Int32, z = (F_R_square p1 p2) := ⟨_, rfl⟩
  have L1 : ∀ (k0 : Nat) (x3 : Int32) (x5 : Int32) (x3_2 : Int32) (H : Heap) (locs : List Loc) (ls : Array Slot), R_isClear_L12 t_book p2 p1 c4 k0 x3 x5 = some x3_2 → m_H E A (wd_R_isClear E a_t a_t_images a_t_kept a_t_aside a_t_limbs a_t_wide a_t_hears a_t_spies a_t_known a_t_by a_t_ways a_t_fewest a_t_heavy a_t_sums a_t_faces a_t_bestFaces a_t_text a_t_verbs a_t_many a_t_nums a_t_book t_typed t_at t_start t_token t_value t_items t_book) s.heap H locs → lv_has ls 12 [(5, .int x5), (4, .int c4), (3, .int x3), (0, .ref a_t), (1, .int p1), (2, .int p2)] → (∀ (H : Heap) (locs : List Loc) (ls : Array Slot), m_H E A (wd_R_isClear E a_t a_t_images a_t_kept a_t_aside a_t_limbs a_t_wide a_t_hears a_t_spies a_t_known a_t_by a_t_ways a_t_fewest a_t_heavy a_t_sums a_t_faces a_t_bestFaces a_t_text a_t_verbs a_t_many a_t_nums a_t_book t_typed t_at t_start t_token t_value t_items t_book) s.heap H locs → lv_has ls 12 [(3, .int x3_2)] → W p l e rm_R_isClear s m args below meth c H locs 0 0 Q (F0 m 145 ls [])) → W p l e rm_R_isClear s m args below meth c H locs 0 0 Q (F0 m 12 ls []) := by
    clear hF
    intro k0
    induction k0 with
    | zero =>
      intro x3 x5 x3_2 H locs ls hF
      cases hF
    | succ k0 ih4 =>
      intro x3 x5 x3_2 H locs ls hF hW hl hk3
      rw [R_isClear_L12] at hF
      refine lv_iload hx hb dX12_isClear_12 (lv_at hl 0 rfl) ?_
      refine lv_bipush (v := (64 : Int32)) hx hb dX12_isClear_14 (by decide) ?_
      refine lv_icmp_ge (tgt := 145) hx hb dX12_isClear_16 (by decide) (fun c5 => ?_) (fun c5 => ?_)
      · have hF := if_y c5 hF
        cases hF
        exact hk3 _ _ _ hW (lv_sub hl [2] rfl)
      · have hF := if_n c5 hF
        refine lv_iload_n hx hb dX12_isClear_19 rfl (lv_at hl 2 rfl) ?_
        refine lv_if_eq (tgt := 145) hx hb dX12_isClear_20 (by decide) (fun c6 => ?_) (fun c6 => ?_)
        · have hF := if_y c6 hF
          cases hF
          exact hk3 _ _ _ hW (lv_sub hl [2] rfl)
        · have hF := if_n c6 hF
          refine lv_aload_n hx hb dX12_isClear_23 rfl (lv_at hl 3 rfl) ?_
          refine m_get X hW fdX12_7 0 rfl rfl dX12_isClear_24 ?_
          refine lv_bipush (v := (10 : Int32)) hx hb dX12_isClear_27 (by decide) ?_
          refine lv_iload hx hb dX12_isClear_29 (lv_at hl 0 rfl) ?_
          refine lv_iadd hx hb dX12_isClear_31 ?_
          obtain ⟨g7, hF⟩ := gd_some hF
          refine m_iald X hW 1 (k := ((10 : Int32) + x5).toNatClampNeg) rfl g7 rfl dX12_isClear_32 ?_
          refine lv_iconst (v := (1 : Int32)) hx hb dX12_isClear_33 (by decide) ?_
          refine lv_icmp_ne (tgt := 139) hx hb dX12_isClear_34 (by decide) (fun c8 => ?_) (fun c8 => ?_)
          · have hF := if_n c8 hF
            refine lv_iinc (v := (x5 + (1 : Int32))) (lv' := [(5, .int (x5 + (1 : Int32))), (4, .int c4), (3, .int x3), (0, .ref a_t), (1, .int p1), (2, .int p2)]) hx hb dX12_isClear_139 hl (k := 0) rfl rfl (by decide) rfl (fun ls hl => ?_)
            refine lv_goto (tgt := 12) hx hb dX12_isClear_142 (by decide) ?_
            exact ih4 x3 (x5 + (1 : Int32)) x3_2 _ _ _ hF hW (lv_sub hl [0, 1, 2, 3, 4, 5] rfl) hk3
          · have hF := if_y c8 hF
            refine lv_iload_n hx hb dX12_isClear_37 rfl (lv_at hl 5 rfl) ?_
            refine lv_bipush (v := (8 : Int32)) hx hb dX12_isClear_38 (by decide) ?_
            refine lv_idiv hx hb dX12_isClear_40 (by decide) ?_
            refine lv_iload_n hx hb dX12_isClear_41 rfl (lv_at hl 4 rfl) ?_
            refine lv_bipush (v := (8 : Int32)) hx hb dX12_isClear_42 (by decide) ?_
            refine lv_idiv hx hb dX12_isClear_44 (by decide) ?_
            refine lv_isub hx hb dX12_isClear_45 ?_
            refine lv_istore (lv' := [(6, .int ((p2 / (8 : Int32)) - (p1 / (8 : Int32)))), (5, .int x5), (4, .int c4), (3, .int x3), (0, .ref a_t), (1, .int p1), (2, .int p2)]) hx hb dX12_isClear_46 hl (by decide) rfl (fun ls hl => ?_)
            refine lv_iload_n hx hb dX12_isClear_48 rfl (lv_at hl 6 rfl) ?_
            refine lv_bipush (v := (8 : Int32)) hx hb dX12_isClear_49 (by decide) ?_
            refine m_irem hx hb dX12_isClear_51 (by decide) ?_
            refine lv_iload_n hx hb dX12_isClear_52 rfl (lv_at hl 5 rfl) ?_
            refine lv_bipush (v := (8 : Int32)) hx hb dX12_isClear_53 (by decide) ?_
            refine m_irem hx hb dX12_isClear_55 (by decide) ?_
            refine lv_isub hx hb dX12_isClear_56 ?_
            refine lv_istore (lv' := [(7, .int ((jrem p2 (8 : Int32)) - (jrem p1 (8 : Int32)))), (6, .int ((p2 / (8 : Int32)) - (p1 / (8 : Int32)))), (5, .int x5), (4, .int c4), (3, .int x3), (0, .ref a_t), (1, .int p1), (2, .int p2)]) hx hb dX12_isClear_57 hl (by decide) rfl (fun ls hl => ?_)
            refine lv_iload hx hb dX12_isClear_59 (lv_at hl 2 rfl) ?_
            refine lv_bipush (v := (8 : Int32)) hx hb dX12_isClear_61 (by decide) ?_
            refine lv_idiv hx hb dX12_isClear_63 (by decide) ?_
            refine lv_iload_n hx hb dX12_isClear_64 rfl (lv_at hl 6 rfl) ?_
            refine lv_bipush (v := (8 : Int32)) hx hb dX12_isClear_65 (by decide) ?_
            refine lv_idiv hx hb dX12_isClear_67 (by decide) ?_
            refine lv_isub hx hb dX12_isClear_68 ?_
            refine lv_istore (lv' := [(8, .int ((x5 / (8 : Int32)) - (p1 / (8 : Int32)))), (7, .int ((jrem p2 (8 : Int32)) - (jrem p1 (8 : Int32)))), (6, .int ((p2 / (8 : Int32)) - (p1 / (8 : Int32)))), (5, .int x5), (4, .int c4), (3, .int x3), (0, .ref a_t), (1, .int p1), (2, .int p2)]) hx hb dX12_isClear_69 hl (by decide) rfl (fun ls hl => ?_)
            refine lv_iload hx hb dX12_isClear_71 (lv_at hl 3 rfl) ?_
            refine lv_bipush (v := (8 : Int32)) hx hb dX12_isClear_73 (by decide) ?_
            refine m_irem hx hb dX12_isClear_75 (by decide) ?_
            refine lv_iload_n hx hb dX12_isClear_76 rfl (lv_at hl 7 rfl) ?_
            refine lv_bipush (v := (8 : Int32)) hx hb dX12_isClear_77 (by decide) ?_
            refine m_irem hx hb dX12_isClear_79 (by decide) ?_
            refine lv_isub hx hb dX12_isClear_80 ?_
            refine lv_istore (lv' := [(9, .int ((jrem x5 (8 : Int32)) - (jrem p1 (8 : Int32)))), (8, .int ((x5 / (8 : Int32)) - (p1 / (8 : Int32)))), (7, .int ((jrem p2 (8 : Int32)) - (jrem p1 (8 : Int32)))), (6, .int ((p2 / (8 : Int32)) - (p1 / (8 : Int32)))), (5, .int x5), (4, .int c4), (3, .int x3), (0, .ref a_t), (1, .int p1), (2, .int p2)]) hx hb dX12_isClear_81 hl (by decide) rfl (fun ls hl => ?_)
            refine lv_iload hx hb dX12_isClear_83 (lv_at hl 3 rfl) ?_
            refine lv_iload hx hb dX12_isClear_85 (lv_at hl 1 rfl) ?_
            refine lv_imul hx hb dX12_isClear_87 ?_
            refine lv_iload hx hb dX12_isClear_88 (lv_at hl 2 rfl) ?_
            refine lv_iload hx hb dX12_isClear_90 (lv_at hl 0 rfl) ?_
            refine lv_imul hx hb dX12_isClear_92 ?_
            refine lv_iadd hx hb dX12_isClear_93 ?_
            refine lv_istore (lv' := [(10, .int ((((p2 / (8 : Int32)) - (p1 / (8 : Int32))) * ((x5 / (8 : Int32)) - (p1 / (8 : Int32)))) + (((jrem p2 (8 : Int32)) - (jrem p1 (8 : Int32))) * ((jrem x5 (8 : Int32)) - (jrem p1 (8 : Int32)))))), (9, .int ((jrem x5 (8 : Int32)) - (jrem p1 (8 : Int32)))), (8, .int ((x5 / (8 : Int32)) - (p1 / (8 : Int32)))), (7, .int ((jrem p2 (8 : Int32)) - (jrem p1 (8 : Int32)))), (6, .int ((p2 / (8 : Int32)) - (p1 / (8 : Int32)))), (5, .int x5), (4, .int c4), (3, .int x3), (0, .ref a_t), (1, .int p1), (2, .int p2)]) hx hb dX12_isClear_94 hl (by decide) rfl (fun ls hl => ?_)
            refine lv_iload hx hb dX12_isClear_96 (lv_at hl 4 rfl) ?_
            refine lv_iload hx hb dX12_isClear_98 (lv_at hl 1 rfl) ?_
            refine lv_imul hx hb dX12_isClear_100 ?_
            refine lv_iload hx hb dX12_isClear_101 (lv_at hl 3 rfl) ?_
            refine lv_iload hx hb dX12_isClear_103 (lv_at hl 2 rfl) ?_
            refine lv_imul hx hb dX12_isClear_105 ?_
            refine lv_isub hx hb dX12_isClear_106 ?_
            refine lv_istore (lv' := [(11, .int ((((p2 / (8 : Int32)) - (p1 / (8 : Int32))) * ((jrem x5 (8 : Int32)) - (jrem p1 (8 : Int32)))) - (((jrem p2 (8 : Int32)) - (jrem p1 (8 : Int32))) * ((x5 / (8 : Int32)) - (p1 / (8 : Int32)))))), (10, .int ((((p2 / (8 : Int32)) - (p1 / (8 : Int32))) * ((x5 / (8 : Int32)) - (p1 / (8 : Int32)))) + (((jrem p2 (8 : Int32)) - (jrem p1 (8 : Int32))) * ((jrem x5 (8 : Int32)) - (jrem p1 (8 : Int32)))))), (9, .int ((jrem x5 (8 : Int32)) - (jrem p1 (8 : Int32)))), (8, .int ((x5 / (8 : Int32)) - (p1 / (8 : Int32)))), (7, .int ((jrem p2 (8 : Int32)) - (jrem p1 (8 : Int32)))), (6, .int ((p2 / (8 : Int32)) - (p1 / (8 : Int32)))), (5, .int x5), (4, .int c4), (3, .int x3), (0, .ref a_t), (1, .int p1), (2, .int p2)]) hx hb dX12_isClear_107 hl (by decide) rfl (fun ls hl => ?_)
            refine lv_iload hx hb dX12_isClear_109 (lv_at hl 1 rfl) ?_
            refine lv_if_le (tgt := 133) hx hb dX12_isClear_111 (by decide) (fun c9 => ?_) (fun c9 => ?_)
            · have hF := if_y c9 hF
              refine lv_iconst (v := (1 : Int32)) hx hb dX12_isClear_133 (by decide) ?_
              refine lv_goto (tgt := 138) hx hb dX12_isClear_134 (by decide) ?_
              refine lv_istore_n (lv' := [(3, .int (1 : Int32)), (11, .int ((((p2 / (8 : Int32)) - (p1 / (8 : Int32))) * ((jrem x5 (8 : Int32)) - (jrem p1 (8 : Int32)))) - (((jrem p2 (8 : Int32)) - (jrem p1 (8 : Int32))) * ((x5 / (8 : Int32)) - (p1 / (8 : Int32)))))), (10, .int ((((p2 / (8 : Int32)) - (p1 / (8 : Int32))) * ((x5 / (8 : Int32)) - (p1 / (8 : Int32)))) + (((jrem p2 (8 : Int32)) - (jrem p1 (8 : Int32))) * ((jrem x5 (8 : Int32)) - (jrem p1 (8 : Int32)))))), (9, .int ((jrem x5 (8 : Int32)) - (jrem p1 (8 : Int32)))), (8, .int ((x5 / (8 : Int32)) - (p1 / (8 : Int32)))), (7, .int ((jrem p2 (8 : Int32)) - (jrem p1 (8 : Int32)))), (6, .int ((p2 / (8 : Int32)) - (p1 / (8 : Int32)))), (5, .int x5), (4, .int c4), (0, .ref a_t), (1, .int p1), (2, .int p2)]) hx hb dX12_isClear_138 rfl hl (by decide) rfl (fun ls hl => ?_)
              refine lv_iinc (v := (x5 + (1 : Int32))) (lv' := [(5, .int (x5 + (1 : Int32))), (3, .int (1 : Int32)), (11, .int ((((p2 / (8 : Int32)) - (p1 / (8 : Int32))) * ((jrem x5 (8 : Int32)) - (jrem p1 (8 : Int32)))) - (((jrem p2 (8 : Int32)) - (jrem p1 (8 : Int32))) * ((x5 / (8 : Int32)) - (p1 / (8 : Int32)))))), (10, .int ((((p2 / (8 : Int32)) - (p1 / (8 : Int32))) * ((x5 / (8 : Int32)) - (p1 / (8 : Int32)))) + (((jrem p2 (8 : Int32)) - (jrem p1 (8 : Int32))) * ((jrem x5 (8 : Int32)) - (jrem p1 (8 : Int32)))))), (9, .int ((jrem x5 (8 : Int32)) - (jrem p1 (8 : Int32)))), (8, .int ((x5 / (8 : Int32)) - (p1 / (8 : Int32)))), (7, .int ((jrem p2 (8 : Int32)) - (jrem p1 (8 : Int32)))), (6, .int ((p2 / (8 : Int32)) - (p1 / (8 : Int32)))), (4, .int c4), (0, .ref a_t), (1, .int p1), (2, .int p2)]) hx hb dX12_isClear_139 hl (k := 7) rfl rfl (by decide) rfl (fun ls hl => ?_)
              refine lv_goto (tgt := 12) hx hb dX12_isClear_142 (by decide) ?_
              exact ih4 (1 : Int32) (x5 + (1 : Int32)) x3_2 _ _ _ hF hW (lv_sub hl [0, 8, 1, 9, 10, 11] rfl) hk3
            · have hF := if_n c9 hF
              refine lv_iload hx hb dX12_isClear_114 (lv_at hl 1 rfl) ?_
              refine lv_iload hx hb dX12_isClear_116 (lv_at hl 7 rfl) ?_
              refine lv_icmp_ge (tgt := 133) hx hb dX12_isClear_118 (by decide) (fun c10 => ?_) (fun c10 => ?_)
              · have hF := if_y c10 hF
                refine lv_iconst (v := (1 : Int32)) hx hb dX12_isClear_133 (by decide) ?_
                refine lv_goto (tgt := 138) hx hb dX12_isClear_134 (by decide) ?_
                refine lv_istore_n (lv' := [(3, .int (1 : Int32)), (11, .int ((((p2 / (8 : Int32)) - (p1 / (8 : Int32))) * ((jrem x5 (8 : Int32)) - (jrem p1 (8 : Int32)))) - (((jrem p2 (8 : Int32)) - (jrem p1 (8 : Int32))) * ((x5 / (8 : Int32)) - (p1 / (8 : Int32)))))), (10, .int ((((p2 / (8 : Int32)) - (p1 / (8 : Int32))) * ((x5 / (8 : Int32)) - (p1 / (8 : Int32)))) + (((jrem p2 (8 : Int32)) - (jrem p1 (8 : Int32))) * ((jrem x5 (8 : Int32)) - (jrem p1 (8 : Int32)))))), (9, .int ((jrem x5 (8 : Int32)) - (jrem p1 (8 : Int32)))), (8, .int ((x5 / (8 : Int32)) - (p1 / (8 : Int32)))), (7, .int ((jrem p2 (8 : Int32)) - (jrem p1 (8 : Int32)))), (6, .int ((p2 / (8 : Int32)) - (p1 / (8 : Int32)))), (5, .int x5), (4, .int c4), (0, .ref a_t), (1, .int p1), (2, .int p2)]) hx hb dX12_isClear_138 rfl hl (by decide) rfl (fun ls hl => ?_)
                refine lv_iinc (v := (x5 + (1 : Int32))) (lv' := [(5, .int (x5 + (1 : Int32))), (3, .int (1 : Int32)), (11, .int ((((p2 / (8 : Int32)) - (p1 / (8 : Int32))) * ((jrem x5 (8 : Int32)) - (jrem p1 (8 : Int32)))) - (((jrem p2 (8 : Int32)) - (jrem p1 (8 : Int32))) * ((x5 / (8 : Int32)) - (p1 / (8 : Int32)))))), (10, .int ((((p2 / (8 : Int32)) - (p1 / (8 : Int32))) * ((x5 / (8 : Int32)) - (p1 / (8 : Int32)))) + (((jrem p2 (8 : Int32)) - (jrem p1 (8 : Int32))) * ((jrem x5 (8 : Int32)) - (jrem p1 (8 : Int32)))))), (9, .int ((jrem x5 (8 : Int32)) - (jrem p1 (8 : Int32)))), (8, .int ((x5 / (8 : Int32)) - (p1 / (8 : Int32)))), (7, .int ((jrem p2 (8 : Int32)) - (jrem p1 (8 : Int32)))), (6, .int ((p2 / (8 : Int32)) - (p1 / (8 : Int32)))), (4, .int c4), (0, .ref a_t), (1, .int p1), (2, .int p2)]) hx hb dX12_isClear_139 hl (k := 7) rfl rfl (by decide) rfl (fun ls hl => ?_)
                refine lv_goto (tgt := 12) hx hb dX12_isClear_142 (by decide) ?_
                exact ih4 (1 : Int32) (x5 + (1 : Int32)) x3_2 _ _ _ hF hW (lv_sub hl [0, 8, 1, 9, 10, 11] rfl) hk3
              · have hF := if_n c10 hF
                refine lv_iconst (v := (4 : Int32)) hx hb dX12_isClear_121 (by decide) ?_
                refine lv_iload hx hb dX12_isClear_122 (lv_at hl 0 rfl) ?_
                refine lv_imul hx hb dX12_isClear_124 ?_
                refine lv_iload hx hb dX12_isClear_125 (lv_at hl 0 rfl) ?_
                refine lv_imul hx hb dX12_isClear_127 ?_
                refine lv_iload hx hb dX12_isClear_128 (lv_at hl 7 rfl) ?_
                refine lv_icmp_lt (tgt := 137) hx hb dX12_isClear_130 (by decide) (fun c11 => ?_) (fun c11 => ?_)
                · have hF := if_y c11 hF
                  refine lv_iconst (v := (0 : Int32)) hx hb dX12_isClear_137 (by decide) ?_
                  refine lv_istore_n (lv' := [(3, .int (0 : Int32)), (11, .int ((((p2 / (8 : Int32)) - (p1 / (8 : Int32))) * ((jrem x5 (8 : Int32)) - (jrem p1 (8 : Int32)))) - (((jrem p2 (8 : Int32)) - (jrem p1 (8 : Int32))) * ((x5 / (8 : Int32)) - (p1 / (8 : Int32)))))), (10, .int ((((p2 / (8 : Int32)) - (p1 / (8 : Int32))) * ((x5 / (8 : Int32)) - (p1 / (8 : Int32)))) + (((jrem p2 (8 : Int32)) - (jrem p1 (8 : Int32))) * ((jrem x5 (8 : Int32)) - (jrem p1 (8 : Int32)))))), (9, .int ((jrem x5 (8 : Int32)) - (jrem p1 (8 : Int32)))), (8, .int ((x5 / (8 : Int32)) - (p1 / (8 : Int32)))), (7, .int ((jrem p2 (8 : Int32)) - (jrem p1 (8 : Int32)))), (6, .int ((p2 / (8 : Int32)) - (p1 / (8 : Int32)))), (5, .int x5), (4, .int c4), (0, .ref a_t), (1, .int p1), (2, .int p2)]) hx hb dX12_isClear_138 rfl hl (by decide) rfl (fun ls hl => ?_)
                  refine lv_iinc (v := (x5 + (1 : Int32))) (lv' := [(5, .int (x5 + (1 : Int32))), (3, .int (0 : Int32)), (11, .int ((((p2 / (8 : Int32)) - (p1 / (8 : Int32))) * ((jrem x5 (8 : Int32)) - (jrem p1 (8 : Int32)))) - (((jrem p2 (8 : Int32)) - (jrem p1 (8 : Int32))) * ((x5 / (8 : Int32)) - (p1 / (8 : Int32)))))), (10, .int ((((p2 / (8 : Int32)) - (p1 / (8 : Int32))) * ((x5 / (8 : Int32)) - (p1 / (8 : Int32)))) + (((jrem p2 (8 : Int32)) - (jrem p1 (8 : Int32))) * ((jrem x5 (8 : Int32)) - (jrem p1 (8 : Int32)))))), (9, .int ((jrem x5 (8 : Int32)) - (jrem p1 (8 : Int32)))), (8, .int ((x5 / (8 : Int32)) - (p1 / (8 : Int32)))), (7, .int ((jrem p2 (8 : Int32)) - (jrem p1 (8 : Int32)))), (6, .int ((p2 / (8 : Int32)) - (p1 / (8 : Int32)))), (4, .int c4), (0, .ref a_t), (1, .int p1), (2, .int p2)]) hx hb dX12_isClear_139 hl (k := 7) rfl rfl (by decide) rfl (fun ls hl => ?_)
                  refine lv_goto (tgt := 12) hx hb dX12_isClear_142 (by decide) ?_
                  exact ih4 (0 : Int32) (x5 + (1 : Int32)) x3_2 _ _ _ hF hW (lv_sub hl [0, 8, 1, 9, 10, 11] rfl) hk3
                · have hF := if_n c11 hF
                  refine lv_iconst (v := (1 : Int32)) hx hb dX12_isClear_133 (by decide) ?_
                  refine lv_goto (tgt := 138) hx hb dX12_isClear_134 (by decide) ?_
                  refine lv_istore_n (lv' := [(3, .int (1 : Int32)), (11, .int ((((p2 / (8 : Int32)) - (p1 / (8 : Int32))) * ((jrem x5 (8 : Int32)) - (jrem p1 (8 : Int32)))) - (((jrem p2 (8 : Int32)) - (jrem p1 (8 : Int32))) * ((x5 / (8 : Int32)) - (p1 / (8 : Int32)))))), (10, .int ((((p2 / (8 : Int32)) - (p1 / (8 : Int32))) * ((x5 / (8 : Int32)) - (p1 / (8 : Int32)))) + (((jrem p2 (8 : Int32)) - (jrem p1 (8 : Int32))) * ((jrem x5 (8 : Int32)) - (jrem p1 (8 : Int32)))))), (9, .int ((jrem x5 (8 : Int32)) - (jrem p1 (8 : Int32)))), (8, .int ((x5 / (8 : Int32)) - (p1 / (8 : Int32)))), (7, .int ((jrem p2 (8 : Int32)) - (jrem p1 (8 : Int32)))), (6, .int ((p2 / (8 : Int32)) - (p1 / (8 : Int32)))), (5, .int x5), (4, .int c4), (0, .ref a_t), (1, .int p1), (2, .int p2)]) hx hb dX12_isClear_138 rfl hl (by decide) rfl (fun ls hl => ?_)
                  refine lv_iinc (v := (x5 + (1 : Int32))) (lv' := [(5, .int (x5 + (1 : Int32))), (3, .int (1 : Int32)), (11, .int ((((p2 / (8 : Int32)) - (p1 / (8 : Int32))) * ((jrem x5 (8 : Int32)) - (jrem p1 (8 : Int32)))) - (((jrem p2 (8 : Int32)) - (jrem p1 (8 : Int32))) * ((x5 / (8 : Int32)) - (p1 / (8 : Int32)))))), (10, .int ((((p2 / (8 : Int32)) - (p1 / (8 : Int32))) * ((x5 / (8 : Int32)) - (p1 / (8 : Int32)))) + (((jrem p2 (8 : Int32)) - (jrem p1 (8 : Int32))) * ((jrem x5 (8 : Int32)) - (jrem p1 (8 : Int32)))))), (9, .int ((jrem x5 (8 : Int32)) - (jrem p1 (8 : Int32)))), (8, .int ((x5 / (8 : Int32)) - (p1 / (8 : Int32)))), (7, .int ((jrem p2 (8 : Int32)) - (jrem p1 (8 : Int32)))), (6, .int ((p2 / (8 : Int32)) - (p1 / (8 : Int32)))), (4, .int c4), (0, .ref a_t), (1, .int p1), (2, .int p2)]) hx hb dX12_isClear_139 hl (k := 7) rfl rfl (by decide) rfl (fun ls hl => ?_)
                  refine lv_goto (tgt := 12) hx hb dX12_isClear_142 (by decide) ?_
                  exact ih4 (1 : Int32) (x5 + (1 : Int32)) x3_2 _ _ _ hF hW (lv_sub hl [0, 8, 1, 9, 10, 11] rfl) hk3
  subst ec4
  refine L1 N (1 : Int32) (0 : Int32) x3_2 _ _ _ hX2 hW (lv_sub hl [0, 1, 2, 3, 4, 5] rfl) ?_
  intro H locs ls hW hl
  clear L1
  refine lv_iload_n hx hb dX12_isClear_145 rfl (lv_at hl 0 rfl) ?_
  have hq := Option.some.inj hF
  subst hq
  exact hret _ _ _ _ _ rfl hW dX12_isClear_146
abbrev wd_R_areReading (E : m_E) (a_t : Nat) (a_t_images : Nat) (a_t_kept : Nat) (a_t_aside : Nat) (a_t_limbs : Nat) (a_t_wide : Nat) (a_t_hears : Nat) (a_t_spies : Nat) (a_t_known : Nat) (a_t_by : Nat) (a_t_ways : Nat) (a_t_fewest : Nat) (a_t_heavy : Nat) (a_t_sums : Nat) (a_t_faces : Nat) (a_t_bestFaces : Nat) (a_t_text : Nat) (a_t_verbs : Nat) (a_t_many : Nat) (a_t_nums : Nat) (a_t_book : Nat) (t_typed : Int32) (t_at : Int32) (t_start : Int32) (t_token : Int32) (t_value : Int32) (t_items : Int32) (t_book : Nat → Int32) : va_W := [(a_t, .inr (12, [.ref a_t_book, .ref a_t_images, .ref a_t_kept, .ref a_t_aside, .ref a_t_limbs, .ref a_t_wide, .ref a_t_hears, .ref a_t_spies, .ref a_t_known, .ref a_t_by, .ref a_t_ways, .ref a_t_fewest, .ref a_t_heavy, .ref a_t_sums, .ref a_t_faces, .ref a_t_bestFaces, .ref a_t_text, .int t_typed, .int t_at, .int t_start, .int t_token, .int t_value, .ref a_t_verbs, .ref a_t_many, .ref a_t_nums, .int t_items])), (a_t_book, .inl (E.2.1 0, 240, .inl t_book))]
def rm_R_areReading : Room := { frames := 2, cells := 0, slots := 0, locals := 54 }
set_option maxHeartbeats 4000000 in
set_option maxRecDepth 100000 in
theorem c_R_areReading (l : Launch) (E : m_E) (sz N : Nat) (a_t : Nat) (a_t_images : Nat) (a_t_kept : Nat) (a_t_aside : Nat) (a_t_limbs : Nat) (a_t_wide : Nat) (a_t_hears : Nat) (a_t_spies : Nat) (a_t_known : Nat) (a_t_by : Nat) (a_t_ways : Nat) (a_t_fewest : Nat) (a_t_heavy : Nat) (a_t_sums : Nat) (a_t_faces : Nat) (a_t_bestFaces : Nat) (a_t_text : Nat) (a_t_verbs : Nat) (a_t_many : Nat) (a_t_nums : Nat) (a_t_book : Nat) (t_typed : Int32) (t_at : Int32) (t_start : Int32) (t_token : Int32) (t_value : Int32) (t_items : Int32) (t_book : Nat → Int32) (p1 : Int32) (p2 : Int32) (p3 : Int32) (p4 : Int32) (ures : Int32) (hF : F_R_areReading N p1 p2 p3 p4 t_book = some ures) : m_Met l yX12_areReading cX12_areReading 5 (some .boolean) rm_R_areReading E (wd_R_areReading E a_t a_t_images a_t_kept a_t_aside a_t_limbs a_t_wide a_t_hears a_t_spies a_t_known a_t_by a_t_ways a_t_fewest a_t_heavy a_t_sums a_t_faces a_t_bestFaces a_t_text a_t_verbs a_t_many a_t_nums a_t_book t_typed t_at t_start t_token t_value t_items t_book) (wd_R_areReading E a_t a_t_images a_t_kept a_t_aside a_t_limbs a_t_wide a_t_hears a_t_spies a_t_known a_t_by a_t_ways a_t_fewest a_t_heavy a_t_sums a_t_faces a_t_bestFaces a_t_text a_t_verbs a_t_many a_t_nums a_t_book t_typed t_at t_start t_token t_value t_items t_book) sz [.ref a_t, .int p1, .int p2, .int p3, .int p4] (some (.int ures)) := by
  refine m_ofZ (by decide) (Nat.le_of_ble_eq_true rfl) ?_
  intro p e s m args below meth c A Q ls X hW hA hl hret
  obtain ⟨hx, hb, -, hown, hts, hK, -, hG⟩ := id X
  have hl : lv_has ls 5 [(0, .ref a_t), (1, .int p1), (2, .int p2), (3, .int p3), (4, .int p4)] := hl
  unfold F_R_areReading at hF
  refine lv_iload_n hx hb dX12_areReading_0 rfl (lv_at hl 1 rfl) ?_
  refine lv_iload_n hx hb dX12_areReading_1 rfl (lv_at hl 3 rfl) ?_
  refine lv_iload_n hx hb dX12_areReading_2 rfl (lv_at hl 2 rfl) ?_
  refine m_callS X hW hA hl.1 lkX12_140 (c_R_toward l E _ N   p1 p3 p2 (F_R_toward p1 p3 p2) rfl) ([]) (by decide) rfl rfl (ws' := (wd_R_areReading E a_t a_t_images a_t_kept a_t_aside a_t_limbs a_t_wide a_t_hears a_t_spies a_t_known a_t_by a_t_ways a_t_fewest a_t_heavy a_t_sums a_t_faces a_t_bestFaces a_t_text a_t_verbs a_t_many a_t_nums a_t_book t_typed t_at t_start t_token t_value t_items t_book)) rfl (As := [.int p1, .int p3, .int p2]) (rest := []) rfl rfl ⟨rfl, rfl, Nat.le_of_ble_eq_true rfl, Nat.le_of_ble_eq_true rfl⟩ (Nat.le_of_ble_eq_true rfl) (Nat.zero_le _) (Nat.zero_le _) dX12_areReading_3 (fun H locs hW => ?_)
  refine lv_if_le (tgt := 47) hx hb dX12_areReading_6 (by decide) (fun c1 => ?_) (fun c1 => ?_)
  · have hF := if_y c1 hF
    refine lv_iconst (v := (0 : Int32)) hx hb dX12_areReading_47 (by decide) ?_
    have hq := Option.some.inj hF
    subst hq
    exact hret _ _ _ _ _ rfl hW dX12_areReading_48
  · have hF := if_n c1 hF
    refine lv_iload_n hx hb dX12_areReading_9 rfl (lv_at hl 3 rfl) ?_
    refine lv_iload_n hx hb dX12_areReading_10 rfl (lv_at hl 1 rfl) ?_
    refine lv_iload hx hb dX12_areReading_11 (lv_at hl 4 rfl) ?_
    refine m_callS X hW hA hl.1 lkX12_140 (c_R_toward l E _ N   p3 p1 p4 (F_R_toward p3 p1 p4) rfl) ([]) (by decide) rfl rfl (ws' := (wd_R_areReading E a_t a_t_images a_t_kept a_t_aside a_t_limbs a_t_wide a_t_hears a_t_spies a_t_known a_t_by a_t_ways a_t_fewest a_t_heavy a_t_sums a_t_faces a_t_bestFaces a_t_text a_t_verbs a_t_many a_t_nums a_t_book t_typed t_at t_start t_token t_value t_items t_book)) rfl (As := [.int p3, .int p1, .int p4]) (rest := []) rfl rfl ⟨rfl, rfl, Nat.le_of_ble_eq_true rfl, Nat.le_of_ble_eq_true rfl⟩ (Nat.le_of_ble_eq_true rfl) (Nat.zero_le _) (Nat.zero_le _) dX12_areReading_13 (fun H locs hW => ?_)
    refine lv_if_le (tgt := 47) hx hb dX12_areReading_16 (by decide) (fun c2 => ?_) (fun c2 => ?_)
    · have hF := if_y c2 hF
      refine lv_iconst (v := (0 : Int32)) hx hb dX12_areReading_47 (by decide) ?_
      have hq := Option.some.inj hF
      subst hq
      exact hret _ _ _ _ _ rfl hW dX12_areReading_48
    · have hF := if_n c2 hF
      refine lv_iload_n hx hb dX12_areReading_19 rfl (lv_at hl 1 rfl) ?_
      refine lv_iload_n hx hb dX12_areReading_20 rfl (lv_at hl 3 rfl) ?_
      refine m_callS X hW hA hl.1 lkX12_137 (c_R_square l E _ N   p1 p3 (F_R_square p1 p3) rfl) ([]) (by decide) rfl rfl (ws' := (wd_R_areReading E a_t a_t_images a_t_kept a_t_aside a_t_limbs a_t_wide a_t_hears a_t_spies a_t_known a_t_by a_t_ways a_t_fewest a_t_heavy a_t_sums a_t_faces a_t_bestFaces a_t_text a_t_verbs a_t_many a_t_nums a_t_book t_typed t_at t_start t_token t_value t_items t_book)) rfl (As := [.int p1, .int p3]) (rest := []) rfl rfl ⟨rfl, rfl, Nat.le_of_ble_eq_true rfl, Nat.le_of_ble_eq_true rfl⟩ (Nat.le_of_ble_eq_true rfl) (Nat.zero_le _) (Nat.zero_le _) dX12_areReading_21 (fun H locs hW => ?_)
      refine lv_aload_n hx hb dX12_areReading_24 rfl (lv_at hl 0 rfl) ?_
      refine m_get X hW fdX12_7 0 rfl rfl dX12_areReading_25 ?_
      refine lv_bipush (v := (6 : Int32)) hx hb dX12_areReading_28 (by decide) ?_
      refine m_iald X hW 1 (k := 6) rfl (by decide) rfl dX12_areReading_30 ?_
      refine lv_icmp_gt (tgt := 47) hx hb dX12_areReading_31 (by decide) (fun c3 => ?_) (fun c3 => ?_)
      · have hF := if_y c3 hF
        refine lv_iconst (v := (0 : Int32)) hx hb dX12_areReading_47 (by decide) ?_
        have hq := Option.some.inj hF
        subst hq
        exact hret _ _ _ _ _ rfl hW dX12_areReading_48
      · have hF := if_n c3 hF
        refine lv_aload_n hx hb dX12_areReading_34 rfl (lv_at hl 0 rfl) ?_
        refine lv_iload_n hx hb dX12_areReading_35 rfl (lv_at hl 1 rfl) ?_
        refine lv_iload_n hx hb dX12_areReading_36 rfl (lv_at hl 3 rfl) ?_
        obtain ⟨r37, hC4, hF⟩ := bO_s1 hF
        refine m_callV X hW hA hl.1 lkX12_144 (c_R_isClear l E _ N a_t a_t_images a_t_kept a_t_aside a_t_limbs a_t_wide a_t_hears a_t_spies a_t_known a_t_by a_t_ways a_t_fewest a_t_heavy a_t_sums a_t_faces a_t_bestFaces a_t_text a_t_verbs a_t_many a_t_nums a_t_book t_typed t_at t_start t_token t_value t_items t_book p1 p3 r37 hC4) ([0, 1]) (by decide) rfl rfl (ws' := (wd_R_areReading E a_t a_t_images a_t_kept a_t_aside a_t_limbs a_t_wide a_t_hears a_t_spies a_t_known a_t_by a_t_ways a_t_fewest a_t_heavy a_t_sums a_t_faces a_t_bestFaces a_t_text a_t_verbs a_t_many a_t_nums a_t_book t_typed t_at t_start t_token t_value t_items t_book)) rfl 0 rfl rfl rfl (As := [.int p1, .int p3]) (rest := []) rfl rfl ⟨rfl, rfl, Nat.le_of_ble_eq_true rfl, Nat.le_of_ble_eq_true rfl⟩ (Nat.le_of_ble_eq_true rfl) (Nat.zero_le _) (Nat.zero_le _) dX12_areReading_37 (fun H locs hW => ?_)
        clear hC4
        refine lv_if_eq (tgt := 47) hx hb dX12_areReading_40 (by decide) (fun c5 => ?_) (fun c5 => ?_)
        · have hF := if_y c5 hF
          refine lv_iconst (v := (0 : Int32)) hx hb dX12_areReading_47 (by decide) ?_
          have hq := Option.some.inj hF
          subst hq
          exact hret _ _ _ _ _ rfl hW dX12_areReading_48
        · have hF := if_n c5 hF
          refine lv_iconst (v := (1 : Int32)) hx hb dX12_areReading_43 (by decide) ?_
          refine lv_goto (tgt := 48) hx hb dX12_areReading_44 (by decide) ?_
          have hq := Option.some.inj hF
          subst hq
          exact hret _ _ _ _ _ rfl hW dX12_areReading_48
abbrev wd_R_areFacing (E : m_E) (a_t : Nat) (a_t_images : Nat) (a_t_kept : Nat) (a_t_aside : Nat) (a_t_limbs : Nat) (a_t_wide : Nat) (a_t_hears : Nat) (a_t_spies : Nat) (a_t_known : Nat) (a_t_by : Nat) (a_t_ways : Nat) (a_t_fewest : Nat) (a_t_heavy : Nat) (a_t_sums : Nat) (a_t_faces : Nat) (a_t_bestFaces : Nat) (a_t_text : Nat) (a_t_verbs : Nat) (a_t_many : Nat) (a_t_nums : Nat) (a_t_book : Nat) (t_typed : Int32) (t_at : Int32) (t_start : Int32) (t_token : Int32) (t_value : Int32) (t_items : Int32) (t_book : Nat → Int32) : va_W := [(a_t, .inr (12, [.ref a_t_book, .ref a_t_images, .ref a_t_kept, .ref a_t_aside, .ref a_t_limbs, .ref a_t_wide, .ref a_t_hears, .ref a_t_spies, .ref a_t_known, .ref a_t_by, .ref a_t_ways, .ref a_t_fewest, .ref a_t_heavy, .ref a_t_sums, .ref a_t_faces, .ref a_t_bestFaces, .ref a_t_text, .int t_typed, .int t_at, .int t_start, .int t_token, .int t_value, .ref a_t_verbs, .ref a_t_many, .ref a_t_nums, .int t_items])), (a_t_book, .inl (E.2.1 0, 240, .inl t_book))]
def rm_R_areFacing : Room := { frames := 3, cells := 0, slots := 0, locals := 78 }
set_option maxHeartbeats 4000000 in
set_option maxRecDepth 100000 in
theorem c_R_areFacing (l : Launch) (E : m_E) (sz N : Nat) (a_t : Nat) (a_t_images : Nat) (a_t_kept : Nat) (a_t_aside : Nat) (a_t_limbs : Nat) (a_t_wide : Nat) (a_t_hears : Nat) (a_t_spies : Nat) (a_t_known : Nat) (a_t_by : Nat) (a_t_ways : Nat) (a_t_fewest : Nat) (a_t_heavy : Nat) (a_t_sums : Nat) (a_t_faces : Nat) (a_t_bestFaces : Nat) (a_t_text : Nat) (a_t_verbs : Nat) (a_t_many : Nat) (a_t_nums : Nat) (a_t_book : Nat) (t_typed : Int32) (t_at : Int32) (t_start : Int32) (t_token : Int32) (t_value : Int32) (t_items : Int32) (t_book : Nat → Int32) (p1 : Int32) (p2 : Int32) (ures : Int32) (hF : F_R_areFacing N p1 p2 t_book = some ures) : m_Met l yX12_areFacing cX12_areFacing 3 (some .boolean) rm_R_areFacing E (wd_R_areFacing E a_t a_t_images a_t_kept a_t_aside a_t_limbs a_t_wide a_t_hears a_t_spies a_t_known a_t_by a_t_ways a_t_fewest a_t_heavy a_t_sums a_t_faces a_t_bestFaces a_t_text a_t_verbs a_t_many a_t_nums a_t_book t_typed t_at t_start t_token t_value t_items t_book) (wd_R_areFacing E a_t a_t_images a_t_kept a_t_aside a_t_limbs a_t_wide a_t_hears a_t_spies a_t_known a_t_by a_t_ways a_t_fewest a_t_heavy a_t_sums a_t_faces a_t_bestFaces a_t_text a_t_verbs a_t_many a_t_nums a_t_book t_typed t_at t_start t_token t_value t_items t_book) sz [.ref a_t, .int p1, .int p2] (some (.int ures)) := by
  refine m_ofZ (by decide) (Nat.le_of_ble_eq_true rfl) ?_
  intro p e s m args below meth c A Q ls X hW hA hl hret
  obtain ⟨hx, hb, -, hown, hts, hK, -, hG⟩ := id X
  have hl : lv_has ls 3 [(0, .ref a_t), (1, .int p1), (2, .int p2)] := hl
  unfold F_R_areFacing at hF
  refine lv_aload_n hx hb dX12_areFacing_0 rfl (lv_at hl 0 rfl) ?_
  refine lv_aload_n hx hb dX12_areFacing_1 rfl (lv_at hl 0 rfl) ?_
  refine lv_iload_n hx hb dX12_areFacing_2 rfl (lv_at hl 1 rfl) ?_
  obtain ⟨r3, hC1, hF⟩ := bO_s1 hF
  refine m_callV X hW hA hl.1 lkX12_115 (c_R_placeOf l E _ N a_t a_t_images a_t_kept a_t_aside a_t_limbs a_t_wide a_t_hears a_t_spies a_t_known a_t_by a_t_ways a_t_fewest a_t_heavy a_t_sums a_t_faces a_t_bestFaces a_t_text a_t_verbs a_t_many a_t_nums a_t_book t_typed t_at t_start t_token t_value t_items t_book p1 r3 hC1) ([0, 1]) (by decide) rfl rfl (ws' := (wd_R_areFacing E a_t a_t_images a_t_kept a_t_aside a_t_limbs a_t_wide a_t_hears a_t_spies a_t_known a_t_by a_t_ways a_t_fewest a_t_heavy a_t_sums a_t_faces a_t_bestFaces a_t_text a_t_verbs a_t_many a_t_nums a_t_book t_typed t_at t_start t_token t_value t_items t_book)) rfl 0 rfl rfl rfl (As := [.int p1]) (rest := [.ref a_t]) rfl rfl ⟨rfl, rfl, Nat.le_of_ble_eq_true rfl, Nat.le_of_ble_eq_true rfl⟩ (Nat.le_of_ble_eq_true rfl) (Nat.zero_le _) (Nat.zero_le _) dX12_areFacing_3 (fun H locs hW => ?_)
  clear hC1
  refine lv_aload_n hx hb dX12_areFacing_6 rfl (lv_at hl 0 rfl) ?_
  refine lv_iload_n hx hb dX12_areFacing_7 rfl (lv_at hl 1 rfl) ?_
  obtain ⟨r8, hC2, hF⟩ := bO_s1 hF
  refine m_callV X hW hA hl.1 lkX12_148 (c_R_faceOf l E _ N a_t a_t_images a_t_kept a_t_aside a_t_limbs a_t_wide a_t_hears a_t_spies a_t_known a_t_by a_t_ways a_t_fewest a_t_heavy a_t_sums a_t_faces a_t_bestFaces a_t_text a_t_verbs a_t_many a_t_nums a_t_book t_typed t_at t_start t_token t_value t_items t_book p1 r8 hC2) ([0, 1]) (by decide) rfl rfl (ws' := (wd_R_areFacing E a_t a_t_images a_t_kept a_t_aside a_t_limbs a_t_wide a_t_hears a_t_spies a_t_known a_t_by a_t_ways a_t_fewest a_t_heavy a_t_sums a_t_faces a_t_bestFaces a_t_text a_t_verbs a_t_many a_t_nums a_t_book t_typed t_at t_start t_token t_value t_items t_book)) rfl 0 rfl rfl rfl (As := [.int p1]) (rest := [.int r3, .ref a_t]) rfl rfl ⟨rfl, rfl, Nat.le_of_ble_eq_true rfl, Nat.le_of_ble_eq_true rfl⟩ (Nat.le_of_ble_eq_true rfl) (Nat.zero_le _) (Nat.zero_le _) dX12_areFacing_8 (fun H locs hW => ?_)
  clear hC2
  refine lv_aload_n hx hb dX12_areFacing_11 rfl (lv_at hl 0 rfl) ?_
  refine lv_iload_n hx hb dX12_areFacing_12 rfl (lv_at hl 2 rfl) ?_
  obtain ⟨r13, hC3, hF⟩ := bO_s1 hF
  refine m_callV X hW hA hl.1 lkX12_115 (c_R_placeOf l E _ N a_t a_t_images a_t_kept a_t_aside a_t_limbs a_t_wide a_t_hears a_t_spies a_t_known a_t_by a_t_ways a_t_fewest a_t_heavy a_t_sums a_t_faces a_t_bestFaces a_t_text a_t_verbs a_t_many a_t_nums a_t_book t_typed t_at t_start t_token t_value t_items t_book p2 r13 hC3) ([0, 1]) (by decide) rfl rfl (ws' := (wd_R_areFacing E a_t a_t_images a_t_kept a_t_aside a_t_limbs a_t_wide a_t_hears a_t_spies a_t_known a_t_by a_t_ways a_t_fewest a_t_heavy a_t_sums a_t_faces a_t_bestFaces a_t_text a_t_verbs a_t_many a_t_nums a_t_book t_typed t_at t_start t_token t_value t_items t_book)) rfl 0 rfl rfl rfl (As := [.int p2]) (rest := [.int r8, .int r3, .ref a_t]) rfl rfl ⟨rfl, rfl, Nat.le_of_ble_eq_true rfl, Nat.le_of_ble_eq_true rfl⟩ (Nat.le_of_ble_eq_true rfl) (Nat.zero_le _) (Nat.zero_le _) dX12_areFacing_13 (fun H locs hW => ?_)
  clear hC3
  refine lv_aload_n hx hb dX12_areFacing_16 rfl (lv_at hl 0 rfl) ?_
  refine lv_iload_n hx hb dX12_areFacing_17 rfl (lv_at hl 2 rfl) ?_
  obtain ⟨r18, hC4, hF⟩ := bO_s1 hF
  refine m_callV X hW hA hl.1 lkX12_148 (c_R_faceOf l E _ N a_t a_t_images a_t_kept a_t_aside a_t_limbs a_t_wide a_t_hears a_t_spies a_t_known a_t_by a_t_ways a_t_fewest a_t_heavy a_t_sums a_t_faces a_t_bestFaces a_t_text a_t_verbs a_t_many a_t_nums a_t_book t_typed t_at t_start t_token t_value t_items t_book p2 r18 hC4) ([0, 1]) (by decide) rfl rfl (ws' := (wd_R_areFacing E a_t a_t_images a_t_kept a_t_aside a_t_limbs a_t_wide a_t_hears a_t_spies a_t_known a_t_by a_t_ways a_t_fewest a_t_heavy a_t_sums a_t_faces a_t_bestFaces a_t_text a_t_verbs a_t_many a_t_nums a_t_book t_typed t_at t_start t_token t_value t_items t_book)) rfl 0 rfl rfl rfl (As := [.int p2]) (rest := [.int r13, .int r8, .int r3, .ref a_t]) rfl rfl ⟨rfl, rfl, Nat.le_of_ble_eq_true rfl, Nat.le_of_ble_eq_true rfl⟩ (Nat.le_of_ble_eq_true rfl) (Nat.zero_le _) (Nat.zero_le _) dX12_areFacing_18 (fun H locs hW => ?_)
  clear hC4
  obtain ⟨r21, hC5, hF⟩ := bO_s1 hF
  refine m_callV X hW hA hl.1 lkX12_151 (c_R_areReading l E _ N a_t a_t_images a_t_kept a_t_aside a_t_limbs a_t_wide a_t_hears a_t_spies a_t_known a_t_by a_t_ways a_t_fewest a_t_heavy a_t_sums a_t_faces a_t_bestFaces a_t_text a_t_verbs a_t_many a_t_nums a_t_book t_typed t_at t_start t_token t_value t_items t_book r3 r8 r13 r18 r21 hC5) ([0, 1]) (by decide) rfl rfl (ws' := (wd_R_areFacing E a_t a_t_images a_t_kept a_t_aside a_t_limbs a_t_wide a_t_hears a_t_spies a_t_known a_t_by a_t_ways a_t_fewest a_t_heavy a_t_sums a_t_faces a_t_bestFaces a_t_text a_t_verbs a_t_many a_t_nums a_t_book t_typed t_at t_start t_token t_value t_items t_book)) rfl 0 rfl rfl rfl (As := [.int r3, .int r8, .int r13, .int r18]) (rest := []) rfl rfl ⟨rfl, rfl, Nat.le_of_ble_eq_true rfl, Nat.le_of_ble_eq_true rfl⟩ (Nat.le_of_ble_eq_true rfl) (Nat.zero_le _) (Nat.zero_le _) dX12_areFacing_21 (fun H locs hW => ?_)
  clear hC5
  have hq := Option.some.inj hF
  subst hq
  exact hret _ _ _ _ _ rfl hW dX12_areFacing_24
abbrev wd_R_watches (E : m_E) (a_t : Nat) (a_t_images : Nat) (a_t_kept : Nat) (a_t_aside : Nat) (a_t_limbs : Nat) (a_t_wide : Nat) (a_t_hears : Nat) (a_t_spies : Nat) (a_t_known : Nat) (a_t_by : Nat) (a_t_ways : Nat) (a_t_fewest : Nat) (a_t_heavy : Nat) (a_t_sums : Nat) (a_t_faces : Nat) (a_t_bestFaces : Nat) (a_t_text : Nat) (a_t_verbs : Nat) (a_t_many : Nat) (a_t_nums : Nat) (a_t_book : Nat) (t_typed : Int32) (t_at : Int32) (t_start : Int32) (t_token : Int32) (t_value : Int32) (t_items : Int32) (t_book : Nat → Int32) : va_W := [(a_t, .inr (12, [.ref a_t_book, .ref a_t_images, .ref a_t_kept, .ref a_t_aside, .ref a_t_limbs, .ref a_t_wide, .ref a_t_hears, .ref a_t_spies, .ref a_t_known, .ref a_t_by, .ref a_t_ways, .ref a_t_fewest, .ref a_t_heavy, .ref a_t_sums, .ref a_t_faces, .ref a_t_bestFaces, .ref a_t_text, .int t_typed, .int t_at, .int t_start, .int t_token, .int t_value, .ref a_t_verbs, .ref a_t_many, .ref a_t_nums, .int t_items])), (a_t_book, .inl (E.2.1 0, 240, .inl t_book))]
def rm_R_watches : Room := { frames := 2, cells := 0, slots := 0, locals := 54 }
set_option maxHeartbeats 4000000 in
set_option maxRecDepth 100000 in
theorem c_R_watches (l : Launch) (E : m_E) (sz N : Nat) (a_t : Nat) (a_t_images : Nat) (a_t_kept : Nat) (a_t_aside : Nat) (a_t_limbs : Nat) (a_t_wide : Nat) (a_t_hears : Nat) (a_t_spies : Nat) (a_t_known : Nat) (a_t_by : Nat) (a_t_ways : Nat) (a_t_fewest : Nat) (a_t_heavy : Nat) (a_t_sums : Nat) (a_t_faces : Nat) (a_t_bestFaces : Nat) (a_t_text : Nat) (a_t_verbs : Nat) (a_t_many : Nat) (a_t_nums : Nat) (a_t_book : Nat) (t_typed : Int32) (t_at : Int32) (t_start : Int32) (t_token : Int32) (t_value : Int32) (t_items : Int32) (t_book : Nat → Int32) (p1 : Int32) (p2 : Int32) (ures : Int32) (hF : F_R_watches N p1 p2 t_book = some ures) : m_Met l yX12_watches cX12_watches 5 (some .boolean) rm_R_watches E (wd_R_watches E a_t a_t_images a_t_kept a_t_aside a_t_limbs a_t_wide a_t_hears a_t_spies a_t_known a_t_by a_t_ways a_t_fewest a_t_heavy a_t_sums a_t_faces a_t_bestFaces a_t_text a_t_verbs a_t_many a_t_nums a_t_book t_typed t_at t_start t_token t_value t_items t_book) (wd_R_watches E a_t a_t_images a_t_kept a_t_aside a_t_limbs a_t_wide a_t_hears a_t_spies a_t_known a_t_by a_t_ways a_t_fewest a_t_heavy a_t_sums a_t_faces a_t_bestFaces a_t_text a_t_verbs a_t_many a_t_nums a_t_book t_typed t_at t_start t_token t_value t_items t_book) sz [.ref a_t, .int p1, .int p2] (some (.int ures)) := by
  refine m_ofZ (by decide) (Nat.le_of_ble_eq_true rfl) ?_
  intro p e s m args below meth c A Q ls X hW hA hl hret
  obtain ⟨hx, hb, -, hown, hts, hK, -, hG⟩ := id X
  have hl : lv_has ls 5 [(0, .ref a_t), (1, .int p1), (2, .int p2)] := hl
  unfold F_R_watches at hF
  refine lv_aload_n hx hb dX12_watches_0 rfl (lv_at hl 0 rfl) ?_
  refine lv_iload_n hx hb dX12_watches_1 rfl (lv_at hl 1 rfl) ?_
  obtain ⟨r2, hC1, hF⟩ := bO_s1 hF
  refine m_callV X hW hA hl.1 lkX12_115 (c_R_placeOf l E _ N a_t a_t_images a_t_kept a_t_aside a_t_limbs a_t_wide a_t_hears a_t_spies a_t_known a_t_by a_t_ways a_t_fewest a_t_heavy a_t_sums a_t_faces a_t_bestFaces a_t_text a_t_verbs a_t_many a_t_nums a_t_book t_typed t_at t_start t_token t_value t_items t_book p1 r2 hC1) ([0, 1]) (by decide) rfl rfl (ws' := (wd_R_watches E a_t a_t_images a_t_kept a_t_aside a_t_limbs a_t_wide a_t_hears a_t_spies a_t_known a_t_by a_t_ways a_t_fewest a_t_heavy a_t_sums a_t_faces a_t_bestFaces a_t_text a_t_verbs a_t_many a_t_nums a_t_book t_typed t_at t_start t_token t_value t_items t_book)) rfl 0 rfl rfl rfl (As := [.int p1]) (rest := []) rfl rfl ⟨rfl, rfl, Nat.le_of_ble_eq_true rfl, Nat.le_of_ble_eq_true rfl⟩ (Nat.le_of_ble_eq_true rfl) (Nat.zero_le _) (Nat.zero_le _) dX12_watches_2 (fun H locs hW => ?_)
  clear hC1
  refine lv_istore_n (lv' := [(3, .int r2), (0, .ref a_t), (1, .int p1), (2, .int p2)]) hx hb dX12_watches_5 rfl hl (by decide) rfl (fun ls hl => ?_)
  refine lv_aload_n hx hb dX12_watches_6 rfl (lv_at hl 1 rfl) ?_
  refine lv_iload_n hx hb dX12_watches_7 rfl (lv_at hl 3 rfl) ?_
  obtain ⟨r8, hC2, hF⟩ := bO_s1 hF
  refine m_callV X hW hA hl.1 lkX12_115 (c_R_placeOf l E _ N a_t a_t_images a_t_kept a_t_aside a_t_limbs a_t_wide a_t_hears a_t_spies a_t_known a_t_by a_t_ways a_t_fewest a_t_heavy a_t_sums a_t_faces a_t_bestFaces a_t_text a_t_verbs a_t_many a_t_nums a_t_book t_typed t_at t_start t_token t_value t_items t_book p2 r8 hC2) ([0, 1]) (by decide) rfl rfl (ws' := (wd_R_watches E a_t a_t_images a_t_kept a_t_aside a_t_limbs a_t_wide a_t_hears a_t_spies a_t_known a_t_by a_t_ways a_t_fewest a_t_heavy a_t_sums a_t_faces a_t_bestFaces a_t_text a_t_verbs a_t_many a_t_nums a_t_book t_typed t_at t_start t_token t_value t_items t_book)) rfl 0 rfl rfl rfl (As := [.int p2]) (rest := []) rfl rfl ⟨rfl, rfl, Nat.le_of_ble_eq_true rfl, Nat.le_of_ble_eq_true rfl⟩ (Nat.le_of_ble_eq_true rfl) (Nat.zero_le _) (Nat.zero_le _) dX12_watches_8 (fun H locs hW => ?_)
  clear hC2
  refine lv_istore (lv' := [(4, .int r8), (3, .int r2), (0, .ref a_t), (1, .int p1), (2, .int p2)]) hx hb dX12_watches_11 hl (by decide) rfl (fun ls hl => ?_)
  refine lv_iload_n hx hb dX12_watches_13 rfl (lv_at hl 1 rfl) ?_
  refine lv_iload hx hb dX12_watches_14 (lv_at hl 0 rfl) ?_
  refine lv_aload_n hx hb dX12_watches_16 rfl (lv_at hl 2 rfl) ?_
  refine lv_iload_n hx hb dX12_watches_17 rfl (lv_at hl 3 rfl) ?_
  obtain ⟨r18, hC3, hF⟩ := bO_s1 hF
  refine m_callV X hW hA hl.1 lkX12_148 (c_R_faceOf l E _ N a_t a_t_images a_t_kept a_t_aside a_t_limbs a_t_wide a_t_hears a_t_spies a_t_known a_t_by a_t_ways a_t_fewest a_t_heavy a_t_sums a_t_faces a_t_bestFaces a_t_text a_t_verbs a_t_many a_t_nums a_t_book t_typed t_at t_start t_token t_value t_items t_book p1 r18 hC3) ([0, 1]) (by decide) rfl rfl (ws' := (wd_R_watches E a_t a_t_images a_t_kept a_t_aside a_t_limbs a_t_wide a_t_hears a_t_spies a_t_known a_t_by a_t_ways a_t_fewest a_t_heavy a_t_sums a_t_faces a_t_bestFaces a_t_text a_t_verbs a_t_many a_t_nums a_t_book t_typed t_at t_start t_token t_value t_items t_book)) rfl 0 rfl rfl rfl (As := [.int p1]) (rest := [.int r8, .int r2]) rfl rfl ⟨rfl, rfl, Nat.le_of_ble_eq_true rfl, Nat.le_of_ble_eq_true rfl⟩ (Nat.le_of_ble_eq_true rfl) (Nat.zero_le _) (Nat.zero_le _) dX12_watches_18 (fun H locs hW => ?_)
  clear hC3
  refine m_callS X hW hA hl.1 lkX12_140 (c_R_toward l E _ N   r2 r8 r18 (F_R_toward r2 r8 r18) rfl) ([]) (by decide) rfl rfl (ws' := (wd_R_watches E a_t a_t_images a_t_kept a_t_aside a_t_limbs a_t_wide a_t_hears a_t_spies a_t_known a_t_by a_t_ways a_t_fewest a_t_heavy a_t_sums a_t_faces a_t_bestFaces a_t_text a_t_verbs a_t_many a_t_nums a_t_book t_typed t_at t_start t_token t_value t_items t_book)) rfl (As := [.int r2, .int r8, .int r18]) (rest := []) rfl rfl ⟨rfl, rfl, Nat.le_of_ble_eq_true rfl, Nat.le_of_ble_eq_true rfl⟩ (Nat.le_of_ble_eq_true rfl) (Nat.zero_le _) (Nat.zero_le _) dX12_watches_21 (fun H locs hW => ?_)
  refine lv_if_le (tgt := 71) hx hb dX12_watches_24 (by decide) (fun c4 => ?_) (fun c4 => ?_)
  · have hF := if_y c4 hF
    refine lv_iconst (v := (0 : Int32)) hx hb dX12_watches_71 (by decide) ?_
    have hq := Option.some.inj hF
    subst hq
    exact hret _ _ _ _ _ rfl hW dX12_watches_72
  · have hF := if_n c4 hF
    refine lv_iload hx hb dX12_watches_27 (lv_at hl 0 rfl) ?_
    refine lv_iload_n hx hb dX12_watches_29 rfl (lv_at hl 1 rfl) ?_
    refine lv_aload_n hx hb dX12_watches_30 rfl (lv_at hl 2 rfl) ?_
    refine lv_iload_n hx hb dX12_watches_31 rfl (lv_at hl 4 rfl) ?_
    obtain ⟨r32, hC5, hF⟩ := bO_s1 hF
    refine m_callV X hW hA hl.1 lkX12_148 (c_R_faceOf l E _ N a_t a_t_images a_t_kept a_t_aside a_t_limbs a_t_wide a_t_hears a_t_spies a_t_known a_t_by a_t_ways a_t_fewest a_t_heavy a_t_sums a_t_faces a_t_bestFaces a_t_text a_t_verbs a_t_many a_t_nums a_t_book t_typed t_at t_start t_token t_value t_items t_book p2 r32 hC5) ([0, 1]) (by decide) rfl rfl (ws' := (wd_R_watches E a_t a_t_images a_t_kept a_t_aside a_t_limbs a_t_wide a_t_hears a_t_spies a_t_known a_t_by a_t_ways a_t_fewest a_t_heavy a_t_sums a_t_faces a_t_bestFaces a_t_text a_t_verbs a_t_many a_t_nums a_t_book t_typed t_at t_start t_token t_value t_items t_book)) rfl 0 rfl rfl rfl (As := [.int p2]) (rest := [.int r2, .int r8]) rfl rfl ⟨rfl, rfl, Nat.le_of_ble_eq_true rfl, Nat.le_of_ble_eq_true rfl⟩ (Nat.le_of_ble_eq_true rfl) (Nat.zero_le _) (Nat.zero_le _) dX12_watches_32 (fun H locs hW => ?_)
    clear hC5
    refine m_callS X hW hA hl.1 lkX12_140 (c_R_toward l E _ N   r8 r2 r32 (F_R_toward r8 r2 r32) rfl) ([]) (by decide) rfl rfl (ws' := (wd_R_watches E a_t a_t_images a_t_kept a_t_aside a_t_limbs a_t_wide a_t_hears a_t_spies a_t_known a_t_by a_t_ways a_t_fewest a_t_heavy a_t_sums a_t_faces a_t_bestFaces a_t_text a_t_verbs a_t_many a_t_nums a_t_book t_typed t_at t_start t_token t_value t_items t_book)) rfl (As := [.int r8, .int r2, .int r32]) (rest := []) rfl rfl ⟨rfl, rfl, Nat.le_of_ble_eq_true rfl, Nat.le_of_ble_eq_true rfl⟩ (Nat.le_of_ble_eq_true rfl) (Nat.zero_le _) (Nat.zero_le _) dX12_watches_35 (fun H locs hW => ?_)
    refine lv_if_lt (tgt := 71) hx hb dX12_watches_38 (by decide) (fun c6 => ?_) (fun c6 => ?_)
    · have hF := if_y c6 hF
      refine lv_iconst (v := (0 : Int32)) hx hb dX12_watches_71 (by decide) ?_
      have hq := Option.some.inj hF
      subst hq
      exact hret _ _ _ _ _ rfl hW dX12_watches_72
    · have hF := if_n c6 hF
      refine lv_iload_n hx hb dX12_watches_41 rfl (lv_at hl 1 rfl) ?_
      refine lv_iload hx hb dX12_watches_42 (lv_at hl 0 rfl) ?_
      refine m_callS X hW hA hl.1 lkX12_137 (c_R_square l E _ N   r2 r8 (F_R_square r2 r8) rfl) ([]) (by decide) rfl rfl (ws' := (wd_R_watches E a_t a_t_images a_t_kept a_t_aside a_t_limbs a_t_wide a_t_hears a_t_spies a_t_known a_t_by a_t_ways a_t_fewest a_t_heavy a_t_sums a_t_faces a_t_bestFaces a_t_text a_t_verbs a_t_many a_t_nums a_t_book t_typed t_at t_start t_token t_value t_items t_book)) rfl (As := [.int r2, .int r8]) (rest := []) rfl rfl ⟨rfl, rfl, Nat.le_of_ble_eq_true rfl, Nat.le_of_ble_eq_true rfl⟩ (Nat.le_of_ble_eq_true rfl) (Nat.zero_le _) (Nat.zero_le _) dX12_watches_44 (fun H locs hW => ?_)
      refine lv_aload_n hx hb dX12_watches_47 rfl (lv_at hl 2 rfl) ?_
      refine m_get X hW fdX12_7 0 rfl rfl dX12_watches_48 ?_
      refine lv_bipush (v := (7 : Int32)) hx hb dX12_watches_51 (by decide) ?_
      refine m_iald X hW 1 (k := 7) rfl (by decide) rfl dX12_watches_53 ?_
      refine lv_icmp_gt (tgt := 71) hx hb dX12_watches_54 (by decide) (fun c7 => ?_) (fun c7 => ?_)
      · have hF := if_y c7 hF
        refine lv_iconst (v := (0 : Int32)) hx hb dX12_watches_71 (by decide) ?_
        have hq := Option.some.inj hF
        subst hq
        exact hret _ _ _ _ _ rfl hW dX12_watches_72
      · have hF := if_n c7 hF
        refine lv_aload_n hx hb dX12_watches_57 rfl (lv_at hl 2 rfl) ?_
        refine lv_iload_n hx hb dX12_watches_58 rfl (lv_at hl 1 rfl) ?_
        refine lv_iload hx hb dX12_watches_59 (lv_at hl 0 rfl) ?_
        obtain ⟨r61, hC8, hF⟩ := bO_s1 hF
        refine m_callV X hW hA hl.1 lkX12_144 (c_R_isClear l E _ N a_t a_t_images a_t_kept a_t_aside a_t_limbs a_t_wide a_t_hears a_t_spies a_t_known a_t_by a_t_ways a_t_fewest a_t_heavy a_t_sums a_t_faces a_t_bestFaces a_t_text a_t_verbs a_t_many a_t_nums a_t_book t_typed t_at t_start t_token t_value t_items t_book r2 r8 r61 hC8) ([0, 1]) (by decide) rfl rfl (ws' := (wd_R_watches E a_t a_t_images a_t_kept a_t_aside a_t_limbs a_t_wide a_t_hears a_t_spies a_t_known a_t_by a_t_ways a_t_fewest a_t_heavy a_t_sums a_t_faces a_t_bestFaces a_t_text a_t_verbs a_t_many a_t_nums a_t_book t_typed t_at t_start t_token t_value t_items t_book)) rfl 0 rfl rfl rfl (As := [.int r2, .int r8]) (rest := []) rfl rfl ⟨rfl, rfl, Nat.le_of_ble_eq_true rfl, Nat.le_of_ble_eq_true rfl⟩ (Nat.le_of_ble_eq_true rfl) (Nat.zero_le _) (Nat.zero_le _) dX12_watches_61 (fun H locs hW => ?_)
        clear hC8
        refine lv_if_eq (tgt := 71) hx hb dX12_watches_64 (by decide) (fun c9 => ?_) (fun c9 => ?_)
        · have hF := if_y c9 hF
          refine lv_iconst (v := (0 : Int32)) hx hb dX12_watches_71 (by decide) ?_
          have hq := Option.some.inj hF
          subst hq
          exact hret _ _ _ _ _ rfl hW dX12_watches_72
        · have hF := if_n c9 hF
          refine lv_iconst (v := (1 : Int32)) hx hb dX12_watches_67 (by decide) ?_
          refine lv_goto (tgt := 72) hx hb dX12_watches_68 (by decide) ?_
          have hq := Option.some.inj hF
          subst hq
          exact hret _ _ _ _ _ rfl hW dX12_watches_72
abbrev wd_R_areTwo (E : m_E) (a_t : Nat) (a_t_images : Nat) (a_t_kept : Nat) (a_t_aside : Nat) (a_t_limbs : Nat) (a_t_wide : Nat) (a_t_hears : Nat) (a_t_spies : Nat) (a_t_known : Nat) (a_t_by : Nat) (a_t_ways : Nat) (a_t_fewest : Nat) (a_t_heavy : Nat) (a_t_sums : Nat) (a_t_faces : Nat) (a_t_bestFaces : Nat) (a_t_text : Nat) (a_t_verbs : Nat) (a_t_many : Nat) (a_t_nums : Nat) (a_t_book : Nat) (t_typed : Int32) (t_at : Int32) (t_start : Int32) (t_token : Int32) (t_value : Int32) (t_items : Int32) (t_book : Nat → Int32) : va_W := [(a_t, .inr (12, [.ref a_t_book, .ref a_t_images, .ref a_t_kept, .ref a_t_aside, .ref a_t_limbs, .ref a_t_wide, .ref a_t_hears, .ref a_t_spies, .ref a_t_known, .ref a_t_by, .ref a_t_ways, .ref a_t_fewest, .ref a_t_heavy, .ref a_t_sums, .ref a_t_faces, .ref a_t_bestFaces, .ref a_t_text, .int t_typed, .int t_at, .int t_start, .int t_token, .int t_value, .ref a_t_verbs, .ref a_t_many, .ref a_t_nums, .int t_items])), (a_t_book, .inl (E.2.1 0, 240, .inl t_book))]
def rm_R_areTwo : Room := { frames := 2, cells := 0, slots := 0, locals := 46 }
set_option maxHeartbeats 4000000 in
set_option maxRecDepth 100000 in
theorem c_R_areTwo (l : Launch) (E : m_E) (sz N : Nat) (a_t : Nat) (a_t_images : Nat) (a_t_kept : Nat) (a_t_aside : Nat) (a_t_limbs : Nat) (a_t_wide : Nat) (a_t_hears : Nat) (a_t_spies : Nat) (a_t_known : Nat) (a_t_by : Nat) (a_t_ways : Nat) (a_t_fewest : Nat) (a_t_heavy : Nat) (a_t_sums : Nat) (a_t_faces : Nat) (a_t_bestFaces : Nat) (a_t_text : Nat) (a_t_verbs : Nat) (a_t_many : Nat) (a_t_nums : Nat) (a_t_book : Nat) (t_typed : Int32) (t_at : Int32) (t_start : Int32) (t_token : Int32) (t_value : Int32) (t_items : Int32) (t_book : Nat → Int32) (p1 : Int32) (p2 : Int32) (ures : Int32) (hF : F_R_areTwo p1 p2 t_book = ures) : m_Met l yX12_areTwo cX12_areTwo 3 (some .boolean) rm_R_areTwo E (wd_R_areTwo E a_t a_t_images a_t_kept a_t_aside a_t_limbs a_t_wide a_t_hears a_t_spies a_t_known a_t_by a_t_ways a_t_fewest a_t_heavy a_t_sums a_t_faces a_t_bestFaces a_t_text a_t_verbs a_t_many a_t_nums a_t_book t_typed t_at t_start t_token t_value t_items t_book) (wd_R_areTwo E a_t a_t_images a_t_kept a_t_aside a_t_limbs a_t_wide a_t_hears a_t_spies a_t_known a_t_by a_t_ways a_t_fewest a_t_heavy a_t_sums a_t_faces a_t_bestFaces a_t_text a_t_verbs a_t_many a_t_nums a_t_book t_typed t_at t_start t_token t_value t_items t_book) sz [.ref a_t, .int p1, .int p2] (some (.int ures)) := by
  refine m_ofZ (by decide) (Nat.le_of_ble_eq_true rfl) ?_
  intro p e s m args below meth c A Q ls X hW hA hl hret
  obtain ⟨hx, hb, -, hown, hts, hK, -, hG⟩ := id X
  have hl : lv_has ls 3 [(0, .ref a_t), (1, .int p1), (2, .int p2)] := hl
  unfold F_R_areTwo at hF
  refine lv_aload_n hx hb dX12_areTwo_0 rfl (lv_at hl 0 rfl) ?_
  refine lv_iload_n hx hb dX12_areTwo_1 rfl (lv_at hl 1 rfl) ?_
  refine m_callV X hW hA hl.1 lkX12_127 (c_R_isWeaver l E _ N a_t a_t_images a_t_kept a_t_aside a_t_limbs a_t_wide a_t_hears a_t_spies a_t_known a_t_by a_t_ways a_t_fewest a_t_heavy a_t_sums a_t_faces a_t_bestFaces a_t_text a_t_verbs a_t_many a_t_nums a_t_book t_typed t_at t_start t_token t_value t_items t_book p1 (F_R_isWeaver p1 t_book) rfl) ([0, 1]) (by decide) rfl rfl (ws' := (wd_R_areTwo E a_t a_t_images a_t_kept a_t_aside a_t_limbs a_t_wide a_t_hears a_t_spies a_t_known a_t_by a_t_ways a_t_fewest a_t_heavy a_t_sums a_t_faces a_t_bestFaces a_t_text a_t_verbs a_t_many a_t_nums a_t_book t_typed t_at t_start t_token t_value t_items t_book)) rfl 0 rfl rfl rfl (As := [.int p1]) (rest := []) rfl rfl ⟨rfl, rfl, Nat.le_of_ble_eq_true rfl, Nat.le_of_ble_eq_true rfl⟩ (Nat.le_of_ble_eq_true rfl) (Nat.zero_le _) (Nat.zero_le _) dX12_areTwo_2 (fun H locs hW => ?_)
  refine lv_if_eq (tgt := 25) hx hb dX12_areTwo_5 (by decide) (fun c1 => ?_) (fun c1 => ?_)
  · have hF := if_y c1 hF
    refine lv_iconst (v := (0 : Int32)) hx hb dX12_areTwo_25 (by decide) ?_
    have hq := hF
    subst hq
    exact hret _ _ _ _ _ rfl hW dX12_areTwo_26
  · have hF := if_n c1 hF
    refine lv_aload_n hx hb dX12_areTwo_8 rfl (lv_at hl 0 rfl) ?_
    refine lv_iload_n hx hb dX12_areTwo_9 rfl (lv_at hl 2 rfl) ?_
    refine m_callV X hW hA hl.1 lkX12_127 (c_R_isWeaver l E _ N a_t a_t_images a_t_kept a_t_aside a_t_limbs a_t_wide a_t_hears a_t_spies a_t_known a_t_by a_t_ways a_t_fewest a_t_heavy a_t_sums a_t_faces a_t_bestFaces a_t_text a_t_verbs a_t_many a_t_nums a_t_book t_typed t_at t_start t_token t_value t_items t_book p2 (F_R_isWeaver p2 t_book) rfl) ([0, 1]) (by decide) rfl rfl (ws' := (wd_R_areTwo E a_t a_t_images a_t_kept a_t_aside a_t_limbs a_t_wide a_t_hears a_t_spies a_t_known a_t_by a_t_ways a_t_fewest a_t_heavy a_t_sums a_t_faces a_t_bestFaces a_t_text a_t_verbs a_t_many a_t_nums a_t_book t_typed t_at t_start t_token t_value t_items t_book)) rfl 0 rfl rfl rfl (As := [.int p2]) (rest := []) rfl rfl ⟨rfl, rfl, Nat.le_of_ble_eq_true rfl, Nat.le_of_ble_eq_true rfl⟩ (Nat.le_of_ble_eq_true rfl) (Nat.zero_le _) (Nat.zero_le _) dX12_areTwo_10 (fun H locs hW => ?_)
    refine lv_if_eq (tgt := 25) hx hb dX12_areTwo_13 (by decide) (fun c2 => ?_) (fun c2 => ?_)
    · have hF := if_y c2 hF
      refine lv_iconst (v := (0 : Int32)) hx hb dX12_areTwo_25 (by decide) ?_
      have hq := hF
      subst hq
      exact hret _ _ _ _ _ rfl hW dX12_areTwo_26
    · have hF := if_n c2 hF
      refine lv_iload_n hx hb dX12_areTwo_16 rfl (lv_at hl 1 rfl) ?_
      refine lv_iload_n hx hb dX12_areTwo_17 rfl (lv_at hl 2 rfl) ?_
      refine lv_icmp_eq (tgt := 25) hx hb dX12_areTwo_18 (by decide) (fun c3 => ?_) (fun c3 => ?_)
      · have hF := if_y c3 hF
        refine lv_iconst (v := (0 : Int32)) hx hb dX12_areTwo_25 (by decide) ?_
        have hq := hF
        subst hq
        exact hret _ _ _ _ _ rfl hW dX12_areTwo_26
      · have hF := if_n c3 hF
        refine lv_iconst (v := (1 : Int32)) hx hb dX12_areTwo_21 (by decide) ?_
        refine lv_goto (tgt := 26) hx hb dX12_areTwo_22 (by decide) ?_
        have hq := hF
        subst hq
        exact hret _ _ _ _ _ rfl hW dX12_areTwo_26
abbrev wd_R_sees (E : m_E) (a_t : Nat) (a_t_images : Nat) (a_t_kept : Nat) (a_t_aside : Nat) (a_t_limbs : Nat) (a_t_wide : Nat) (a_t_hears : Nat) (a_t_spies : Nat) (a_t_known : Nat) (a_t_by : Nat) (a_t_ways : Nat) (a_t_fewest : Nat) (a_t_heavy : Nat) (a_t_sums : Nat) (a_t_faces : Nat) (a_t_bestFaces : Nat) (a_t_text : Nat) (a_t_verbs : Nat) (a_t_many : Nat) (a_t_nums : Nat) (a_t_book : Nat) (t_typed : Int32) (t_at : Int32) (t_start : Int32) (t_token : Int32) (t_value : Int32) (t_items : Int32) (t_book : Nat → Int32) : va_W := [(a_t, .inr (12, [.ref a_t_book, .ref a_t_images, .ref a_t_kept, .ref a_t_aside, .ref a_t_limbs, .ref a_t_wide, .ref a_t_hears, .ref a_t_spies, .ref a_t_known, .ref a_t_by, .ref a_t_ways, .ref a_t_fewest, .ref a_t_heavy, .ref a_t_sums, .ref a_t_faces, .ref a_t_bestFaces, .ref a_t_text, .int t_typed, .int t_at, .int t_start, .int t_token, .int t_value, .ref a_t_verbs, .ref a_t_many, .ref a_t_nums, .int t_items])), (a_t_book, .inl (E.2.1 0, 240, .inl t_book))]
def rm_R_sees : Room := { frames := 4, cells := 0, slots := 0, locals := 100 }
set_option maxHeartbeats 4000000 in
set_option maxRecDepth 100000 in
theorem c_R_sees (l : Launch) (E : m_E) (sz N : Nat) (a_t : Nat) (a_t_images : Nat) (a_t_kept : Nat) (a_t_aside : Nat) (a_t_limbs : Nat) (a_t_wide : Nat) (a_t_hears : Nat) (a_t_spies : Nat) (a_t_known : Nat) (a_t_by : Nat) (a_t_ways : Nat) (a_t_fewest : Nat) (a_t_heavy : Nat) (a_t_sums : Nat) (a_t_faces : Nat) (a_t_bestFaces : Nat) (a_t_text : Nat) (a_t_verbs : Nat) (a_t_many : Nat) (a_t_nums : Nat) (a_t_book : Nat) (t_typed : Int32) (t_at : Int32) (t_start : Int32) (t_token : Int32) (t_value : Int32) (t_items : Int32) (t_book : Nat → Int32) (p1 : Int32) (p2 : Int32) (p3 : Int32) (ures : Int32) (hF : F_R_sees N p1 p2 p3 t_book = some ures) : m_Met l yX12_sees cX12_sees 5 (some .int) rm_R_sees E (wd_R_sees E a_t a_t_images a_t_kept a_t_aside a_t_limbs a_t_wide a_t_hears a_t_spies a_t_known a_t_by a_t_ways a_t_fewest a_t_heavy a_t_sums a_t_faces a_t_bestFaces a_t_text a_t_verbs a_t_many a_t_nums a_t_book t_typed t_at t_start t_token t_value t_items t_book) (wd_R_sees E a_t a_t_images a_t_kept a_t_aside a_t_limbs a_t_wide a_t_hears a_t_spies a_t_known a_t_by a_t_ways a_t_fewest a_t_heavy a_t_sums a_t_faces a_t_bestFaces a_t_text a_t_verbs a_t_many a_t_nums a_t_book t_typed t_at t_start t_token t_value t_items t_book) sz [.ref a_t, .int p1, .int p2, .int p3] (some (.int ures)) := by
  refine m_ofI (by decide) (Nat.le_of_ble_eq_true rfl) ?_
  intro p e s m args below meth c A Q ls X hW hA hl hret
  obtain ⟨hx, hb, -, hown, hts, hK, -, hG⟩ := id X
  have hl : lv_has ls 5 [(0, .ref a_t), (1, .int p1), (2, .int p2), (3, .int p3)] := hl
  unfold F_R_sees at hF
  refine lv_aload_n hx hb dX12_sees_0 rfl (lv_at hl 0 rfl) ?_
  refine lv_iload_n hx hb dX12_sees_1 rfl (lv_at hl 1 rfl) ?_
  refine lv_iload_n hx hb dX12_sees_2 rfl (lv_at hl 2 rfl) ?_
  refine m_callV X hW hA hl.1 lkX12_155 (c_R_areTwo l E _ N a_t a_t_images a_t_kept a_t_aside a_t_limbs a_t_wide a_t_hears a_t_spies a_t_known a_t_by a_t_ways a_t_fewest a_t_heavy a_t_sums a_t_faces a_t_bestFaces a_t_text a_t_verbs a_t_many a_t_nums a_t_book t_typed t_at t_start t_token t_value t_items t_book p1 p2 (F_R_areTwo p1 p2 t_book) rfl) ([0, 1]) (by decide) rfl rfl (ws' := (wd_R_sees E a_t a_t_images a_t_kept a_t_aside a_t_limbs a_t_wide a_t_hears a_t_spies a_t_known a_t_by a_t_ways a_t_fewest a_t_heavy a_t_sums a_t_faces a_t_bestFaces a_t_text a_t_verbs a_t_many a_t_nums a_t_book t_typed t_at t_start t_token t_value t_items t_book)) rfl 0 rfl rfl rfl (As := [.int p1, .int p2]) (rest := []) rfl rfl ⟨rfl, rfl, Nat.le_of_ble_eq_true rfl, Nat.le_of_ble_eq_true rfl⟩ (Nat.le_of_ble_eq_true rfl) (Nat.zero_le _) (Nat.zero_le _) dX12_sees_3 (fun H locs hW => ?_)
  refine lv_if_eq (tgt := 19) hx hb dX12_sees_6 (by decide) (fun c1 => ?_) (fun c1 => ?_)
  · have hF := if_y c1 hF
    refine lv_bipush (v := (-2 : Int32)) hx hb dX12_sees_19 (by decide) ?_
    have hq := Option.some.inj hF
    subst hq
    exact hret _ _ _ _ hW dX12_sees_21
  · have hF := if_n c1 hF
    refine lv_iload_n hx hb dX12_sees_9 rfl (lv_at hl 3 rfl) ?_
    refine lv_i2l (v := p3.toInt64) hx hb dX12_sees_10 rfl ?_
    refine lv_lconst (v := (0 : Int64)) hx hb dX12_sees_11 (by decide) ?_
    refine lv_lconst (v := (1 : Int64)) hx hb dX12_sees_12 (by decide) ?_
    refine m_callS X hW hA hl.1 lkX12_109 (c_R_in l E _ N   p3.toInt64 (0 : Int64) (1 : Int64) (F_R_in p3.toInt64 (0 : Int64) (1 : Int64)) rfl) ([]) (by decide) rfl rfl (ws' := (wd_R_sees E a_t a_t_images a_t_kept a_t_aside a_t_limbs a_t_wide a_t_hears a_t_spies a_t_known a_t_by a_t_ways a_t_fewest a_t_heavy a_t_sums a_t_faces a_t_bestFaces a_t_text a_t_verbs a_t_many a_t_nums a_t_book t_typed t_at t_start t_token t_value t_items t_book)) rfl (As := [.long p3.toInt64, .long (0 : Int64), .long (1 : Int64)]) (rest := []) rfl rfl ⟨rfl, rfl, Nat.le_of_ble_eq_true rfl, Nat.le_of_ble_eq_true rfl⟩ (Nat.le_of_ble_eq_true rfl) (Nat.zero_le _) (Nat.zero_le _) dX12_sees_13 (fun H locs hW => ?_)
    refine lv_if_ne (tgt := 22) hx hb dX12_sees_16 (by decide) (fun c2 => ?_) (fun c2 => ?_)
    · have hF := if_n c2 hF
      refine lv_iload_n hx hb dX12_sees_22 rfl (lv_at hl 3 rfl) ?_
      obtain ⟨y0, hX4, hF⟩ := bO_s1 hF
      have J3 : ∀ (H : Heap) (locs : List Loc) (ls : Array Slot), m_H E A (wd_R_sees E a_t a_t_images a_t_kept a_t_aside a_t_limbs a_t_wide a_t_hears a_t_spies a_t_known a_t_by a_t_ways a_t_fewest a_t_heavy a_t_sums a_t_faces a_t_bestFaces a_t_text a_t_verbs a_t_many a_t_nums a_t_book t_typed t_at t_start t_token t_value t_items t_book) s.heap H locs → lv_has ls 5 [] → W p l e rm_R_sees s m args below meth c H locs 0 0 Q (F0 m 41 ls [.int y0]) := by
        intro H locs ls hW hl
        refine lv_istore (lv' := [(4, .int y0)]) hx hb dX12_sees_41 hl (by decide) rfl (fun ls hl => ?_)
        refine lv_iload hx hb dX12_sees_43 (lv_at hl 0 rfl) ?_
        refine lv_if_eq (tgt := 52) hx hb dX12_sees_45 (by decide) (fun c5 => ?_) (fun c5 => ?_)
        · have hF := if_y c5 hF
          refine lv_iconst (v := (0 : Int32)) hx hb dX12_sees_52 (by decide) ?_
          have hq := Option.some.inj hF
          subst hq
          exact hret _ _ _ _ hW dX12_sees_53
        · have hF := if_n c5 hF
          refine lv_iconst (v := (1 : Int32)) hx hb dX12_sees_48 (by decide) ?_
          refine lv_goto (tgt := 53) hx hb dX12_sees_49 (by decide) ?_
          have hq := Option.some.inj hF
          subst hq
          exact hret _ _ _ _ hW dX12_sees_53
      clear hF
      have hF := hX4
      clear hX4
      refine lv_if_ne (tgt := 35) hx hb dX12_sees_23 (by decide) (fun c6 => ?_) (fun c6 => ?_)
      · have hF := if_n c6 hF
        refine lv_aload_n hx hb dX12_sees_35 rfl (lv_at hl 0 rfl) ?_
        refine lv_iload_n hx hb dX12_sees_36 rfl (lv_at hl 1 rfl) ?_
        refine lv_iload_n hx hb dX12_sees_37 rfl (lv_at hl 2 rfl) ?_
        obtain ⟨r38, hC7, hF⟩ := bO_s1 hF
        refine m_callV X hW hA hl.1 lkX12_161 (c_R_watches l E _ N a_t a_t_images a_t_kept a_t_aside a_t_limbs a_t_wide a_t_hears a_t_spies a_t_known a_t_by a_t_ways a_t_fewest a_t_heavy a_t_sums a_t_faces a_t_bestFaces a_t_text a_t_verbs a_t_many a_t_nums a_t_book t_typed t_at t_start t_token t_value t_items t_book p1 p2 r38 hC7) ([0, 1]) (by decide) rfl rfl (ws' := (wd_R_sees E a_t a_t_images a_t_kept a_t_aside a_t_limbs a_t_wide a_t_hears a_t_spies a_t_known a_t_by a_t_ways a_t_fewest a_t_heavy a_t_sums a_t_faces a_t_bestFaces a_t_text a_t_verbs a_t_many a_t_nums a_t_book t_typed t_at t_start t_token t_value t_items t_book)) rfl 0 rfl rfl rfl (As := [.int p1, .int p2]) (rest := []) rfl rfl ⟨rfl, rfl, Nat.le_of_ble_eq_true rfl, Nat.le_of_ble_eq_true rfl⟩ (Nat.le_of_ble_eq_true rfl) (Nat.zero_le _) (Nat.zero_le _) dX12_sees_38 (fun H locs hW => ?_)
        clear hC7
        cases hF
        exact J3 _ _ _ hW (lv_sub hl [] rfl)
      · have hF := if_y c6 hF
        refine lv_aload_n hx hb dX12_sees_26 rfl (lv_at hl 0 rfl) ?_
        refine lv_iload_n hx hb dX12_sees_27 rfl (lv_at hl 1 rfl) ?_
        refine lv_iload_n hx hb dX12_sees_28 rfl (lv_at hl 2 rfl) ?_
        obtain ⟨r29, hC8, hF⟩ := bO_s1 hF
        refine m_callV X hW hA hl.1 lkX12_158 (c_R_areFacing l E _ N a_t a_t_images a_t_kept a_t_aside a_t_limbs a_t_wide a_t_hears a_t_spies a_t_known a_t_by a_t_ways a_t_fewest a_t_heavy a_t_sums a_t_faces a_t_bestFaces a_t_text a_t_verbs a_t_many a_t_nums a_t_book t_typed t_at t_start t_token t_value t_items t_book p1 p2 r29 hC8) ([0, 1]) (by decide) rfl rfl (ws' := (wd_R_sees E a_t a_t_images a_t_kept a_t_aside a_t_limbs a_t_wide a_t_hears a_t_spies a_t_known a_t_by a_t_ways a_t_fewest a_t_heavy a_t_sums a_t_faces a_t_bestFaces a_t_text a_t_verbs a_t_many a_t_nums a_t_book t_typed t_at t_start t_token t_value t_items t_book)) rfl 0 rfl rfl rfl (As := [.int p1, .int p2]) (rest := []) rfl rfl ⟨rfl, rfl, Nat.le_of_ble_eq_true rfl, Nat.le_of_ble_eq_true rfl⟩ (Nat.le_of_ble_eq_true rfl) (Nat.zero_le _) (Nat.zero_le _) dX12_sees_29 (fun H locs hW => ?_)
        clear hC8
        refine lv_goto (tgt := 41) hx hb dX12_sees_32 (by decide) ?_
        cases hF
        exact J3 _ _ _ hW (lv_sub hl [] rfl)
    · have hF := if_y c2 hF
      refine lv_bipush (v := (-2 : Int32)) hx hb dX12_sees_19 (by decide) ?_
      have hq := Option.some.inj hF
      subst hq
      exact hret _ _ _ _ hW dX12_sees_21
abbrev wd_R_clear (E : m_E) (a_t : Nat) (a_t_images : Nat) (a_t_kept : Nat) (a_t_aside : Nat) (a_t_limbs : Nat) (a_t_wide : Nat) (a_t_hears : Nat) (a_t_spies : Nat) (a_t_known : Nat) (a_t_by : Nat) (a_t_ways : Nat) (a_t_fewest : Nat) (a_t_heavy : Nat) (a_t_sums : Nat) (a_t_faces : Nat) (a_t_bestFaces : Nat) (a_t_text : Nat) (a_t_verbs : Nat) (a_t_many : Nat) (a_t_nums : Nat) (a_t_book : Nat) (t_typed : Int32) (t_at : Int32) (t_start : Int32) (t_token : Int32) (t_value : Int32) (t_items : Int32) (t_book : Nat → Int32) : va_W := [(a_t, .inr (12, [.ref a_t_book, .ref a_t_images, .ref a_t_kept, .ref a_t_aside, .ref a_t_limbs, .ref a_t_wide, .ref a_t_hears, .ref a_t_spies, .ref a_t_known, .ref a_t_by, .ref a_t_ways, .ref a_t_fewest, .ref a_t_heavy, .ref a_t_sums, .ref a_t_faces, .ref a_t_bestFaces, .ref a_t_text, .int t_typed, .int t_at, .int t_start, .int t_token, .int t_value, .ref a_t_verbs, .ref a_t_many, .ref a_t_nums, .int t_items])), (a_t_book, .inl (E.2.1 0, 240, .inl t_book))]
def rm_R_clear : Room := { frames := 3, cells := 0, slots := 0, locals := 68 }
set_option maxHeartbeats 4000000 in
set_option maxRecDepth 100000 in
theorem c_R_clear (l : Launch) (E : m_E) (sz N : Nat) (a_t : Nat) (a_t_images : Nat) (a_t_kept : Nat) (a_t_aside : Nat) (a_t_limbs : Nat) (a_t_wide : Nat) (a_t_hears : Nat) (a_t_spies : Nat) (a_t_known : Nat) (a_t_by : Nat) (a_t_ways : Nat) (a_t_fewest : Nat) (a_t_heavy : Nat) (a_t_sums : Nat) (a_t_faces : Nat) (a_t_bestFaces : Nat) (a_t_text : Nat) (a_t_verbs : Nat) (a_t_many : Nat) (a_t_nums : Nat) (a_t_book : Nat) (t_typed : Int32) (t_at : Int32) (t_start : Int32) (t_token : Int32) (t_value : Int32) (t_items : Int32) (t_book : Nat → Int32) (p1 : Int32) (p2 : Int32) (ures : Int32) (hF : F_R_clear N p1 p2 t_book = some ures) : m_Met l yX12_clear cX12_clear 3 (some .int) rm_R_clear E (wd_R_clear E a_t a_t_images a_t_kept a_t_aside a_t_limbs a_t_wide a_t_hears a_t_spies a_t_known a_t_by a_t_ways a_t_fewest a_t_heavy a_t_sums a_t_faces a_t_bestFaces a_t_text a_t_verbs a_t_many a_t_nums a_t_book t_typed t_at t_start t_token t_value t_items t_book) (wd_R_clear E a_t a_t_images a_t_kept a_t_aside a_t_limbs a_t_wide a_t_hears a_t_spies a_t_known a_t_by a_t_ways a_t_fewest a_t_heavy a_t_sums a_t_faces a_t_bestFaces a_t_text a_t_verbs a_t_many a_t_nums a_t_book t_typed t_at t_start t_token t_value t_items t_book) sz [.ref a_t, .int p1, .int p2] (some (.int ures)) := by
  refine m_ofI (by decide) (Nat.le_of_ble_eq_true rfl) ?_
  intro p e s m args below meth c A Q ls X hW hA hl hret
  obtain ⟨hx, hb, -, hown, hts, hK, -, hG⟩ := id X
  have hl : lv_has ls 3 [(0, .ref a_t), (1, .int p1), (2, .int p2)] := hl
  unfold F_R_clear at hF
  refine lv_aload_n hx hb dX12_clear_0 rfl (lv_at hl 0 rfl) ?_
  refine lv_iload_n hx hb dX12_clear_1 rfl (lv_at hl 1 rfl) ?_
  refine lv_iload_n hx hb dX12_clear_2 rfl (lv_at hl 2 rfl) ?_
  refine m_callV X hW hA hl.1 lkX12_155 (c_R_areTwo l E _ N a_t a_t_images a_t_kept a_t_aside a_t_limbs a_t_wide a_t_hears a_t_spies a_t_known a_t_by a_t_ways a_t_fewest a_t_heavy a_t_sums a_t_faces a_t_bestFaces a_t_text a_t_verbs a_t_many a_t_nums a_t_book t_typed t_at t_start t_token t_value t_items t_book p1 p2 (F_R_areTwo p1 p2 t_book) rfl) ([0, 1]) (by decide) rfl rfl (ws' := (wd_R_clear E a_t a_t_images a_t_kept a_t_aside a_t_limbs a_t_wide a_t_hears a_t_spies a_t_known a_t_by a_t_ways a_t_fewest a_t_heavy a_t_sums a_t_faces a_t_bestFaces a_t_text a_t_verbs a_t_many a_t_nums a_t_book t_typed t_at t_start t_token t_value t_items t_book)) rfl 0 rfl rfl rfl (As := [.int p1, .int p2]) (rest := []) rfl rfl ⟨rfl, rfl, Nat.le_of_ble_eq_true rfl, Nat.le_of_ble_eq_true rfl⟩ (Nat.le_of_ble_eq_true rfl) (Nat.zero_le _) (Nat.zero_le _) dX12_clear_3 (fun H locs hW => ?_)
  refine lv_if_ne (tgt := 14) hx hb dX12_clear_6 (by decide) (fun c1 => ?_) (fun c1 => ?_)
  · have hF := if_n c1 hF
    refine lv_aload_n hx hb dX12_clear_14 rfl (lv_at hl 0 rfl) ?_
    refine lv_aload_n hx hb dX12_clear_15 rfl (lv_at hl 0 rfl) ?_
    refine lv_iload_n hx hb dX12_clear_16 rfl (lv_at hl 1 rfl) ?_
    obtain ⟨r17, hC2, hF⟩ := bO_s1 hF
    refine m_callV X hW hA hl.1 lkX12_115 (c_R_placeOf l E _ N a_t a_t_images a_t_kept a_t_aside a_t_limbs a_t_wide a_t_hears a_t_spies a_t_known a_t_by a_t_ways a_t_fewest a_t_heavy a_t_sums a_t_faces a_t_bestFaces a_t_text a_t_verbs a_t_many a_t_nums a_t_book t_typed t_at t_start t_token t_value t_items t_book p1 r17 hC2) ([0, 1]) (by decide) rfl rfl (ws' := (wd_R_clear E a_t a_t_images a_t_kept a_t_aside a_t_limbs a_t_wide a_t_hears a_t_spies a_t_known a_t_by a_t_ways a_t_fewest a_t_heavy a_t_sums a_t_faces a_t_bestFaces a_t_text a_t_verbs a_t_many a_t_nums a_t_book t_typed t_at t_start t_token t_value t_items t_book)) rfl 0 rfl rfl rfl (As := [.int p1]) (rest := [.ref a_t]) rfl rfl ⟨rfl, rfl, Nat.le_of_ble_eq_true rfl, Nat.le_of_ble_eq_true rfl⟩ (Nat.le_of_ble_eq_true rfl) (Nat.zero_le _) (Nat.zero_le _) dX12_clear_17 (fun H locs hW => ?_)
    clear hC2
    refine lv_aload_n hx hb dX12_clear_20 rfl (lv_at hl 0 rfl) ?_
    refine lv_iload_n hx hb dX12_clear_21 rfl (lv_at hl 2 rfl) ?_
    obtain ⟨r22, hC3, hF⟩ := bO_s1 hF
    refine m_callV X hW hA hl.1 lkX12_115 (c_R_placeOf l E _ N a_t a_t_images a_t_kept a_t_aside a_t_limbs a_t_wide a_t_hears a_t_spies a_t_known a_t_by a_t_ways a_t_fewest a_t_heavy a_t_sums a_t_faces a_t_bestFaces a_t_text a_t_verbs a_t_many a_t_nums a_t_book t_typed t_at t_start t_token t_value t_items t_book p2 r22 hC3) ([0, 1]) (by decide) rfl rfl (ws' := (wd_R_clear E a_t a_t_images a_t_kept a_t_aside a_t_limbs a_t_wide a_t_hears a_t_spies a_t_known a_t_by a_t_ways a_t_fewest a_t_heavy a_t_sums a_t_faces a_t_bestFaces a_t_text a_t_verbs a_t_many a_t_nums a_t_book t_typed t_at t_start t_token t_value t_items t_book)) rfl 0 rfl rfl rfl (As := [.int p2]) (rest := [.int r17, .ref a_t]) rfl rfl ⟨rfl, rfl, Nat.le_of_ble_eq_true rfl, Nat.le_of_ble_eq_true rfl⟩ (Nat.le_of_ble_eq_true rfl) (Nat.zero_le _) (Nat.zero_le _) dX12_clear_22 (fun H locs hW => ?_)
    clear hC3
    obtain ⟨r25, hC4, hF⟩ := bO_s1 hF
    refine m_callV X hW hA hl.1 lkX12_144 (c_R_isClear l E _ N a_t a_t_images a_t_kept a_t_aside a_t_limbs a_t_wide a_t_hears a_t_spies a_t_known a_t_by a_t_ways a_t_fewest a_t_heavy a_t_sums a_t_faces a_t_bestFaces a_t_text a_t_verbs a_t_many a_t_nums a_t_book t_typed t_at t_start t_token t_value t_items t_book r17 r22 r25 hC4) ([0, 1]) (by decide) rfl rfl (ws' := (wd_R_clear E a_t a_t_images a_t_kept a_t_aside a_t_limbs a_t_wide a_t_hears a_t_spies a_t_known a_t_by a_t_ways a_t_fewest a_t_heavy a_t_sums a_t_faces a_t_bestFaces a_t_text a_t_verbs a_t_many a_t_nums a_t_book t_typed t_at t_start t_token t_value t_items t_book)) rfl 0 rfl rfl rfl (As := [.int r17, .int r22]) (rest := []) rfl rfl ⟨rfl, rfl, Nat.le_of_ble_eq_true rfl, Nat.le_of_ble_eq_true rfl⟩ (Nat.le_of_ble_eq_true rfl) (Nat.zero_le _) (Nat.zero_le _) dX12_clear_25 (fun H locs hW => ?_)
    clear hC4
    refine lv_if_eq (tgt := 35) hx hb dX12_clear_28 (by decide) (fun c5 => ?_) (fun c5 => ?_)
    · have hF := if_y c5 hF
      refine lv_iconst (v := (0 : Int32)) hx hb dX12_clear_35 (by decide) ?_
      have hq := Option.some.inj hF
      subst hq
      exact hret _ _ _ _ hW dX12_clear_36
    · have hF := if_n c5 hF
      refine lv_iconst (v := (1 : Int32)) hx hb dX12_clear_31 (by decide) ?_
      refine lv_goto (tgt := 36) hx hb dX12_clear_32 (by decide) ?_
      have hq := Option.some.inj hF
      subst hq
      exact hret _ _ _ _ hW dX12_clear_36
  · have hF := if_y c1 hF
    refine lv_bipush (v := (-2 : Int32)) hx hb dX12_clear_9 (by decide) ?_
    refine lv_goto (tgt := 36) hx hb dX12_clear_11 (by decide) ?_
    have hq := Option.some.inj hF
    subst hq
    exact hret _ _ _ _ hW dX12_clear_36
abbrev wd_R_looks (E : m_E) (a_t : Nat) (a_t_images : Nat) (a_t_kept : Nat) (a_t_aside : Nat) (a_t_limbs : Nat) (a_t_wide : Nat) (a_t_known : Nat) (a_t_by : Nat) (a_t_ways : Nat) (a_t_fewest : Nat) (a_t_heavy : Nat) (a_t_sums : Nat) (a_t_faces : Nat) (a_t_bestFaces : Nat) (a_t_text : Nat) (a_t_verbs : Nat) (a_t_many : Nat) (a_t_nums : Nat) (a_t_book : Nat) (a_t_hears : Nat) (a_t_spies : Nat) (t_typed : Int32) (t_at : Int32) (t_start : Int32) (t_token : Int32) (t_value : Int32) (t_items : Int32) (t_book : Nat → Int32) (t_hears : Nat → Int32) (t_spies : Nat → Int32) : va_W := [(a_t, .inr (12, [.ref a_t_book, .ref a_t_images, .ref a_t_kept, .ref a_t_aside, .ref a_t_limbs, .ref a_t_wide, .ref a_t_hears, .ref a_t_spies, .ref a_t_known, .ref a_t_by, .ref a_t_ways, .ref a_t_fewest, .ref a_t_heavy, .ref a_t_sums, .ref a_t_faces, .ref a_t_bestFaces, .ref a_t_text, .int t_typed, .int t_at, .int t_start, .int t_token, .int t_value, .ref a_t_verbs, .ref a_t_many, .ref a_t_nums, .int t_items])), (a_t_book, .inl (E.2.1 0, 240, .inl t_book)), (a_t_hears, .inl (E.2.1 1, 64, .inl t_hears)), (a_t_spies, .inl (E.2.1 1, 64, .inl t_spies))]
def rm_R_looks : Room := { frames := 4, cells := 0, slots := 0, locals := 100 }
set_option maxHeartbeats 4000000 in
set_option maxRecDepth 100000 in
theorem c_R_looks (l : Launch) (E : m_E) (sz N : Nat) (a_t : Nat) (a_t_images : Nat) (a_t_kept : Nat) (a_t_aside : Nat) (a_t_limbs : Nat) (a_t_wide : Nat) (a_t_known : Nat) (a_t_by : Nat) (a_t_ways : Nat) (a_t_fewest : Nat) (a_t_heavy : Nat) (a_t_sums : Nat) (a_t_faces : Nat) (a_t_bestFaces : Nat) (a_t_text : Nat) (a_t_verbs : Nat) (a_t_many : Nat) (a_t_nums : Nat) (a_t_book : Nat) (a_t_hears : Nat) (a_t_spies : Nat) (t_typed : Int32) (t_at : Int32) (t_start : Int32) (t_token : Int32) (t_value : Int32) (t_items : Int32) (t_book : Nat → Int32) (t_hears : Nat → Int32) (t_spies : Nat → Int32) (p1 : Int32) (ures : (Nat → Int32) × (Nat → Int32)) (hF : F_R_looks N p1 t_book t_hears t_spies = some ures) : m_Met l yX12_looks cX12_looks 6 none rm_R_looks E (wd_R_looks E a_t a_t_images a_t_kept a_t_aside a_t_limbs a_t_wide a_t_known a_t_by a_t_ways a_t_fewest a_t_heavy a_t_sums a_t_faces a_t_bestFaces a_t_text a_t_verbs a_t_many a_t_nums a_t_book a_t_hears a_t_spies t_typed t_at t_start t_token t_value t_items t_book t_hears t_spies) (wd_R_looks E a_t a_t_images a_t_kept a_t_aside a_t_limbs a_t_wide a_t_known a_t_by a_t_ways a_t_fewest a_t_heavy a_t_sums a_t_faces a_t_bestFaces a_t_text a_t_verbs a_t_many a_t_nums a_t_book a_t_hears a_t_spies t_typed t_at t_start t_token t_value t_items t_book ures.1 ures.2) sz [.ref a_t, .int p1] none := by
  refine m_ofV (by decide) (Nat.le_of_ble_eq_true rfl) ?_
  intro p e s m args below meth c A Q ls X hW hA hl hret
  obtain ⟨hx, hb, -, hown, hts, hK, -, hG⟩ := id X
  have hl : lv_has ls 6 [(0, .ref a_t), (1, .int p1)] := hl
  unfold F_R_looks at hF
  refine lv_iconst (v := (0 : Int32)) hx hb dX12_looks_0 (by decide) ?_
  refine lv_istore_n (lv' := [(2, .int (0 : Int32)), (0, .ref a_t), (1, .int p1)]) hx hb dX12_looks_1 rfl hl (by decide) rfl (fun ls hl => ?_)
  obtain ⟨t_hears'_8, t_spies'_8, hX2, hF⟩ := bO_s2 hF
  have L1 : ∀ (k0 : Nat) (x2 : Int32) (t_hears'_5 : Nat → Int32) (t_spies'_5 : Nat → Int32) (t_hears'_8 : Nat → Int32) (t_spies'_8 : Nat → Int32) (H : Heap) (locs : List Loc) (ls : Array Slot), R_looks_L2 N t_book p1 k0 x2 t_hears'_5 t_spies'_5 = some (t_hears'_8, t_spies'_8) → m_H E A (wd_R_looks E a_t a_t_images a_t_kept a_t_aside a_t_limbs a_t_wide a_t_known a_t_by a_t_ways a_t_fewest a_t_heavy a_t_sums a_t_faces a_t_bestFaces a_t_text a_t_verbs a_t_many a_t_nums a_t_book a_t_hears a_t_spies t_typed t_at t_start t_token t_value t_items t_book t_hears'_5 t_spies'_5) s.heap H locs → lv_has ls 6 [(2, .int x2), (0, .ref a_t), (1, .int p1)] → (∀ (H : Heap) (locs : List Loc) (ls : Array Slot), m_H E A (wd_R_looks E a_t a_t_images a_t_kept a_t_aside a_t_limbs a_t_wide a_t_known a_t_by a_t_ways a_t_fewest a_t_heavy a_t_sums a_t_faces a_t_bestFaces a_t_text a_t_verbs a_t_many a_t_nums a_t_book a_t_hears a_t_spies t_typed t_at t_start t_token t_value t_items t_book t_hears'_8 t_spies'_8) s.heap H locs → lv_has ls 6 [] → W p l e rm_R_looks s m args below meth c H locs 0 0 Q (F0 m 126 ls [])) → W p l e rm_R_looks s m args below meth c H locs 0 0 Q (F0 m 2 ls []) := by
    clear hF
    intro k0
    induction k0 with
    | zero =>
      intro x2 t_hears'_5 t_spies'_5 t_hears'_8 t_spies'_8 H locs ls hF
      cases hF
    | succ k0 ih4 =>
      intro x2 t_hears'_5 t_spies'_5 t_hears'_8 t_spies'_8 H locs ls hF hW hl hk3
      rw [R_looks_L2] at hF
      refine lv_iload_n hx hb dX12_looks_2 rfl (lv_at hl 0 rfl) ?_
      refine lv_aload_n hx hb dX12_looks_3 rfl (lv_at hl 1 rfl) ?_
      refine m_get X hW fdX12_7 0 rfl rfl dX12_looks_4 ?_
      refine lv_iconst (v := (1 : Int32)) hx hb dX12_looks_7 (by decide) ?_
      refine m_iald X hW 1 (k := 1) rfl (by decide) rfl dX12_looks_8 ?_
      refine lv_icmp_ge (tgt := 126) hx hb dX12_looks_9 (by decide) (fun c5 => ?_) (fun c5 => ?_)
      · have hF := if_y c5 hF
        cases hF
        exact hk3 _ _ _ hW (lv_sub hl [] rfl)
      · have hF := if_n c5 hF
        refine lv_iconst (v := (0 : Int32)) hx hb dX12_looks_12 (by decide) ?_
        refine lv_istore_n (lv' := [(3, .int (0 : Int32)), (2, .int x2), (0, .ref a_t), (1, .int p1)]) hx hb dX12_looks_13 rfl hl (by decide) rfl (fun ls hl => ?_)
        obtain ⟨t_hears'_7, t_spies'_7, hX7, hF⟩ := bO_s2 hF
        have L6 : ∀ (k0 : Nat) (x3 : Int32) (t_hears'_6 : Nat → Int32) (t_spies'_6 : Nat → Int32) (t_hears'_7 : Nat → Int32) (t_spies'_7 : Nat → Int32) (H : Heap) (locs : List Loc) (ls : Array Slot), R_looks_L14 N t_book x2 p1 k0 x3 t_hears'_6 t_spies'_6 = some (t_hears'_7, t_spies'_7) → m_H E A (wd_R_looks E a_t a_t_images a_t_kept a_t_aside a_t_limbs a_t_wide a_t_known a_t_by a_t_ways a_t_fewest a_t_heavy a_t_sums a_t_faces a_t_bestFaces a_t_text a_t_verbs a_t_many a_t_nums a_t_book a_t_hears a_t_spies t_typed t_at t_start t_token t_value t_items t_book t_hears'_6 t_spies'_6) s.heap H locs → lv_has ls 6 [(3, .int x3), (2, .int x2), (0, .ref a_t), (1, .int p1)] → (∀ (H : Heap) (locs : List Loc) (ls : Array Slot), m_H E A (wd_R_looks E a_t a_t_images a_t_kept a_t_aside a_t_limbs a_t_wide a_t_known a_t_by a_t_ways a_t_fewest a_t_heavy a_t_sums a_t_faces a_t_bestFaces a_t_text a_t_verbs a_t_many a_t_nums a_t_book a_t_hears a_t_spies t_typed t_at t_start t_token t_value t_items t_book t_hears'_7 t_spies'_7) s.heap H locs → lv_has ls 6 [(2, .int x2), (0, .ref a_t), (1, .int p1)] → W p l e rm_R_looks s m args below meth c H locs 0 0 Q (F0 m 120 ls [])) → W p l e rm_R_looks s m args below meth c H locs 0 0 Q (F0 m 14 ls []) := by
          clear hF
          intro k0
          induction k0 with
          | zero =>
            intro x3 t_hears'_6 t_spies'_6 t_hears'_7 t_spies'_7 H locs ls hF
            cases hF
          | succ k0 ih9 =>
            intro x3 t_hears'_6 t_spies'_6 t_hears'_7 t_spies'_7 H locs ls hF hW hl hk8
            rw [R_looks_L14] at hF
            refine lv_iload_n hx hb dX12_looks_14 rfl (lv_at hl 0 rfl) ?_
            refine lv_aload_n hx hb dX12_looks_15 rfl (lv_at hl 2 rfl) ?_
            refine m_get X hW fdX12_7 0 rfl rfl dX12_looks_16 ?_
            refine lv_iconst (v := (1 : Int32)) hx hb dX12_looks_19 (by decide) ?_
            refine m_iald X hW 1 (k := 1) rfl (by decide) rfl dX12_looks_20 ?_
            refine lv_icmp_ge (tgt := 120) hx hb dX12_looks_21 (by decide) (fun c10 => ?_) (fun c10 => ?_)
            · have hF := if_y c10 hF
              cases hF
              exact hk8 _ _ _ hW (lv_sub hl [1, 2, 3] rfl)
            · have hF := if_n c10 hF
              refine lv_iload_n hx hb dX12_looks_24 rfl (lv_at hl 1 rfl) ?_
              refine lv_iload_n hx hb dX12_looks_25 rfl (lv_at hl 0 rfl) ?_
              obtain ⟨y0, hX12, hF⟩ := bO_s1 hF
              have J11 : ∀ (H : Heap) (locs : List Loc) (ls : Array Slot), m_H E A (wd_R_looks E a_t a_t_images a_t_kept a_t_aside a_t_limbs a_t_wide a_t_known a_t_by a_t_ways a_t_fewest a_t_heavy a_t_sums a_t_faces a_t_bestFaces a_t_text a_t_verbs a_t_many a_t_nums a_t_book a_t_hears a_t_spies t_typed t_at t_start t_token t_value t_items t_book t_hears'_6 t_spies'_6) s.heap H locs → lv_has ls 6 [(3, .int x3), (2, .int x2), (0, .ref a_t), (1, .int p1)] → W p l e rm_R_looks s m args below meth c H locs 0 0 Q (F0 m 43 ls [.int y0]) := by
                intro H locs ls hW hl
                refine lv_istore (lv' := [(4, .int y0), (3, .int x3), (2, .int x2), (0, .ref a_t), (1, .int p1)]) hx hb dX12_looks_43 hl (by decide) rfl (fun ls hl => ?_)
                refine lv_iload_n hx hb dX12_looks_45 rfl (lv_at hl 2 rfl) ?_
                refine lv_iload_n hx hb dX12_looks_46 rfl (lv_at hl 1 rfl) ?_
                obtain ⟨y0_2, hX14, hF⟩ := bO_s1 hF
                have J13 : ∀ (H : Heap) (locs : List Loc) (ls : Array Slot), m_H E A (wd_R_looks E a_t a_t_images a_t_kept a_t_aside a_t_limbs a_t_wide a_t_known a_t_by a_t_ways a_t_fewest a_t_heavy a_t_sums a_t_faces a_t_bestFaces a_t_text a_t_verbs a_t_many a_t_nums a_t_book a_t_hears a_t_spies t_typed t_at t_start t_token t_value t_items t_book t_hears'_6 t_spies'_6) s.heap H locs → lv_has ls 6 [(4, .int y0), (3, .int x3), (2, .int x2), (0, .ref a_t), (1, .int p1)] → W p l e rm_R_looks s m args below meth c H locs 0 0 Q (F0 m 64 ls [.int y0_2]) := by
                  intro H locs ls hW hl
                  refine lv_istore (lv' := [(5, .int y0_2), (4, .int y0), (3, .int x3), (2, .int x2), (0, .ref a_t), (1, .int p1)]) hx hb dX12_looks_64 hl (by decide) rfl (fun ls hl => ?_)
                  refine lv_aload_n hx hb dX12_looks_66 rfl (lv_at hl 4 rfl) ?_
                  refine m_get X hW fdX12_29 0 rfl rfl dX12_looks_67 ?_
                  refine lv_bipush (v := (8 : Int32)) hx hb dX12_looks_70 (by decide) ?_
                  refine lv_iload_n hx hb dX12_looks_72 rfl (lv_at hl 3 rfl) ?_
                  refine lv_imul hx hb dX12_looks_73 ?_
                  refine lv_iload_n hx hb dX12_looks_74 rfl (lv_at hl 2 rfl) ?_
                  refine lv_iadd hx hb dX12_looks_75 ?_
                  refine lv_iload_n hx hb dX12_looks_76 rfl (lv_at hl 5 rfl) ?_
                  obtain ⟨y2, hX16, hF⟩ := bO_s1 hF
                  have J15 : ∀ (H : Heap) (locs : List Loc) (ls : Array Slot), m_H E A (wd_R_looks E a_t a_t_images a_t_kept a_t_aside a_t_limbs a_t_wide a_t_known a_t_by a_t_ways a_t_fewest a_t_heavy a_t_sums a_t_faces a_t_bestFaces a_t_text a_t_verbs a_t_many a_t_nums a_t_book a_t_hears a_t_spies t_typed t_at t_start t_token t_value t_items t_book t_hears'_6 t_spies'_6) s.heap H locs → lv_has ls 6 [(5, .int y0_2), (4, .int y0), (3, .int x3), (2, .int x2), (0, .ref a_t), (1, .int p1)] → W p l e rm_R_looks s m args below meth c H locs 0 0 Q (F0 m 87 ls [.int y2, .int (((8 : Int32) * x2) + x3), .ref a_t_hears]) := by
                    intro H locs ls hW hl
                    obtain ⟨g17, hF⟩ := gd_some hF
                    refine m_zast X hW 2 (k := (((8 : Int32) * x2) + x3).toNatClampNeg) rfl g17 rfl dX12_looks_87 (ws' := (wd_R_looks E a_t a_t_images a_t_kept a_t_aside a_t_limbs a_t_wide a_t_known a_t_by a_t_ways a_t_fewest a_t_heavy a_t_sums a_t_faces a_t_bestFaces a_t_text a_t_verbs a_t_many a_t_nums a_t_book a_t_hears a_t_spies t_typed t_at t_start t_token t_value t_items t_book (upd t_hears'_6 (((8 : Int32) * x2) + x3).toNatClampNeg (vp_nar .boolean y2)) t_spies'_6)) rfl (fun H locs hW => ?_)
                    refine lv_aload_n hx hb dX12_looks_88 rfl (lv_at hl 4 rfl) ?_
                    refine m_get X hW fdX12_32 0 rfl rfl dX12_looks_89 ?_
                    refine lv_bipush (v := (8 : Int32)) hx hb dX12_looks_92 (by decide) ?_
                    refine lv_iload_n hx hb dX12_looks_94 rfl (lv_at hl 3 rfl) ?_
                    refine lv_imul hx hb dX12_looks_95 ?_
                    refine lv_iload_n hx hb dX12_looks_96 rfl (lv_at hl 2 rfl) ?_
                    refine lv_iadd hx hb dX12_looks_97 ?_
                    refine lv_iload hx hb dX12_looks_98 (lv_at hl 1 rfl) ?_
                    refine lv_if_ne (tgt := 108) hx hb dX12_looks_100 (by decide) (fun c18 => ?_) (fun c18 => ?_)
                    · have hF := if_n c18 hF
                      refine lv_iconst (v := (1 : Int32)) hx hb dX12_looks_108 (by decide) ?_
                      refine lv_goto (tgt := 113) hx hb dX12_looks_109 (by decide) ?_
                      refine m_zast X hW 3 (k := (((8 : Int32) * x2) + x3).toNatClampNeg) rfl g17 rfl dX12_looks_113 (ws' := (wd_R_looks E a_t a_t_images a_t_kept a_t_aside a_t_limbs a_t_wide a_t_known a_t_by a_t_ways a_t_fewest a_t_heavy a_t_sums a_t_faces a_t_bestFaces a_t_text a_t_verbs a_t_many a_t_nums a_t_book a_t_hears a_t_spies t_typed t_at t_start t_token t_value t_items t_book (upd t_hears'_6 (((8 : Int32) * x2) + x3).toNatClampNeg (vp_nar .boolean y2)) (upd t_spies'_6 (((8 : Int32) * x2) + x3).toNatClampNeg (vp_nar .boolean (1 : Int32))))) rfl (fun H locs hW => ?_)
                      refine lv_iinc (v := (x3 + (1 : Int32))) (lv' := [(3, .int (x3 + (1 : Int32))), (5, .int y0_2), (4, .int y0), (2, .int x2), (0, .ref a_t), (1, .int p1)]) hx hb dX12_looks_114 hl (k := 2) rfl rfl (by decide) rfl (fun ls hl => ?_)
                      refine lv_goto (tgt := 14) hx hb dX12_looks_117 (by decide) ?_
                      exact ih9 (x3 + (1 : Int32)) (upd t_hears'_6 (((8 : Int32) * x2) + x3).toNatClampNeg (vp_nar .boolean y2)) (upd t_spies'_6 (((8 : Int32) * x2) + x3).toNatClampNeg (vp_nar .boolean (1 : Int32))) t_hears'_7 t_spies'_7 _ _ _ hF hW (lv_sub hl [0, 3, 4, 5] rfl) hk8
                    · have hF := if_y c18 hF
                      refine lv_iload hx hb dX12_looks_103 (lv_at hl 0 rfl) ?_
                      refine lv_if_eq (tgt := 112) hx hb dX12_looks_105 (by decide) (fun c19 => ?_) (fun c19 => ?_)
                      · have hF := if_y c19 hF
                        refine lv_iconst (v := (0 : Int32)) hx hb dX12_looks_112 (by decide) ?_
                        refine m_zast X hW 3 (k := (((8 : Int32) * x2) + x3).toNatClampNeg) rfl g17 rfl dX12_looks_113 (ws' := (wd_R_looks E a_t a_t_images a_t_kept a_t_aside a_t_limbs a_t_wide a_t_known a_t_by a_t_ways a_t_fewest a_t_heavy a_t_sums a_t_faces a_t_bestFaces a_t_text a_t_verbs a_t_many a_t_nums a_t_book a_t_hears a_t_spies t_typed t_at t_start t_token t_value t_items t_book (upd t_hears'_6 (((8 : Int32) * x2) + x3).toNatClampNeg (vp_nar .boolean y2)) (upd t_spies'_6 (((8 : Int32) * x2) + x3).toNatClampNeg (vp_nar .boolean (0 : Int32))))) rfl (fun H locs hW => ?_)
                        refine lv_iinc (v := (x3 + (1 : Int32))) (lv' := [(3, .int (x3 + (1 : Int32))), (5, .int y0_2), (4, .int y0), (2, .int x2), (0, .ref a_t), (1, .int p1)]) hx hb dX12_looks_114 hl (k := 2) rfl rfl (by decide) rfl (fun ls hl => ?_)
                        refine lv_goto (tgt := 14) hx hb dX12_looks_117 (by decide) ?_
                        exact ih9 (x3 + (1 : Int32)) (upd t_hears'_6 (((8 : Int32) * x2) + x3).toNatClampNeg (vp_nar .boolean y2)) (upd t_spies'_6 (((8 : Int32) * x2) + x3).toNatClampNeg (vp_nar .boolean (0 : Int32))) t_hears'_7 t_spies'_7 _ _ _ hF hW (lv_sub hl [0, 3, 4, 5] rfl) hk8
                      · have hF := if_n c19 hF
                        refine lv_iconst (v := (1 : Int32)) hx hb dX12_looks_108 (by decide) ?_
                        refine lv_goto (tgt := 113) hx hb dX12_looks_109 (by decide) ?_
                        refine m_zast X hW 3 (k := (((8 : Int32) * x2) + x3).toNatClampNeg) rfl g17 rfl dX12_looks_113 (ws' := (wd_R_looks E a_t a_t_images a_t_kept a_t_aside a_t_limbs a_t_wide a_t_known a_t_by a_t_ways a_t_fewest a_t_heavy a_t_sums a_t_faces a_t_bestFaces a_t_text a_t_verbs a_t_many a_t_nums a_t_book a_t_hears a_t_spies t_typed t_at t_start t_token t_value t_items t_book (upd t_hears'_6 (((8 : Int32) * x2) + x3).toNatClampNeg (vp_nar .boolean y2)) (upd t_spies'_6 (((8 : Int32) * x2) + x3).toNatClampNeg (vp_nar .boolean (1 : Int32))))) rfl (fun H locs hW => ?_)
                        refine lv_iinc (v := (x3 + (1 : Int32))) (lv' := [(3, .int (x3 + (1 : Int32))), (5, .int y0_2), (4, .int y0), (2, .int x2), (0, .ref a_t), (1, .int p1)]) hx hb dX12_looks_114 hl (k := 2) rfl rfl (by decide) rfl (fun ls hl => ?_)
                        refine lv_goto (tgt := 14) hx hb dX12_looks_117 (by decide) ?_
                        exact ih9 (x3 + (1 : Int32)) (upd t_hears'_6 (((8 : Int32) * x2) + x3).toNatClampNeg (vp_nar .boolean y2)) (upd t_spies'_6 (((8 : Int32) * x2) + x3).toNatClampNeg (vp_nar .boolean (1 : Int32))) t_hears'_7 t_spies'_7 _ _ _ hF hW (lv_sub hl [0, 3, 4, 5] rfl) hk8
                  clear hF
                  have hF := hX16
                  clear hX16
                  refine lv_if_ne (tgt := 85) hx hb dX12_looks_77 (by decide) (fun c20 => ?_) (fun c20 => ?_)
                  · have hF := if_n c20 hF
                    refine lv_iload hx hb dX12_looks_85 (lv_at hl 0 rfl) ?_
                    cases hF
                    exact J15 _ _ _ hW (lv_sub hl [0, 1, 2, 3, 4, 5] rfl)
                  · have hF := if_y c20 hF
                    refine lv_iload hx hb dX12_looks_80 (lv_at hl 1 rfl) ?_
                    refine lv_goto (tgt := 87) hx hb dX12_looks_82 (by decide) ?_
                    cases hF
                    exact J15 _ _ _ hW (lv_sub hl [0, 1, 2, 3, 4, 5] rfl)
                clear hF
                have hF := hX14
                clear hX14
                refine lv_icmp_eq (tgt := 63) hx hb dX12_looks_47 (by decide) (fun c21 => ?_) (fun c21 => ?_)
                · have hF := if_y c21 hF
                  refine lv_iconst (v := (0 : Int32)) hx hb dX12_looks_63 (by decide) ?_
                  cases hF
                  exact J13 _ _ _ hW (lv_sub hl [0, 1, 2, 3, 4] rfl)
                · have hF := if_n c21 hF
                  refine lv_aload_n hx hb dX12_looks_50 rfl (lv_at hl 3 rfl) ?_
                  refine lv_iload_n hx hb dX12_looks_51 rfl (lv_at hl 2 rfl) ?_
                  refine lv_iload_n hx hb dX12_looks_52 rfl (lv_at hl 1 rfl) ?_
                  obtain ⟨r53, hC22, hF⟩ := bO_s1 hF
                  refine m_callV X hW hA hl.1 lkX12_161 (c_R_watches l E _ N a_t a_t_images a_t_kept a_t_aside a_t_limbs a_t_wide a_t_hears a_t_spies a_t_known a_t_by a_t_ways a_t_fewest a_t_heavy a_t_sums a_t_faces a_t_bestFaces a_t_text a_t_verbs a_t_many a_t_nums a_t_book t_typed t_at t_start t_token t_value t_items t_book x2 x3 r53 hC22) ([0, 1]) (by decide) rfl rfl (ws' := (wd_R_looks E a_t a_t_images a_t_kept a_t_aside a_t_limbs a_t_wide a_t_known a_t_by a_t_ways a_t_fewest a_t_heavy a_t_sums a_t_faces a_t_bestFaces a_t_text a_t_verbs a_t_many a_t_nums a_t_book a_t_hears a_t_spies t_typed t_at t_start t_token t_value t_items t_book t_hears'_6 t_spies'_6)) rfl 0 rfl rfl rfl (As := [.int x2, .int x3]) (rest := []) rfl rfl ⟨rfl, rfl, Nat.le_of_ble_eq_true rfl, Nat.le_of_ble_eq_true rfl⟩ (Nat.le_of_ble_eq_true rfl) (Nat.zero_le _) (Nat.zero_le _) dX12_looks_53 (fun H locs hW => ?_)
                  clear hC22
                  refine lv_if_eq (tgt := 63) hx hb dX12_looks_56 (by decide) (fun c23 => ?_) (fun c23 => ?_)
                  · have hF := if_y c23 hF
                    refine lv_iconst (v := (0 : Int32)) hx hb dX12_looks_63 (by decide) ?_
                    cases hF
                    exact J13 _ _ _ hW (lv_sub hl [0, 1, 2, 3, 4] rfl)
                  · have hF := if_n c23 hF
                    refine lv_iconst (v := (1 : Int32)) hx hb dX12_looks_59 (by decide) ?_
                    refine lv_goto (tgt := 64) hx hb dX12_looks_60 (by decide) ?_
                    cases hF
                    exact J13 _ _ _ hW (lv_sub hl [0, 1, 2, 3, 4] rfl)
              clear hF
              have hF := hX12
              clear hX12
              refine lv_icmp_eq (tgt := 42) hx hb dX12_looks_26 (by decide) (fun c24 => ?_) (fun c24 => ?_)
              · have hF := if_y c24 hF
                refine lv_iconst (v := (0 : Int32)) hx hb dX12_looks_42 (by decide) ?_
                cases hF
                exact J11 _ _ _ hW (lv_sub hl [0, 1, 2, 3] rfl)
              · have hF := if_n c24 hF
                refine lv_aload_n hx hb dX12_looks_29 rfl (lv_at hl 2 rfl) ?_
                refine lv_iload_n hx hb dX12_looks_30 rfl (lv_at hl 1 rfl) ?_
                refine lv_iload_n hx hb dX12_looks_31 rfl (lv_at hl 0 rfl) ?_
                obtain ⟨r32, hC25, hF⟩ := bO_s1 hF
                refine m_callV X hW hA hl.1 lkX12_158 (c_R_areFacing l E _ N a_t a_t_images a_t_kept a_t_aside a_t_limbs a_t_wide a_t_hears a_t_spies a_t_known a_t_by a_t_ways a_t_fewest a_t_heavy a_t_sums a_t_faces a_t_bestFaces a_t_text a_t_verbs a_t_many a_t_nums a_t_book t_typed t_at t_start t_token t_value t_items t_book x2 x3 r32 hC25) ([0, 1]) (by decide) rfl rfl (ws' := (wd_R_looks E a_t a_t_images a_t_kept a_t_aside a_t_limbs a_t_wide a_t_known a_t_by a_t_ways a_t_fewest a_t_heavy a_t_sums a_t_faces a_t_bestFaces a_t_text a_t_verbs a_t_many a_t_nums a_t_book a_t_hears a_t_spies t_typed t_at t_start t_token t_value t_items t_book t_hears'_6 t_spies'_6)) rfl 0 rfl rfl rfl (As := [.int x2, .int x3]) (rest := []) rfl rfl ⟨rfl, rfl, Nat.le_of_ble_eq_true rfl, Nat.le_of_ble_eq_true rfl⟩ (Nat.le_of_ble_eq_true rfl) (Nat.zero_le _) (Nat.zero_le _) dX12_looks_32 (fun H locs hW => ?_)
                clear hC25
                refine lv_if_eq (tgt := 42) hx hb dX12_looks_35 (by decide) (fun c26 => ?_) (fun c26 => ?_)
                · have hF := if_y c26 hF
                  refine lv_iconst (v := (0 : Int32)) hx hb dX12_looks_42 (by decide) ?_
                  cases hF
                  exact J11 _ _ _ hW (lv_sub hl [0, 1, 2, 3] rfl)
                · have hF := if_n c26 hF
                  refine lv_iconst (v := (1 : Int32)) hx hb dX12_looks_38 (by decide) ?_
                  refine lv_goto (tgt := 43) hx hb dX12_looks_39 (by decide) ?_
                  cases hF
                  exact J11 _ _ _ hW (lv_sub hl [0, 1, 2, 3] rfl)
        refine L6 N (0 : Int32) t_hears'_5 t_spies'_5 t_hears'_7 t_spies'_7 _ _ _ hX7 hW (lv_sub hl [0, 1, 2, 3] rfl) ?_
        intro H locs ls hW hl
        clear L6
        refine lv_iinc (v := (x2 + (1 : Int32))) (lv' := [(2, .int (x2 + (1 : Int32))), (0, .ref a_t), (1, .int p1)]) hx hb dX12_looks_120 hl (k := 0) rfl rfl (by decide) rfl (fun ls hl => ?_)
        refine lv_goto (tgt := 2) hx hb dX12_looks_123 (by decide) ?_
        exact ih4 (x2 + (1 : Int32)) t_hears'_7 t_spies'_7 t_hears'_8 t_spies'_8 _ _ _ hF hW (lv_sub hl [0, 1, 2] rfl) hk3
  refine L1 N (0 : Int32) t_hears t_spies t_hears'_8 t_spies'_8 _ _ _ hX2 hW (lv_sub hl [0, 1, 2] rfl) ?_
  intro H locs ls hW hl
  clear L1
  have hq := Option.some.inj hF
  subst hq
  exact hret _ _ _ _ hW dX12_looks_126
abbrev wd_R_can (E : m_E) (a_t : Nat) (a_t_images : Nat) (a_t_kept : Nat) (a_t_aside : Nat) (a_t_limbs : Nat) (a_t_wide : Nat) (a_t_hears : Nat) (a_t_spies : Nat) (a_t_known : Nat) (a_t_by : Nat) (a_t_ways : Nat) (a_t_fewest : Nat) (a_t_heavy : Nat) (a_t_sums : Nat) (a_t_faces : Nat) (a_t_bestFaces : Nat) (a_t_text : Nat) (a_t_verbs : Nat) (a_t_many : Nat) (a_t_nums : Nat) (a_t_book : Nat) (t_typed : Int32) (t_at : Int32) (t_start : Int32) (t_token : Int32) (t_value : Int32) (t_items : Int32) (t_book : Nat → Int32) : va_W := [(a_t, .inr (12, [.ref a_t_book, .ref a_t_images, .ref a_t_kept, .ref a_t_aside, .ref a_t_limbs, .ref a_t_wide, .ref a_t_hears, .ref a_t_spies, .ref a_t_known, .ref a_t_by, .ref a_t_ways, .ref a_t_fewest, .ref a_t_heavy, .ref a_t_sums, .ref a_t_faces, .ref a_t_bestFaces, .ref a_t_text, .int t_typed, .int t_at, .int t_start, .int t_token, .int t_value, .ref a_t_verbs, .ref a_t_many, .ref a_t_nums, .int t_items])), (a_t_book, .inl (E.2.1 0, 240, .inl t_book))]
def rm_R_can : Room := { frames := 0, cells := 0, slots := 0, locals := 0 }
set_option maxHeartbeats 4000000 in
set_option maxRecDepth 100000 in
theorem c_R_can (l : Launch) (E : m_E) (sz N : Nat) (a_t : Nat) (a_t_images : Nat) (a_t_kept : Nat) (a_t_aside : Nat) (a_t_limbs : Nat) (a_t_wide : Nat) (a_t_hears : Nat) (a_t_spies : Nat) (a_t_known : Nat) (a_t_by : Nat) (a_t_ways : Nat) (a_t_fewest : Nat) (a_t_heavy : Nat) (a_t_sums : Nat) (a_t_faces : Nat) (a_t_bestFaces : Nat) (a_t_text : Nat) (a_t_verbs : Nat) (a_t_many : Nat) (a_t_nums : Nat) (a_t_book : Nat) (t_typed : Int32) (t_at : Int32) (t_start : Int32) (t_token : Int32) (t_value : Int32) (t_items : Int32) (t_book : Nat → Int32) (p1 : Int32) (p2 : Int32) (p3 : Int32) (ures : Int32) (hF : F_R_can p1 p2 p3 t_book = some ures) : m_Met l yX12_can cX12_can 4 (some .boolean) rm_R_can E (wd_R_can E a_t a_t_images a_t_kept a_t_aside a_t_limbs a_t_wide a_t_hears a_t_spies a_t_known a_t_by a_t_ways a_t_fewest a_t_heavy a_t_sums a_t_faces a_t_bestFaces a_t_text a_t_verbs a_t_many a_t_nums a_t_book t_typed t_at t_start t_token t_value t_items t_book) (wd_R_can E a_t a_t_images a_t_kept a_t_aside a_t_limbs a_t_wide a_t_hears a_t_spies a_t_known a_t_by a_t_ways a_t_fewest a_t_heavy a_t_sums a_t_faces a_t_bestFaces a_t_text a_t_verbs a_t_many a_t_nums a_t_book t_typed t_at t_start t_token t_value t_items t_book) sz [.ref a_t, .int p1, .int p2, .int p3] (some (.int ures)) := by
  refine m_ofZ (by decide) (Nat.le_of_ble_eq_true rfl) ?_
  intro p e s m args below meth c A Q ls X hW hA hl hret
  obtain ⟨hx, hb, -, hown, hts, hK, -, hG⟩ := id X
  have hl : lv_has ls 4 [(0, .ref a_t), (1, .int p1), (2, .int p2), (3, .int p3)] := hl
  unfold F_R_can at hF
  refine lv_aload_n hx hb dX12_can_0 rfl (lv_at hl 0 rfl) ?_
  refine m_get X hW fdX12_7 0 rfl rfl dX12_can_1 ?_
  refine lv_bipush (v := (80 : Int32)) hx hb dX12_can_4 (by decide) ?_
  refine lv_iconst (v := (4 : Int32)) hx hb dX12_can_6 (by decide) ?_
  refine lv_iload_n hx hb dX12_can_7 rfl (lv_at hl 1 rfl) ?_
  refine lv_imul hx hb dX12_can_8 ?_
  refine lv_iadd hx hb dX12_can_9 ?_
  refine lv_iconst (v := (2 : Int32)) hx hb dX12_can_10 (by decide) ?_
  refine lv_iadd hx hb dX12_can_11 ?_
  refine lv_iload_n hx hb dX12_can_12 rfl (lv_at hl 2 rfl) ?_
  refine lv_iadd hx hb dX12_can_13 ?_
  obtain ⟨g1, hF⟩ := gd_some hF
  refine m_iald X hW 1 (k := ((((80 : Int32) + ((4 : Int32) * p1)) + (2 : Int32)) + p2).toNatClampNeg) rfl g1 rfl dX12_can_14 ?_
  refine lv_iload_n hx hb dX12_can_15 rfl (lv_at hl 3 rfl) ?_
  refine lv_bipush (v := (12 : Int32)) hx hb dX12_can_16 (by decide) ?_
  refine m_irem hx hb dX12_can_18 (by decide) ?_
  refine m_ishr hx hb dX12_can_19 ?_
  refine lv_iconst (v := (1 : Int32)) hx hb dX12_can_20 (by decide) ?_
  refine lv_iand hx hb dX12_can_21 ?_
  refine lv_iconst (v := (1 : Int32)) hx hb dX12_can_22 (by decide) ?_
  refine lv_icmp_ne (tgt := 30) hx hb dX12_can_23 (by decide) (fun c2 => ?_) (fun c2 => ?_)
  · have hF := if_n c2 hF
    refine lv_iconst (v := (0 : Int32)) hx hb dX12_can_30 (by decide) ?_
    have hq := Option.some.inj hF
    subst hq
    exact hret _ _ _ _ _ rfl hW dX12_can_31
  · have hF := if_y c2 hF
    refine lv_iconst (v := (1 : Int32)) hx hb dX12_can_26 (by decide) ?_
    refine lv_goto (tgt := 31) hx hb dX12_can_27 (by decide) ?_
    have hq := Option.some.inj hF
    subst hq
    exact hret _ _ _ _ _ rfl hW dX12_can_31
abbrev wd_R_spreads (E : m_E) (a_t : Nat) (a_t_images : Nat) (a_t_kept : Nat) (a_t_aside : Nat) (a_t_limbs : Nat) (a_t_wide : Nat) (a_t_ways : Nat) (a_t_fewest : Nat) (a_t_heavy : Nat) (a_t_sums : Nat) (a_t_faces : Nat) (a_t_bestFaces : Nat) (a_t_text : Nat) (a_t_verbs : Nat) (a_t_many : Nat) (a_t_nums : Nat) (a_t_book : Nat) (a_t_hears : Nat) (a_t_spies : Nat) (a_t_known : Nat) (a_t_by : Nat) (t_typed : Int32) (t_at : Int32) (t_start : Int32) (t_token : Int32) (t_value : Int32) (t_items : Int32) (t_book : Nat → Int32) (t_hears : Nat → Int32) (t_spies : Nat → Int32) (t_known : Nat → Int32) (t_by : Nat → Int32) : va_W := [(a_t, .inr (12, [.ref a_t_book, .ref a_t_images, .ref a_t_kept, .ref a_t_aside, .ref a_t_limbs, .ref a_t_wide, .ref a_t_hears, .ref a_t_spies, .ref a_t_known, .ref a_t_by, .ref a_t_ways, .ref a_t_fewest, .ref a_t_heavy, .ref a_t_sums, .ref a_t_faces, .ref a_t_bestFaces, .ref a_t_text, .int t_typed, .int t_at, .int t_start, .int t_token, .int t_value, .ref a_t_verbs, .ref a_t_many, .ref a_t_nums, .int t_items])), (a_t_book, .inl (E.2.1 0, 240, .inl t_book)), (a_t_hears, .inl (E.2.1 1, 64, .inl t_hears)), (a_t_spies, .inl (E.2.1 1, 64, .inl t_spies)), (a_t_known, .inl (E.2.1 0, 8, .inl t_known)), (a_t_by, .inl (E.2.1 0, 8, .inl t_by))]
def rm_R_spreads : Room := { frames := 5, cells := 0, slots := 0, locals := 125 }
set_option maxHeartbeats 4000000 in
set_option maxRecDepth 100000 in
theorem c_R_spreads (l : Launch) (E : m_E) (sz N : Nat) (a_t : Nat) (a_t_images : Nat) (a_t_kept : Nat) (a_t_aside : Nat) (a_t_limbs : Nat) (a_t_wide : Nat) (a_t_ways : Nat) (a_t_fewest : Nat) (a_t_heavy : Nat) (a_t_sums : Nat) (a_t_faces : Nat) (a_t_bestFaces : Nat) (a_t_text : Nat) (a_t_verbs : Nat) (a_t_many : Nat) (a_t_nums : Nat) (a_t_book : Nat) (a_t_hears : Nat) (a_t_spies : Nat) (a_t_known : Nat) (a_t_by : Nat) (t_typed : Int32) (t_at : Int32) (t_start : Int32) (t_token : Int32) (t_value : Int32) (t_items : Int32) (t_book : Nat → Int32) (t_hears : Nat → Int32) (t_spies : Nat → Int32) (t_known : Nat → Int32) (t_by : Nat → Int32) (p1 : Int32) (p2 : Int32) (p3 : Int32) (p4 : Int32) (ures : (Nat → Int32) × (Nat → Int32) × (Nat → Int32) × (Nat → Int32)) (hF : F_R_spreads N p1 p2 p3 p4 t_book t_hears t_spies t_known t_by = some ures) : m_Met l yX12_spreads cX12_spreads 10 none rm_R_spreads E (wd_R_spreads E a_t a_t_images a_t_kept a_t_aside a_t_limbs a_t_wide a_t_ways a_t_fewest a_t_heavy a_t_sums a_t_faces a_t_bestFaces a_t_text a_t_verbs a_t_many a_t_nums a_t_book a_t_hears a_t_spies a_t_known a_t_by t_typed t_at t_start t_token t_value t_items t_book t_hears t_spies t_known t_by) (wd_R_spreads E a_t a_t_images a_t_kept a_t_aside a_t_limbs a_t_wide a_t_ways a_t_fewest a_t_heavy a_t_sums a_t_faces a_t_bestFaces a_t_text a_t_verbs a_t_many a_t_nums a_t_book a_t_hears a_t_spies a_t_known a_t_by t_typed t_at t_start t_token t_value t_items t_book ures.1 ures.2.1 ures.2.2.1 ures.2.2.2) sz [.ref a_t, .int p1, .int p2, .int p3, .int p4] none := by
  refine m_ofV (by decide) (Nat.le_of_ble_eq_true rfl) ?_
  intro p e s m args below meth c A Q ls X hW hA hl hret
  obtain ⟨hx, hb, -, hown, hts, hK, -, hG⟩ := id X
  have hl : lv_has ls 10 [(0, .ref a_t), (1, .int p1), (2, .int p2), (3, .int p3), (4, .int p4)] := hl
  unfold F_R_spreads at hF
  refine lv_aload_n hx hb dX12_spreads_0 rfl (lv_at hl 0 rfl) ?_
  refine lv_iload_n hx hb dX12_spreads_1 rfl (lv_at hl 3 rfl) ?_
  obtain ⟨t_hears'_2, t_spies'_2, hC1, hF⟩ := bO_s2 hF
  refine m_callV X hW hA hl.1 lkX12_164 (c_R_looks l E _ N a_t a_t_images a_t_kept a_t_aside a_t_limbs a_t_wide a_t_known a_t_by a_t_ways a_t_fewest a_t_heavy a_t_sums a_t_faces a_t_bestFaces a_t_text a_t_verbs a_t_many a_t_nums a_t_book a_t_hears a_t_spies t_typed t_at t_start t_token t_value t_items t_book t_hears t_spies p3 (t_hears'_2, t_spies'_2) hC1) ([0, 1, 2, 3]) (by decide) rfl rfl (ws' := (wd_R_spreads E a_t a_t_images a_t_kept a_t_aside a_t_limbs a_t_wide a_t_ways a_t_fewest a_t_heavy a_t_sums a_t_faces a_t_bestFaces a_t_text a_t_verbs a_t_many a_t_nums a_t_book a_t_hears a_t_spies a_t_known a_t_by t_typed t_at t_start t_token t_value t_items t_book t_hears'_2 t_spies'_2 t_known t_by)) rfl 0 rfl rfl rfl (As := [.int p3]) (rest := []) rfl rfl ⟨rfl, rfl, Nat.le_of_ble_eq_true rfl, Nat.le_of_ble_eq_true rfl⟩ (Nat.le_of_ble_eq_true rfl) (Nat.zero_le _) (Nat.zero_le _) dX12_spreads_2 (fun H locs hW => ?_)
  clear hC1
  refine lv_iconst (v := (0 : Int32)) hx hb dX12_spreads_5 (by decide) ?_
  refine lv_istore (lv' := [(5, .int (0 : Int32)), (0, .ref a_t), (1, .int p1), (2, .int p2), (3, .int p3), (4, .int p4)]) hx hb dX12_spreads_6 hl (by decide) rfl (fun ls hl => ?_)
  obtain ⟨t_known'_10, t_by'_10, hX3, hF⟩ := bO_s2 hF
  have L2 : ∀ (k0 : Nat) (x5 : Int32) (t_known'_9 : Nat → Int32) (t_by'_9 : Nat → Int32) (t_known'_10 : Nat → Int32) (t_by'_10 : Nat → Int32) (H : Heap) (locs : List Loc) (ls : Array Slot), R_spreads_L8 p1 p2 k0 x5 t_known'_9 t_by'_9 = some (t_known'_10, t_by'_10) → m_H E A (wd_R_spreads E a_t a_t_images a_t_kept a_t_aside a_t_limbs a_t_wide a_t_ways a_t_fewest a_t_heavy a_t_sums a_t_faces a_t_bestFaces a_t_text a_t_verbs a_t_many a_t_nums a_t_book a_t_hears a_t_spies a_t_known a_t_by t_typed t_at t_start t_token t_value t_items t_book t_hears'_2 t_spies'_2 t_known'_9 t_by'_9) s.heap H locs → lv_has ls 10 [(5, .int x5), (0, .ref a_t), (1, .int p1), (2, .int p2), (4, .int p4)] → (∀ (H : Heap) (locs : List Loc) (ls : Array Slot), m_H E A (wd_R_spreads E a_t a_t_images a_t_kept a_t_aside a_t_limbs a_t_wide a_t_ways a_t_fewest a_t_heavy a_t_sums a_t_faces a_t_bestFaces a_t_text a_t_verbs a_t_many a_t_nums a_t_book a_t_hears a_t_spies a_t_known a_t_by t_typed t_at t_start t_token t_value t_items t_book t_hears'_2 t_spies'_2 t_known'_10 t_by'_10) s.heap H locs → lv_has ls 10 [(0, .ref a_t), (2, .int p2), (4, .int p4)] → W p l e rm_R_spreads s m args below meth c H locs 0 0 Q (F0 m 48 ls [])) → W p l e rm_R_spreads s m args below meth c H locs 0 0 Q (F0 m 8 ls []) := by
    clear hF
    intro k0
    induction k0 with
    | zero =>
      intro x5 t_known'_9 t_by'_9 t_known'_10 t_by'_10 H locs ls hF
      cases hF
    | succ k0 ih5 =>
      intro x5 t_known'_9 t_by'_9 t_known'_10 t_by'_10 H locs ls hF hW hl hk4
      rw [R_spreads_L8] at hF
      refine lv_iload hx hb dX12_spreads_8 (lv_at hl 0 rfl) ?_
      refine lv_bipush (v := (8 : Int32)) hx hb dX12_spreads_10 (by decide) ?_
      refine lv_icmp_ge (tgt := 48) hx hb dX12_spreads_12 (by decide) (fun c6 => ?_) (fun c6 => ?_)
      · have hF := if_y c6 hF
        cases hF
        exact hk4 _ _ _ hW (lv_sub hl [1, 3, 4] rfl)
      · have hF := if_n c6 hF
        refine lv_aload_n hx hb dX12_spreads_15 rfl (lv_at hl 1 rfl) ?_
        refine m_get X hW fdX12_35 0 rfl rfl dX12_spreads_16 ?_
        refine lv_iload hx hb dX12_spreads_19 (lv_at hl 0 rfl) ?_
        refine lv_iload hx hb dX12_spreads_21 (lv_at hl 0 rfl) ?_
        refine lv_iload_n hx hb dX12_spreads_23 rfl (lv_at hl 2 rfl) ?_
        refine lv_icmp_ne (tgt := 31) hx hb dX12_spreads_24 (by decide) (fun c7 => ?_) (fun c7 => ?_)
        · have hF := if_n c7 hF
          refine lv_ldc (v := (1000000 : Int32)) hx hb hown (hts _ wk_1312) dX12_spreads_31 ?_
          obtain ⟨g8, hF⟩ := gd_some hF
          refine m_iast X hW 4 (k := x5.toNatClampNeg) rfl g8 rfl dX12_spreads_33 (ws' := (wd_R_spreads E a_t a_t_images a_t_kept a_t_aside a_t_limbs a_t_wide a_t_ways a_t_fewest a_t_heavy a_t_sums a_t_faces a_t_bestFaces a_t_text a_t_verbs a_t_many a_t_nums a_t_book a_t_hears a_t_spies a_t_known a_t_by t_typed t_at t_start t_token t_value t_items t_book t_hears'_2 t_spies'_2 (upd t_known'_9 x5.toNatClampNeg (1000000 : Int32)) t_by'_9)) rfl (fun H locs hW => ?_)
          refine lv_aload_n hx hb dX12_spreads_34 rfl (lv_at hl 1 rfl) ?_
          refine m_get X hW fdX12_38 0 rfl rfl dX12_spreads_35 ?_
          refine lv_iload hx hb dX12_spreads_38 (lv_at hl 0 rfl) ?_
          refine lv_iconst (v := (-1 : Int32)) hx hb dX12_spreads_40 (by decide) ?_
          refine m_iast X hW 5 (k := x5.toNatClampNeg) rfl g8 rfl dX12_spreads_41 (ws' := (wd_R_spreads E a_t a_t_images a_t_kept a_t_aside a_t_limbs a_t_wide a_t_ways a_t_fewest a_t_heavy a_t_sums a_t_faces a_t_bestFaces a_t_text a_t_verbs a_t_many a_t_nums a_t_book a_t_hears a_t_spies a_t_known a_t_by t_typed t_at t_start t_token t_value t_items t_book t_hears'_2 t_spies'_2 (upd t_known'_9 x5.toNatClampNeg (1000000 : Int32)) (upd t_by'_9 x5.toNatClampNeg (-1 : Int32)))) rfl (fun H locs hW => ?_)
          refine lv_iinc (v := (x5 + (1 : Int32))) (lv' := [(5, .int (x5 + (1 : Int32))), (0, .ref a_t), (1, .int p1), (2, .int p2), (4, .int p4)]) hx hb dX12_spreads_42 hl (k := 0) rfl rfl (by decide) rfl (fun ls hl => ?_)
          refine lv_goto (tgt := 8) hx hb dX12_spreads_45 (by decide) ?_
          exact ih5 (x5 + (1 : Int32)) (upd t_known'_9 x5.toNatClampNeg (1000000 : Int32)) (upd t_by'_9 x5.toNatClampNeg (-1 : Int32)) t_known'_10 t_by'_10 _ _ _ hF hW (lv_sub hl [0, 1, 2, 3, 4] rfl) hk4
        · have hF := if_y c7 hF
          refine lv_iload_n hx hb dX12_spreads_27 rfl (lv_at hl 3 rfl) ?_
          refine lv_goto (tgt := 33) hx hb dX12_spreads_28 (by decide) ?_
          obtain ⟨g9, hF⟩ := gd_some hF
          refine m_iast X hW 4 (k := x5.toNatClampNeg) rfl g9 rfl dX12_spreads_33 (ws' := (wd_R_spreads E a_t a_t_images a_t_kept a_t_aside a_t_limbs a_t_wide a_t_ways a_t_fewest a_t_heavy a_t_sums a_t_faces a_t_bestFaces a_t_text a_t_verbs a_t_many a_t_nums a_t_book a_t_hears a_t_spies a_t_known a_t_by t_typed t_at t_start t_token t_value t_items t_book t_hears'_2 t_spies'_2 (upd t_known'_9 x5.toNatClampNeg p2) t_by'_9)) rfl (fun H locs hW => ?_)
          refine lv_aload_n hx hb dX12_spreads_34 rfl (lv_at hl 1 rfl) ?_
          refine m_get X hW fdX12_38 0 rfl rfl dX12_spreads_35 ?_
          refine lv_iload hx hb dX12_spreads_38 (lv_at hl 0 rfl) ?_
          refine lv_iconst (v := (-1 : Int32)) hx hb dX12_spreads_40 (by decide) ?_
          refine m_iast X hW 5 (k := x5.toNatClampNeg) rfl g9 rfl dX12_spreads_41 (ws' := (wd_R_spreads E a_t a_t_images a_t_kept a_t_aside a_t_limbs a_t_wide a_t_ways a_t_fewest a_t_heavy a_t_sums a_t_faces a_t_bestFaces a_t_text a_t_verbs a_t_many a_t_nums a_t_book a_t_hears a_t_spies a_t_known a_t_by t_typed t_at t_start t_token t_value t_items t_book t_hears'_2 t_spies'_2 (upd t_known'_9 x5.toNatClampNeg p2) (upd t_by'_9 x5.toNatClampNeg (-1 : Int32)))) rfl (fun H locs hW => ?_)
          refine lv_iinc (v := (x5 + (1 : Int32))) (lv' := [(5, .int (x5 + (1 : Int32))), (0, .ref a_t), (1, .int p1), (2, .int p2), (4, .int p4)]) hx hb dX12_spreads_42 hl (k := 0) rfl rfl (by decide) rfl (fun ls hl => ?_)
          refine lv_goto (tgt := 8) hx hb dX12_spreads_45 (by decide) ?_
          exact ih5 (x5 + (1 : Int32)) (upd t_known'_9 x5.toNatClampNeg p2) (upd t_by'_9 x5.toNatClampNeg (-1 : Int32)) t_known'_10 t_by'_10 _ _ _ hF hW (lv_sub hl [0, 1, 2, 3, 4] rfl) hk4
  refine L2 N (0 : Int32) t_known t_by t_known'_10 t_by'_10 _ _ _ hX3 hW (lv_sub hl [0, 1, 2, 3, 5] rfl) ?_
  intro H locs ls hW hl
  clear L2
  refine lv_iload_n hx hb dX12_spreads_48 rfl (lv_at hl 1 rfl) ?_
  refine lv_istore (lv' := [(5, .int p2), (0, .ref a_t), (2, .int p2), (4, .int p4)]) hx hb dX12_spreads_49 hl (by decide) rfl (fun ls hl => ?_)
  obtain ⟨t_known'_16, t_by'_16, hX11, hF⟩ := bO_s2 hF
  have L10 : ∀ (k0 : Nat) (x5_2 : Int32) (t_known'_11 : Nat → Int32) (t_by'_11 : Nat → Int32) (t_known'_16 : Nat → Int32) (t_by'_16 : Nat → Int32) (H : Heap) (locs : List Loc) (ls : Array Slot), R_spreads_L51 N t_book p4 t_spies'_2 t_hears'_2 k0 x5_2 t_known'_11 t_by'_11 = some (t_known'_16, t_by'_16) → m_H E A (wd_R_spreads E a_t a_t_images a_t_kept a_t_aside a_t_limbs a_t_wide a_t_ways a_t_fewest a_t_heavy a_t_sums a_t_faces a_t_bestFaces a_t_text a_t_verbs a_t_many a_t_nums a_t_book a_t_hears a_t_spies a_t_known a_t_by t_typed t_at t_start t_token t_value t_items t_book t_hears'_2 t_spies'_2 t_known'_11 t_by'_11) s.heap H locs → lv_has ls 10 [(5, .int x5_2), (0, .ref a_t), (4, .int p4)] → (∀ (H : Heap) (locs : List Loc) (ls : Array Slot), m_H E A (wd_R_spreads E a_t a_t_images a_t_kept a_t_aside a_t_limbs a_t_wide a_t_ways a_t_fewest a_t_heavy a_t_sums a_t_faces a_t_bestFaces a_t_text a_t_verbs a_t_many a_t_nums a_t_book a_t_hears a_t_spies a_t_known a_t_by t_typed t_at t_start t_token t_value t_items t_book t_hears'_2 t_spies'_2 t_known'_16 t_by'_16) s.heap H locs → lv_has ls 10 [] → W p l e rm_R_spreads s m args below meth c H locs 0 0 Q (F0 m 272 ls [])) → W p l e rm_R_spreads s m args below meth c H locs 0 0 Q (F0 m 51 ls []) := by
    clear hF
    intro k0
    induction k0 with
    | zero =>
      intro x5_2 t_known'_11 t_by'_11 t_known'_16 t_by'_16 H locs ls hF
      cases hF
    | succ k0 ih13 =>
      intro x5_2 t_known'_11 t_by'_11 t_known'_16 t_by'_16 H locs ls hF hW hl hk12
      rw [R_spreads_L51] at hF
      refine lv_iload hx hb dX12_spreads_51 (lv_at hl 0 rfl) ?_
      refine lv_sipush (v := (240 : Int32)) hx hb dX12_spreads_53 (by decide) ?_
      refine lv_icmp_ge (tgt := 272) hx hb dX12_spreads_56 (by decide) (fun c14 => ?_) (fun c14 => ?_)
      · have hF := if_y c14 hF
        cases hF
        exact hk12 _ _ _ hW (lv_sub hl [] rfl)
      · have hF := if_n c14 hF
        refine lv_iconst (v := (0 : Int32)) hx hb dX12_spreads_59 (by decide) ?_
        refine lv_istore (lv' := [(6, .int (0 : Int32)), (5, .int x5_2), (0, .ref a_t), (4, .int p4)]) hx hb dX12_spreads_60 hl (by decide) rfl (fun ls hl => ?_)
        obtain ⟨t_known'_15, t_by'_15, hX16, hF⟩ := bO_s2 hF
        have L15 : ∀ (k0 : Nat) (x6 : Int32) (t_known'_12 : Nat → Int32) (t_by'_12 : Nat → Int32) (t_known'_15 : Nat → Int32) (t_by'_15 : Nat → Int32) (H : Heap) (locs : List Loc) (ls : Array Slot), R_spreads_L62 N t_book x5_2 p4 t_spies'_2 t_hears'_2 k0 x6 t_known'_12 t_by'_12 = some (t_known'_15, t_by'_15) → m_H E A (wd_R_spreads E a_t a_t_images a_t_kept a_t_aside a_t_limbs a_t_wide a_t_ways a_t_fewest a_t_heavy a_t_sums a_t_faces a_t_bestFaces a_t_text a_t_verbs a_t_many a_t_nums a_t_book a_t_hears a_t_spies a_t_known a_t_by t_typed t_at t_start t_token t_value t_items t_book t_hears'_2 t_spies'_2 t_known'_12 t_by'_12) s.heap H locs → lv_has ls 10 [(6, .int x6), (5, .int x5_2), (0, .ref a_t), (4, .int p4)] → (∀ (H : Heap) (locs : List Loc) (ls : Array Slot), m_H E A (wd_R_spreads E a_t a_t_images a_t_kept a_t_aside a_t_limbs a_t_wide a_t_ways a_t_fewest a_t_heavy a_t_sums a_t_faces a_t_bestFaces a_t_text a_t_verbs a_t_many a_t_nums a_t_book a_t_hears a_t_spies a_t_known a_t_by t_typed t_at t_start t_token t_value t_items t_book t_hears'_2 t_spies'_2 t_known'_15 t_by'_15) s.heap H locs → lv_has ls 10 [(5, .int x5_2), (0, .ref a_t), (4, .int p4)] → W p l e rm_R_spreads s m args below meth c H locs 0 0 Q (F0 m 266 ls [])) → W p l e rm_R_spreads s m args below meth c H locs 0 0 Q (F0 m 62 ls []) := by
          clear hF
          intro k0
          induction k0 with
          | zero =>
            intro x6 t_known'_12 t_by'_12 t_known'_15 t_by'_15 H locs ls hF
            cases hF
          | succ k0 ih18 =>
            intro x6 t_known'_12 t_by'_12 t_known'_15 t_by'_15 H locs ls hF hW hl hk17
            rw [R_spreads_L62] at hF
            refine lv_iload hx hb dX12_spreads_62 (lv_at hl 0 rfl) ?_
            refine lv_aload_n hx hb dX12_spreads_64 rfl (lv_at hl 2 rfl) ?_
            refine m_get X hW fdX12_7 0 rfl rfl dX12_spreads_65 ?_
            refine lv_iconst (v := (1 : Int32)) hx hb dX12_spreads_68 (by decide) ?_
            refine m_iald X hW 1 (k := 1) rfl (by decide) rfl dX12_spreads_69 ?_
            refine lv_icmp_ge (tgt := 266) hx hb dX12_spreads_70 (by decide) (fun c19 => ?_) (fun c19 => ?_)
            · have hF := if_y c19 hF
              cases hF
              exact hk17 _ _ _ hW (lv_sub hl [1, 2, 3] rfl)
            · have hF := if_n c19 hF
              refine lv_aload_n hx hb dX12_spreads_73 rfl (lv_at hl 2 rfl) ?_
              refine m_get X hW fdX12_35 0 rfl rfl dX12_spreads_74 ?_
              refine lv_iload hx hb dX12_spreads_77 (lv_at hl 0 rfl) ?_
              obtain ⟨g20, hF⟩ := gd_some hF
              refine m_iald X hW 4 (k := x6.toNatClampNeg) rfl g20 rfl dX12_spreads_79 ?_
              refine lv_iload hx hb dX12_spreads_80 (lv_at hl 1 rfl) ?_
              obtain ⟨y0, hX22, hF⟩ := bO_s1 hF
              have J21 : ∀ (H : Heap) (locs : List Loc) (ls : Array Slot), m_H E A (wd_R_spreads E a_t a_t_images a_t_kept a_t_aside a_t_limbs a_t_wide a_t_ways a_t_fewest a_t_heavy a_t_sums a_t_faces a_t_bestFaces a_t_text a_t_verbs a_t_many a_t_nums a_t_book a_t_hears a_t_spies a_t_known a_t_by t_typed t_at t_start t_token t_value t_items t_book t_hears'_2 t_spies'_2 t_known'_12 t_by'_12) s.heap H locs → lv_has ls 10 [(6, .int x6), (5, .int x5_2), (0, .ref a_t), (4, .int p4)] → W p l e rm_R_spreads s m args below meth c H locs 0 0 Q (F0 m 102 ls [.int y0]) := by
                intro H locs ls hW hl
                refine lv_istore (lv' := [(7, .int y0), (6, .int x6), (5, .int x5_2), (0, .ref a_t), (4, .int p4)]) hx hb dX12_spreads_102 hl (by decide) rfl (fun ls hl => ?_)
                refine lv_iload hx hb dX12_spreads_104 (lv_at hl 4 rfl) ?_
                refine lv_iconst (v := (-1 : Int32)) hx hb dX12_spreads_106 (by decide) ?_
                obtain ⟨y0_2, hX24, hF⟩ := bO_s1 hF
                have J23 : ∀ (H : Heap) (locs : List Loc) (ls : Array Slot), m_H E A (wd_R_spreads E a_t a_t_images a_t_kept a_t_aside a_t_limbs a_t_wide a_t_ways a_t_fewest a_t_heavy a_t_sums a_t_faces a_t_bestFaces a_t_text a_t_verbs a_t_many a_t_nums a_t_book a_t_hears a_t_spies a_t_known a_t_by t_typed t_at t_start t_token t_value t_items t_book t_hears'_2 t_spies'_2 t_known'_12 t_by'_12) s.heap H locs → lv_has ls 10 [(7, .int y0), (6, .int x6), (5, .int x5_2), (0, .ref a_t), (4, .int p4)] → W p l e rm_R_spreads s m args below meth c H locs 0 0 Q (F0 m 161 ls [.int y0_2]) := by
                  intro H locs ls hW hl
                  refine lv_istore (lv' := [(8, .int y0_2), (7, .int y0), (6, .int x6), (5, .int x5_2), (0, .ref a_t), (4, .int p4)]) hx hb dX12_spreads_161 hl (by decide) rfl (fun ls hl => ?_)
                  refine lv_iconst (v := (0 : Int32)) hx hb dX12_spreads_163 (by decide) ?_
                  refine lv_istore (lv' := [(9, .int (0 : Int32)), (8, .int y0_2), (7, .int y0), (6, .int x6), (5, .int x5_2), (0, .ref a_t), (4, .int p4)]) hx hb dX12_spreads_164 hl (by decide) rfl (fun ls hl => ?_)
                  obtain ⟨t_known'_14, t_by'_14, hX26, hF⟩ := bO_s2 hF
                  have L25 : ∀ (k0 : Nat) (x9 : Int32) (t_known'_13 : Nat → Int32) (t_by'_13 : Nat → Int32) (t_known'_14 : Nat → Int32) (t_by'_14 : Nat → Int32) (H : Heap) (locs : List Loc) (ls : Array Slot), R_spreads_L166 t_book y0 y0_2 p4 x6 t_hears'_2 x5_2 k0 x9 t_known'_13 t_by'_13 = some (t_known'_14, t_by'_14) → m_H E A (wd_R_spreads E a_t a_t_images a_t_kept a_t_aside a_t_limbs a_t_wide a_t_ways a_t_fewest a_t_heavy a_t_sums a_t_faces a_t_bestFaces a_t_text a_t_verbs a_t_many a_t_nums a_t_book a_t_hears a_t_spies a_t_known a_t_by t_typed t_at t_start t_token t_value t_items t_book t_hears'_2 t_spies'_2 t_known'_13 t_by'_13) s.heap H locs → lv_has ls 10 [(9, .int x9), (8, .int y0_2), (7, .int y0), (6, .int x6), (5, .int x5_2), (0, .ref a_t), (4, .int p4)] → (∀ (H : Heap) (locs : List Loc) (ls : Array Slot), m_H E A (wd_R_spreads E a_t a_t_images a_t_kept a_t_aside a_t_limbs a_t_wide a_t_ways a_t_fewest a_t_heavy a_t_sums a_t_faces a_t_bestFaces a_t_text a_t_verbs a_t_many a_t_nums a_t_book a_t_hears a_t_spies a_t_known a_t_by t_typed t_at t_start t_token t_value t_items t_book t_hears'_2 t_spies'_2 t_known'_14 t_by'_14) s.heap H locs → lv_has ls 10 [(6, .int x6), (5, .int x5_2), (0, .ref a_t), (4, .int p4)] → W p l e rm_R_spreads s m args below meth c H locs 0 0 Q (F0 m 260 ls [])) → W p l e rm_R_spreads s m args below meth c H locs 0 0 Q (F0 m 166 ls []) := by
                    clear hF
                    intro k0
                    induction k0 with
                    | zero =>
                      intro x9 t_known'_13 t_by'_13 t_known'_14 t_by'_14 H locs ls hF
                      cases hF
                    | succ k0 ih28 =>
                      intro x9 t_known'_13 t_by'_13 t_known'_14 t_by'_14 H locs ls hF hW hl hk27
                      rw [R_spreads_L166] at hF
                      refine lv_iload hx hb dX12_spreads_166 (lv_at hl 0 rfl) ?_
                      refine lv_aload_n hx hb dX12_spreads_168 rfl (lv_at hl 5 rfl) ?_
                      refine m_get X hW fdX12_7 0 rfl rfl dX12_spreads_169 ?_
                      refine lv_iconst (v := (1 : Int32)) hx hb dX12_spreads_172 (by decide) ?_
                      refine m_iald X hW 1 (k := 1) rfl (by decide) rfl dX12_spreads_173 ?_
                      refine lv_icmp_ge (tgt := 260) hx hb dX12_spreads_174 (by decide) (fun c29 => ?_) (fun c29 => ?_)
                      · have hF := if_y c29 hF
                        cases hF
                        exact hk27 _ _ _ hW (lv_sub hl [3, 4, 5, 6] rfl)
                      · have hF := if_n c29 hF
                        refine lv_iload hx hb dX12_spreads_177 (lv_at hl 2 rfl) ?_
                        refine lv_if_eq (tgt := 260) hx hb dX12_spreads_179 (by decide) (fun c30 => ?_) (fun c30 => ?_)
                        · have hF := if_y c30 hF
                          cases hF
                          exact hk27 _ _ _ hW (lv_sub hl [3, 4, 5, 6] rfl)
                        · have hF := if_n c30 hF
                          refine lv_iload hx hb dX12_spreads_182 (lv_at hl 1 rfl) ?_
                          refine lv_if_ne (tgt := 260) hx hb dX12_spreads_184 (by decide) (fun c31 => ?_) (fun c31 => ?_)
                          · have hF := if_n c31 hF
                            cases hF
                            exact hk27 _ _ _ hW (lv_sub hl [3, 4, 5, 6] rfl)
                          · have hF := if_y c31 hF
                            refine lv_aload_n hx hb dX12_spreads_187 rfl (lv_at hl 5 rfl) ?_
                            refine m_get X hW fdX12_35 0 rfl rfl dX12_spreads_188 ?_
                            refine lv_iload hx hb dX12_spreads_191 (lv_at hl 0 rfl) ?_
                            obtain ⟨g32, hF⟩ := gd_some hF
                            refine m_iald X hW 4 (k := x9.toNatClampNeg) rfl g32 rfl dX12_spreads_193 ?_
                            refine lv_ldc (v := (1000000 : Int32)) hx hb hown (hts _ wk_1312) dX12_spreads_194 ?_
                            refine lv_icmp_ne (tgt := 254) hx hb dX12_spreads_196 (by decide) (fun c33 => ?_) (fun c33 => ?_)
                            · have hF := if_n c33 hF
                              refine lv_iinc (v := (x9 + (1 : Int32))) (lv' := [(9, .int (x9 + (1 : Int32))), (8, .int y0_2), (7, .int y0), (6, .int x6), (5, .int x5_2), (0, .ref a_t), (4, .int p4)]) hx hb dX12_spreads_254 hl (k := 0) rfl rfl (by decide) rfl (fun ls hl => ?_)
                              refine lv_goto (tgt := 166) hx hb dX12_spreads_257 (by decide) ?_
                              exact ih28 (x9 + (1 : Int32)) t_known'_13 t_by'_13 t_known'_14 t_by'_14 _ _ _ hF hW (lv_sub hl [0, 1, 2, 3, 4, 5, 6] rfl) hk27
                            · have hF := if_y c33 hF
                              refine lv_iload hx hb dX12_spreads_199 (lv_at hl 0 rfl) ?_
                              refine lv_iload hx hb dX12_spreads_201 (lv_at hl 6 rfl) ?_
                              refine lv_icmp_eq (tgt := 254) hx hb dX12_spreads_203 (by decide) (fun c34 => ?_) (fun c34 => ?_)
                              · have hF := if_y c34 hF
                                refine lv_iinc (v := (x9 + (1 : Int32))) (lv' := [(9, .int (x9 + (1 : Int32))), (8, .int y0_2), (7, .int y0), (6, .int x6), (5, .int x5_2), (0, .ref a_t), (4, .int p4)]) hx hb dX12_spreads_254 hl (k := 0) rfl rfl (by decide) rfl (fun ls hl => ?_)
                                refine lv_goto (tgt := 166) hx hb dX12_spreads_257 (by decide) ?_
                                exact ih28 (x9 + (1 : Int32)) t_known'_13 t_by'_13 t_known'_14 t_by'_14 _ _ _ hF hW (lv_sub hl [0, 1, 2, 3, 4, 5, 6] rfl) hk27
                              · have hF := if_n c34 hF
                                refine lv_aload_n hx hb dX12_spreads_206 rfl (lv_at hl 5 rfl) ?_
                                refine m_get X hW fdX12_29 0 rfl rfl dX12_spreads_207 ?_
                                refine lv_bipush (v := (8 : Int32)) hx hb dX12_spreads_210 (by decide) ?_
                                refine lv_iload hx hb dX12_spreads_212 (lv_at hl 0 rfl) ?_
                                refine lv_imul hx hb dX12_spreads_214 ?_
                                refine lv_iload hx hb dX12_spreads_215 (lv_at hl 3 rfl) ?_
                                refine lv_iadd hx hb dX12_spreads_217 ?_
                                obtain ⟨g35, hF⟩ := gd_some hF
                                refine m_zald X hW 2 (k := (((8 : Int32) * x9) + x6).toNatClampNeg) rfl g35 rfl dX12_spreads_218 ?_
                                refine lv_if_eq (tgt := 254) hx hb dX12_spreads_219 (by decide) (fun c36 => ?_) (fun c36 => ?_)
                                · have hF := if_y c36 hF
                                  refine lv_iinc (v := (x9 + (1 : Int32))) (lv' := [(9, .int (x9 + (1 : Int32))), (8, .int y0_2), (7, .int y0), (6, .int x6), (5, .int x5_2), (0, .ref a_t), (4, .int p4)]) hx hb dX12_spreads_254 hl (k := 0) rfl rfl (by decide) rfl (fun ls hl => ?_)
                                  refine lv_goto (tgt := 166) hx hb dX12_spreads_257 (by decide) ?_
                                  exact ih28 (x9 + (1 : Int32)) t_known'_13 t_by'_13 t_known'_14 t_by'_14 _ _ _ hF hW (lv_sub hl [0, 1, 2, 3, 4, 5, 6] rfl) hk27
                                · have hF := if_n c36 hF
                                  refine lv_aload_n hx hb dX12_spreads_222 rfl (lv_at hl 5 rfl) ?_
                                  refine lv_iload hx hb dX12_spreads_223 (lv_at hl 0 rfl) ?_
                                  refine lv_iconst (v := (1 : Int32)) hx hb dX12_spreads_225 (by decide) ?_
                                  refine lv_iload hx hb dX12_spreads_226 (lv_at hl 4 rfl) ?_
                                  obtain ⟨r228, hC37, hF⟩ := bO_s1 hF
                                  refine m_callV X hW hA hl.1 lkX12_168 (c_R_can l E _ N a_t a_t_images a_t_kept a_t_aside a_t_limbs a_t_wide a_t_hears a_t_spies a_t_known a_t_by a_t_ways a_t_fewest a_t_heavy a_t_sums a_t_faces a_t_bestFaces a_t_text a_t_verbs a_t_many a_t_nums a_t_book t_typed t_at t_start t_token t_value t_items t_book x9 (1 : Int32) x5_2 r228 hC37) ([0, 1]) (by decide) rfl rfl (ws' := (wd_R_spreads E a_t a_t_images a_t_kept a_t_aside a_t_limbs a_t_wide a_t_ways a_t_fewest a_t_heavy a_t_sums a_t_faces a_t_bestFaces a_t_text a_t_verbs a_t_many a_t_nums a_t_book a_t_hears a_t_spies a_t_known a_t_by t_typed t_at t_start t_token t_value t_items t_book t_hears'_2 t_spies'_2 t_known'_13 t_by'_13)) rfl 0 rfl rfl rfl (As := [.int x9, .int (1 : Int32), .int x5_2]) (rest := []) rfl rfl ⟨rfl, rfl, Nat.le_of_ble_eq_true rfl, Nat.le_of_ble_eq_true rfl⟩ (Nat.le_of_ble_eq_true rfl) (Nat.zero_le _) (Nat.zero_le _) dX12_spreads_228 (fun H locs hW => ?_)
                                  clear hC37
                                  refine lv_if_eq (tgt := 254) hx hb dX12_spreads_231 (by decide) (fun c38 => ?_) (fun c38 => ?_)
                                  · have hF := if_y c38 hF
                                    refine lv_iinc (v := (x9 + (1 : Int32))) (lv' := [(9, .int (x9 + (1 : Int32))), (8, .int y0_2), (7, .int y0), (6, .int x6), (5, .int x5_2), (0, .ref a_t), (4, .int p4)]) hx hb dX12_spreads_254 hl (k := 0) rfl rfl (by decide) rfl (fun ls hl => ?_)
                                    refine lv_goto (tgt := 166) hx hb dX12_spreads_257 (by decide) ?_
                                    exact ih28 (x9 + (1 : Int32)) t_known'_13 t_by'_13 t_known'_14 t_by'_14 _ _ _ hF hW (lv_sub hl [0, 1, 2, 3, 4, 5, 6] rfl) hk27
                                  · have hF := if_n c38 hF
                                    refine lv_aload_n hx hb dX12_spreads_234 rfl (lv_at hl 5 rfl) ?_
                                    refine m_get X hW fdX12_35 0 rfl rfl dX12_spreads_235 ?_
                                    refine lv_iload hx hb dX12_spreads_238 (lv_at hl 0 rfl) ?_
                                    refine lv_iload hx hb dX12_spreads_240 (lv_at hl 4 rfl) ?_
                                    refine lv_iconst (v := (1 : Int32)) hx hb dX12_spreads_242 (by decide) ?_
                                    refine lv_iadd hx hb dX12_spreads_243 ?_
                                    refine m_iast X hW 4 (k := x9.toNatClampNeg) rfl g32 rfl dX12_spreads_244 (ws' := (wd_R_spreads E a_t a_t_images a_t_kept a_t_aside a_t_limbs a_t_wide a_t_ways a_t_fewest a_t_heavy a_t_sums a_t_faces a_t_bestFaces a_t_text a_t_verbs a_t_many a_t_nums a_t_book a_t_hears a_t_spies a_t_known a_t_by t_typed t_at t_start t_token t_value t_items t_book t_hears'_2 t_spies'_2 (upd t_known'_13 x9.toNatClampNeg (x5_2 + (1 : Int32))) t_by'_13)) rfl (fun H locs hW => ?_)
                                    refine lv_aload_n hx hb dX12_spreads_245 rfl (lv_at hl 5 rfl) ?_
                                    refine m_get X hW fdX12_38 0 rfl rfl dX12_spreads_246 ?_
                                    refine lv_iload hx hb dX12_spreads_249 (lv_at hl 0 rfl) ?_
                                    refine lv_iload hx hb dX12_spreads_251 (lv_at hl 3 rfl) ?_
                                    refine m_iast X hW 5 (k := x9.toNatClampNeg) rfl g32 rfl dX12_spreads_253 (ws' := (wd_R_spreads E a_t a_t_images a_t_kept a_t_aside a_t_limbs a_t_wide a_t_ways a_t_fewest a_t_heavy a_t_sums a_t_faces a_t_bestFaces a_t_text a_t_verbs a_t_many a_t_nums a_t_book a_t_hears a_t_spies a_t_known a_t_by t_typed t_at t_start t_token t_value t_items t_book t_hears'_2 t_spies'_2 (upd t_known'_13 x9.toNatClampNeg (x5_2 + (1 : Int32))) (upd t_by'_13 x9.toNatClampNeg x6))) rfl (fun H locs hW => ?_)
                                    refine lv_iinc (v := (x9 + (1 : Int32))) (lv' := [(9, .int (x9 + (1 : Int32))), (8, .int y0_2), (7, .int y0), (6, .int x6), (5, .int x5_2), (0, .ref a_t), (4, .int p4)]) hx hb dX12_spreads_254 hl (k := 0) rfl rfl (by decide) rfl (fun ls hl => ?_)
                                    refine lv_goto (tgt := 166) hx hb dX12_spreads_257 (by decide) ?_
                                    exact ih28 (x9 + (1 : Int32)) (upd t_known'_13 x9.toNatClampNeg (x5_2 + (1 : Int32))) (upd t_by'_13 x9.toNatClampNeg x6) t_known'_14 t_by'_14 _ _ _ hF hW (lv_sub hl [0, 1, 2, 3, 4, 5, 6] rfl) hk27
                  refine L25 N (0 : Int32) t_known'_12 t_by'_12 t_known'_14 t_by'_14 _ _ _ hX26 hW (lv_sub hl [0, 1, 2, 3, 4, 5, 6] rfl) ?_
                  intro H locs ls hW hl
                  clear L25
                  refine lv_iinc (v := (x6 + (1 : Int32))) (lv' := [(6, .int (x6 + (1 : Int32))), (5, .int x5_2), (0, .ref a_t), (4, .int p4)]) hx hb dX12_spreads_260 hl (k := 0) rfl rfl (by decide) rfl (fun ls hl => ?_)
                  refine lv_goto (tgt := 62) hx hb dX12_spreads_263 (by decide) ?_
                  exact ih18 (x6 + (1 : Int32)) t_known'_14 t_by'_14 t_known'_15 t_by'_15 _ _ _ hF hW (lv_sub hl [0, 1, 2, 3] rfl) hk17
                clear hF
                have hF := hX24
                clear hX24
                refine lv_icmp_eq (tgt := 160) hx hb dX12_spreads_107 (by decide) (fun c39 => ?_) (fun c39 => ?_)
                · have hF := if_y c39 hF
                  refine lv_iconst (v := (0 : Int32)) hx hb dX12_spreads_160 (by decide) ?_
                  cases hF
                  exact J23 _ _ _ hW (lv_sub hl [0, 1, 2, 3, 4] rfl)
                · have hF := if_n c39 hF
                  refine lv_aload_n hx hb dX12_spreads_110 rfl (lv_at hl 3 rfl) ?_
                  refine m_get X hW fdX12_32 0 rfl rfl dX12_spreads_111 ?_
                  refine lv_bipush (v := (8 : Int32)) hx hb dX12_spreads_114 (by decide) ?_
                  refine lv_iload hx hb dX12_spreads_116 (lv_at hl 4 rfl) ?_
                  obtain ⟨y2, hX41, hF⟩ := bO_s1 hF
                  have J40 : ∀ (H : Heap) (locs : List Loc) (ls : Array Slot), m_H E A (wd_R_spreads E a_t a_t_images a_t_kept a_t_aside a_t_limbs a_t_wide a_t_ways a_t_fewest a_t_heavy a_t_sums a_t_faces a_t_bestFaces a_t_text a_t_verbs a_t_many a_t_nums a_t_book a_t_hears a_t_spies a_t_known a_t_by t_typed t_at t_start t_token t_value t_items t_book t_hears'_2 t_spies'_2 t_known'_12 t_by'_12) s.heap H locs → lv_has ls 10 [(7, .int y0), (6, .int x6), (5, .int x5_2), (0, .ref a_t), (4, .int p4)] → W p l e rm_R_spreads s m args below meth c H locs 0 0 Q (F0 m 127 ls [.int y2, .int (8 : Int32), .ref a_t_spies]) := by
                    intro H locs ls hW hl
                    refine lv_imul hx hb dX12_spreads_127 ?_
                    refine lv_iload hx hb dX12_spreads_128 (lv_at hl 1 rfl) ?_
                    refine lv_iadd hx hb dX12_spreads_130 ?_
                    obtain ⟨g42, hF⟩ := gd_some hF
                    refine m_zald X hW 3 (k := (((8 : Int32) * y2) + x6).toNatClampNeg) rfl g42 rfl dX12_spreads_131 ?_
                    refine lv_if_eq (tgt := 160) hx hb dX12_spreads_132 (by decide) (fun c43 => ?_) (fun c43 => ?_)
                    · have hF := if_y c43 hF
                      refine lv_iconst (v := (0 : Int32)) hx hb dX12_spreads_160 (by decide) ?_
                      cases hF
                      exact J23 _ _ _ hW (lv_sub hl [0, 1, 2, 3, 4] rfl)
                    · have hF := if_n c43 hF
                      refine lv_aload_n hx hb dX12_spreads_135 rfl (lv_at hl 3 rfl) ?_
                      refine lv_iload hx hb dX12_spreads_136 (lv_at hl 4 rfl) ?_
                      obtain ⟨y1, hX45, hF⟩ := bO_s1 hF
                      have J44 : ∀ (H : Heap) (locs : List Loc) (ls : Array Slot), m_H E A (wd_R_spreads E a_t a_t_images a_t_kept a_t_aside a_t_limbs a_t_wide a_t_ways a_t_fewest a_t_heavy a_t_sums a_t_faces a_t_bestFaces a_t_text a_t_verbs a_t_many a_t_nums a_t_book a_t_hears a_t_spies a_t_known a_t_by t_typed t_at t_start t_token t_value t_items t_book t_hears'_2 t_spies'_2 t_known'_12 t_by'_12) s.heap H locs → lv_has ls 10 [(7, .int y0), (6, .int x6), (5, .int x5_2), (0, .ref a_t), (4, .int p4)] → W p l e rm_R_spreads s m args below meth c H locs 0 0 Q (F0 m 147 ls [.int y1, .ref a_t]) := by
                        intro H locs ls hW hl
                        refine lv_iconst (v := (1 : Int32)) hx hb dX12_spreads_147 (by decide) ?_
                        refine lv_iload hx hb dX12_spreads_148 (lv_at hl 2 rfl) ?_
                        obtain ⟨r150, hC46, hF⟩ := bO_s1 hF
                        refine m_callV X hW hA hl.1 lkX12_168 (c_R_can l E _ N a_t a_t_images a_t_kept a_t_aside a_t_limbs a_t_wide a_t_hears a_t_spies a_t_known a_t_by a_t_ways a_t_fewest a_t_heavy a_t_sums a_t_faces a_t_bestFaces a_t_text a_t_verbs a_t_many a_t_nums a_t_book t_typed t_at t_start t_token t_value t_items t_book y1 (1 : Int32) x5_2 r150 hC46) ([0, 1]) (by decide) rfl rfl (ws' := (wd_R_spreads E a_t a_t_images a_t_kept a_t_aside a_t_limbs a_t_wide a_t_ways a_t_fewest a_t_heavy a_t_sums a_t_faces a_t_bestFaces a_t_text a_t_verbs a_t_many a_t_nums a_t_book a_t_hears a_t_spies a_t_known a_t_by t_typed t_at t_start t_token t_value t_items t_book t_hears'_2 t_spies'_2 t_known'_12 t_by'_12)) rfl 0 rfl rfl rfl (As := [.int y1, .int (1 : Int32), .int x5_2]) (rest := []) rfl rfl ⟨rfl, rfl, Nat.le_of_ble_eq_true rfl, Nat.le_of_ble_eq_true rfl⟩ (Nat.le_of_ble_eq_true rfl) (Nat.zero_le _) (Nat.zero_le _) dX12_spreads_150 (fun H locs hW => ?_)
                        clear hC46
                        refine lv_if_eq (tgt := 160) hx hb dX12_spreads_153 (by decide) (fun c47 => ?_) (fun c47 => ?_)
                        · have hF := if_y c47 hF
                          refine lv_iconst (v := (0 : Int32)) hx hb dX12_spreads_160 (by decide) ?_
                          cases hF
                          exact J23 _ _ _ hW (lv_sub hl [0, 1, 2, 3, 4] rfl)
                        · have hF := if_n c47 hF
                          refine lv_iconst (v := (1 : Int32)) hx hb dX12_spreads_156 (by decide) ?_
                          refine lv_goto (tgt := 161) hx hb dX12_spreads_157 (by decide) ?_
                          cases hF
                          exact J23 _ _ _ hW (lv_sub hl [0, 1, 2, 3, 4] rfl)
                      clear hF
                      have hF := hX45
                      clear hX45
                      refine lv_if_ge (tgt := 145) hx hb dX12_spreads_138 (by decide) (fun c48 => ?_) (fun c48 => ?_)
                      · have hF := if_y c48 hF
                        refine lv_iload hx hb dX12_spreads_145 (lv_at hl 4 rfl) ?_
                        cases hF
                        exact J44 _ _ _ hW (lv_sub hl [0, 1, 2, 3, 4] rfl)
                      · have hF := if_n c48 hF
                        refine lv_iconst (v := (0 : Int32)) hx hb dX12_spreads_141 (by decide) ?_
                        refine lv_goto (tgt := 147) hx hb dX12_spreads_142 (by decide) ?_
                        cases hF
                        exact J44 _ _ _ hW (lv_sub hl [0, 1, 2, 3, 4] rfl)
                  clear hF
                  have hF := hX41
                  clear hX41
                  refine lv_if_ge (tgt := 125) hx hb dX12_spreads_118 (by decide) (fun c49 => ?_) (fun c49 => ?_)
                  · have hF := if_y c49 hF
                    refine lv_iload hx hb dX12_spreads_125 (lv_at hl 4 rfl) ?_
                    cases hF
                    exact J40 _ _ _ hW (lv_sub hl [0, 1, 2, 3, 4] rfl)
                  · have hF := if_n c49 hF
                    refine lv_iconst (v := (0 : Int32)) hx hb dX12_spreads_121 (by decide) ?_
                    refine lv_goto (tgt := 127) hx hb dX12_spreads_122 (by decide) ?_
                    cases hF
                    exact J40 _ _ _ hW (lv_sub hl [0, 1, 2, 3, 4] rfl)
              clear hF
              have hF := hX22
              clear hX22
              refine lv_icmp_gt (tgt := 101) hx hb dX12_spreads_82 (by decide) (fun c50 => ?_) (fun c50 => ?_)
              · have hF := if_y c50 hF
                refine lv_iconst (v := (0 : Int32)) hx hb dX12_spreads_101 (by decide) ?_
                cases hF
                exact J21 _ _ _ hW (lv_sub hl [0, 1, 2, 3] rfl)
              · have hF := if_n c50 hF
                refine lv_aload_n hx hb dX12_spreads_85 rfl (lv_at hl 2 rfl) ?_
                refine lv_iload hx hb dX12_spreads_86 (lv_at hl 0 rfl) ?_
                refine lv_iconst (v := (0 : Int32)) hx hb dX12_spreads_88 (by decide) ?_
                refine lv_iload hx hb dX12_spreads_89 (lv_at hl 1 rfl) ?_
                obtain ⟨r91, hC51, hF⟩ := bO_s1 hF
                refine m_callV X hW hA hl.1 lkX12_168 (c_R_can l E _ N a_t a_t_images a_t_kept a_t_aside a_t_limbs a_t_wide a_t_hears a_t_spies a_t_known a_t_by a_t_ways a_t_fewest a_t_heavy a_t_sums a_t_faces a_t_bestFaces a_t_text a_t_verbs a_t_many a_t_nums a_t_book t_typed t_at t_start t_token t_value t_items t_book x6 (0 : Int32) x5_2 r91 hC51) ([0, 1]) (by decide) rfl rfl (ws' := (wd_R_spreads E a_t a_t_images a_t_kept a_t_aside a_t_limbs a_t_wide a_t_ways a_t_fewest a_t_heavy a_t_sums a_t_faces a_t_bestFaces a_t_text a_t_verbs a_t_many a_t_nums a_t_book a_t_hears a_t_spies a_t_known a_t_by t_typed t_at t_start t_token t_value t_items t_book t_hears'_2 t_spies'_2 t_known'_12 t_by'_12)) rfl 0 rfl rfl rfl (As := [.int x6, .int (0 : Int32), .int x5_2]) (rest := []) rfl rfl ⟨rfl, rfl, Nat.le_of_ble_eq_true rfl, Nat.le_of_ble_eq_true rfl⟩ (Nat.le_of_ble_eq_true rfl) (Nat.zero_le _) (Nat.zero_le _) dX12_spreads_91 (fun H locs hW => ?_)
                clear hC51
                refine lv_if_eq (tgt := 101) hx hb dX12_spreads_94 (by decide) (fun c52 => ?_) (fun c52 => ?_)
                · have hF := if_y c52 hF
                  refine lv_iconst (v := (0 : Int32)) hx hb dX12_spreads_101 (by decide) ?_
                  cases hF
                  exact J21 _ _ _ hW (lv_sub hl [0, 1, 2, 3] rfl)
                · have hF := if_n c52 hF
                  refine lv_iconst (v := (1 : Int32)) hx hb dX12_spreads_97 (by decide) ?_
                  refine lv_goto (tgt := 102) hx hb dX12_spreads_98 (by decide) ?_
                  cases hF
                  exact J21 _ _ _ hW (lv_sub hl [0, 1, 2, 3] rfl)
        refine L15 N (0 : Int32) t_known'_11 t_by'_11 t_known'_15 t_by'_15 _ _ _ hX16 hW (lv_sub hl [0, 1, 2, 3] rfl) ?_
        intro H locs ls hW hl
        clear L15
        refine lv_iinc (v := (x5_2 + (1 : Int32))) (lv' := [(5, .int (x5_2 + (1 : Int32))), (0, .ref a_t), (4, .int p4)]) hx hb dX12_spreads_266 hl (k := 0) rfl rfl (by decide) rfl (fun ls hl => ?_)
        refine lv_goto (tgt := 51) hx hb dX12_spreads_269 (by decide) ?_
        exact ih13 (x5_2 + (1 : Int32)) t_known'_15 t_by'_15 t_known'_16 t_by'_16 _ _ _ hF hW (lv_sub hl [0, 1, 2] rfl) hk12
  refine L10 N p2 t_known'_10 t_by'_10 t_known'_16 t_by'_16 _ _ _ hX11 hW (lv_sub hl [0, 1, 3] rfl) ?_
  intro H locs ls hW hl
  clear L10
  have hq := Option.some.inj hF
  subst hq
  exact hret _ _ _ _ hW dX12_spreads_272
abbrev wd_R_isNews (E : m_E) (a_t : Nat) (a_t_images : Nat) (a_t_kept : Nat) (a_t_aside : Nat) (a_t_limbs : Nat) (a_t_wide : Nat) (a_t_hears : Nat) (a_t_spies : Nat) (a_t_known : Nat) (a_t_by : Nat) (a_t_ways : Nat) (a_t_fewest : Nat) (a_t_heavy : Nat) (a_t_sums : Nat) (a_t_faces : Nat) (a_t_bestFaces : Nat) (a_t_text : Nat) (a_t_verbs : Nat) (a_t_many : Nat) (a_t_nums : Nat) (a_t_book : Nat) (t_typed : Int32) (t_at : Int32) (t_start : Int32) (t_token : Int32) (t_value : Int32) (t_items : Int32) (t_book : Nat → Int32) : va_W := [(a_t, .inr (12, [.ref a_t_book, .ref a_t_images, .ref a_t_kept, .ref a_t_aside, .ref a_t_limbs, .ref a_t_wide, .ref a_t_hears, .ref a_t_spies, .ref a_t_known, .ref a_t_by, .ref a_t_ways, .ref a_t_fewest, .ref a_t_heavy, .ref a_t_sums, .ref a_t_faces, .ref a_t_bestFaces, .ref a_t_text, .int t_typed, .int t_at, .int t_start, .int t_token, .int t_value, .ref a_t_verbs, .ref a_t_many, .ref a_t_nums, .int t_items])), (a_t_book, .inl (E.2.1 0, 240, .inl t_book))]
def rm_R_isNews : Room := { frames := 2, cells := 0, slots := 0, locals := 46 }
set_option maxHeartbeats 4000000 in
set_option maxRecDepth 100000 in
theorem c_R_isNews (l : Launch) (E : m_E) (sz N : Nat) (a_t : Nat) (a_t_images : Nat) (a_t_kept : Nat) (a_t_aside : Nat) (a_t_limbs : Nat) (a_t_wide : Nat) (a_t_hears : Nat) (a_t_spies : Nat) (a_t_known : Nat) (a_t_by : Nat) (a_t_ways : Nat) (a_t_fewest : Nat) (a_t_heavy : Nat) (a_t_sums : Nat) (a_t_faces : Nat) (a_t_bestFaces : Nat) (a_t_text : Nat) (a_t_verbs : Nat) (a_t_many : Nat) (a_t_nums : Nat) (a_t_book : Nat) (t_typed : Int32) (t_at : Int32) (t_start : Int32) (t_token : Int32) (t_value : Int32) (t_items : Int32) (t_book : Nat → Int32) (p1 : Int32) (p2 : Int32) (p3 : Int32) (p4 : Int32) (ures : Int32) (hF : F_R_isNews p1 p2 p3 p4 t_book = ures) : m_Met l yX12_isNews cX12_isNews 5 (some .boolean) rm_R_isNews E (wd_R_isNews E a_t a_t_images a_t_kept a_t_aside a_t_limbs a_t_wide a_t_hears a_t_spies a_t_known a_t_by a_t_ways a_t_fewest a_t_heavy a_t_sums a_t_faces a_t_bestFaces a_t_text a_t_verbs a_t_many a_t_nums a_t_book t_typed t_at t_start t_token t_value t_items t_book) (wd_R_isNews E a_t a_t_images a_t_kept a_t_aside a_t_limbs a_t_wide a_t_hears a_t_spies a_t_known a_t_by a_t_ways a_t_fewest a_t_heavy a_t_sums a_t_faces a_t_bestFaces a_t_text a_t_verbs a_t_many a_t_nums a_t_book t_typed t_at t_start t_token t_value t_items t_book) sz [.ref a_t, .int p1, .int p2, .int p3, .int p4] (some (.int ures)) := by
  refine m_ofZ (by decide) (Nat.le_of_ble_eq_true rfl) ?_
  intro p e s m args below meth c A Q ls X hW hA hl hret
  obtain ⟨hx, hb, -, hown, hts, hK, -, hG⟩ := id X
  have hl : lv_has ls 5 [(0, .ref a_t), (1, .int p1), (2, .int p2), (3, .int p3), (4, .int p4)] := hl
  unfold F_R_isNews at hF
  refine lv_aload_n hx hb dX12_isNews_0 rfl (lv_at hl 0 rfl) ?_
  refine lv_iload_n hx hb dX12_isNews_1 rfl (lv_at hl 1 rfl) ?_
  refine m_callV X hW hA hl.1 lkX12_127 (c_R_isWeaver l E _ N a_t a_t_images a_t_kept a_t_aside a_t_limbs a_t_wide a_t_hears a_t_spies a_t_known a_t_by a_t_ways a_t_fewest a_t_heavy a_t_sums a_t_faces a_t_bestFaces a_t_text a_t_verbs a_t_many a_t_nums a_t_book t_typed t_at t_start t_token t_value t_items t_book p1 (F_R_isWeaver p1 t_book) rfl) ([0, 1]) (by decide) rfl rfl (ws' := (wd_R_isNews E a_t a_t_images a_t_kept a_t_aside a_t_limbs a_t_wide a_t_hears a_t_spies a_t_known a_t_by a_t_ways a_t_fewest a_t_heavy a_t_sums a_t_faces a_t_bestFaces a_t_text a_t_verbs a_t_many a_t_nums a_t_book t_typed t_at t_start t_token t_value t_items t_book)) rfl 0 rfl rfl rfl (As := [.int p1]) (rest := []) rfl rfl ⟨rfl, rfl, Nat.le_of_ble_eq_true rfl, Nat.le_of_ble_eq_true rfl⟩ (Nat.le_of_ble_eq_true rfl) (Nat.zero_le _) (Nat.zero_le _) dX12_isNews_2 (fun H locs hW => ?_)
  refine lv_if_eq (tgt := 51) hx hb dX12_isNews_5 (by decide) (fun c1 => ?_) (fun c1 => ?_)
  · have hF := if_y c1 hF
    refine lv_iconst (v := (0 : Int32)) hx hb dX12_isNews_51 (by decide) ?_
    have hq := hF
    subst hq
    exact hret _ _ _ _ _ rfl hW dX12_isNews_52
  · have hF := if_n c1 hF
    refine lv_aload_n hx hb dX12_isNews_8 rfl (lv_at hl 0 rfl) ?_
    refine lv_iload_n hx hb dX12_isNews_9 rfl (lv_at hl 2 rfl) ?_
    refine m_callV X hW hA hl.1 lkX12_127 (c_R_isWeaver l E _ N a_t a_t_images a_t_kept a_t_aside a_t_limbs a_t_wide a_t_hears a_t_spies a_t_known a_t_by a_t_ways a_t_fewest a_t_heavy a_t_sums a_t_faces a_t_bestFaces a_t_text a_t_verbs a_t_many a_t_nums a_t_book t_typed t_at t_start t_token t_value t_items t_book p2 (F_R_isWeaver p2 t_book) rfl) ([0, 1]) (by decide) rfl rfl (ws' := (wd_R_isNews E a_t a_t_images a_t_kept a_t_aside a_t_limbs a_t_wide a_t_hears a_t_spies a_t_known a_t_by a_t_ways a_t_fewest a_t_heavy a_t_sums a_t_faces a_t_bestFaces a_t_text a_t_verbs a_t_many a_t_nums a_t_book t_typed t_at t_start t_token t_value t_items t_book)) rfl 0 rfl rfl rfl (As := [.int p2]) (rest := []) rfl rfl ⟨rfl, rfl, Nat.le_of_ble_eq_true rfl, Nat.le_of_ble_eq_true rfl⟩ (Nat.le_of_ble_eq_true rfl) (Nat.zero_le _) (Nat.zero_le _) dX12_isNews_10 (fun H locs hW => ?_)
    refine lv_if_eq (tgt := 51) hx hb dX12_isNews_13 (by decide) (fun c2 => ?_) (fun c2 => ?_)
    · have hF := if_y c2 hF
      refine lv_iconst (v := (0 : Int32)) hx hb dX12_isNews_51 (by decide) ?_
      have hq := hF
      subst hq
      exact hret _ _ _ _ _ rfl hW dX12_isNews_52
    · have hF := if_n c2 hF
      refine lv_iload_n hx hb dX12_isNews_16 rfl (lv_at hl 3 rfl) ?_
      refine lv_i2l (v := p3.toInt64) hx hb dX12_isNews_17 rfl ?_
      refine lv_lconst (v := (0 : Int64)) hx hb dX12_isNews_18 (by decide) ?_
      refine lv_lconst (v := (1 : Int64)) hx hb dX12_isNews_19 (by decide) ?_
      refine m_callS X hW hA hl.1 lkX12_109 (c_R_in l E _ N   p3.toInt64 (0 : Int64) (1 : Int64) (F_R_in p3.toInt64 (0 : Int64) (1 : Int64)) rfl) ([]) (by decide) rfl rfl (ws' := (wd_R_isNews E a_t a_t_images a_t_kept a_t_aside a_t_limbs a_t_wide a_t_hears a_t_spies a_t_known a_t_by a_t_ways a_t_fewest a_t_heavy a_t_sums a_t_faces a_t_bestFaces a_t_text a_t_verbs a_t_many a_t_nums a_t_book t_typed t_at t_start t_token t_value t_items t_book)) rfl (As := [.long p3.toInt64, .long (0 : Int64), .long (1 : Int64)]) (rest := []) rfl rfl ⟨rfl, rfl, Nat.le_of_ble_eq_true rfl, Nat.le_of_ble_eq_true rfl⟩ (Nat.le_of_ble_eq_true rfl) (Nat.zero_le _) (Nat.zero_le _) dX12_isNews_20 (fun H locs hW => ?_)
      refine lv_if_eq (tgt := 51) hx hb dX12_isNews_23 (by decide) (fun c3 => ?_) (fun c3 => ?_)
      · have hF := if_y c3 hF
        refine lv_iconst (v := (0 : Int32)) hx hb dX12_isNews_51 (by decide) ?_
        have hq := hF
        subst hq
        exact hret _ _ _ _ _ rfl hW dX12_isNews_52
      · have hF := if_n c3 hF
        refine lv_iload hx hb dX12_isNews_26 (lv_at hl 4 rfl) ?_
        refine lv_iconst (v := (-1 : Int32)) hx hb dX12_isNews_28 (by decide) ?_
        refine lv_icmp_eq (tgt := 47) hx hb dX12_isNews_29 (by decide) (fun c4 => ?_) (fun c4 => ?_)
        · have hF := if_y c4 hF
          refine lv_iconst (v := (1 : Int32)) hx hb dX12_isNews_47 (by decide) ?_
          refine lv_goto (tgt := 52) hx hb dX12_isNews_48 (by decide) ?_
          have hq := hF
          subst hq
          exact hret _ _ _ _ _ rfl hW dX12_isNews_52
        · have hF := if_n c4 hF
          refine lv_aload_n hx hb dX12_isNews_32 rfl (lv_at hl 0 rfl) ?_
          refine lv_iload hx hb dX12_isNews_33 (lv_at hl 4 rfl) ?_
          refine m_callV X hW hA hl.1 lkX12_127 (c_R_isWeaver l E _ N a_t a_t_images a_t_kept a_t_aside a_t_limbs a_t_wide a_t_hears a_t_spies a_t_known a_t_by a_t_ways a_t_fewest a_t_heavy a_t_sums a_t_faces a_t_bestFaces a_t_text a_t_verbs a_t_many a_t_nums a_t_book t_typed t_at t_start t_token t_value t_items t_book p4 (F_R_isWeaver p4 t_book) rfl) ([0, 1]) (by decide) rfl rfl (ws' := (wd_R_isNews E a_t a_t_images a_t_kept a_t_aside a_t_limbs a_t_wide a_t_hears a_t_spies a_t_known a_t_by a_t_ways a_t_fewest a_t_heavy a_t_sums a_t_faces a_t_bestFaces a_t_text a_t_verbs a_t_many a_t_nums a_t_book t_typed t_at t_start t_token t_value t_items t_book)) rfl 0 rfl rfl rfl (As := [.int p4]) (rest := []) rfl rfl ⟨rfl, rfl, Nat.le_of_ble_eq_true rfl, Nat.le_of_ble_eq_true rfl⟩ (Nat.le_of_ble_eq_true rfl) (Nat.zero_le _) (Nat.zero_le _) dX12_isNews_35 (fun H locs hW => ?_)
          refine lv_if_eq (tgt := 51) hx hb dX12_isNews_38 (by decide) (fun c5 => ?_) (fun c5 => ?_)
          · have hF := if_y c5 hF
            refine lv_iconst (v := (0 : Int32)) hx hb dX12_isNews_51 (by decide) ?_
            have hq := hF
            subst hq
            exact hret _ _ _ _ _ rfl hW dX12_isNews_52
          · have hF := if_n c5 hF
            refine lv_iload hx hb dX12_isNews_41 (lv_at hl 4 rfl) ?_
            refine lv_iload_n hx hb dX12_isNews_43 rfl (lv_at hl 1 rfl) ?_
            refine lv_icmp_eq (tgt := 51) hx hb dX12_isNews_44 (by decide) (fun c6 => ?_) (fun c6 => ?_)
            · have hF := if_y c6 hF
              refine lv_iconst (v := (0 : Int32)) hx hb dX12_isNews_51 (by decide) ?_
              have hq := hF
              subst hq
              exact hret _ _ _ _ _ rfl hW dX12_isNews_52
            · have hF := if_n c6 hF
              refine lv_iconst (v := (1 : Int32)) hx hb dX12_isNews_47 (by decide) ?_
              refine lv_goto (tgt := 52) hx hb dX12_isNews_48 (by decide) ?_
              have hq := hF
              subst hq
              exact hret _ _ _ _ _ rfl hW dX12_isNews_52
abbrev wd_R_knows (E : m_E) (a_t : Nat) (a_t_images : Nat) (a_t_kept : Nat) (a_t_aside : Nat) (a_t_limbs : Nat) (a_t_wide : Nat) (a_t_ways : Nat) (a_t_fewest : Nat) (a_t_heavy : Nat) (a_t_sums : Nat) (a_t_faces : Nat) (a_t_bestFaces : Nat) (a_t_text : Nat) (a_t_verbs : Nat) (a_t_many : Nat) (a_t_nums : Nat) (a_t_book : Nat) (a_t_hears : Nat) (a_t_spies : Nat) (a_t_known : Nat) (a_t_by : Nat) (t_typed : Int32) (t_at : Int32) (t_start : Int32) (t_token : Int32) (t_value : Int32) (t_items : Int32) (t_book : Nat → Int32) (t_hears : Nat → Int32) (t_spies : Nat → Int32) (t_known : Nat → Int32) (t_by : Nat → Int32) : va_W := [(a_t, .inr (12, [.ref a_t_book, .ref a_t_images, .ref a_t_kept, .ref a_t_aside, .ref a_t_limbs, .ref a_t_wide, .ref a_t_hears, .ref a_t_spies, .ref a_t_known, .ref a_t_by, .ref a_t_ways, .ref a_t_fewest, .ref a_t_heavy, .ref a_t_sums, .ref a_t_faces, .ref a_t_bestFaces, .ref a_t_text, .int t_typed, .int t_at, .int t_start, .int t_token, .int t_value, .ref a_t_verbs, .ref a_t_many, .ref a_t_nums, .int t_items])), (a_t_book, .inl (E.2.1 0, 240, .inl t_book)), (a_t_hears, .inl (E.2.1 1, 64, .inl t_hears)), (a_t_spies, .inl (E.2.1 1, 64, .inl t_spies)), (a_t_known, .inl (E.2.1 0, 8, .inl t_known)), (a_t_by, .inl (E.2.1 0, 8, .inl t_by))]
def rm_R_knows : Room := { frames := 6, cells := 0, slots := 0, locals := 154 }
set_option maxHeartbeats 4000000 in
set_option maxRecDepth 100000 in
theorem c_R_knows (l : Launch) (E : m_E) (sz N : Nat) (a_t : Nat) (a_t_images : Nat) (a_t_kept : Nat) (a_t_aside : Nat) (a_t_limbs : Nat) (a_t_wide : Nat) (a_t_ways : Nat) (a_t_fewest : Nat) (a_t_heavy : Nat) (a_t_sums : Nat) (a_t_faces : Nat) (a_t_bestFaces : Nat) (a_t_text : Nat) (a_t_verbs : Nat) (a_t_many : Nat) (a_t_nums : Nat) (a_t_book : Nat) (a_t_hears : Nat) (a_t_spies : Nat) (a_t_known : Nat) (a_t_by : Nat) (t_typed : Int32) (t_at : Int32) (t_start : Int32) (t_token : Int32) (t_value : Int32) (t_items : Int32) (t_book : Nat → Int32) (t_hears : Nat → Int32) (t_spies : Nat → Int32) (t_known : Nat → Int32) (t_by : Nat → Int32) (p1 : Int32) (p2 : Int32) (p3 : Int32) (p4 : Int32) (ures : Int32 × (Nat → Int32) × (Nat → Int32) × (Nat → Int32) × (Nat → Int32)) (hF : F_R_knows N p1 p2 p3 p4 t_book t_hears t_spies t_known t_by = some ures) : m_Met l yX12_knows cX12_knows 5 (some .int) rm_R_knows E (wd_R_knows E a_t a_t_images a_t_kept a_t_aside a_t_limbs a_t_wide a_t_ways a_t_fewest a_t_heavy a_t_sums a_t_faces a_t_bestFaces a_t_text a_t_verbs a_t_many a_t_nums a_t_book a_t_hears a_t_spies a_t_known a_t_by t_typed t_at t_start t_token t_value t_items t_book t_hears t_spies t_known t_by) (wd_R_knows E a_t a_t_images a_t_kept a_t_aside a_t_limbs a_t_wide a_t_ways a_t_fewest a_t_heavy a_t_sums a_t_faces a_t_bestFaces a_t_text a_t_verbs a_t_many a_t_nums a_t_book a_t_hears a_t_spies a_t_known a_t_by t_typed t_at t_start t_token t_value t_items t_book ures.2.1 ures.2.2.1 ures.2.2.2.1 ures.2.2.2.2) sz [.ref a_t, .int p1, .int p2, .int p3, .int p4] (some (.int ures.1)) := by
  refine m_ofI (by decide) (Nat.le_of_ble_eq_true rfl) ?_
  intro p e s m args below meth c A Q ls X hW hA hl hret
  obtain ⟨hx, hb, -, hown, hts, hK, -, hG⟩ := id X
  have hl : lv_has ls 5 [(0, .ref a_t), (1, .int p1), (2, .int p2), (3, .int p3), (4, .int p4)] := hl
  unfold F_R_knows at hF
  refine lv_aload_n hx hb dX12_knows_0 rfl (lv_at hl 0 rfl) ?_
  refine lv_iload_n hx hb dX12_knows_1 rfl (lv_at hl 1 rfl) ?_
  refine lv_iload_n hx hb dX12_knows_2 rfl (lv_at hl 2 rfl) ?_
  refine lv_iload_n hx hb dX12_knows_3 rfl (lv_at hl 3 rfl) ?_
  refine lv_iload hx hb dX12_knows_4 (lv_at hl 4 rfl) ?_
  refine m_callV X hW hA hl.1 lkX12_172 (c_R_isNews l E _ N a_t a_t_images a_t_kept a_t_aside a_t_limbs a_t_wide a_t_hears a_t_spies a_t_known a_t_by a_t_ways a_t_fewest a_t_heavy a_t_sums a_t_faces a_t_bestFaces a_t_text a_t_verbs a_t_many a_t_nums a_t_book t_typed t_at t_start t_token t_value t_items t_book p1 p2 p3 p4 (F_R_isNews p1 p2 p3 p4 t_book) rfl) ([0, 1]) (by decide) rfl rfl (ws' := (wd_R_knows E a_t a_t_images a_t_kept a_t_aside a_t_limbs a_t_wide a_t_ways a_t_fewest a_t_heavy a_t_sums a_t_faces a_t_bestFaces a_t_text a_t_verbs a_t_many a_t_nums a_t_book a_t_hears a_t_spies a_t_known a_t_by t_typed t_at t_start t_token t_value t_items t_book t_hears t_spies t_known t_by)) rfl 0 rfl rfl rfl (As := [.int p1, .int p2, .int p3, .int p4]) (rest := []) rfl rfl ⟨rfl, rfl, Nat.le_of_ble_eq_true rfl, Nat.le_of_ble_eq_true rfl⟩ (Nat.le_of_ble_eq_true rfl) (Nat.zero_le _) (Nat.zero_le _) dX12_knows_6 (fun H locs hW => ?_)
  refine lv_if_ne (tgt := 15) hx hb dX12_knows_9 (by decide) (fun c1 => ?_) (fun c1 => ?_)
  · have hF := if_n c1 hF
    refine lv_aload_n hx hb dX12_knows_15 rfl (lv_at hl 0 rfl) ?_
    refine lv_iload_n hx hb dX12_knows_16 rfl (lv_at hl 1 rfl) ?_
    refine lv_iconst (v := (0 : Int32)) hx hb dX12_knows_17 (by decide) ?_
    refine lv_iload_n hx hb dX12_knows_18 rfl (lv_at hl 3 rfl) ?_
    refine lv_iload hx hb dX12_knows_19 (lv_at hl 4 rfl) ?_
    obtain ⟨t_hears'_2, t_spies'_2, t_known'_2, t_by'_2, hC2, hF⟩ := bO_s4 hF
    refine m_callV X hW hA hl.1 lkX12_175 (c_R_spreads l E _ N a_t a_t_images a_t_kept a_t_aside a_t_limbs a_t_wide a_t_ways a_t_fewest a_t_heavy a_t_sums a_t_faces a_t_bestFaces a_t_text a_t_verbs a_t_many a_t_nums a_t_book a_t_hears a_t_spies a_t_known a_t_by t_typed t_at t_start t_token t_value t_items t_book t_hears t_spies t_known t_by p1 (0 : Int32) p3 p4 (t_hears'_2, t_spies'_2, t_known'_2, t_by'_2) hC2) ([0, 1, 2, 3, 4, 5]) (by decide) rfl rfl (ws' := (wd_R_knows E a_t a_t_images a_t_kept a_t_aside a_t_limbs a_t_wide a_t_ways a_t_fewest a_t_heavy a_t_sums a_t_faces a_t_bestFaces a_t_text a_t_verbs a_t_many a_t_nums a_t_book a_t_hears a_t_spies a_t_known a_t_by t_typed t_at t_start t_token t_value t_items t_book t_hears'_2 t_spies'_2 t_known'_2 t_by'_2)) rfl 0 rfl rfl rfl (As := [.int p1, .int (0 : Int32), .int p3, .int p4]) (rest := []) rfl rfl ⟨rfl, rfl, Nat.le_of_ble_eq_true rfl, Nat.le_of_ble_eq_true rfl⟩ (Nat.le_of_ble_eq_true rfl) (Nat.zero_le _) (Nat.zero_le _) dX12_knows_21 (fun H locs hW => ?_)
    clear hC2
    refine lv_aload_n hx hb dX12_knows_24 rfl (lv_at hl 0 rfl) ?_
    refine m_get X hW fdX12_35 0 rfl rfl dX12_knows_25 ?_
    refine lv_iload_n hx hb dX12_knows_28 rfl (lv_at hl 2 rfl) ?_
    obtain ⟨g3, hF⟩ := gd_some hF
    refine m_iald X hW 4 (k := p2.toNatClampNeg) rfl g3 rfl dX12_knows_29 ?_
    refine lv_ldc (v := (1000000 : Int32)) hx hb hown (hts _ wk_1312) dX12_knows_30 ?_
    refine lv_icmp_ge (tgt := 44) hx hb dX12_knows_32 (by decide) (fun c4 => ?_) (fun c4 => ?_)
    · have hF := if_y c4 hF
      refine lv_iconst (v := (-1 : Int32)) hx hb dX12_knows_44 (by decide) ?_
      have hq := Option.some.inj hF
      subst hq
      exact hret _ _ _ _ hW dX12_knows_45
    · have hF := if_n c4 hF
      refine lv_aload_n hx hb dX12_knows_35 rfl (lv_at hl 0 rfl) ?_
      refine m_get X hW fdX12_35 0 rfl rfl dX12_knows_36 ?_
      refine lv_iload_n hx hb dX12_knows_39 rfl (lv_at hl 2 rfl) ?_
      refine m_iald X hW 4 (k := p2.toNatClampNeg) rfl g3 rfl dX12_knows_40 ?_
      refine lv_goto (tgt := 45) hx hb dX12_knows_41 (by decide) ?_
      have hq := Option.some.inj hF
      subst hq
      exact hret _ _ _ _ hW dX12_knows_45
  · have hF := if_y c1 hF
    refine lv_bipush (v := (-10 : Int32)) hx hb dX12_knows_12 (by decide) ?_
    have hq := Option.some.inj hF
    subst hq
    exact hret _ _ _ _ hW dX12_knows_14
abbrev wd_R_teller (E : m_E) (a_t : Nat) (a_t_images : Nat) (a_t_kept : Nat) (a_t_aside : Nat) (a_t_limbs : Nat) (a_t_wide : Nat) (a_t_ways : Nat) (a_t_fewest : Nat) (a_t_heavy : Nat) (a_t_sums : Nat) (a_t_faces : Nat) (a_t_bestFaces : Nat) (a_t_text : Nat) (a_t_verbs : Nat) (a_t_many : Nat) (a_t_nums : Nat) (a_t_book : Nat) (a_t_hears : Nat) (a_t_spies : Nat) (a_t_known : Nat) (a_t_by : Nat) (t_typed : Int32) (t_at : Int32) (t_start : Int32) (t_token : Int32) (t_value : Int32) (t_items : Int32) (t_book : Nat → Int32) (t_hears : Nat → Int32) (t_spies : Nat → Int32) (t_known : Nat → Int32) (t_by : Nat → Int32) : va_W := [(a_t, .inr (12, [.ref a_t_book, .ref a_t_images, .ref a_t_kept, .ref a_t_aside, .ref a_t_limbs, .ref a_t_wide, .ref a_t_hears, .ref a_t_spies, .ref a_t_known, .ref a_t_by, .ref a_t_ways, .ref a_t_fewest, .ref a_t_heavy, .ref a_t_sums, .ref a_t_faces, .ref a_t_bestFaces, .ref a_t_text, .int t_typed, .int t_at, .int t_start, .int t_token, .int t_value, .ref a_t_verbs, .ref a_t_many, .ref a_t_nums, .int t_items])), (a_t_book, .inl (E.2.1 0, 240, .inl t_book)), (a_t_hears, .inl (E.2.1 1, 64, .inl t_hears)), (a_t_spies, .inl (E.2.1 1, 64, .inl t_spies)), (a_t_known, .inl (E.2.1 0, 8, .inl t_known)), (a_t_by, .inl (E.2.1 0, 8, .inl t_by))]
def rm_R_teller : Room := { frames := 6, cells := 0, slots := 0, locals := 154 }
set_option maxHeartbeats 4000000 in
set_option maxRecDepth 100000 in
theorem c_R_teller (l : Launch) (E : m_E) (sz N : Nat) (a_t : Nat) (a_t_images : Nat) (a_t_kept : Nat) (a_t_aside : Nat) (a_t_limbs : Nat) (a_t_wide : Nat) (a_t_ways : Nat) (a_t_fewest : Nat) (a_t_heavy : Nat) (a_t_sums : Nat) (a_t_faces : Nat) (a_t_bestFaces : Nat) (a_t_text : Nat) (a_t_verbs : Nat) (a_t_many : Nat) (a_t_nums : Nat) (a_t_book : Nat) (a_t_hears : Nat) (a_t_spies : Nat) (a_t_known : Nat) (a_t_by : Nat) (t_typed : Int32) (t_at : Int32) (t_start : Int32) (t_token : Int32) (t_value : Int32) (t_items : Int32) (t_book : Nat → Int32) (t_hears : Nat → Int32) (t_spies : Nat → Int32) (t_known : Nat → Int32) (t_by : Nat → Int32) (p1 : Int32) (p2 : Int32) (p3 : Int32) (p4 : Int32) (ures : Int32 × (Nat → Int32) × (Nat → Int32) × (Nat → Int32) × (Nat → Int32)) (hF : F_R_teller N p1 p2 p3 p4 t_book t_hears t_spies t_known t_by = some ures) : m_Met l yX12_teller cX12_teller 5 (some .int) rm_R_teller E (wd_R_teller E a_t a_t_images a_t_kept a_t_aside a_t_limbs a_t_wide a_t_ways a_t_fewest a_t_heavy a_t_sums a_t_faces a_t_bestFaces a_t_text a_t_verbs a_t_many a_t_nums a_t_book a_t_hears a_t_spies a_t_known a_t_by t_typed t_at t_start t_token t_value t_items t_book t_hears t_spies t_known t_by) (wd_R_teller E a_t a_t_images a_t_kept a_t_aside a_t_limbs a_t_wide a_t_ways a_t_fewest a_t_heavy a_t_sums a_t_faces a_t_bestFaces a_t_text a_t_verbs a_t_many a_t_nums a_t_book a_t_hears a_t_spies a_t_known a_t_by t_typed t_at t_start t_token t_value t_items t_book ures.2.1 ures.2.2.1 ures.2.2.2.1 ures.2.2.2.2) sz [.ref a_t, .int p1, .int p2, .int p3, .int p4] (some (.int ures.1)) := by
  refine m_ofI (by decide) (Nat.le_of_ble_eq_true rfl) ?_
  intro p e s m args below meth c A Q ls X hW hA hl hret
  obtain ⟨hx, hb, -, hown, hts, hK, -, hG⟩ := id X
  have hl : lv_has ls 5 [(0, .ref a_t), (1, .int p1), (2, .int p2), (3, .int p3), (4, .int p4)] := hl
  unfold F_R_teller at hF
  refine lv_aload_n hx hb dX12_teller_0 rfl (lv_at hl 0 rfl) ?_
  refine lv_iload_n hx hb dX12_teller_1 rfl (lv_at hl 1 rfl) ?_
  refine lv_iload_n hx hb dX12_teller_2 rfl (lv_at hl 2 rfl) ?_
  refine lv_iload_n hx hb dX12_teller_3 rfl (lv_at hl 3 rfl) ?_
  refine lv_iload hx hb dX12_teller_4 (lv_at hl 4 rfl) ?_
  refine m_callV X hW hA hl.1 lkX12_172 (c_R_isNews l E _ N a_t a_t_images a_t_kept a_t_aside a_t_limbs a_t_wide a_t_hears a_t_spies a_t_known a_t_by a_t_ways a_t_fewest a_t_heavy a_t_sums a_t_faces a_t_bestFaces a_t_text a_t_verbs a_t_many a_t_nums a_t_book t_typed t_at t_start t_token t_value t_items t_book p1 p2 p3 p4 (F_R_isNews p1 p2 p3 p4 t_book) rfl) ([0, 1]) (by decide) rfl rfl (ws' := (wd_R_teller E a_t a_t_images a_t_kept a_t_aside a_t_limbs a_t_wide a_t_ways a_t_fewest a_t_heavy a_t_sums a_t_faces a_t_bestFaces a_t_text a_t_verbs a_t_many a_t_nums a_t_book a_t_hears a_t_spies a_t_known a_t_by t_typed t_at t_start t_token t_value t_items t_book t_hears t_spies t_known t_by)) rfl 0 rfl rfl rfl (As := [.int p1, .int p2, .int p3, .int p4]) (rest := []) rfl rfl ⟨rfl, rfl, Nat.le_of_ble_eq_true rfl, Nat.le_of_ble_eq_true rfl⟩ (Nat.le_of_ble_eq_true rfl) (Nat.zero_le _) (Nat.zero_le _) dX12_teller_6 (fun H locs hW => ?_)
  refine lv_if_ne (tgt := 15) hx hb dX12_teller_9 (by decide) (fun c1 => ?_) (fun c1 => ?_)
  · have hF := if_n c1 hF
    refine lv_aload_n hx hb dX12_teller_15 rfl (lv_at hl 0 rfl) ?_
    refine lv_iload_n hx hb dX12_teller_16 rfl (lv_at hl 1 rfl) ?_
    refine lv_iconst (v := (0 : Int32)) hx hb dX12_teller_17 (by decide) ?_
    refine lv_iload_n hx hb dX12_teller_18 rfl (lv_at hl 3 rfl) ?_
    refine lv_iload hx hb dX12_teller_19 (lv_at hl 4 rfl) ?_
    obtain ⟨t_hears'_2, t_spies'_2, t_known'_2, t_by'_2, hC2, hF⟩ := bO_s4 hF
    refine m_callV X hW hA hl.1 lkX12_175 (c_R_spreads l E _ N a_t a_t_images a_t_kept a_t_aside a_t_limbs a_t_wide a_t_ways a_t_fewest a_t_heavy a_t_sums a_t_faces a_t_bestFaces a_t_text a_t_verbs a_t_many a_t_nums a_t_book a_t_hears a_t_spies a_t_known a_t_by t_typed t_at t_start t_token t_value t_items t_book t_hears t_spies t_known t_by p1 (0 : Int32) p3 p4 (t_hears'_2, t_spies'_2, t_known'_2, t_by'_2) hC2) ([0, 1, 2, 3, 4, 5]) (by decide) rfl rfl (ws' := (wd_R_teller E a_t a_t_images a_t_kept a_t_aside a_t_limbs a_t_wide a_t_ways a_t_fewest a_t_heavy a_t_sums a_t_faces a_t_bestFaces a_t_text a_t_verbs a_t_many a_t_nums a_t_book a_t_hears a_t_spies a_t_known a_t_by t_typed t_at t_start t_token t_value t_items t_book t_hears'_2 t_spies'_2 t_known'_2 t_by'_2)) rfl 0 rfl rfl rfl (As := [.int p1, .int (0 : Int32), .int p3, .int p4]) (rest := []) rfl rfl ⟨rfl, rfl, Nat.le_of_ble_eq_true rfl, Nat.le_of_ble_eq_true rfl⟩ (Nat.le_of_ble_eq_true rfl) (Nat.zero_le _) (Nat.zero_le _) dX12_teller_21 (fun H locs hW => ?_)
    clear hC2
    refine lv_aload_n hx hb dX12_teller_24 rfl (lv_at hl 0 rfl) ?_
    refine m_get X hW fdX12_38 0 rfl rfl dX12_teller_25 ?_
    refine lv_iload_n hx hb dX12_teller_28 rfl (lv_at hl 2 rfl) ?_
    obtain ⟨g3, hF⟩ := gd_some hF
    refine m_iald X hW 5 (k := p2.toNatClampNeg) rfl g3 rfl dX12_teller_29 ?_
    have hq := Option.some.inj hF
    subst hq
    exact hret _ _ _ _ hW dX12_teller_30
  · have hF := if_y c1 hF
    refine lv_bipush (v := (-10 : Int32)) hx hb dX12_teller_12 (by decide) ?_
    have hq := Option.some.inj hF
    subst hq
    exact hret _ _ _ _ hW dX12_teller_14
