abbrev wd_R_meet (E : m_E) (a_t : Nat) (a_t_images : Nat) (a_t_kept : Nat) (a_t_aside : Nat) (a_t_limbs : Nat) (a_t_wide : Nat) (a_t_ways : Nat) (a_t_fewest : Nat) (a_t_heavy : Nat) (a_t_sums : Nat) (a_t_faces : Nat) (a_t_bestFaces : Nat) (a_t_text : Nat) (a_t_verbs : Nat) (a_t_many : Nat) (a_t_nums : Nat) (a_t_book : Nat) (a_t_hears : Nat) (a_t_spies : Nat) (a_t_known : Nat) (a_t_by : Nat) (t_typed : Int32) (t_at : Int32) (t_start : Int32) (t_token : Int32) (t_value : Int32) (t_items : Int32) (t_book : Nat → Int32) (t_hears : Nat → Int32) (t_spies : Nat → Int32) (t_known : Nat → Int32) (t_by : Nat → Int32) : va_W := [(a_t, .inr (12, [.ref a_t_book, .ref a_t_images, .ref a_t_kept, .ref a_t_aside, .ref a_t_limbs, .ref a_t_wide, .ref a_t_hears, .ref a_t_spies, .ref a_t_known, .ref a_t_by, .ref a_t_ways, .ref a_t_fewest, .ref a_t_heavy, .ref a_t_sums, .ref a_t_faces, .ref a_t_bestFaces, .ref a_t_text, .int t_typed, .int t_at, .int t_start, .int t_token, .int t_value, .ref a_t_verbs, .ref a_t_many, .ref a_t_nums, .int t_items])), (a_t_book, .inl (E.2.1 0, 240, .inl t_book)), (a_t_hears, .inl (E.2.1 1, 64, .inl t_hears)), (a_t_spies, .inl (E.2.1 1, 64, .inl t_spies)), (a_t_known, .inl (E.2.1 0, 8, .inl t_known)), (a_t_by, .inl (E.2.1 0, 8, .inl t_by))]
def rm_R_meet : Room := { frames := 6, cells := 0, slots := 0, locals := 154 }
set_option maxHeartbeats 4000000 in
set_option maxRecDepth 100000 in
theorem c_R_meet (l : Launch) (E : m_E) (sz N : Nat) (a_t : Nat) (a_t_images : Nat) (a_t_kept : Nat) (a_t_aside : Nat) (a_t_limbs : Nat) (a_t_wide : Nat) (a_t_ways : Nat) (a_t_fewest : Nat) (a_t_heavy : Nat) (a_t_sums : Nat) (a_t_faces : Nat) (a_t_bestFaces : Nat) (a_t_text : Nat) (a_t_verbs : Nat) (a_t_many : Nat) (a_t_nums : Nat) (a_t_book : Nat) (a_t_hears : Nat) (a_t_spies : Nat) (a_t_known : Nat) (a_t_by : Nat) (t_typed : Int32) (t_at : Int32) (t_start : Int32) (t_token : Int32) (t_value : Int32) (t_items : Int32) (t_book : Nat → Int32) (t_hears : Nat → Int32) (t_spies : Nat → Int32) (t_known : Nat → Int32) (t_by : Nat → Int32) (p1 : Int32) (p2 : Int32) (p3 : Int32) (p4 : Int32) (ures : Int32 × (Nat → Int32) × (Nat → Int32) × (Nat → Int32) × (Nat → Int32)) (hF : F_R_meet N p1 p2 p3 p4 t_book t_hears t_spies t_known t_by = some ures) : m_Met l yX12_meet cX12_meet 7 (some .int) rm_R_meet E (wd_R_meet E a_t a_t_images a_t_kept a_t_aside a_t_limbs a_t_wide a_t_ways a_t_fewest a_t_heavy a_t_sums a_t_faces a_t_bestFaces a_t_text a_t_verbs a_t_many a_t_nums a_t_book a_t_hears a_t_spies a_t_known a_t_by t_typed t_at t_start t_token t_value t_items t_book t_hears t_spies t_known t_by) (wd_R_meet E a_t a_t_images a_t_kept a_t_aside a_t_limbs a_t_wide a_t_ways a_t_fewest a_t_heavy a_t_sums a_t_faces a_t_bestFaces a_t_text a_t_verbs a_t_many a_t_nums a_t_book a_t_hears a_t_spies a_t_known a_t_by t_typed t_at t_start t_token t_value t_items t_book ures.2.1 ures.2.2.1 ures.2.2.2.1 ures.2.2.2.2) sz [.ref a_t, .int p1, .int p2, .int p3, .int p4] (some (.int ures.1)) := by
  refine m_ofI (by decide) (Nat.le_of_ble_eq_true rfl) ?_
  intro p e s m args below meth c A Q ls X hW hA hl hret
  obtain ⟨hx, hb, -, hown, hts, hK, -, hG⟩ := id X
  have hl : lv_has ls 7 [(0, .ref a_t), (1, .int p1), (2, .int p2), (3, .int p3), (4, .int p4)] := hl
  unfold F_R_meet at hF
  refine lv_aload_n hx hb dX12_meet_0 rfl (lv_at hl 0 rfl) ?_
  refine lv_iload_n hx hb dX12_meet_1 rfl (lv_at hl 1 rfl) ?_
  refine lv_iload_n hx hb dX12_meet_2 rfl (lv_at hl 2 rfl) ?_
  refine m_callV X hW hA hl.1 lkX12_155 (c_R_areTwo l E _ N a_t a_t_images a_t_kept a_t_aside a_t_limbs a_t_wide a_t_hears a_t_spies a_t_known a_t_by a_t_ways a_t_fewest a_t_heavy a_t_sums a_t_faces a_t_bestFaces a_t_text a_t_verbs a_t_many a_t_nums a_t_book t_typed t_at t_start t_token t_value t_items t_book p1 p2 (F_R_areTwo p1 p2 t_book) rfl) ([0, 1]) (by decide) rfl rfl (ws' := (wd_R_meet E a_t a_t_images a_t_kept a_t_aside a_t_limbs a_t_wide a_t_ways a_t_fewest a_t_heavy a_t_sums a_t_faces a_t_bestFaces a_t_text a_t_verbs a_t_many a_t_nums a_t_book a_t_hears a_t_spies a_t_known a_t_by t_typed t_at t_start t_token t_value t_items t_book t_hears t_spies t_known t_by)) rfl 0 rfl rfl rfl (As := [.int p1, .int p2]) (rest := []) rfl rfl ⟨rfl, rfl, Nat.le_of_ble_eq_true rfl, Nat.le_of_ble_eq_true rfl⟩ (Nat.le_of_ble_eq_true rfl) (Nat.zero_le _) (Nat.zero_le _) dX12_meet_3 (fun H locs hW => ?_)
  refine lv_if_eq (tgt := 30) hx hb dX12_meet_6 (by decide) (fun c1 => ?_) (fun c1 => ?_)
  · have hF := if_y c1 hF
    refine lv_bipush (v := (-10 : Int32)) hx hb dX12_meet_30 (by decide) ?_
    have hq := Option.some.inj hF
    subst hq
    exact hret _ _ _ _ hW dX12_meet_32
  · have hF := if_n c1 hF
    refine lv_aload_n hx hb dX12_meet_9 rfl (lv_at hl 0 rfl) ?_
    refine lv_iload hx hb dX12_meet_10 (lv_at hl 4 rfl) ?_
    refine m_callV X hW hA hl.1 lkX12_127 (c_R_isWeaver l E _ N a_t a_t_images a_t_kept a_t_aside a_t_limbs a_t_wide a_t_hears a_t_spies a_t_known a_t_by a_t_ways a_t_fewest a_t_heavy a_t_sums a_t_faces a_t_bestFaces a_t_text a_t_verbs a_t_many a_t_nums a_t_book t_typed t_at t_start t_token t_value t_items t_book p4 (F_R_isWeaver p4 t_book) rfl) ([0, 1]) (by decide) rfl rfl (ws' := (wd_R_meet E a_t a_t_images a_t_kept a_t_aside a_t_limbs a_t_wide a_t_ways a_t_fewest a_t_heavy a_t_sums a_t_faces a_t_bestFaces a_t_text a_t_verbs a_t_many a_t_nums a_t_book a_t_hears a_t_spies a_t_known a_t_by t_typed t_at t_start t_token t_value t_items t_book t_hears t_spies t_known t_by)) rfl 0 rfl rfl rfl (As := [.int p4]) (rest := []) rfl rfl ⟨rfl, rfl, Nat.le_of_ble_eq_true rfl, Nat.le_of_ble_eq_true rfl⟩ (Nat.le_of_ble_eq_true rfl) (Nat.zero_le _) (Nat.zero_le _) dX12_meet_12 (fun H locs hW => ?_)
    refine lv_if_eq (tgt := 30) hx hb dX12_meet_15 (by decide) (fun c2 => ?_) (fun c2 => ?_)
    · have hF := if_y c2 hF
      refine lv_bipush (v := (-10 : Int32)) hx hb dX12_meet_30 (by decide) ?_
      have hq := Option.some.inj hF
      subst hq
      exact hret _ _ _ _ hW dX12_meet_32
    · have hF := if_n c2 hF
      refine lv_iload_n hx hb dX12_meet_18 rfl (lv_at hl 3 rfl) ?_
      refine lv_i2l (v := p3.toInt64) hx hb dX12_meet_19 rfl ?_
      refine lv_lconst (v := (0 : Int64)) hx hb dX12_meet_20 (by decide) ?_
      refine lv_ldc2 (v := (240 : Int64)) hx hb hown (hts _ wk_1325) dX12_meet_21 ?_
      refine m_callS X hW hA hl.1 lkX12_109 (c_R_in l E _ N   p3.toInt64 (0 : Int64) (240 : Int64) (F_R_in p3.toInt64 (0 : Int64) (240 : Int64)) rfl) ([]) (by decide) rfl rfl (ws' := (wd_R_meet E a_t a_t_images a_t_kept a_t_aside a_t_limbs a_t_wide a_t_ways a_t_fewest a_t_heavy a_t_sums a_t_faces a_t_bestFaces a_t_text a_t_verbs a_t_many a_t_nums a_t_book a_t_hears a_t_spies a_t_known a_t_by t_typed t_at t_start t_token t_value t_items t_book t_hears t_spies t_known t_by)) rfl (As := [.long p3.toInt64, .long (0 : Int64), .long (240 : Int64)]) (rest := []) rfl rfl ⟨rfl, rfl, Nat.le_of_ble_eq_true rfl, Nat.le_of_ble_eq_true rfl⟩ (Nat.le_of_ble_eq_true rfl) (Nat.zero_le _) (Nat.zero_le _) dX12_meet_24 (fun H locs hW => ?_)
      refine lv_if_ne (tgt := 33) hx hb dX12_meet_27 (by decide) (fun c3 => ?_) (fun c3 => ?_)
      · have hF := if_n c3 hF
        refine lv_aload_n hx hb dX12_meet_33 rfl (lv_at hl 0 rfl) ?_
        refine lv_iload_n hx hb dX12_meet_34 rfl (lv_at hl 1 rfl) ?_
        refine lv_iconst (v := (0 : Int32)) hx hb dX12_meet_35 (by decide) ?_
        refine lv_iconst (v := (0 : Int32)) hx hb dX12_meet_36 (by decide) ?_
        refine lv_iconst (v := (-1 : Int32)) hx hb dX12_meet_37 (by decide) ?_
        obtain ⟨t_hears'_3, t_spies'_3, t_known'_3, t_by'_3, hC4, hF⟩ := bO_s4 hF
        refine m_callV X hW hA hl.1 lkX12_175 (c_R_spreads l E _ N a_t a_t_images a_t_kept a_t_aside a_t_limbs a_t_wide a_t_ways a_t_fewest a_t_heavy a_t_sums a_t_faces a_t_bestFaces a_t_text a_t_verbs a_t_many a_t_nums a_t_book a_t_hears a_t_spies a_t_known a_t_by t_typed t_at t_start t_token t_value t_items t_book t_hears t_spies t_known t_by p1 (0 : Int32) (0 : Int32) (-1 : Int32) (t_hears'_3, t_spies'_3, t_known'_3, t_by'_3) hC4) ([0, 1, 2, 3, 4, 5]) (by decide) rfl rfl (ws' := (wd_R_meet E a_t a_t_images a_t_kept a_t_aside a_t_limbs a_t_wide a_t_ways a_t_fewest a_t_heavy a_t_sums a_t_faces a_t_bestFaces a_t_text a_t_verbs a_t_many a_t_nums a_t_book a_t_hears a_t_spies a_t_known a_t_by t_typed t_at t_start t_token t_value t_items t_book t_hears'_3 t_spies'_3 t_known'_3 t_by'_3)) rfl 0 rfl rfl rfl (As := [.int p1, .int (0 : Int32), .int (0 : Int32), .int (-1 : Int32)]) (rest := []) rfl rfl ⟨rfl, rfl, Nat.le_of_ble_eq_true rfl, Nat.le_of_ble_eq_true rfl⟩ (Nat.le_of_ble_eq_true rfl) (Nat.zero_le _) (Nat.zero_le _) dX12_meet_38 (fun H locs hW => ?_)
        clear hC4
        refine lv_aload_n hx hb dX12_meet_41 rfl (lv_at hl 0 rfl) ?_
        refine m_get X hW fdX12_35 0 rfl rfl dX12_meet_42 ?_
        refine lv_iload hx hb dX12_meet_45 (lv_at hl 4 rfl) ?_
        obtain ⟨g5, hF⟩ := gd_some hF
        refine m_iald X hW 4 (k := p4.toNatClampNeg) rfl g5 rfl dX12_meet_47 ?_
        refine lv_istore (lv' := [(5, .int (t_known'_3 p4.toNatClampNeg)), (0, .ref a_t), (1, .int p1), (2, .int p2), (3, .int p3), (4, .int p4)]) hx hb dX12_meet_48 hl (by decide) rfl (fun ls hl => ?_)
        refine lv_aload_n hx hb dX12_meet_50 rfl (lv_at hl 1 rfl) ?_
        refine lv_iload_n hx hb dX12_meet_51 rfl (lv_at hl 3 rfl) ?_
        refine lv_iload_n hx hb dX12_meet_52 rfl (lv_at hl 4 rfl) ?_
        refine lv_iconst (v := (0 : Int32)) hx hb dX12_meet_53 (by decide) ?_
        refine lv_iconst (v := (-1 : Int32)) hx hb dX12_meet_54 (by decide) ?_
        obtain ⟨t_hears'_4, t_spies'_4, t_known'_4, t_by'_4, hC6, hF⟩ := bO_s4 hF
        refine m_callV X hW hA hl.1 lkX12_175 (c_R_spreads l E _ N a_t a_t_images a_t_kept a_t_aside a_t_limbs a_t_wide a_t_ways a_t_fewest a_t_heavy a_t_sums a_t_faces a_t_bestFaces a_t_text a_t_verbs a_t_many a_t_nums a_t_book a_t_hears a_t_spies a_t_known a_t_by t_typed t_at t_start t_token t_value t_items t_book t_hears'_3 t_spies'_3 t_known'_3 t_by'_3 p2 p3 (0 : Int32) (-1 : Int32) (t_hears'_4, t_spies'_4, t_known'_4, t_by'_4) hC6) ([0, 1, 2, 3, 4, 5]) (by decide) rfl rfl (ws' := (wd_R_meet E a_t a_t_images a_t_kept a_t_aside a_t_limbs a_t_wide a_t_ways a_t_fewest a_t_heavy a_t_sums a_t_faces a_t_bestFaces a_t_text a_t_verbs a_t_many a_t_nums a_t_book a_t_hears a_t_spies a_t_known a_t_by t_typed t_at t_start t_token t_value t_items t_book t_hears'_4 t_spies'_4 t_known'_4 t_by'_4)) rfl 0 rfl rfl rfl (As := [.int p2, .int p3, .int (0 : Int32), .int (-1 : Int32)]) (rest := []) rfl rfl ⟨rfl, rfl, Nat.le_of_ble_eq_true rfl, Nat.le_of_ble_eq_true rfl⟩ (Nat.le_of_ble_eq_true rfl) (Nat.zero_le _) (Nat.zero_le _) dX12_meet_55 (fun H locs hW => ?_)
        clear hC6
        refine lv_aload_n hx hb dX12_meet_58 rfl (lv_at hl 1 rfl) ?_
        refine m_get X hW fdX12_35 0 rfl rfl dX12_meet_59 ?_
        refine lv_iload hx hb dX12_meet_62 (lv_at hl 5 rfl) ?_
        refine m_iald X hW 4 (k := p4.toNatClampNeg) rfl g5 rfl dX12_meet_64 ?_
        refine lv_istore (lv' := [(6, .int (t_known'_4 p4.toNatClampNeg)), (5, .int (t_known'_3 p4.toNatClampNeg)), (0, .ref a_t), (1, .int p1), (2, .int p2), (3, .int p3), (4, .int p4)]) hx hb dX12_meet_65 hl (by decide) rfl (fun ls hl => ?_)
        refine lv_iload hx hb dX12_meet_67 (lv_at hl 1 rfl) ?_
        refine lv_iload hx hb dX12_meet_69 (lv_at hl 0 rfl) ?_
        refine lv_icmp_ne (tgt := 89) hx hb dX12_meet_71 (by decide) (fun c7 => ?_) (fun c7 => ?_)
        · have hF := if_n c7 hF
          refine lv_iload hx hb dX12_meet_89 (lv_at hl 1 rfl) ?_
          refine lv_iload hx hb dX12_meet_91 (lv_at hl 0 rfl) ?_
          refine lv_icmp_ge (tgt := 100) hx hb dX12_meet_93 (by decide) (fun c8 => ?_) (fun c8 => ?_)
          · have hF := if_y c8 hF
            refine lv_iconst (v := (1 : Int32)) hx hb dX12_meet_100 (by decide) ?_
            have hq := Option.some.inj hF
            subst hq
            exact hret _ _ _ _ hW dX12_meet_101
          · have hF := if_n c8 hF
            refine lv_iconst (v := (0 : Int32)) hx hb dX12_meet_96 (by decide) ?_
            refine lv_goto (tgt := 101) hx hb dX12_meet_97 (by decide) ?_
            have hq := Option.some.inj hF
            subst hq
            exact hret _ _ _ _ hW dX12_meet_101
        · have hF := if_y c7 hF
          refine lv_iload hx hb dX12_meet_74 (lv_at hl 1 rfl) ?_
          refine lv_ldc (v := (1000000 : Int32)) hx hb hown (hts _ wk_1312) dX12_meet_76 ?_
          refine lv_icmp_ne (tgt := 85) hx hb dX12_meet_78 (by decide) (fun c9 => ?_) (fun c9 => ?_)
          · have hF := if_n c9 hF
            refine lv_iconst (v := (2 : Int32)) hx hb dX12_meet_85 (by decide) ?_
            refine lv_goto (tgt := 101) hx hb dX12_meet_86 (by decide) ?_
            have hq := Option.some.inj hF
            subst hq
            exact hret _ _ _ _ hW dX12_meet_101
          · have hF := if_y c9 hF
            refine lv_iconst (v := (-1 : Int32)) hx hb dX12_meet_81 (by decide) ?_
            refine lv_goto (tgt := 101) hx hb dX12_meet_82 (by decide) ?_
            have hq := Option.some.inj hF
            subst hq
            exact hret _ _ _ _ hW dX12_meet_101
      · have hF := if_y c3 hF
        refine lv_bipush (v := (-10 : Int32)) hx hb dX12_meet_30 (by decide) ?_
        have hq := Option.some.inj hF
        subst hq
        exact hret _ _ _ _ hW dX12_meet_32
abbrev wd_R_seen (E : m_E) (a_t : Nat) (a_t_images : Nat) (a_t_kept : Nat) (a_t_aside : Nat) (a_t_limbs : Nat) (a_t_wide : Nat) (a_t_hears : Nat) (a_t_spies : Nat) (a_t_known : Nat) (a_t_by : Nat) (a_t_ways : Nat) (a_t_fewest : Nat) (a_t_heavy : Nat) (a_t_sums : Nat) (a_t_faces : Nat) (a_t_bestFaces : Nat) (a_t_text : Nat) (a_t_verbs : Nat) (a_t_many : Nat) (a_t_nums : Nat) (a_t_book : Nat) (t_typed : Int32) (t_at : Int32) (t_start : Int32) (t_token : Int32) (t_value : Int32) (t_items : Int32) (t_book : Nat → Int32) : va_W := [(a_t, .inr (12, [.ref a_t_book, .ref a_t_images, .ref a_t_kept, .ref a_t_aside, .ref a_t_limbs, .ref a_t_wide, .ref a_t_hears, .ref a_t_spies, .ref a_t_known, .ref a_t_by, .ref a_t_ways, .ref a_t_fewest, .ref a_t_heavy, .ref a_t_sums, .ref a_t_faces, .ref a_t_bestFaces, .ref a_t_text, .int t_typed, .int t_at, .int t_start, .int t_token, .int t_value, .ref a_t_verbs, .ref a_t_many, .ref a_t_nums, .int t_items])), (a_t_book, .inl (E.2.1 0, 240, .inl t_book))]
def rm_R_seen : Room := { frames := 2, cells := 0, slots := 0, locals := 46 }
set_option maxHeartbeats 4000000 in
set_option maxRecDepth 100000 in
theorem c_R_seen (l : Launch) (E : m_E) (sz N : Nat) (a_t : Nat) (a_t_images : Nat) (a_t_kept : Nat) (a_t_aside : Nat) (a_t_limbs : Nat) (a_t_wide : Nat) (a_t_hears : Nat) (a_t_spies : Nat) (a_t_known : Nat) (a_t_by : Nat) (a_t_ways : Nat) (a_t_fewest : Nat) (a_t_heavy : Nat) (a_t_sums : Nat) (a_t_faces : Nat) (a_t_bestFaces : Nat) (a_t_text : Nat) (a_t_verbs : Nat) (a_t_many : Nat) (a_t_nums : Nat) (a_t_book : Nat) (t_typed : Int32) (t_at : Int32) (t_start : Int32) (t_token : Int32) (t_value : Int32) (t_items : Int32) (t_book : Nat → Int32) (p1 : Int32) (p2 : Int32) (p3 : Int32) (ures : Int32 × (Nat → Int32)) (hF : F_R_seen p1 p2 p3 t_book = some ures) : m_Met l yX12_seen cX12_seen 5 (some .int) rm_R_seen E (wd_R_seen E a_t a_t_images a_t_kept a_t_aside a_t_limbs a_t_wide a_t_hears a_t_spies a_t_known a_t_by a_t_ways a_t_fewest a_t_heavy a_t_sums a_t_faces a_t_bestFaces a_t_text a_t_verbs a_t_many a_t_nums a_t_book t_typed t_at t_start t_token t_value t_items t_book) (wd_R_seen E a_t a_t_images a_t_kept a_t_aside a_t_limbs a_t_wide a_t_hears a_t_spies a_t_known a_t_by a_t_ways a_t_fewest a_t_heavy a_t_sums a_t_faces a_t_bestFaces a_t_text a_t_verbs a_t_many a_t_nums a_t_book t_typed t_at t_start t_token t_value t_items ures.2) sz [.ref a_t, .int p1, .int p2, .int p3] (some (.int ures.1)) := by
  refine m_ofI (by decide) (Nat.le_of_ble_eq_true rfl) ?_
  intro p e s m args below meth c A Q ls X hW hA hl hret
  obtain ⟨hx, hb, -, hown, hts, hK, -, hG⟩ := id X
  have hl : lv_has ls 5 [(0, .ref a_t), (1, .int p1), (2, .int p2), (3, .int p3)] := hl
  unfold F_R_seen at hF
  refine lv_aload_n hx hb dX12_seen_0 rfl (lv_at hl 0 rfl) ?_
  refine lv_iload_n hx hb dX12_seen_1 rfl (lv_at hl 1 rfl) ?_
  refine m_callV X hW hA hl.1 lkX12_127 (c_R_isWeaver l E _ N a_t a_t_images a_t_kept a_t_aside a_t_limbs a_t_wide a_t_hears a_t_spies a_t_known a_t_by a_t_ways a_t_fewest a_t_heavy a_t_sums a_t_faces a_t_bestFaces a_t_text a_t_verbs a_t_many a_t_nums a_t_book t_typed t_at t_start t_token t_value t_items t_book p1 (F_R_isWeaver p1 t_book) rfl) ([0, 1]) (by decide) rfl rfl (ws' := (wd_R_seen E a_t a_t_images a_t_kept a_t_aside a_t_limbs a_t_wide a_t_hears a_t_spies a_t_known a_t_by a_t_ways a_t_fewest a_t_heavy a_t_sums a_t_faces a_t_bestFaces a_t_text a_t_verbs a_t_many a_t_nums a_t_book t_typed t_at t_start t_token t_value t_items t_book)) rfl 0 rfl rfl rfl (As := [.int p1]) (rest := []) rfl rfl ⟨rfl, rfl, Nat.le_of_ble_eq_true rfl, Nat.le_of_ble_eq_true rfl⟩ (Nat.le_of_ble_eq_true rfl) (Nat.zero_le _) (Nat.zero_le _) dX12_seen_2 (fun H locs hW => ?_)
  refine lv_if_eq (tgt := 20) hx hb dX12_seen_5 (by decide) (fun c1 => ?_) (fun c1 => ?_)
  · have hF := if_y c1 hF
    refine lv_bipush (v := (-2 : Int32)) hx hb dX12_seen_20 (by decide) ?_
    have hq := Option.some.inj hF
    subst hq
    exact hret _ _ _ _ hW dX12_seen_22
  · have hF := if_n c1 hF
    refine lv_iload_n hx hb dX12_seen_8 rfl (lv_at hl 2 rfl) ?_
    refine lv_i2l (v := p2.toInt64) hx hb dX12_seen_9 rfl ?_
    refine lv_lconst (v := (0 : Int64)) hx hb dX12_seen_10 (by decide) ?_
    refine lv_ldc2 (v := (240 : Int64)) hx hb hown (hts _ wk_1325) dX12_seen_11 ?_
    refine m_callS X hW hA hl.1 lkX12_109 (c_R_in l E _ N   p2.toInt64 (0 : Int64) (240 : Int64) (F_R_in p2.toInt64 (0 : Int64) (240 : Int64)) rfl) ([]) (by decide) rfl rfl (ws' := (wd_R_seen E a_t a_t_images a_t_kept a_t_aside a_t_limbs a_t_wide a_t_hears a_t_spies a_t_known a_t_by a_t_ways a_t_fewest a_t_heavy a_t_sums a_t_faces a_t_bestFaces a_t_text a_t_verbs a_t_many a_t_nums a_t_book t_typed t_at t_start t_token t_value t_items t_book)) rfl (As := [.long p2.toInt64, .long (0 : Int64), .long (240 : Int64)]) (rest := []) rfl rfl ⟨rfl, rfl, Nat.le_of_ble_eq_true rfl, Nat.le_of_ble_eq_true rfl⟩ (Nat.le_of_ble_eq_true rfl) (Nat.zero_le _) (Nat.zero_le _) dX12_seen_14 (fun H locs hW => ?_)
    refine lv_if_ne (tgt := 23) hx hb dX12_seen_17 (by decide) (fun c2 => ?_) (fun c2 => ?_)
    · have hF := if_n c2 hF
      refine lv_aload_n hx hb dX12_seen_23 rfl (lv_at hl 0 rfl) ?_
      refine m_get X hW fdX12_7 0 rfl rfl dX12_seen_24 ?_
      refine lv_iconst (v := (2 : Int32)) hx hb dX12_seen_27 (by decide) ?_
      refine m_iald X hW 1 (k := 2) rfl (by decide) rfl dX12_seen_28 ?_
      refine lv_bipush (v := (10 : Int32)) hx hb dX12_seen_29 (by decide) ?_
      refine lv_icmp_ne (tgt := 37) hx hb dX12_seen_31 (by decide) (fun c3 => ?_) (fun c3 => ?_)
      · have hF := if_n c3 hF
        refine lv_bipush (v := (120 : Int32)) hx hb dX12_seen_37 (by decide) ?_
        refine lv_iconst (v := (3 : Int32)) hx hb dX12_seen_39 (by decide) ?_
        refine lv_aload_n hx hb dX12_seen_40 rfl (lv_at hl 0 rfl) ?_
        refine m_get X hW fdX12_7 0 rfl rfl dX12_seen_41 ?_
        refine lv_iconst (v := (2 : Int32)) hx hb dX12_seen_44 (by decide) ?_
        refine m_iald X hW 1 (k := 2) rfl (by decide) rfl dX12_seen_45 ?_
        refine lv_imul hx hb dX12_seen_46 ?_
        refine lv_iadd hx hb dX12_seen_47 ?_
        refine lv_istore (lv' := [(4, .int ((120 : Int32) + ((3 : Int32) * (t_book 2)))), (0, .ref a_t), (1, .int p1), (2, .int p2), (3, .int p3)]) hx hb dX12_seen_48 hl (by decide) rfl (fun ls hl => ?_)
        refine lv_aload_n hx hb dX12_seen_50 rfl (lv_at hl 1 rfl) ?_
        refine m_get X hW fdX12_7 0 rfl rfl dX12_seen_51 ?_
        refine lv_iload hx hb dX12_seen_54 (lv_at hl 0 rfl) ?_
        refine lv_iload_n hx hb dX12_seen_56 rfl (lv_at hl 2 rfl) ?_
        obtain ⟨g4, hF⟩ := gd_some hF
        refine m_iast X hW 1 (k := ((120 : Int32) + ((3 : Int32) * (t_book 2))).toNatClampNeg) rfl g4 rfl dX12_seen_57 (ws' := (wd_R_seen E a_t a_t_images a_t_kept a_t_aside a_t_limbs a_t_wide a_t_hears a_t_spies a_t_known a_t_by a_t_ways a_t_fewest a_t_heavy a_t_sums a_t_faces a_t_bestFaces a_t_text a_t_verbs a_t_many a_t_nums a_t_book t_typed t_at t_start t_token t_value t_items (upd t_book ((120 : Int32) + ((3 : Int32) * (t_book 2))).toNatClampNeg p1))) rfl (fun H locs hW => ?_)
        refine lv_aload_n hx hb dX12_seen_58 rfl (lv_at hl 1 rfl) ?_
        refine m_get X hW fdX12_7 0 rfl rfl dX12_seen_59 ?_
        refine lv_iload hx hb dX12_seen_62 (lv_at hl 0 rfl) ?_
        refine lv_iconst (v := (1 : Int32)) hx hb dX12_seen_64 (by decide) ?_
        refine lv_iadd hx hb dX12_seen_65 ?_
        refine lv_iload_n hx hb dX12_seen_66 rfl (lv_at hl 3 rfl) ?_
        obtain ⟨g5, hF⟩ := gd_some hF
        refine m_iast X hW 1 (k := (((120 : Int32) + ((3 : Int32) * (t_book 2))) + (1 : Int32)).toNatClampNeg) rfl g5 rfl dX12_seen_67 (ws' := (wd_R_seen E a_t a_t_images a_t_kept a_t_aside a_t_limbs a_t_wide a_t_hears a_t_spies a_t_known a_t_by a_t_ways a_t_fewest a_t_heavy a_t_sums a_t_faces a_t_bestFaces a_t_text a_t_verbs a_t_many a_t_nums a_t_book t_typed t_at t_start t_token t_value t_items (upd (upd t_book ((120 : Int32) + ((3 : Int32) * (t_book 2))).toNatClampNeg p1) (((120 : Int32) + ((3 : Int32) * (t_book 2))) + (1 : Int32)).toNatClampNeg p2))) rfl (fun H locs hW => ?_)
        refine lv_aload_n hx hb dX12_seen_68 rfl (lv_at hl 1 rfl) ?_
        refine m_get X hW fdX12_7 0 rfl rfl dX12_seen_69 ?_
        refine lv_iload hx hb dX12_seen_72 (lv_at hl 0 rfl) ?_
        refine lv_iconst (v := (2 : Int32)) hx hb dX12_seen_74 (by decide) ?_
        refine lv_iadd hx hb dX12_seen_75 ?_
        refine lv_iload_n hx hb dX12_seen_76 rfl (lv_at hl 4 rfl) ?_
        obtain ⟨y2, hX7, hF⟩ := bO_s1 hF
        have J6 : ∀ (H : Heap) (locs : List Loc) (ls : Array Slot), m_H E A (wd_R_seen E a_t a_t_images a_t_kept a_t_aside a_t_limbs a_t_wide a_t_hears a_t_spies a_t_known a_t_by a_t_ways a_t_fewest a_t_heavy a_t_sums a_t_faces a_t_bestFaces a_t_text a_t_verbs a_t_many a_t_nums a_t_book t_typed t_at t_start t_token t_value t_items (upd (upd t_book ((120 : Int32) + ((3 : Int32) * (t_book 2))).toNatClampNeg p1) (((120 : Int32) + ((3 : Int32) * (t_book 2))) + (1 : Int32)).toNatClampNeg p2)) s.heap H locs → lv_has ls 5 [(0, .ref a_t)] → W p l e rm_R_seen s m args below meth c H locs 0 0 Q (F0 m 85 ls [.int y2, .int (((120 : Int32) + ((3 : Int32) * (t_book 2))) + (2 : Int32)), .ref a_t_book]) := by
          intro H locs ls hW hl
          obtain ⟨g8, hF⟩ := gd_some hF
          refine m_iast X hW 1 (k := (((120 : Int32) + ((3 : Int32) * (t_book 2))) + (2 : Int32)).toNatClampNeg) rfl g8 rfl dX12_seen_85 (ws' := (wd_R_seen E a_t a_t_images a_t_kept a_t_aside a_t_limbs a_t_wide a_t_hears a_t_spies a_t_known a_t_by a_t_ways a_t_fewest a_t_heavy a_t_sums a_t_faces a_t_bestFaces a_t_text a_t_verbs a_t_many a_t_nums a_t_book t_typed t_at t_start t_token t_value t_items (upd (upd (upd t_book ((120 : Int32) + ((3 : Int32) * (t_book 2))).toNatClampNeg p1) (((120 : Int32) + ((3 : Int32) * (t_book 2))) + (1 : Int32)).toNatClampNeg p2) (((120 : Int32) + ((3 : Int32) * (t_book 2))) + (2 : Int32)).toNatClampNeg y2))) rfl (fun H locs hW => ?_)
          refine lv_aload_n hx hb dX12_seen_86 rfl (lv_at hl 0 rfl) ?_
          refine m_get X hW fdX12_7 0 rfl rfl dX12_seen_87 ?_
          refine lv_iconst (v := (2 : Int32)) hx hb dX12_seen_90 (by decide) ?_
          refine lv_dup2_11 hx hb dX12_seen_91 rfl rfl ?_
          refine m_iald X hW 1 (k := 2) rfl (by decide) rfl dX12_seen_92 ?_
          refine lv_iconst (v := (1 : Int32)) hx hb dX12_seen_93 (by decide) ?_
          refine lv_iadd hx hb dX12_seen_94 ?_
          refine m_iast X hW 1 (k := 2) rfl (by decide) rfl dX12_seen_95 (ws' := (wd_R_seen E a_t a_t_images a_t_kept a_t_aside a_t_limbs a_t_wide a_t_hears a_t_spies a_t_known a_t_by a_t_ways a_t_fewest a_t_heavy a_t_sums a_t_faces a_t_bestFaces a_t_text a_t_verbs a_t_many a_t_nums a_t_book t_typed t_at t_start t_token t_value t_items (upd (upd (upd (upd t_book ((120 : Int32) + ((3 : Int32) * (t_book 2))).toNatClampNeg p1) (((120 : Int32) + ((3 : Int32) * (t_book 2))) + (1 : Int32)).toNatClampNeg p2) (((120 : Int32) + ((3 : Int32) * (t_book 2))) + (2 : Int32)).toNatClampNeg y2) 2 (((upd (upd (upd t_book ((120 : Int32) + ((3 : Int32) * (t_book 2))).toNatClampNeg p1) (((120 : Int32) + ((3 : Int32) * (t_book 2))) + (1 : Int32)).toNatClampNeg p2) (((120 : Int32) + ((3 : Int32) * (t_book 2))) + (2 : Int32)).toNatClampNeg y2) 2) + (1 : Int32))))) rfl (fun H locs hW => ?_)
          refine lv_aload_n hx hb dX12_seen_96 rfl (lv_at hl 0 rfl) ?_
          refine m_get X hW fdX12_7 0 rfl rfl dX12_seen_97 ?_
          refine lv_iconst (v := (2 : Int32)) hx hb dX12_seen_100 (by decide) ?_
          refine m_iald X hW 1 (k := 2) rfl (by decide) rfl dX12_seen_101 ?_
          have hq := Option.some.inj hF
          subst hq
          exact hret _ _ _ _ hW dX12_seen_102
        clear hF
        have hF := hX7
        clear hX7
        refine lv_if_eq (tgt := 84) hx hb dX12_seen_77 (by decide) (fun c9 => ?_) (fun c9 => ?_)
        · have hF := if_y c9 hF
          refine lv_iconst (v := (0 : Int32)) hx hb dX12_seen_84 (by decide) ?_
          cases hF
          exact J6 _ _ _ hW (lv_sub hl [1] rfl)
        · have hF := if_n c9 hF
          refine lv_iconst (v := (1 : Int32)) hx hb dX12_seen_80 (by decide) ?_
          refine lv_goto (tgt := 85) hx hb dX12_seen_81 (by decide) ?_
          cases hF
          exact J6 _ _ _ hW (lv_sub hl [1] rfl)
      · have hF := if_y c3 hF
        refine lv_bipush (v := (-4 : Int32)) hx hb dX12_seen_34 (by decide) ?_
        have hq := Option.some.inj hF
        subst hq
        exact hret _ _ _ _ hW dX12_seen_36
    · have hF := if_y c2 hF
      refine lv_bipush (v := (-2 : Int32)) hx hb dX12_seen_20 (by decide) ?_
      have hq := Option.some.inj hF
      subst hq
      exact hret _ _ _ _ hW dX12_seen_22
abbrev wd_R_source (E : m_E) (a_t : Nat) (a_t_images : Nat) (a_t_kept : Nat) (a_t_aside : Nat) (a_t_limbs : Nat) (a_t_wide : Nat) (a_t_ways : Nat) (a_t_fewest : Nat) (a_t_heavy : Nat) (a_t_sums : Nat) (a_t_faces : Nat) (a_t_bestFaces : Nat) (a_t_text : Nat) (a_t_verbs : Nat) (a_t_many : Nat) (a_t_nums : Nat) (a_t_book : Nat) (a_t_hears : Nat) (a_t_spies : Nat) (a_t_known : Nat) (a_t_by : Nat) (t_typed : Int32) (t_at : Int32) (t_start : Int32) (t_token : Int32) (t_value : Int32) (t_items : Int32) (t_book : Nat → Int32) (t_hears : Nat → Int32) (t_spies : Nat → Int32) (t_known : Nat → Int32) (t_by : Nat → Int32) : va_W := [(a_t, .inr (12, [.ref a_t_book, .ref a_t_images, .ref a_t_kept, .ref a_t_aside, .ref a_t_limbs, .ref a_t_wide, .ref a_t_hears, .ref a_t_spies, .ref a_t_known, .ref a_t_by, .ref a_t_ways, .ref a_t_fewest, .ref a_t_heavy, .ref a_t_sums, .ref a_t_faces, .ref a_t_bestFaces, .ref a_t_text, .int t_typed, .int t_at, .int t_start, .int t_token, .int t_value, .ref a_t_verbs, .ref a_t_many, .ref a_t_nums, .int t_items])), (a_t_book, .inl (E.2.1 0, 240, .inl t_book)), (a_t_hears, .inl (E.2.1 1, 64, .inl t_hears)), (a_t_spies, .inl (E.2.1 1, 64, .inl t_spies)), (a_t_known, .inl (E.2.1 0, 8, .inl t_known)), (a_t_by, .inl (E.2.1 0, 8, .inl t_by))]
def rm_R_source : Room := { frames := 6, cells := 0, slots := 0, locals := 154 }
set_option maxHeartbeats 4000000 in
set_option maxRecDepth 100000 in
theorem c_R_source (l : Launch) (E : m_E) (sz N : Nat) (a_t : Nat) (a_t_images : Nat) (a_t_kept : Nat) (a_t_aside : Nat) (a_t_limbs : Nat) (a_t_wide : Nat) (a_t_ways : Nat) (a_t_fewest : Nat) (a_t_heavy : Nat) (a_t_sums : Nat) (a_t_faces : Nat) (a_t_bestFaces : Nat) (a_t_text : Nat) (a_t_verbs : Nat) (a_t_many : Nat) (a_t_nums : Nat) (a_t_book : Nat) (a_t_hears : Nat) (a_t_spies : Nat) (a_t_known : Nat) (a_t_by : Nat) (t_typed : Int32) (t_at : Int32) (t_start : Int32) (t_token : Int32) (t_value : Int32) (t_items : Int32) (t_book : Nat → Int32) (t_hears : Nat → Int32) (t_spies : Nat → Int32) (t_known : Nat → Int32) (t_by : Nat → Int32)  (ures : Int32 × (Nat → Int32) × (Nat → Int32) × (Nat → Int32) × (Nat → Int32)) (hF : F_R_source N t_book t_hears t_spies t_known t_by = some ures) : m_Met l yX12_source cX12_source 7 (some .int) rm_R_source E (wd_R_source E a_t a_t_images a_t_kept a_t_aside a_t_limbs a_t_wide a_t_ways a_t_fewest a_t_heavy a_t_sums a_t_faces a_t_bestFaces a_t_text a_t_verbs a_t_many a_t_nums a_t_book a_t_hears a_t_spies a_t_known a_t_by t_typed t_at t_start t_token t_value t_items t_book t_hears t_spies t_known t_by) (wd_R_source E a_t a_t_images a_t_kept a_t_aside a_t_limbs a_t_wide a_t_ways a_t_fewest a_t_heavy a_t_sums a_t_faces a_t_bestFaces a_t_text a_t_verbs a_t_many a_t_nums a_t_book a_t_hears a_t_spies a_t_known a_t_by t_typed t_at t_start t_token t_value t_items t_book ures.2.1 ures.2.2.1 ures.2.2.2.1 ures.2.2.2.2) sz [.ref a_t] (some (.int ures.1)) := by
  refine m_ofI (by decide) (Nat.le_of_ble_eq_true rfl) ?_
  intro p e s m args below meth c A Q ls X hW hA hl hret
  obtain ⟨hx, hb, -, hown, hts, hK, -, hG⟩ := id X
  have hl : lv_has ls 7 [(0, .ref a_t)] := hl
  unfold F_R_source at hF
  refine lv_iconst (v := (0 : Int32)) hx hb dX12_source_0 (by decide) ?_
  refine lv_istore_n (lv' := [(1, .int (0 : Int32)), (0, .ref a_t)]) hx hb dX12_source_1 rfl hl (by decide) rfl (fun ls hl => ?_)
  refine lv_iconst (v := (0 : Int32)) hx hb dX12_source_2 (by decide) ?_
  refine lv_istore_n (lv' := [(2, .int (0 : Int32)), (1, .int (0 : Int32)), (0, .ref a_t)]) hx hb dX12_source_3 rfl hl (by decide) rfl (fun ls hl => ?_)
  obtain ⟨x1_2, t_hears'_6, t_spies'_6, t_known'_6, t_by'_6, hX2, hF⟩ := bO_s5 hF
  have L1 : ∀ (k0 : Nat) (x1 : Int32) (x2 : Int32) (t_hears'_4 : Nat → Int32) (t_spies'_4 : Nat → Int32) (t_known'_4 : Nat → Int32) (t_by'_4 : Nat → Int32) (x1_2 : Int32) (t_hears'_6 : Nat → Int32) (t_spies'_6 : Nat → Int32) (t_known'_6 : Nat → Int32) (t_by'_6 : Nat → Int32) (H : Heap) (locs : List Loc) (ls : Array Slot), R_source_L4 N t_book k0 x1 x2 t_hears'_4 t_spies'_4 t_known'_4 t_by'_4 = some (x1_2, t_hears'_6, t_spies'_6, t_known'_6, t_by'_6) → m_H E A (wd_R_source E a_t a_t_images a_t_kept a_t_aside a_t_limbs a_t_wide a_t_ways a_t_fewest a_t_heavy a_t_sums a_t_faces a_t_bestFaces a_t_text a_t_verbs a_t_many a_t_nums a_t_book a_t_hears a_t_spies a_t_known a_t_by t_typed t_at t_start t_token t_value t_items t_book t_hears'_4 t_spies'_4 t_known'_4 t_by'_4) s.heap H locs → lv_has ls 7 [(2, .int x2), (1, .int x1), (0, .ref a_t)] → (∀ (H : Heap) (locs : List Loc) (ls : Array Slot), m_H E A (wd_R_source E a_t a_t_images a_t_kept a_t_aside a_t_limbs a_t_wide a_t_ways a_t_fewest a_t_heavy a_t_sums a_t_faces a_t_bestFaces a_t_text a_t_verbs a_t_many a_t_nums a_t_book a_t_hears a_t_spies a_t_known a_t_by t_typed t_at t_start t_token t_value t_items t_book t_hears'_6 t_spies'_6 t_known'_6 t_by'_6) s.heap H locs → lv_has ls 7 [(1, .int x1_2)] → W p l e rm_R_source s m args below meth c H locs 0 0 Q (F0 m 137 ls [])) → W p l e rm_R_source s m args below meth c H locs 0 0 Q (F0 m 4 ls []) := by
    clear hF
    intro k0
    induction k0 with
    | zero =>
      intro x1 x2 t_hears'_4 t_spies'_4 t_known'_4 t_by'_4 x1_2 t_hears'_6 t_spies'_6 t_known'_6 t_by'_6 H locs ls hF
      cases hF
    | succ k0 ih4 =>
      intro x1 x2 t_hears'_4 t_spies'_4 t_known'_4 t_by'_4 x1_2 t_hears'_6 t_spies'_6 t_known'_6 t_by'_6 H locs ls hF hW hl hk3
      rw [R_source_L4] at hF
      refine lv_iload_n hx hb dX12_source_4 rfl (lv_at hl 0 rfl) ?_
      refine lv_aload_n hx hb dX12_source_5 rfl (lv_at hl 2 rfl) ?_
      refine m_get X hW fdX12_7 0 rfl rfl dX12_source_6 ?_
      refine lv_iconst (v := (1 : Int32)) hx hb dX12_source_9 (by decide) ?_
      refine m_iald X hW 1 (k := 1) rfl (by decide) rfl dX12_source_10 ?_
      refine lv_icmp_ge (tgt := 137) hx hb dX12_source_11 (by decide) (fun c5 => ?_) (fun c5 => ?_)
      · have hF := if_y c5 hF
        cases hF
        exact hk3 _ _ _ hW (lv_sub hl [1] rfl)
      · have hF := if_n c5 hF
        refine lv_aload_n hx hb dX12_source_14 rfl (lv_at hl 2 rfl) ?_
        refine lv_iload_n hx hb dX12_source_15 rfl (lv_at hl 0 rfl) ?_
        refine lv_iconst (v := (0 : Int32)) hx hb dX12_source_16 (by decide) ?_
        refine lv_iconst (v := (0 : Int32)) hx hb dX12_source_17 (by decide) ?_
        refine lv_iconst (v := (-1 : Int32)) hx hb dX12_source_18 (by decide) ?_
        obtain ⟨t_hears'_5, t_spies'_5, t_known'_5, t_by'_5, hC6, hF⟩ := bO_s4 hF
        refine m_callV X hW hA hl.1 lkX12_175 (c_R_spreads l E _ N a_t a_t_images a_t_kept a_t_aside a_t_limbs a_t_wide a_t_ways a_t_fewest a_t_heavy a_t_sums a_t_faces a_t_bestFaces a_t_text a_t_verbs a_t_many a_t_nums a_t_book a_t_hears a_t_spies a_t_known a_t_by t_typed t_at t_start t_token t_value t_items t_book t_hears'_4 t_spies'_4 t_known'_4 t_by'_4 x2 (0 : Int32) (0 : Int32) (-1 : Int32) (t_hears'_5, t_spies'_5, t_known'_5, t_by'_5) hC6) ([0, 1, 2, 3, 4, 5]) (by decide) rfl rfl (ws' := (wd_R_source E a_t a_t_images a_t_kept a_t_aside a_t_limbs a_t_wide a_t_ways a_t_fewest a_t_heavy a_t_sums a_t_faces a_t_bestFaces a_t_text a_t_verbs a_t_many a_t_nums a_t_book a_t_hears a_t_spies a_t_known a_t_by t_typed t_at t_start t_token t_value t_items t_book t_hears'_5 t_spies'_5 t_known'_5 t_by'_5)) rfl 0 rfl rfl rfl (As := [.int x2, .int (0 : Int32), .int (0 : Int32), .int (-1 : Int32)]) (rest := []) rfl rfl ⟨rfl, rfl, Nat.le_of_ble_eq_true rfl, Nat.le_of_ble_eq_true rfl⟩ (Nat.le_of_ble_eq_true rfl) (Nat.zero_le _) (Nat.zero_le _) dX12_source_19 (fun H locs hW => ?_)
        clear hC6
        refine lv_iconst (v := (1 : Int32)) hx hb dX12_source_22 (by decide) ?_
        refine lv_istore_n (lv' := [(3, .int (1 : Int32)), (2, .int x2), (1, .int x1), (0, .ref a_t)]) hx hb dX12_source_23 rfl hl (by decide) rfl (fun ls hl => ?_)
        refine lv_iconst (v := (0 : Int32)) hx hb dX12_source_24 (by decide) ?_
        refine lv_istore (lv' := [(4, .int (0 : Int32)), (3, .int (1 : Int32)), (2, .int x2), (1, .int x1), (0, .ref a_t)]) hx hb dX12_source_25 hl (by decide) rfl (fun ls hl => ?_)
        obtain ⟨x3_2, hX8, hF⟩ := bO_s1 hF
        have L7 : ∀ (k0 : Nat) (x3 : Int32) (x4 : Int32) (x3_2 : Int32) (H : Heap) (locs : List Loc) (ls : Array Slot), R_source_L27 t_book t_known'_5 k0 x3 x4 = some x3_2 → m_H E A (wd_R_source E a_t a_t_images a_t_kept a_t_aside a_t_limbs a_t_wide a_t_ways a_t_fewest a_t_heavy a_t_sums a_t_faces a_t_bestFaces a_t_text a_t_verbs a_t_many a_t_nums a_t_book a_t_hears a_t_spies a_t_known a_t_by t_typed t_at t_start t_token t_value t_items t_book t_hears'_5 t_spies'_5 t_known'_5 t_by'_5) s.heap H locs → lv_has ls 7 [(4, .int x4), (3, .int x3), (2, .int x2), (1, .int x1), (0, .ref a_t)] → (∀ (H : Heap) (locs : List Loc) (ls : Array Slot), m_H E A (wd_R_source E a_t a_t_images a_t_kept a_t_aside a_t_limbs a_t_wide a_t_ways a_t_fewest a_t_heavy a_t_sums a_t_faces a_t_bestFaces a_t_text a_t_verbs a_t_many a_t_nums a_t_book a_t_hears a_t_spies a_t_known a_t_by t_typed t_at t_start t_token t_value t_items t_book t_hears'_5 t_spies'_5 t_known'_5 t_by'_5) s.heap H locs → lv_has ls 7 [(3, .int x3_2), (2, .int x2), (1, .int x1), (0, .ref a_t)] → W p l e rm_R_source s m args below meth c H locs 0 0 Q (F0 m 117 ls [])) → W p l e rm_R_source s m args below meth c H locs 0 0 Q (F0 m 27 ls []) := by
          clear hF
          intro k0
          induction k0 with
          | zero =>
            intro x3 x4 x3_2 H locs ls hF
            cases hF
          | succ k0 ih10 =>
            intro x3 x4 x3_2 H locs ls hF hW hl hk9
            rw [R_source_L27] at hF
            refine lv_iload hx hb dX12_source_27 (lv_at hl 0 rfl) ?_
            refine lv_aload_n hx hb dX12_source_29 rfl (lv_at hl 4 rfl) ?_
            refine m_get X hW fdX12_7 0 rfl rfl dX12_source_30 ?_
            refine lv_iconst (v := (2 : Int32)) hx hb dX12_source_33 (by decide) ?_
            refine m_iald X hW 1 (k := 2) rfl (by decide) rfl dX12_source_34 ?_
            refine lv_icmp_ge (tgt := 117) hx hb dX12_source_35 (by decide) (fun c11 => ?_) (fun c11 => ?_)
            · have hF := if_y c11 hF
              cases hF
              exact hk9 _ _ _ hW (lv_sub hl [1, 2, 3, 4] rfl)
            · have hF := if_n c11 hF
              refine lv_bipush (v := (120 : Int32)) hx hb dX12_source_38 (by decide) ?_
              refine lv_iconst (v := (3 : Int32)) hx hb dX12_source_40 (by decide) ?_
              refine lv_iload hx hb dX12_source_41 (lv_at hl 0 rfl) ?_
              refine lv_imul hx hb dX12_source_43 ?_
              refine lv_iadd hx hb dX12_source_44 ?_
              refine lv_istore (lv' := [(5, .int ((120 : Int32) + ((3 : Int32) * x4))), (4, .int x4), (3, .int x3), (2, .int x2), (1, .int x1), (0, .ref a_t)]) hx hb dX12_source_45 hl (by decide) rfl (fun ls hl => ?_)
              refine lv_aload_n hx hb dX12_source_47 rfl (lv_at hl 5 rfl) ?_
              refine m_get X hW fdX12_35 0 rfl rfl dX12_source_48 ?_
              refine lv_aload_n hx hb dX12_source_51 rfl (lv_at hl 5 rfl) ?_
              refine m_get X hW fdX12_7 0 rfl rfl dX12_source_52 ?_
              refine lv_iload hx hb dX12_source_55 (lv_at hl 0 rfl) ?_
              obtain ⟨g12, hF⟩ := gd_some hF
              refine m_iald X hW 1 (k := ((120 : Int32) + ((3 : Int32) * x4)).toNatClampNeg) rfl g12 rfl dX12_source_57 ?_
              obtain ⟨g13, hF⟩ := gd_some hF
              refine m_iald X hW 4 (k := (t_book ((120 : Int32) + ((3 : Int32) * x4)).toNatClampNeg).toNatClampNeg) rfl g13 rfl dX12_source_58 ?_
              refine lv_aload_n hx hb dX12_source_59 rfl (lv_at hl 5 rfl) ?_
              refine m_get X hW fdX12_7 0 rfl rfl dX12_source_60 ?_
              refine lv_iload hx hb dX12_source_63 (lv_at hl 0 rfl) ?_
              refine lv_iconst (v := (1 : Int32)) hx hb dX12_source_65 (by decide) ?_
              refine lv_iadd hx hb dX12_source_66 ?_
              obtain ⟨g14, hF⟩ := gd_some hF
              refine m_iald X hW 1 (k := (((120 : Int32) + ((3 : Int32) * x4)) + (1 : Int32)).toNatClampNeg) rfl g14 rfl dX12_source_67 ?_
              obtain ⟨y0, hX16, hF⟩ := bO_s1 hF
              have J15 : ∀ (H : Heap) (locs : List Loc) (ls : Array Slot), m_H E A (wd_R_source E a_t a_t_images a_t_kept a_t_aside a_t_limbs a_t_wide a_t_ways a_t_fewest a_t_heavy a_t_sums a_t_faces a_t_bestFaces a_t_text a_t_verbs a_t_many a_t_nums a_t_book a_t_hears a_t_spies a_t_known a_t_by t_typed t_at t_start t_token t_value t_items t_book t_hears'_5 t_spies'_5 t_known'_5 t_by'_5) s.heap H locs → lv_has ls 7 [(5, .int ((120 : Int32) + ((3 : Int32) * x4))), (4, .int x4), (3, .int x3), (2, .int x2), (1, .int x1), (0, .ref a_t)] → W p l e rm_R_source s m args below meth c H locs 0 0 Q (F0 m 76 ls [.int y0]) := by
                intro H locs ls hW hl
                refine lv_istore (lv' := [(6, .int y0), (5, .int ((120 : Int32) + ((3 : Int32) * x4))), (4, .int x4), (3, .int x3), (2, .int x2), (1, .int x1), (0, .ref a_t)]) hx hb dX12_source_76 hl (by decide) rfl (fun ls hl => ?_)
                refine lv_iload_n hx hb dX12_source_78 rfl (lv_at hl 3 rfl) ?_
                refine lv_if_eq (tgt := 109) hx hb dX12_source_79 (by decide) (fun c17 => ?_) (fun c17 => ?_)
                · have hF := if_y c17 hF
                  refine lv_iconst (v := (0 : Int32)) hx hb dX12_source_109 (by decide) ?_
                  refine lv_istore_n (lv' := [(3, .int (0 : Int32)), (6, .int y0), (5, .int ((120 : Int32) + ((3 : Int32) * x4))), (4, .int x4), (2, .int x2), (1, .int x1), (0, .ref a_t)]) hx hb dX12_source_110 rfl hl (by decide) rfl (fun ls hl => ?_)
                  refine lv_iinc (v := (x4 + (1 : Int32))) (lv' := [(4, .int (x4 + (1 : Int32))), (3, .int (0 : Int32)), (6, .int y0), (5, .int ((120 : Int32) + ((3 : Int32) * x4))), (2, .int x2), (1, .int x1), (0, .ref a_t)]) hx hb dX12_source_111 hl (k := 3) rfl rfl (by decide) rfl (fun ls hl => ?_)
                  refine lv_goto (tgt := 27) hx hb dX12_source_114 (by decide) ?_
                  exact ih10 (0 : Int32) (x4 + (1 : Int32)) x3_2 _ _ _ hF hW (lv_sub hl [0, 1, 4, 5, 6] rfl) hk9
                · have hF := if_n c17 hF
                  refine lv_iload hx hb dX12_source_82 (lv_at hl 0 rfl) ?_
                  refine lv_aload_n hx hb dX12_source_84 rfl (lv_at hl 6 rfl) ?_
                  refine m_get X hW fdX12_7 0 rfl rfl dX12_source_85 ?_
                  refine lv_iload hx hb dX12_source_88 (lv_at hl 1 rfl) ?_
                  refine lv_iconst (v := (2 : Int32)) hx hb dX12_source_90 (by decide) ?_
                  refine lv_iadd hx hb dX12_source_91 ?_
                  obtain ⟨g18, hF⟩ := gd_some hF
                  refine m_iald X hW 1 (k := (((120 : Int32) + ((3 : Int32) * x4)) + (2 : Int32)).toNatClampNeg) rfl g18 rfl dX12_source_92 ?_
                  refine lv_iconst (v := (1 : Int32)) hx hb dX12_source_93 (by decide) ?_
                  obtain ⟨y1, hX20, hF⟩ := bO_s1 hF
                  have J19 : ∀ (H : Heap) (locs : List Loc) (ls : Array Slot), m_H E A (wd_R_source E a_t a_t_images a_t_kept a_t_aside a_t_limbs a_t_wide a_t_ways a_t_fewest a_t_heavy a_t_sums a_t_faces a_t_bestFaces a_t_text a_t_verbs a_t_many a_t_nums a_t_book a_t_hears a_t_spies a_t_known a_t_by t_typed t_at t_start t_token t_value t_items t_book t_hears'_5 t_spies'_5 t_known'_5 t_by'_5) s.heap H locs → lv_has ls 7 [(4, .int x4), (2, .int x2), (1, .int x1), (0, .ref a_t)] → W p l e rm_R_source s m args below meth c H locs 0 0 Q (F0 m 102 ls [.int y1, .int y0]) := by
                    intro H locs ls hW hl
                    refine lv_icmp_ne (tgt := 109) hx hb dX12_source_102 (by decide) (fun c21 => ?_) (fun c21 => ?_)
                    · have hF := if_n c21 hF
                      refine lv_iconst (v := (0 : Int32)) hx hb dX12_source_109 (by decide) ?_
                      refine lv_istore_n (lv' := [(3, .int (0 : Int32)), (4, .int x4), (2, .int x2), (1, .int x1), (0, .ref a_t)]) hx hb dX12_source_110 rfl hl (by decide) rfl (fun ls hl => ?_)
                      refine lv_iinc (v := (x4 + (1 : Int32))) (lv' := [(4, .int (x4 + (1 : Int32))), (3, .int (0 : Int32)), (2, .int x2), (1, .int x1), (0, .ref a_t)]) hx hb dX12_source_111 hl (k := 1) rfl rfl (by decide) rfl (fun ls hl => ?_)
                      refine lv_goto (tgt := 27) hx hb dX12_source_114 (by decide) ?_
                      exact ih10 (0 : Int32) (x4 + (1 : Int32)) x3_2 _ _ _ hF hW (lv_sub hl [0, 1, 2, 3, 4] rfl) hk9
                    · have hF := if_y c21 hF
                      refine lv_iconst (v := (1 : Int32)) hx hb dX12_source_105 (by decide) ?_
                      refine lv_goto (tgt := 110) hx hb dX12_source_106 (by decide) ?_
                      refine lv_istore_n (lv' := [(3, .int (1 : Int32)), (4, .int x4), (2, .int x2), (1, .int x1), (0, .ref a_t)]) hx hb dX12_source_110 rfl hl (by decide) rfl (fun ls hl => ?_)
                      refine lv_iinc (v := (x4 + (1 : Int32))) (lv' := [(4, .int (x4 + (1 : Int32))), (3, .int (1 : Int32)), (2, .int x2), (1, .int x1), (0, .ref a_t)]) hx hb dX12_source_111 hl (k := 1) rfl rfl (by decide) rfl (fun ls hl => ?_)
                      refine lv_goto (tgt := 27) hx hb dX12_source_114 (by decide) ?_
                      exact ih10 (1 : Int32) (x4 + (1 : Int32)) x3_2 _ _ _ hF hW (lv_sub hl [0, 1, 2, 3, 4] rfl) hk9
                  clear hF
                  have hF := hX20
                  clear hX20
                  refine lv_icmp_ne (tgt := 101) hx hb dX12_source_94 (by decide) (fun c22 => ?_) (fun c22 => ?_)
                  · have hF := if_n c22 hF
                    refine lv_iconst (v := (0 : Int32)) hx hb dX12_source_101 (by decide) ?_
                    cases hF
                    exact J19 _ _ _ hW (lv_sub hl [2, 4, 5, 6] rfl)
                  · have hF := if_y c22 hF
                    refine lv_iconst (v := (1 : Int32)) hx hb dX12_source_97 (by decide) ?_
                    refine lv_goto (tgt := 102) hx hb dX12_source_98 (by decide) ?_
                    cases hF
                    exact J19 _ _ _ hW (lv_sub hl [2, 4, 5, 6] rfl)
              clear hF
              have hF := hX16
              clear hX16
              refine lv_icmp_gt (tgt := 75) hx hb dX12_source_68 (by decide) (fun c23 => ?_) (fun c23 => ?_)
              · have hF := if_y c23 hF
                refine lv_iconst (v := (0 : Int32)) hx hb dX12_source_75 (by decide) ?_
                cases hF
                exact J15 _ _ _ hW (lv_sub hl [0, 1, 2, 3, 4, 5] rfl)
              · have hF := if_n c23 hF
                refine lv_iconst (v := (1 : Int32)) hx hb dX12_source_71 (by decide) ?_
                refine lv_goto (tgt := 76) hx hb dX12_source_72 (by decide) ?_
                cases hF
                exact J15 _ _ _ hW (lv_sub hl [0, 1, 2, 3, 4, 5] rfl)
        refine L7 N (1 : Int32) (0 : Int32) x3_2 _ _ _ hX8 hW (lv_sub hl [0, 1, 2, 3, 4] rfl) ?_
        intro H locs ls hW hl
        clear L7
        refine lv_iload_n hx hb dX12_source_117 rfl (lv_at hl 2 rfl) ?_
        refine lv_iload_n hx hb dX12_source_118 rfl (lv_at hl 0 rfl) ?_
        refine lv_if_eq (tgt := 128) hx hb dX12_source_119 (by decide) (fun c24 => ?_) (fun c24 => ?_)
        · have hF := if_y c24 hF
          refine lv_iconst (v := (0 : Int32)) hx hb dX12_source_128 (by decide) ?_
          refine lv_ior hx hb dX12_source_129 ?_
          refine lv_istore_n (lv' := [(1, .int (x1 ||| (0 : Int32))), (3, .int x3_2), (2, .int x2), (0, .ref a_t)]) hx hb dX12_source_130 rfl hl (by decide) rfl (fun ls hl => ?_)
          refine lv_iinc (v := (x2 + (1 : Int32))) (lv' := [(2, .int (x2 + (1 : Int32))), (1, .int (x1 ||| (0 : Int32))), (3, .int x3_2), (0, .ref a_t)]) hx hb dX12_source_131 hl (k := 2) rfl rfl (by decide) rfl (fun ls hl => ?_)
          refine lv_goto (tgt := 4) hx hb dX12_source_134 (by decide) ?_
          exact ih4 (x1 ||| (0 : Int32)) (x2 + (1 : Int32)) t_hears'_5 t_spies'_5 t_known'_5 t_by'_5 x1_2 t_hears'_6 t_spies'_6 t_known'_6 t_by'_6 _ _ _ hF hW (lv_sub hl [0, 1, 3] rfl) hk3
        · have hF := if_n c24 hF
          refine lv_iconst (v := (1 : Int32)) hx hb dX12_source_122 (by decide) ?_
          refine lv_iload_n hx hb dX12_source_123 rfl (lv_at hl 1 rfl) ?_
          refine m_ishl hx hb dX12_source_124 ?_
          refine lv_goto (tgt := 129) hx hb dX12_source_125 (by decide) ?_
          refine lv_ior hx hb dX12_source_129 ?_
          refine lv_istore_n (lv' := [(1, .int (x1 ||| (jshl (1 : Int32) x2))), (3, .int x3_2), (2, .int x2), (0, .ref a_t)]) hx hb dX12_source_130 rfl hl (by decide) rfl (fun ls hl => ?_)
          refine lv_iinc (v := (x2 + (1 : Int32))) (lv' := [(2, .int (x2 + (1 : Int32))), (1, .int (x1 ||| (jshl (1 : Int32) x2))), (3, .int x3_2), (0, .ref a_t)]) hx hb dX12_source_131 hl (k := 2) rfl rfl (by decide) rfl (fun ls hl => ?_)
          refine lv_goto (tgt := 4) hx hb dX12_source_134 (by decide) ?_
          exact ih4 (x1 ||| (jshl (1 : Int32) x2)) (x2 + (1 : Int32)) t_hears'_5 t_spies'_5 t_known'_5 t_by'_5 x1_2 t_hears'_6 t_spies'_6 t_known'_6 t_by'_6 _ _ _ hF hW (lv_sub hl [0, 1, 3] rfl) hk3
  refine L1 N (0 : Int32) (0 : Int32) t_hears t_spies t_known t_by x1_2 t_hears'_6 t_spies'_6 t_known'_6 t_by'_6 _ _ _ hX2 hW (lv_sub hl [0, 1, 2] rfl) ?_
  intro H locs ls hW hl
  clear L1
  refine lv_iload_n hx hb dX12_source_137 rfl (lv_at hl 0 rfl) ?_
  have hq := Option.some.inj hF
  subst hq
  exact hret _ _ _ _ hW dX12_source_138
abbrev wd_R_isJoined (E : m_E) (a_t : Nat) (a_t_images : Nat) (a_t_kept : Nat) (a_t_aside : Nat) (a_t_limbs : Nat) (a_t_wide : Nat) (a_t_spies : Nat) (a_t_known : Nat) (a_t_by : Nat) (a_t_ways : Nat) (a_t_fewest : Nat) (a_t_heavy : Nat) (a_t_sums : Nat) (a_t_faces : Nat) (a_t_bestFaces : Nat) (a_t_text : Nat) (a_t_verbs : Nat) (a_t_many : Nat) (a_t_nums : Nat) (a_t_book : Nat) (a_t_hears : Nat) (t_typed : Int32) (t_at : Int32) (t_start : Int32) (t_token : Int32) (t_value : Int32) (t_items : Int32) (t_book : Nat → Int32) (t_hears : Nat → Int32) : va_W := [(a_t, .inr (12, [.ref a_t_book, .ref a_t_images, .ref a_t_kept, .ref a_t_aside, .ref a_t_limbs, .ref a_t_wide, .ref a_t_hears, .ref a_t_spies, .ref a_t_known, .ref a_t_by, .ref a_t_ways, .ref a_t_fewest, .ref a_t_heavy, .ref a_t_sums, .ref a_t_faces, .ref a_t_bestFaces, .ref a_t_text, .int t_typed, .int t_at, .int t_start, .int t_token, .int t_value, .ref a_t_verbs, .ref a_t_many, .ref a_t_nums, .int t_items])), (a_t_book, .inl (E.2.1 0, 240, .inl t_book)), (a_t_hears, .inl (E.2.1 1, 64, .inl t_hears))]
def rm_R_isJoined : Room := { frames := 0, cells := 0, slots := 0, locals := 0 }
set_option maxHeartbeats 4000000 in
set_option maxRecDepth 100000 in
theorem c_R_isJoined (l : Launch) (E : m_E) (sz N : Nat) (a_t : Nat) (a_t_images : Nat) (a_t_kept : Nat) (a_t_aside : Nat) (a_t_limbs : Nat) (a_t_wide : Nat) (a_t_spies : Nat) (a_t_known : Nat) (a_t_by : Nat) (a_t_ways : Nat) (a_t_fewest : Nat) (a_t_heavy : Nat) (a_t_sums : Nat) (a_t_faces : Nat) (a_t_bestFaces : Nat) (a_t_text : Nat) (a_t_verbs : Nat) (a_t_many : Nat) (a_t_nums : Nat) (a_t_book : Nat) (a_t_hears : Nat) (t_typed : Int32) (t_at : Int32) (t_start : Int32) (t_token : Int32) (t_value : Int32) (t_items : Int32) (t_book : Nat → Int32) (t_hears : Nat → Int32) (p1 : Int32) (p2 : Int32) (p3 : Int32) (ures : Int32) (hF : F_R_isJoined N p1 p2 p3 t_book t_hears = some ures) : m_Met l yX12_isJoined cX12_isJoined 9 (some .boolean) rm_R_isJoined E (wd_R_isJoined E a_t a_t_images a_t_kept a_t_aside a_t_limbs a_t_wide a_t_spies a_t_known a_t_by a_t_ways a_t_fewest a_t_heavy a_t_sums a_t_faces a_t_bestFaces a_t_text a_t_verbs a_t_many a_t_nums a_t_book a_t_hears t_typed t_at t_start t_token t_value t_items t_book t_hears) (wd_R_isJoined E a_t a_t_images a_t_kept a_t_aside a_t_limbs a_t_wide a_t_spies a_t_known a_t_by a_t_ways a_t_fewest a_t_heavy a_t_sums a_t_faces a_t_bestFaces a_t_text a_t_verbs a_t_many a_t_nums a_t_book a_t_hears t_typed t_at t_start t_token t_value t_items t_book t_hears) sz [.ref a_t, .int p1, .int p2, .int p3] (some (.int ures)) := by
  refine m_ofZ (by decide) (Nat.le_of_ble_eq_true rfl) ?_
  intro p e s m args below meth c A Q ls X hW hA hl hret
  obtain ⟨hx, hb, -, hown, hts, hK, -, hG⟩ := id X
  have hl : lv_has ls 9 [(0, .ref a_t), (1, .int p1), (2, .int p2), (3, .int p3)] := hl
  unfold F_R_isJoined at hF
  refine lv_iconst (v := (1 : Int32)) hx hb dX12_isJoined_0 (by decide) ?_
  refine lv_iload_n hx hb dX12_isJoined_1 rfl (lv_at hl 1 rfl) ?_
  refine m_ishl hx hb dX12_isJoined_2 ?_
  refine lv_istore (lv' := [(4, .int (jshl (1 : Int32) p1)), (0, .ref a_t), (1, .int p1), (2, .int p2), (3, .int p3)]) hx hb dX12_isJoined_3 hl (by decide) rfl (fun ls hl => ?_)
  refine lv_iconst (v := (0 : Int32)) hx hb dX12_isJoined_5 (by decide) ?_
  refine lv_istore (lv' := [(5, .int (0 : Int32)), (4, .int (jshl (1 : Int32) p1)), (0, .ref a_t), (1, .int p1), (2, .int p2), (3, .int p3)]) hx hb dX12_isJoined_6 hl (by decide) rfl (fun ls hl => ?_)
  obtain ⟨x4_6, hX2, hF⟩ := bO_s1 hF
  have L1 : ∀ (k0 : Nat) (x4 : Int32) (x5 : Int32) (x4_6 : Int32) (H : Heap) (locs : List Loc) (ls : Array Slot), R_isJoined_L8 N t_book p1 p2 t_hears p3 k0 x4 x5 = some x4_6 → m_H E A (wd_R_isJoined E a_t a_t_images a_t_kept a_t_aside a_t_limbs a_t_wide a_t_spies a_t_known a_t_by a_t_ways a_t_fewest a_t_heavy a_t_sums a_t_faces a_t_bestFaces a_t_text a_t_verbs a_t_many a_t_nums a_t_book a_t_hears t_typed t_at t_start t_token t_value t_items t_book t_hears) s.heap H locs → lv_has ls 9 [(5, .int x5), (4, .int x4), (0, .ref a_t), (1, .int p1), (2, .int p2), (3, .int p3)] → (∀ (H : Heap) (locs : List Loc) (ls : Array Slot), m_H E A (wd_R_isJoined E a_t a_t_images a_t_kept a_t_aside a_t_limbs a_t_wide a_t_spies a_t_known a_t_by a_t_ways a_t_fewest a_t_heavy a_t_sums a_t_faces a_t_bestFaces a_t_text a_t_verbs a_t_many a_t_nums a_t_book a_t_hears t_typed t_at t_start t_token t_value t_items t_book t_hears) s.heap H locs → lv_has ls 9 [(4, .int x4_6), (2, .int p2)] → W p l e rm_R_isJoined s m args below meth c H locs 0 0 Q (F0 m 137 ls [])) → W p l e rm_R_isJoined s m args below meth c H locs 0 0 Q (F0 m 8 ls []) := by
    clear hF
    intro k0
    induction k0 with
    | zero =>
      intro x4 x5 x4_6 H locs ls hF
      cases hF
    | succ k0 ih4 =>
      intro x4 x5 x4_6 H locs ls hF hW hl hk3
      rw [R_isJoined_L8] at hF
      refine lv_iload hx hb dX12_isJoined_8 (lv_at hl 1 rfl) ?_
      refine lv_iload hx hb dX12_isJoined_10 (lv_at hl 0 rfl) ?_
      refine lv_icmp_eq (tgt := 137) hx hb dX12_isJoined_12 (by decide) (fun c5 => ?_) (fun c5 => ?_)
      · have hF := if_y c5 hF
        cases hF
        exact hk3 _ _ _ hW (lv_sub hl [1, 4] rfl)
      · have hF := if_n c5 hF
        refine lv_iload hx hb dX12_isJoined_15 (lv_at hl 1 rfl) ?_
        refine lv_istore (lv' := [(5, .int x4), (4, .int x4), (0, .ref a_t), (1, .int p1), (2, .int p2), (3, .int p3)]) hx hb dX12_isJoined_17 hl (by decide) rfl (fun ls hl => ?_)
        refine lv_iconst (v := (0 : Int32)) hx hb dX12_isJoined_19 (by decide) ?_
        refine lv_istore (lv' := [(6, .int (0 : Int32)), (5, .int x4), (4, .int x4), (0, .ref a_t), (1, .int p1), (2, .int p2), (3, .int p3)]) hx hb dX12_isJoined_20 hl (by decide) rfl (fun ls hl => ?_)
        obtain ⟨x4_5, hX7, hF⟩ := bO_s1 hF
        have L6 : ∀ (k0 : Nat) (x4_2 : Int32) (x6 : Int32) (x4_5 : Int32) (H : Heap) (locs : List Loc) (ls : Array Slot), R_isJoined_L22 N t_book p1 p2 t_hears p3 k0 x4_2 x6 = some x4_5 → m_H E A (wd_R_isJoined E a_t a_t_images a_t_kept a_t_aside a_t_limbs a_t_wide a_t_spies a_t_known a_t_by a_t_ways a_t_fewest a_t_heavy a_t_sums a_t_faces a_t_bestFaces a_t_text a_t_verbs a_t_many a_t_nums a_t_book a_t_hears t_typed t_at t_start t_token t_value t_items t_book t_hears) s.heap H locs → lv_has ls 9 [(6, .int x6), (5, .int x4), (4, .int x4_2), (0, .ref a_t), (1, .int p1), (2, .int p2), (3, .int p3)] → (∀ (H : Heap) (locs : List Loc) (ls : Array Slot), m_H E A (wd_R_isJoined E a_t a_t_images a_t_kept a_t_aside a_t_limbs a_t_wide a_t_spies a_t_known a_t_by a_t_ways a_t_fewest a_t_heavy a_t_sums a_t_faces a_t_bestFaces a_t_text a_t_verbs a_t_many a_t_nums a_t_book a_t_hears t_typed t_at t_start t_token t_value t_items t_book t_hears) s.heap H locs → lv_has ls 9 [(5, .int x4), (4, .int x4_5), (0, .ref a_t), (1, .int p1), (2, .int p2), (3, .int p3)] → W p l e rm_R_isJoined s m args below meth c H locs 0 0 Q (F0 m 134 ls [])) → W p l e rm_R_isJoined s m args below meth c H locs 0 0 Q (F0 m 22 ls []) := by
          clear hF
          intro k0
          induction k0 with
          | zero =>
            intro x4_2 x6 x4_5 H locs ls hF
            cases hF
          | succ k0 ih9 =>
            intro x4_2 x6 x4_5 H locs ls hF hW hl hk8
            rw [R_isJoined_L22] at hF
            refine lv_iload hx hb dX12_isJoined_22 (lv_at hl 0 rfl) ?_
            refine lv_aload_n hx hb dX12_isJoined_24 rfl (lv_at hl 3 rfl) ?_
            refine m_get X hW fdX12_7 0 rfl rfl dX12_isJoined_25 ?_
            refine lv_iconst (v := (1 : Int32)) hx hb dX12_isJoined_28 (by decide) ?_
            refine m_iald X hW 1 (k := 1) rfl (by decide) rfl dX12_isJoined_29 ?_
            refine lv_icmp_ge (tgt := 134) hx hb dX12_isJoined_30 (by decide) (fun c10 => ?_) (fun c10 => ?_)
            · have hF := if_y c10 hF
              cases hF
              exact hk8 _ _ _ hW (lv_sub hl [1, 2, 3, 4, 5, 6] rfl)
            · have hF := if_n c10 hF
              refine lv_iconst (v := (0 : Int32)) hx hb dX12_isJoined_33 (by decide) ?_
              refine lv_istore (lv' := [(7, .int (0 : Int32)), (6, .int x6), (5, .int x4), (4, .int x4_2), (0, .ref a_t), (1, .int p1), (2, .int p2), (3, .int p3)]) hx hb dX12_isJoined_34 hl (by decide) rfl (fun ls hl => ?_)
              obtain ⟨x4_4, hX12, hF⟩ := bO_s1 hF
              have L11 : ∀ (k0 : Nat) (x4_3 : Int32) (x7 : Int32) (x4_4 : Int32) (H : Heap) (locs : List Loc) (ls : Array Slot), R_isJoined_L36 t_book x6 p1 p2 t_hears p3 k0 x4_3 x7 = some x4_4 → m_H E A (wd_R_isJoined E a_t a_t_images a_t_kept a_t_aside a_t_limbs a_t_wide a_t_spies a_t_known a_t_by a_t_ways a_t_fewest a_t_heavy a_t_sums a_t_faces a_t_bestFaces a_t_text a_t_verbs a_t_many a_t_nums a_t_book a_t_hears t_typed t_at t_start t_token t_value t_items t_book t_hears) s.heap H locs → lv_has ls 9 [(7, .int x7), (6, .int x6), (5, .int x4), (4, .int x4_3), (0, .ref a_t), (1, .int p1), (2, .int p2), (3, .int p3)] → (∀ (H : Heap) (locs : List Loc) (ls : Array Slot), m_H E A (wd_R_isJoined E a_t a_t_images a_t_kept a_t_aside a_t_limbs a_t_wide a_t_spies a_t_known a_t_by a_t_ways a_t_fewest a_t_heavy a_t_sums a_t_faces a_t_bestFaces a_t_text a_t_verbs a_t_many a_t_nums a_t_book a_t_hears t_typed t_at t_start t_token t_value t_items t_book t_hears) s.heap H locs → lv_has ls 9 [(6, .int x6), (5, .int x4), (4, .int x4_4), (0, .ref a_t), (1, .int p1), (2, .int p2), (3, .int p3)] → W p l e rm_R_isJoined s m args below meth c H locs 0 0 Q (F0 m 128 ls [])) → W p l e rm_R_isJoined s m args below meth c H locs 0 0 Q (F0 m 36 ls []) := by
                clear hF
                intro k0
                induction k0 with
                | zero =>
                  intro x4_3 x7 x4_4 H locs ls hF
                  cases hF
                | succ k0 ih14 =>
                  intro x4_3 x7 x4_4 H locs ls hF hW hl hk13
                  rw [R_isJoined_L36] at hF
                  refine lv_iload hx hb dX12_isJoined_36 (lv_at hl 0 rfl) ?_
                  refine lv_aload_n hx hb dX12_isJoined_38 rfl (lv_at hl 4 rfl) ?_
                  refine m_get X hW fdX12_7 0 rfl rfl dX12_isJoined_39 ?_
                  refine lv_iconst (v := (1 : Int32)) hx hb dX12_isJoined_42 (by decide) ?_
                  refine m_iald X hW 1 (k := 1) rfl (by decide) rfl dX12_isJoined_43 ?_
                  refine lv_icmp_ge (tgt := 128) hx hb dX12_isJoined_44 (by decide) (fun c15 => ?_) (fun c15 => ?_)
                  · have hF := if_y c15 hF
                    cases hF
                    exact hk13 _ _ _ hW (lv_sub hl [1, 2, 3, 4, 5, 6, 7] rfl)
                  · have hF := if_n c15 hF
                    refine lv_iload hx hb dX12_isJoined_47 (lv_at hl 1 rfl) ?_
                    refine lv_iload_n hx hb dX12_isJoined_49 rfl (lv_at hl 5 rfl) ?_
                    obtain ⟨y0, hX17, hF⟩ := bO_s1 hF
                    have J16 : ∀ (H : Heap) (locs : List Loc) (ls : Array Slot), m_H E A (wd_R_isJoined E a_t a_t_images a_t_kept a_t_aside a_t_limbs a_t_wide a_t_spies a_t_known a_t_by a_t_ways a_t_fewest a_t_heavy a_t_sums a_t_faces a_t_bestFaces a_t_text a_t_verbs a_t_many a_t_nums a_t_book a_t_hears t_typed t_at t_start t_token t_value t_items t_book t_hears) s.heap H locs → lv_has ls 9 [(7, .int x7), (6, .int x6), (5, .int x4), (4, .int x4_3), (0, .ref a_t), (1, .int p1), (2, .int p2), (3, .int p3)] → W p l e rm_R_isJoined s m args below meth c H locs 0 0 Q (F0 m 64 ls [.int y0]) := by
                      intro H locs ls hW hl
                      refine lv_istore (lv' := [(8, .int y0), (7, .int x7), (6, .int x6), (5, .int x4), (4, .int x4_3), (0, .ref a_t), (1, .int p1), (2, .int p2), (3, .int p3)]) hx hb dX12_isJoined_64 hl (by decide) rfl (fun ls hl => ?_)
                      refine lv_iload hx hb dX12_isJoined_66 (lv_at hl 4 rfl) ?_
                      refine lv_iload hx hb dX12_isJoined_68 (lv_at hl 2 rfl) ?_
                      refine m_ishr hx hb dX12_isJoined_70 ?_
                      refine lv_iconst (v := (1 : Int32)) hx hb dX12_isJoined_71 (by decide) ?_
                      refine lv_iand hx hb dX12_isJoined_72 ?_
                      refine lv_iconst (v := (1 : Int32)) hx hb dX12_isJoined_73 (by decide) ?_
                      refine lv_icmp_ne (tgt := 122) hx hb dX12_isJoined_74 (by decide) (fun c18 => ?_) (fun c18 => ?_)
                      · have hF := if_n c18 hF
                        refine lv_iinc (v := (x7 + (1 : Int32))) (lv' := [(7, .int (x7 + (1 : Int32))), (8, .int y0), (6, .int x6), (5, .int x4), (4, .int x4_3), (0, .ref a_t), (1, .int p1), (2, .int p2), (3, .int p3)]) hx hb dX12_isJoined_122 hl (k := 1) rfl rfl (by decide) rfl (fun ls hl => ?_)
                        refine lv_goto (tgt := 36) hx hb dX12_isJoined_125 (by decide) ?_
                        exact ih14 x4_3 (x7 + (1 : Int32)) x4_4 _ _ _ hF hW (lv_sub hl [0, 2, 3, 4, 5, 6, 7, 8] rfl) hk13
                      · have hF := if_y c18 hF
                        refine lv_iload hx hb dX12_isJoined_77 (lv_at hl 2 rfl) ?_
                        refine lv_iload_n hx hb dX12_isJoined_79 rfl (lv_at hl 7 rfl) ?_
                        refine lv_icmp_eq (tgt := 122) hx hb dX12_isJoined_80 (by decide) (fun c19 => ?_) (fun c19 => ?_)
                        · have hF := if_y c19 hF
                          refine lv_iinc (v := (x7 + (1 : Int32))) (lv' := [(7, .int (x7 + (1 : Int32))), (8, .int y0), (6, .int x6), (5, .int x4), (4, .int x4_3), (0, .ref a_t), (1, .int p1), (2, .int p2), (3, .int p3)]) hx hb dX12_isJoined_122 hl (k := 1) rfl rfl (by decide) rfl (fun ls hl => ?_)
                          refine lv_goto (tgt := 36) hx hb dX12_isJoined_125 (by decide) ?_
                          exact ih14 x4_3 (x7 + (1 : Int32)) x4_4 _ _ _ hF hW (lv_sub hl [0, 2, 3, 4, 5, 6, 7, 8] rfl) hk13
                        · have hF := if_n c19 hF
                          refine lv_aload_n hx hb dX12_isJoined_83 rfl (lv_at hl 5 rfl) ?_
                          refine m_get X hW fdX12_29 0 rfl rfl dX12_isJoined_84 ?_
                          refine lv_bipush (v := (8 : Int32)) hx hb dX12_isJoined_87 (by decide) ?_
                          refine lv_iload hx hb dX12_isJoined_89 (lv_at hl 1 rfl) ?_
                          refine lv_imul hx hb dX12_isJoined_91 ?_
                          refine lv_iload hx hb dX12_isJoined_92 (lv_at hl 2 rfl) ?_
                          refine lv_iadd hx hb dX12_isJoined_94 ?_
                          obtain ⟨g20, hF⟩ := gd_some hF
                          refine m_zald X hW 2 (k := (((8 : Int32) * x7) + x6).toNatClampNeg) rfl g20 rfl dX12_isJoined_95 ?_
                          refine lv_if_eq (tgt := 122) hx hb dX12_isJoined_96 (by decide) (fun c21 => ?_) (fun c21 => ?_)
                          · have hF := if_y c21 hF
                            refine lv_iinc (v := (x7 + (1 : Int32))) (lv' := [(7, .int (x7 + (1 : Int32))), (8, .int y0), (6, .int x6), (5, .int x4), (4, .int x4_3), (0, .ref a_t), (1, .int p1), (2, .int p2), (3, .int p3)]) hx hb dX12_isJoined_122 hl (k := 1) rfl rfl (by decide) rfl (fun ls hl => ?_)
                            refine lv_goto (tgt := 36) hx hb dX12_isJoined_125 (by decide) ?_
                            exact ih14 x4_3 (x7 + (1 : Int32)) x4_4 _ _ _ hF hW (lv_sub hl [0, 2, 3, 4, 5, 6, 7, 8] rfl) hk13
                          · have hF := if_n c21 hF
                            refine lv_iload hx hb dX12_isJoined_99 (lv_at hl 0 rfl) ?_
                            refine lv_if_ne (tgt := 122) hx hb dX12_isJoined_101 (by decide) (fun c22 => ?_) (fun c22 => ?_)
                            · have hF := if_n c22 hF
                              refine lv_iinc (v := (x7 + (1 : Int32))) (lv' := [(7, .int (x7 + (1 : Int32))), (8, .int y0), (6, .int x6), (5, .int x4), (4, .int x4_3), (0, .ref a_t), (1, .int p1), (2, .int p2), (3, .int p3)]) hx hb dX12_isJoined_122 hl (k := 1) rfl rfl (by decide) rfl (fun ls hl => ?_)
                              refine lv_goto (tgt := 36) hx hb dX12_isJoined_125 (by decide) ?_
                              exact ih14 x4_3 (x7 + (1 : Int32)) x4_4 _ _ _ hF hW (lv_sub hl [0, 2, 3, 4, 5, 6, 7, 8] rfl) hk13
                            · have hF := if_y c22 hF
                              refine lv_iload_n hx hb dX12_isJoined_104 rfl (lv_at hl 8 rfl) ?_
                              refine lv_iload hx hb dX12_isJoined_105 (lv_at hl 1 rfl) ?_
                              refine m_ishr hx hb dX12_isJoined_107 ?_
                              refine lv_iconst (v := (1 : Int32)) hx hb dX12_isJoined_108 (by decide) ?_
                              refine lv_iand hx hb dX12_isJoined_109 ?_
                              refine lv_if_ne (tgt := 122) hx hb dX12_isJoined_110 (by decide) (fun c23 => ?_) (fun c23 => ?_)
                              · have hF := if_n c23 hF
                                refine lv_iinc (v := (x7 + (1 : Int32))) (lv' := [(7, .int (x7 + (1 : Int32))), (8, .int y0), (6, .int x6), (5, .int x4), (4, .int x4_3), (0, .ref a_t), (1, .int p1), (2, .int p2), (3, .int p3)]) hx hb dX12_isJoined_122 hl (k := 1) rfl rfl (by decide) rfl (fun ls hl => ?_)
                                refine lv_goto (tgt := 36) hx hb dX12_isJoined_125 (by decide) ?_
                                exact ih14 x4_3 (x7 + (1 : Int32)) x4_4 _ _ _ hF hW (lv_sub hl [0, 2, 3, 4, 5, 6, 7, 8] rfl) hk13
                              · have hF := if_y c23 hF
                                refine lv_iload hx hb dX12_isJoined_113 (lv_at hl 4 rfl) ?_
                                refine lv_iconst (v := (1 : Int32)) hx hb dX12_isJoined_115 (by decide) ?_
                                refine lv_iload hx hb dX12_isJoined_116 (lv_at hl 1 rfl) ?_
                                refine m_ishl hx hb dX12_isJoined_118 ?_
                                refine lv_ior hx hb dX12_isJoined_119 ?_
                                refine lv_istore (lv' := [(4, .int (x4_3 ||| (jshl (1 : Int32) x7))), (8, .int y0), (7, .int x7), (6, .int x6), (5, .int x4), (0, .ref a_t), (1, .int p1), (2, .int p2), (3, .int p3)]) hx hb dX12_isJoined_120 hl (by decide) rfl (fun ls hl => ?_)
                                refine lv_iinc (v := (x7 + (1 : Int32))) (lv' := [(7, .int (x7 + (1 : Int32))), (4, .int (x4_3 ||| (jshl (1 : Int32) x7))), (8, .int y0), (6, .int x6), (5, .int x4), (0, .ref a_t), (1, .int p1), (2, .int p2), (3, .int p3)]) hx hb dX12_isJoined_122 hl (k := 2) rfl rfl (by decide) rfl (fun ls hl => ?_)
                                refine lv_goto (tgt := 36) hx hb dX12_isJoined_125 (by decide) ?_
                                exact ih14 (x4_3 ||| (jshl (1 : Int32) x7)) (x7 + (1 : Int32)) x4_4 _ _ _ hF hW (lv_sub hl [0, 3, 4, 1, 5, 6, 7, 8] rfl) hk13
                    clear hF
                    have hF := hX17
                    clear hX17
                    refine lv_icmp_ne (tgt := 63) hx hb dX12_isJoined_50 (by decide) (fun c24 => ?_) (fun c24 => ?_)
                    · have hF := if_n c24 hF
                      refine lv_iconst (v := (0 : Int32)) hx hb dX12_isJoined_63 (by decide) ?_
                      cases hF
                      exact J16 _ _ _ hW (lv_sub hl [0, 1, 2, 3, 4, 5, 6, 7] rfl)
                    · have hF := if_y c24 hF
                      refine lv_iload hx hb dX12_isJoined_53 (lv_at hl 0 rfl) ?_
                      refine lv_iload_n hx hb dX12_isJoined_55 rfl (lv_at hl 6 rfl) ?_
                      refine lv_icmp_ne (tgt := 63) hx hb dX12_isJoined_56 (by decide) (fun c25 => ?_) (fun c25 => ?_)
                      · have hF := if_n c25 hF
                        refine lv_iconst (v := (0 : Int32)) hx hb dX12_isJoined_63 (by decide) ?_
                        cases hF
                        exact J16 _ _ _ hW (lv_sub hl [0, 1, 2, 3, 4, 5, 6, 7] rfl)
                      · have hF := if_y c25 hF
                        refine lv_iconst (v := (1 : Int32)) hx hb dX12_isJoined_59 (by decide) ?_
                        refine lv_goto (tgt := 64) hx hb dX12_isJoined_60 (by decide) ?_
                        cases hF
                        exact J16 _ _ _ hW (lv_sub hl [0, 1, 2, 3, 4, 5, 6, 7] rfl)
              refine L11 N x4_2 (0 : Int32) x4_4 _ _ _ hX12 hW (lv_sub hl [0, 1, 2, 3, 4, 5, 6, 7] rfl) ?_
              intro H locs ls hW hl
              clear L11
              refine lv_iinc (v := (x6 + (1 : Int32))) (lv' := [(6, .int (x6 + (1 : Int32))), (5, .int x4), (4, .int x4_4), (0, .ref a_t), (1, .int p1), (2, .int p2), (3, .int p3)]) hx hb dX12_isJoined_128 hl (k := 0) rfl rfl (by decide) rfl (fun ls hl => ?_)
              refine lv_goto (tgt := 22) hx hb dX12_isJoined_131 (by decide) ?_
              exact ih9 x4_4 (x6 + (1 : Int32)) x4_5 _ _ _ hF hW (lv_sub hl [0, 1, 2, 3, 4, 5, 6] rfl) hk8
        refine L6 N x4 (0 : Int32) x4_5 _ _ _ hX7 hW (lv_sub hl [0, 1, 2, 3, 4, 5, 6] rfl) ?_
        intro H locs ls hW hl
        clear L6
        refine lv_goto (tgt := 8) hx hb dX12_isJoined_134 (by decide) ?_
        exact ih4 x4_5 x4 x4_6 _ _ _ hF hW (lv_sub hl [0, 1, 2, 3, 4, 5] rfl) hk3
  refine L1 N (jshl (1 : Int32) p1) (0 : Int32) x4_6 _ _ _ hX2 hW (lv_sub hl [0, 1, 2, 3, 4, 5] rfl) ?_
  intro H locs ls hW hl
  clear L1
  refine lv_iload hx hb dX12_isJoined_137 (lv_at hl 0 rfl) ?_
  refine lv_iload_n hx hb dX12_isJoined_139 rfl (lv_at hl 1 rfl) ?_
  refine m_ishr hx hb dX12_isJoined_140 ?_
  refine lv_iconst (v := (1 : Int32)) hx hb dX12_isJoined_141 (by decide) ?_
  refine lv_iand hx hb dX12_isJoined_142 ?_
  refine lv_iconst (v := (1 : Int32)) hx hb dX12_isJoined_143 (by decide) ?_
  refine lv_icmp_ne (tgt := 151) hx hb dX12_isJoined_144 (by decide) (fun c26 => ?_) (fun c26 => ?_)
  · have hF := if_n c26 hF
    refine lv_iconst (v := (0 : Int32)) hx hb dX12_isJoined_151 (by decide) ?_
    have hq := Option.some.inj hF
    subst hq
    exact hret _ _ _ _ _ rfl hW dX12_isJoined_152
  · have hF := if_y c26 hF
    refine lv_iconst (v := (1 : Int32)) hx hb dX12_isJoined_147 (by decide) ?_
    refine lv_goto (tgt := 152) hx hb dX12_isJoined_148 (by decide) ?_
    have hq := Option.some.inj hF
    subst hq
    exact hret _ _ _ _ _ rfl hW dX12_isJoined_152
abbrev wd_R_sizeOf (E : m_E)   : va_W := []
def rm_R_sizeOf : Room := { frames := 0, cells := 0, slots := 0, locals := 0 }
set_option maxHeartbeats 4000000 in
set_option maxRecDepth 100000 in
theorem c_R_sizeOf (l : Launch) (E : m_E) (sz N : Nat)   (p1 : Int32) (ures : Int32) (hF : F_R_sizeOf N p1 = some ures) : m_Met l yX12_sizeOf cX12_sizeOf 3 (some .int) rm_R_sizeOf E (wd_R_sizeOf E) (wd_R_sizeOf E) sz [.int p1] (some (.int ures)) := by
  refine m_ofI (by decide) (Nat.le_of_ble_eq_true rfl) ?_
  intro p e s m args below meth c A Q ls X hW hA hl hret
  obtain ⟨hx, hb, -, hown, hts, hK, -, hG⟩ := id X
  have hl : lv_has ls 3 [(0, .int p1)] := hl
  unfold F_R_sizeOf at hF
  refine lv_iconst (v := (0 : Int32)) hx hb dX12_sizeOf_0 (by decide) ?_
  refine lv_istore_n (lv' := [(1, .int (0 : Int32)), (0, .int p1)]) hx hb dX12_sizeOf_1 rfl hl (by decide) rfl (fun ls hl => ?_)
  refine lv_iload_n hx hb dX12_sizeOf_2 rfl (lv_at hl 1 rfl) ?_
  refine lv_istore_n (lv' := [(2, .int p1), (1, .int (0 : Int32)), (0, .int p1)]) hx hb dX12_sizeOf_3 rfl hl (by decide) rfl (fun ls hl => ?_)
  obtain ⟨x1_2, hX2, hF⟩ := bO_s1 hF
  have L1 : ∀ (k0 : Nat) (x1 : Int32) (x2 : Int32) (x1_2 : Int32) (H : Heap) (locs : List Loc) (ls : Array Slot), R_sizeOf_L4  k0 x1 x2 = some x1_2 → m_H E A (wd_R_sizeOf E) s.heap H locs → lv_has ls 3 [(2, .int x2), (1, .int x1)] → (∀ (H : Heap) (locs : List Loc) (ls : Array Slot), m_H E A (wd_R_sizeOf E) s.heap H locs → lv_has ls 3 [(1, .int x1_2)] → W p l e rm_R_sizeOf s m args below meth c H locs 0 0 Q (F0 m 21 ls [])) → W p l e rm_R_sizeOf s m args below meth c H locs 0 0 Q (F0 m 4 ls []) := by
    clear hF
    intro k0
    induction k0 with
    | zero =>
      intro x1 x2 x1_2 H locs ls hF
      cases hF
    | succ k0 ih4 =>
      intro x1 x2 x1_2 H locs ls hF hW hl hk3
      rw [R_sizeOf_L4] at hF
      refine lv_iload_n hx hb dX12_sizeOf_4 rfl (lv_at hl 0 rfl) ?_
      refine lv_if_le (tgt := 21) hx hb dX12_sizeOf_5 (by decide) (fun c5 => ?_) (fun c5 => ?_)
      · have hF := if_y c5 hF
        cases hF
        exact hk3 _ _ _ hW (lv_sub hl [1] rfl)
      · have hF := if_n c5 hF
        refine lv_iload_n hx hb dX12_sizeOf_8 rfl (lv_at hl 1 rfl) ?_
        refine lv_iload_n hx hb dX12_sizeOf_9 rfl (lv_at hl 0 rfl) ?_
        refine lv_iconst (v := (1 : Int32)) hx hb dX12_sizeOf_10 (by decide) ?_
        refine lv_iand hx hb dX12_sizeOf_11 ?_
        refine lv_iadd hx hb dX12_sizeOf_12 ?_
        refine lv_istore_n (lv' := [(1, .int (x1 + (x2 &&& (1 : Int32)))), (2, .int x2)]) hx hb dX12_sizeOf_13 rfl hl (by decide) rfl (fun ls hl => ?_)
        refine lv_iload_n hx hb dX12_sizeOf_14 rfl (lv_at hl 1 rfl) ?_
        refine lv_iconst (v := (1 : Int32)) hx hb dX12_sizeOf_15 (by decide) ?_
        refine m_ishr hx hb dX12_sizeOf_16 ?_
        refine lv_istore_n (lv' := [(2, .int (jshr x2 (1 : Int32))), (1, .int (x1 + (x2 &&& (1 : Int32))))]) hx hb dX12_sizeOf_17 rfl hl (by decide) rfl (fun ls hl => ?_)
        refine lv_goto (tgt := 4) hx hb dX12_sizeOf_18 (by decide) ?_
        exact ih4 (x1 + (x2 &&& (1 : Int32))) (jshr x2 (1 : Int32)) x1_2 _ _ _ hF hW (lv_sub hl [0, 1] rfl) hk3
  refine L1 N (0 : Int32) p1 x1_2 _ _ _ hX2 hW (lv_sub hl [0, 1] rfl) ?_
  intro H locs ls hW hl
  clear L1
  refine lv_iload_n hx hb dX12_sizeOf_21 rfl (lv_at hl 0 rfl) ?_
  have hq := Option.some.inj hF
  subst hq
  exact hret _ _ _ _ hW dX12_sizeOf_22
abbrev wd_R_apart (E : m_E) (a_t : Nat) (a_t_images : Nat) (a_t_kept : Nat) (a_t_aside : Nat) (a_t_limbs : Nat) (a_t_wide : Nat) (a_t_known : Nat) (a_t_by : Nat) (a_t_ways : Nat) (a_t_fewest : Nat) (a_t_heavy : Nat) (a_t_sums : Nat) (a_t_faces : Nat) (a_t_bestFaces : Nat) (a_t_text : Nat) (a_t_verbs : Nat) (a_t_many : Nat) (a_t_nums : Nat) (a_t_book : Nat) (a_t_hears : Nat) (a_t_spies : Nat) (t_typed : Int32) (t_at : Int32) (t_start : Int32) (t_token : Int32) (t_value : Int32) (t_items : Int32) (t_book : Nat → Int32) (t_hears : Nat → Int32) (t_spies : Nat → Int32) : va_W := [(a_t, .inr (12, [.ref a_t_book, .ref a_t_images, .ref a_t_kept, .ref a_t_aside, .ref a_t_limbs, .ref a_t_wide, .ref a_t_hears, .ref a_t_spies, .ref a_t_known, .ref a_t_by, .ref a_t_ways, .ref a_t_fewest, .ref a_t_heavy, .ref a_t_sums, .ref a_t_faces, .ref a_t_bestFaces, .ref a_t_text, .int t_typed, .int t_at, .int t_start, .int t_token, .int t_value, .ref a_t_verbs, .ref a_t_many, .ref a_t_nums, .int t_items])), (a_t_book, .inl (E.2.1 0, 240, .inl t_book)), (a_t_hears, .inl (E.2.1 1, 64, .inl t_hears)), (a_t_spies, .inl (E.2.1 1, 64, .inl t_spies))]
def rm_R_apart : Room := { frames := 5, cells := 0, slots := 0, locals := 125 }
set_option maxHeartbeats 4000000 in
set_option maxRecDepth 100000 in
theorem c_R_apart (l : Launch) (E : m_E) (sz N : Nat) (a_t : Nat) (a_t_images : Nat) (a_t_kept : Nat) (a_t_aside : Nat) (a_t_limbs : Nat) (a_t_wide : Nat) (a_t_known : Nat) (a_t_by : Nat) (a_t_ways : Nat) (a_t_fewest : Nat) (a_t_heavy : Nat) (a_t_sums : Nat) (a_t_faces : Nat) (a_t_bestFaces : Nat) (a_t_text : Nat) (a_t_verbs : Nat) (a_t_many : Nat) (a_t_nums : Nat) (a_t_book : Nat) (a_t_hears : Nat) (a_t_spies : Nat) (t_typed : Int32) (t_at : Int32) (t_start : Int32) (t_token : Int32) (t_value : Int32) (t_items : Int32) (t_book : Nat → Int32) (t_hears : Nat → Int32) (t_spies : Nat → Int32) (p1 : Int32) (p2 : Int32) (ures : Int32 × (Nat → Int32) × (Nat → Int32)) (hF : F_R_apart N p1 p2 t_book t_hears t_spies = some ures) : m_Met l yX12_apart cX12_apart 6 (some .int) rm_R_apart E (wd_R_apart E a_t a_t_images a_t_kept a_t_aside a_t_limbs a_t_wide a_t_known a_t_by a_t_ways a_t_fewest a_t_heavy a_t_sums a_t_faces a_t_bestFaces a_t_text a_t_verbs a_t_many a_t_nums a_t_book a_t_hears a_t_spies t_typed t_at t_start t_token t_value t_items t_book t_hears t_spies) (wd_R_apart E a_t a_t_images a_t_kept a_t_aside a_t_limbs a_t_wide a_t_known a_t_by a_t_ways a_t_fewest a_t_heavy a_t_sums a_t_faces a_t_bestFaces a_t_text a_t_verbs a_t_many a_t_nums a_t_book a_t_hears a_t_spies t_typed t_at t_start t_token t_value t_items t_book ures.2.1 ures.2.2) sz [.ref a_t, .int p1, .int p2] (some (.int ures.1)) := by
  refine m_ofI (by decide) (Nat.le_of_ble_eq_true rfl) ?_
  intro p e s m args below meth c A Q ls X hW hA hl hret
  obtain ⟨hx, hb, -, hown, hts, hK, -, hG⟩ := id X
  have hl : lv_has ls 6 [(0, .ref a_t), (1, .int p1), (2, .int p2)] := hl
  unfold F_R_apart at hF
  refine lv_aload_n hx hb dX12_apart_0 rfl (lv_at hl 0 rfl) ?_
  refine lv_iload_n hx hb dX12_apart_1 rfl (lv_at hl 1 rfl) ?_
  refine lv_iload_n hx hb dX12_apart_2 rfl (lv_at hl 2 rfl) ?_
  refine m_callV X hW hA hl.1 lkX12_155 (c_R_areTwo l E _ N a_t a_t_images a_t_kept a_t_aside a_t_limbs a_t_wide a_t_hears a_t_spies a_t_known a_t_by a_t_ways a_t_fewest a_t_heavy a_t_sums a_t_faces a_t_bestFaces a_t_text a_t_verbs a_t_many a_t_nums a_t_book t_typed t_at t_start t_token t_value t_items t_book p1 p2 (F_R_areTwo p1 p2 t_book) rfl) ([0, 1]) (by decide) rfl rfl (ws' := (wd_R_apart E a_t a_t_images a_t_kept a_t_aside a_t_limbs a_t_wide a_t_known a_t_by a_t_ways a_t_fewest a_t_heavy a_t_sums a_t_faces a_t_bestFaces a_t_text a_t_verbs a_t_many a_t_nums a_t_book a_t_hears a_t_spies t_typed t_at t_start t_token t_value t_items t_book t_hears t_spies)) rfl 0 rfl rfl rfl (As := [.int p1, .int p2]) (rest := []) rfl rfl ⟨rfl, rfl, Nat.le_of_ble_eq_true rfl, Nat.le_of_ble_eq_true rfl⟩ (Nat.le_of_ble_eq_true rfl) (Nat.zero_le _) (Nat.zero_le _) dX12_apart_3 (fun H locs hW => ?_)
  refine lv_if_ne (tgt := 12) hx hb dX12_apart_6 (by decide) (fun c1 => ?_) (fun c1 => ?_)
  · have hF := if_n c1 hF
    refine lv_aload_n hx hb dX12_apart_12 rfl (lv_at hl 0 rfl) ?_
    refine lv_iconst (v := (0 : Int32)) hx hb dX12_apart_13 (by decide) ?_
    obtain ⟨t_hears'_2, t_spies'_2, hC2, hF⟩ := bO_s2 hF
    refine m_callV X hW hA hl.1 lkX12_164 (c_R_looks l E _ N a_t a_t_images a_t_kept a_t_aside a_t_limbs a_t_wide a_t_known a_t_by a_t_ways a_t_fewest a_t_heavy a_t_sums a_t_faces a_t_bestFaces a_t_text a_t_verbs a_t_many a_t_nums a_t_book a_t_hears a_t_spies t_typed t_at t_start t_token t_value t_items t_book t_hears t_spies (0 : Int32) (t_hears'_2, t_spies'_2) hC2) ([0, 1, 2, 3]) (by decide) rfl rfl (ws' := (wd_R_apart E a_t a_t_images a_t_kept a_t_aside a_t_limbs a_t_wide a_t_known a_t_by a_t_ways a_t_fewest a_t_heavy a_t_sums a_t_faces a_t_bestFaces a_t_text a_t_verbs a_t_many a_t_nums a_t_book a_t_hears a_t_spies t_typed t_at t_start t_token t_value t_items t_book t_hears'_2 t_spies'_2)) rfl 0 rfl rfl rfl (As := [.int (0 : Int32)]) (rest := []) rfl rfl ⟨rfl, rfl, Nat.le_of_ble_eq_true rfl, Nat.le_of_ble_eq_true rfl⟩ (Nat.le_of_ble_eq_true rfl) (Nat.zero_le _) (Nat.zero_le _) dX12_apart_14 (fun H locs hW => ?_)
    clear hC2
    refine lv_ldc (v := (1000000 : Int32)) hx hb hown (hts _ wk_1312) dX12_apart_17 ?_
    refine lv_istore_n (lv' := [(3, .int (1000000 : Int32)), (0, .ref a_t), (1, .int p1), (2, .int p2)]) hx hb dX12_apart_19 rfl hl (by decide) rfl (fun ls hl => ?_)
    refine lv_iconst (v := (0 : Int32)) hx hb dX12_apart_20 (by decide) ?_
    refine lv_istore (lv' := [(4, .int (0 : Int32)), (3, .int (1000000 : Int32)), (0, .ref a_t), (1, .int p1), (2, .int p2)]) hx hb dX12_apart_21 hl (by decide) rfl (fun ls hl => ?_)
    obtain ⟨x3_2, hX4, hF⟩ := bO_s1 hF
    have L3 : ∀ (k0 : Nat) (x3 : Int32) (x4 : Int32) (x3_2 : Int32) (H : Heap) (locs : List Loc) (ls : Array Slot), R_apart_L23 N t_book p1 p2 t_hears'_2 k0 x3 x4 = some x3_2 → m_H E A (wd_R_apart E a_t a_t_images a_t_kept a_t_aside a_t_limbs a_t_wide a_t_known a_t_by a_t_ways a_t_fewest a_t_heavy a_t_sums a_t_faces a_t_bestFaces a_t_text a_t_verbs a_t_many a_t_nums a_t_book a_t_hears a_t_spies t_typed t_at t_start t_token t_value t_items t_book t_hears'_2 t_spies'_2) s.heap H locs → lv_has ls 6 [(4, .int x4), (3, .int x3), (0, .ref a_t), (1, .int p1), (2, .int p2)] → (∀ (H : Heap) (locs : List Loc) (ls : Array Slot), m_H E A (wd_R_apart E a_t a_t_images a_t_kept a_t_aside a_t_limbs a_t_wide a_t_known a_t_by a_t_ways a_t_fewest a_t_heavy a_t_sums a_t_faces a_t_bestFaces a_t_text a_t_verbs a_t_many a_t_nums a_t_book a_t_hears a_t_spies t_typed t_at t_start t_token t_value t_items t_book t_hears'_2 t_spies'_2) s.heap H locs → lv_has ls 6 [(3, .int x3_2), (0, .ref a_t), (1, .int p1), (2, .int p2)] → W p l e rm_R_apart s m args below meth c H locs 0 0 Q (F0 m 98 ls [])) → W p l e rm_R_apart s m args below meth c H locs 0 0 Q (F0 m 23 ls []) := by
      clear hF
      intro k0
      induction k0 with
      | zero =>
        intro x3 x4 x3_2 H locs ls hF
        cases hF
      | succ k0 ih6 =>
        intro x3 x4 x3_2 H locs ls hF hW hl hk5
        rw [R_apart_L23] at hF
        refine lv_iload hx hb dX12_apart_23 (lv_at hl 0 rfl) ?_
        refine lv_iconst (v := (1 : Int32)) hx hb dX12_apart_25 (by decide) ?_
        refine lv_aload_n hx hb dX12_apart_26 rfl (lv_at hl 2 rfl) ?_
        refine m_get X hW fdX12_7 0 rfl rfl dX12_apart_27 ?_
        refine lv_iconst (v := (1 : Int32)) hx hb dX12_apart_30 (by decide) ?_
        refine m_iald X hW 1 (k := 1) rfl (by decide) rfl dX12_apart_31 ?_
        refine m_ishl hx hb dX12_apart_32 ?_
        refine lv_icmp_ge (tgt := 98) hx hb dX12_apart_33 (by decide) (fun c7 => ?_) (fun c7 => ?_)
        · have hF := if_y c7 hF
          cases hF
          exact hk5 _ _ _ hW (lv_sub hl [1, 2, 3, 4] rfl)
        · have hF := if_n c7 hF
          refine lv_iload hx hb dX12_apart_36 (lv_at hl 0 rfl) ?_
          refine lv_iload_n hx hb dX12_apart_38 rfl (lv_at hl 3 rfl) ?_
          refine m_ishr hx hb dX12_apart_39 ?_
          refine lv_iconst (v := (1 : Int32)) hx hb dX12_apart_40 (by decide) ?_
          refine lv_iand hx hb dX12_apart_41 ?_
          obtain ⟨y0, hX9, hF⟩ := bO_s1 hF
          have J8 : ∀ (H : Heap) (locs : List Loc) (ls : Array Slot), m_H E A (wd_R_apart E a_t a_t_images a_t_kept a_t_aside a_t_limbs a_t_wide a_t_known a_t_by a_t_ways a_t_fewest a_t_heavy a_t_sums a_t_faces a_t_bestFaces a_t_text a_t_verbs a_t_many a_t_nums a_t_book a_t_hears a_t_spies t_typed t_at t_start t_token t_value t_items t_book t_hears'_2 t_spies'_2) s.heap H locs → lv_has ls 6 [(4, .int x4), (3, .int x3), (0, .ref a_t), (1, .int p1), (2, .int p2)] → W p l e rm_R_apart s m args below meth c H locs 0 0 Q (F0 m 59 ls [.int y0]) := by
            intro H locs ls hW hl
            refine lv_istore (lv' := [(5, .int y0), (4, .int x4), (3, .int x3), (0, .ref a_t), (1, .int p1), (2, .int p2)]) hx hb dX12_apart_59 hl (by decide) rfl (fun ls hl => ?_)
            refine lv_iload hx hb dX12_apart_61 (lv_at hl 0 rfl) ?_
            refine lv_if_eq (tgt := 92) hx hb dX12_apart_63 (by decide) (fun c10 => ?_) (fun c10 => ?_)
            · have hF := if_y c10 hF
              refine lv_iinc (v := (x4 + (1 : Int32))) (lv' := [(4, .int (x4 + (1 : Int32))), (5, .int y0), (3, .int x3), (0, .ref a_t), (1, .int p1), (2, .int p2)]) hx hb dX12_apart_92 hl (k := 1) rfl rfl (by decide) rfl (fun ls hl => ?_)
              refine lv_goto (tgt := 23) hx hb dX12_apart_95 (by decide) ?_
              exact ih6 x3 (x4 + (1 : Int32)) x3_2 _ _ _ hF hW (lv_sub hl [0, 2, 3, 4, 5] rfl) hk5
            · have hF := if_n c10 hF
              refine lv_iload hx hb dX12_apart_66 (lv_at hl 1 rfl) ?_
              obtain ⟨r68, hC11, hF⟩ := bO_s1 hF
              refine m_callS X hW hA hl.1 lkX12_181 (c_R_sizeOf l E _ N   x4 r68 hC11) ([]) (by decide) rfl rfl (ws' := (wd_R_apart E a_t a_t_images a_t_kept a_t_aside a_t_limbs a_t_wide a_t_known a_t_by a_t_ways a_t_fewest a_t_heavy a_t_sums a_t_faces a_t_bestFaces a_t_text a_t_verbs a_t_many a_t_nums a_t_book a_t_hears a_t_spies t_typed t_at t_start t_token t_value t_items t_book t_hears'_2 t_spies'_2)) rfl (As := [.int x4]) (rest := []) rfl rfl ⟨rfl, rfl, Nat.le_of_ble_eq_true rfl, Nat.le_of_ble_eq_true rfl⟩ (Nat.le_of_ble_eq_true rfl) (Nat.zero_le _) (Nat.zero_le _) dX12_apart_68 (fun H locs hW => ?_)
              clear hC11
              refine lv_iload_n hx hb dX12_apart_71 rfl (lv_at hl 2 rfl) ?_
              refine lv_icmp_ge (tgt := 92) hx hb dX12_apart_72 (by decide) (fun c12 => ?_) (fun c12 => ?_)
              · have hF := if_y c12 hF
                refine lv_iinc (v := (x4 + (1 : Int32))) (lv' := [(4, .int (x4 + (1 : Int32))), (5, .int y0), (3, .int x3), (0, .ref a_t), (1, .int p1), (2, .int p2)]) hx hb dX12_apart_92 hl (k := 1) rfl rfl (by decide) rfl (fun ls hl => ?_)
                refine lv_goto (tgt := 23) hx hb dX12_apart_95 (by decide) ?_
                exact ih6 x3 (x4 + (1 : Int32)) x3_2 _ _ _ hF hW (lv_sub hl [0, 2, 3, 4, 5] rfl) hk5
              · have hF := if_n c12 hF
                refine lv_aload_n hx hb dX12_apart_75 rfl (lv_at hl 3 rfl) ?_
                refine lv_iload_n hx hb dX12_apart_76 rfl (lv_at hl 4 rfl) ?_
                refine lv_iload_n hx hb dX12_apart_77 rfl (lv_at hl 5 rfl) ?_
                refine lv_iload hx hb dX12_apart_78 (lv_at hl 1 rfl) ?_
                obtain ⟨r80, hC13, hF⟩ := bO_s1 hF
                refine m_callV X hW hA hl.1 lkX12_184 (c_R_isJoined l E _ N a_t a_t_images a_t_kept a_t_aside a_t_limbs a_t_wide a_t_spies a_t_known a_t_by a_t_ways a_t_fewest a_t_heavy a_t_sums a_t_faces a_t_bestFaces a_t_text a_t_verbs a_t_many a_t_nums a_t_book a_t_hears t_typed t_at t_start t_token t_value t_items t_book t_hears'_2 p1 p2 x4 r80 hC13) ([0, 1, 2]) (by decide) rfl rfl (ws' := (wd_R_apart E a_t a_t_images a_t_kept a_t_aside a_t_limbs a_t_wide a_t_known a_t_by a_t_ways a_t_fewest a_t_heavy a_t_sums a_t_faces a_t_bestFaces a_t_text a_t_verbs a_t_many a_t_nums a_t_book a_t_hears a_t_spies t_typed t_at t_start t_token t_value t_items t_book t_hears'_2 t_spies'_2)) rfl 0 rfl rfl rfl (As := [.int p1, .int p2, .int x4]) (rest := []) rfl rfl ⟨rfl, rfl, Nat.le_of_ble_eq_true rfl, Nat.le_of_ble_eq_true rfl⟩ (Nat.le_of_ble_eq_true rfl) (Nat.zero_le _) (Nat.zero_le _) dX12_apart_80 (fun H locs hW => ?_)
                clear hC13
                refine lv_if_ne (tgt := 92) hx hb dX12_apart_83 (by decide) (fun c14 => ?_) (fun c14 => ?_)
                · have hF := if_n c14 hF
                  refine lv_iinc (v := (x4 + (1 : Int32))) (lv' := [(4, .int (x4 + (1 : Int32))), (5, .int y0), (3, .int x3), (0, .ref a_t), (1, .int p1), (2, .int p2)]) hx hb dX12_apart_92 hl (k := 1) rfl rfl (by decide) rfl (fun ls hl => ?_)
                  refine lv_goto (tgt := 23) hx hb dX12_apart_95 (by decide) ?_
                  exact ih6 x3 (x4 + (1 : Int32)) x3_2 _ _ _ hF hW (lv_sub hl [0, 2, 3, 4, 5] rfl) hk5
                · have hF := if_y c14 hF
                  refine lv_iload hx hb dX12_apart_86 (lv_at hl 1 rfl) ?_
                  obtain ⟨r88, hC15, hF⟩ := bO_s1 hF
                  refine m_callS X hW hA hl.1 lkX12_181 (c_R_sizeOf l E _ N   x4 r88 hC15) ([]) (by decide) rfl rfl (ws' := (wd_R_apart E a_t a_t_images a_t_kept a_t_aside a_t_limbs a_t_wide a_t_known a_t_by a_t_ways a_t_fewest a_t_heavy a_t_sums a_t_faces a_t_bestFaces a_t_text a_t_verbs a_t_many a_t_nums a_t_book a_t_hears a_t_spies t_typed t_at t_start t_token t_value t_items t_book t_hears'_2 t_spies'_2)) rfl (As := [.int x4]) (rest := []) rfl rfl ⟨rfl, rfl, Nat.le_of_ble_eq_true rfl, Nat.le_of_ble_eq_true rfl⟩ (Nat.le_of_ble_eq_true rfl) (Nat.zero_le _) (Nat.zero_le _) dX12_apart_88 (fun H locs hW => ?_)
                  clear hC15
                  refine lv_istore_n (lv' := [(3, .int r88), (5, .int y0), (4, .int x4), (0, .ref a_t), (1, .int p1), (2, .int p2)]) hx hb dX12_apart_91 rfl hl (by decide) rfl (fun ls hl => ?_)
                  refine lv_iinc (v := (x4 + (1 : Int32))) (lv' := [(4, .int (x4 + (1 : Int32))), (3, .int r88), (5, .int y0), (0, .ref a_t), (1, .int p1), (2, .int p2)]) hx hb dX12_apart_92 hl (k := 2) rfl rfl (by decide) rfl (fun ls hl => ?_)
                  refine lv_goto (tgt := 23) hx hb dX12_apart_95 (by decide) ?_
                  exact ih6 r88 (x4 + (1 : Int32)) x3_2 _ _ _ hF hW (lv_sub hl [0, 1, 3, 4, 5] rfl) hk5
          clear hF
          have hF := hX9
          clear hX9
          refine lv_if_ne (tgt := 58) hx hb dX12_apart_42 (by decide) (fun c16 => ?_) (fun c16 => ?_)
          · have hF := if_n c16 hF
            refine lv_iconst (v := (0 : Int32)) hx hb dX12_apart_58 (by decide) ?_
            cases hF
            exact J8 _ _ _ hW (lv_sub hl [0, 1, 2, 3, 4] rfl)
          · have hF := if_y c16 hF
            refine lv_iload hx hb dX12_apart_45 (lv_at hl 0 rfl) ?_
            refine lv_iload_n hx hb dX12_apart_47 rfl (lv_at hl 4 rfl) ?_
            refine m_ishr hx hb dX12_apart_48 ?_
            refine lv_iconst (v := (1 : Int32)) hx hb dX12_apart_49 (by decide) ?_
            refine lv_iand hx hb dX12_apart_50 ?_
            refine lv_if_ne (tgt := 58) hx hb dX12_apart_51 (by decide) (fun c17 => ?_) (fun c17 => ?_)
            · have hF := if_n c17 hF
              refine lv_iconst (v := (0 : Int32)) hx hb dX12_apart_58 (by decide) ?_
              cases hF
              exact J8 _ _ _ hW (lv_sub hl [0, 1, 2, 3, 4] rfl)
            · have hF := if_y c17 hF
              refine lv_iconst (v := (1 : Int32)) hx hb dX12_apart_54 (by decide) ?_
              refine lv_goto (tgt := 59) hx hb dX12_apart_55 (by decide) ?_
              cases hF
              exact J8 _ _ _ hW (lv_sub hl [0, 1, 2, 3, 4] rfl)
    refine L3 N (1000000 : Int32) (0 : Int32) x3_2 _ _ _ hX4 hW (lv_sub hl [0, 1, 2, 3, 4] rfl) ?_
    intro H locs ls hW hl
    clear L3
    refine lv_iload_n hx hb dX12_apart_98 rfl (lv_at hl 0 rfl) ?_
    refine lv_aload_n hx hb dX12_apart_99 rfl (lv_at hl 1 rfl) ?_
    refine m_get X hW fdX12_29 0 rfl rfl dX12_apart_100 ?_
    refine lv_bipush (v := (8 : Int32)) hx hb dX12_apart_103 (by decide) ?_
    refine lv_iload_n hx hb dX12_apart_105 rfl (lv_at hl 3 rfl) ?_
    refine lv_imul hx hb dX12_apart_106 ?_
    refine lv_iload_n hx hb dX12_apart_107 rfl (lv_at hl 2 rfl) ?_
    refine lv_iadd hx hb dX12_apart_108 ?_
    obtain ⟨g18, hF⟩ := gd_some hF
    refine m_zald X hW 2 (k := (((8 : Int32) * p2) + p1).toNatClampNeg) rfl g18 rfl dX12_apart_109 ?_
    refine lv_if_eq (tgt := 117) hx hb dX12_apart_110 (by decide) (fun c19 => ?_) (fun c19 => ?_)
    · have hF := if_y c19 hF
      refine lv_iconst (v := (0 : Int32)) hx hb dX12_apart_117 (by decide) ?_
      refine lv_iadd hx hb dX12_apart_118 ?_
      have hq := Option.some.inj hF
      subst hq
      exact hret _ _ _ _ hW dX12_apart_119
    · have hF := if_n c19 hF
      refine lv_iconst (v := (1 : Int32)) hx hb dX12_apart_113 (by decide) ?_
      refine lv_goto (tgt := 118) hx hb dX12_apart_114 (by decide) ?_
      refine lv_iadd hx hb dX12_apart_118 ?_
      have hq := Option.some.inj hF
      subst hq
      exact hret _ _ _ _ hW dX12_apart_119
  · have hF := if_y c1 hF
    refine lv_bipush (v := (-2 : Int32)) hx hb dX12_apart_9 (by decide) ?_
    have hq := Option.some.inj hF
    subst hq
    exact hret _ _ _ _ hW dX12_apart_11
abbrev wd_R_like (E : m_E) (a_t : Nat) (a_t_images : Nat) (a_t_kept : Nat) (a_t_aside : Nat) (a_t_limbs : Nat) (a_t_wide : Nat) (a_t_hears : Nat) (a_t_spies : Nat) (a_t_known : Nat) (a_t_by : Nat) (a_t_ways : Nat) (a_t_fewest : Nat) (a_t_heavy : Nat) (a_t_sums : Nat) (a_t_faces : Nat) (a_t_bestFaces : Nat) (a_t_text : Nat) (a_t_verbs : Nat) (a_t_many : Nat) (a_t_nums : Nat) (a_t_book : Nat) (t_typed : Int32) (t_at : Int32) (t_start : Int32) (t_token : Int32) (t_value : Int32) (t_items : Int32) (t_book : Nat → Int32) : va_W := [(a_t, .inr (12, [.ref a_t_book, .ref a_t_images, .ref a_t_kept, .ref a_t_aside, .ref a_t_limbs, .ref a_t_wide, .ref a_t_hears, .ref a_t_spies, .ref a_t_known, .ref a_t_by, .ref a_t_ways, .ref a_t_fewest, .ref a_t_heavy, .ref a_t_sums, .ref a_t_faces, .ref a_t_bestFaces, .ref a_t_text, .int t_typed, .int t_at, .int t_start, .int t_token, .int t_value, .ref a_t_verbs, .ref a_t_many, .ref a_t_nums, .int t_items])), (a_t_book, .inl (E.2.1 0, 240, .inl t_book))]
def rm_R_like : Room := { frames := 1, cells := 0, slots := 0, locals := 25 }
set_option maxHeartbeats 4000000 in
set_option maxRecDepth 100000 in
theorem c_R_like (l : Launch) (E : m_E) (sz N : Nat) (a_t : Nat) (a_t_images : Nat) (a_t_kept : Nat) (a_t_aside : Nat) (a_t_limbs : Nat) (a_t_wide : Nat) (a_t_hears : Nat) (a_t_spies : Nat) (a_t_known : Nat) (a_t_by : Nat) (a_t_ways : Nat) (a_t_fewest : Nat) (a_t_heavy : Nat) (a_t_sums : Nat) (a_t_faces : Nat) (a_t_bestFaces : Nat) (a_t_text : Nat) (a_t_verbs : Nat) (a_t_many : Nat) (a_t_nums : Nat) (a_t_book : Nat) (t_typed : Int32) (t_at : Int32) (t_start : Int32) (t_token : Int32) (t_value : Int32) (t_items : Int32) (t_book : Nat → Int32) (p1 : Int32) (p2 : Int32) (ures : Int32 × (Nat → Int32)) (hF : F_R_like N p1 p2 t_book = some ures) : m_Met l yX12_like cX12_like 6 (some .int) rm_R_like E (wd_R_like E a_t a_t_images a_t_kept a_t_aside a_t_limbs a_t_wide a_t_hears a_t_spies a_t_known a_t_by a_t_ways a_t_fewest a_t_heavy a_t_sums a_t_faces a_t_bestFaces a_t_text a_t_verbs a_t_many a_t_nums a_t_book t_typed t_at t_start t_token t_value t_items t_book) (wd_R_like E a_t a_t_images a_t_kept a_t_aside a_t_limbs a_t_wide a_t_hears a_t_spies a_t_known a_t_by a_t_ways a_t_fewest a_t_heavy a_t_sums a_t_faces a_t_bestFaces a_t_text a_t_verbs a_t_many a_t_nums a_t_book t_typed t_at t_start t_token t_value t_items ures.2) sz [.ref a_t, .int p1, .int p2] (some (.int ures.1)) := by
  refine m_ofI (by decide) (Nat.le_of_ble_eq_true rfl) ?_
  intro p e s m args below meth c A Q ls X hW hA hl hret
  obtain ⟨hx, hb, -, hown, hts, hK, -, hG⟩ := id X
  have hl : lv_has ls 6 [(0, .ref a_t), (1, .int p1), (2, .int p2)] := hl
  unfold F_R_like at hF
  refine lv_iload_n hx hb dX12_like_0 rfl (lv_at hl 1 rfl) ?_
  refine lv_i2l (v := p1.toInt64) hx hb dX12_like_1 rfl ?_
  refine lv_lconst (v := (0 : Int64)) hx hb dX12_like_2 (by decide) ?_
  refine lv_ldc2 (v := (5 : Int64)) hx hb hown (hts _ wk_1349) dX12_like_3 ?_
  refine m_callS X hW hA hl.1 lkX12_109 (c_R_in l E _ N   p1.toInt64 (0 : Int64) (5 : Int64) (F_R_in p1.toInt64 (0 : Int64) (5 : Int64)) rfl) ([]) (by decide) rfl rfl (ws' := (wd_R_like E a_t a_t_images a_t_kept a_t_aside a_t_limbs a_t_wide a_t_hears a_t_spies a_t_known a_t_by a_t_ways a_t_fewest a_t_heavy a_t_sums a_t_faces a_t_bestFaces a_t_text a_t_verbs a_t_many a_t_nums a_t_book t_typed t_at t_start t_token t_value t_items t_book)) rfl (As := [.long p1.toInt64, .long (0 : Int64), .long (5 : Int64)]) (rest := []) rfl rfl ⟨rfl, rfl, Nat.le_of_ble_eq_true rfl, Nat.le_of_ble_eq_true rfl⟩ (Nat.le_of_ble_eq_true rfl) (Nat.zero_le _) (Nat.zero_le _) dX12_like_6 (fun H locs hW => ?_)
  refine lv_if_eq (tgt := 24) hx hb dX12_like_9 (by decide) (fun c1 => ?_) (fun c1 => ?_)
  · have hF := if_y c1 hF
    refine lv_bipush (v := (-2 : Int32)) hx hb dX12_like_24 (by decide) ?_
    have hq := Option.some.inj hF
    subst hq
    exact hret _ _ _ _ hW dX12_like_26
  · have hF := if_n c1 hF
    refine lv_iload_n hx hb dX12_like_12 rfl (lv_at hl 2 rfl) ?_
    refine lv_i2l (v := p2.toInt64) hx hb dX12_like_13 rfl ?_
    refine lv_lconst (v := (0 : Int64)) hx hb dX12_like_14 (by decide) ?_
    refine lv_ldc2 (v := (5 : Int64)) hx hb hown (hts _ wk_1349) dX12_like_15 ?_
    refine m_callS X hW hA hl.1 lkX12_109 (c_R_in l E _ N   p2.toInt64 (0 : Int64) (5 : Int64) (F_R_in p2.toInt64 (0 : Int64) (5 : Int64)) rfl) ([]) (by decide) rfl rfl (ws' := (wd_R_like E a_t a_t_images a_t_kept a_t_aside a_t_limbs a_t_wide a_t_hears a_t_spies a_t_known a_t_by a_t_ways a_t_fewest a_t_heavy a_t_sums a_t_faces a_t_bestFaces a_t_text a_t_verbs a_t_many a_t_nums a_t_book t_typed t_at t_start t_token t_value t_items t_book)) rfl (As := [.long p2.toInt64, .long (0 : Int64), .long (5 : Int64)]) (rest := []) rfl rfl ⟨rfl, rfl, Nat.le_of_ble_eq_true rfl, Nat.le_of_ble_eq_true rfl⟩ (Nat.le_of_ble_eq_true rfl) (Nat.zero_le _) (Nat.zero_le _) dX12_like_18 (fun H locs hW => ?_)
    refine lv_if_ne (tgt := 27) hx hb dX12_like_21 (by decide) (fun c2 => ?_) (fun c2 => ?_)
    · have hF := if_n c2 hF
      refine lv_aload_n hx hb dX12_like_27 rfl (lv_at hl 0 rfl) ?_
      refine m_get X hW fdX12_7 0 rfl rfl dX12_like_28 ?_
      refine lv_sipush (v := (150 : Int32)) hx hb dX12_like_31 (by decide) ?_
      refine lv_iload_n hx hb dX12_like_34 rfl (lv_at hl 1 rfl) ?_
      refine lv_iadd hx hb dX12_like_35 ?_
      obtain ⟨g3, hF⟩ := gd_some hF
      refine m_iald X hW 1 (k := ((150 : Int32) + p1).toNatClampNeg) rfl g3 rfl dX12_like_36 ?_
      refine lv_istore_n (lv' := [(3, .int (t_book ((150 : Int32) + p1).toNatClampNeg)), (0, .ref a_t), (1, .int p1), (2, .int p2)]) hx hb dX12_like_37 rfl hl (by decide) rfl (fun ls hl => ?_)
      refine lv_aload_n hx hb dX12_like_38 rfl (lv_at hl 1 rfl) ?_
      refine m_get X hW fdX12_7 0 rfl rfl dX12_like_39 ?_
      refine lv_sipush (v := (150 : Int32)) hx hb dX12_like_42 (by decide) ?_
      refine lv_iload_n hx hb dX12_like_45 rfl (lv_at hl 3 rfl) ?_
      refine lv_iadd hx hb dX12_like_46 ?_
      obtain ⟨g4, hF⟩ := gd_some hF
      refine m_iald X hW 1 (k := ((150 : Int32) + p2).toNatClampNeg) rfl g4 rfl dX12_like_47 ?_
      refine lv_istore (lv' := [(4, .int (t_book ((150 : Int32) + p2).toNatClampNeg)), (3, .int (t_book ((150 : Int32) + p1).toNatClampNeg)), (0, .ref a_t), (1, .int p1), (2, .int p2)]) hx hb dX12_like_48 hl (by decide) rfl (fun ls hl => ?_)
      refine lv_iload_n hx hb dX12_like_50 rfl (lv_at hl 1 rfl) ?_
      refine lv_iload hx hb dX12_like_51 (lv_at hl 0 rfl) ?_
      refine lv_icmp_ne (tgt := 59) hx hb dX12_like_53 (by decide) (fun c5 => ?_) (fun c5 => ?_)
      · have hF := if_n c5 hF
        refine lv_iconst (v := (0 : Int32)) hx hb dX12_like_59 (by decide) ?_
        refine lv_istore (lv' := [(5, .int (0 : Int32)), (4, .int (t_book ((150 : Int32) + p2).toNatClampNeg)), (3, .int (t_book ((150 : Int32) + p1).toNatClampNeg)), (0, .ref a_t), (1, .int p1), (2, .int p2)]) hx hb dX12_like_60 hl (by decide) rfl (fun ls hl => ?_)
        obtain ⟨t_book'_4, hX7, hF⟩ := bO_s1 hF
        obtain ⟨c4, ec4⟩ : ∃ z : Int32, z = (t_book ((150 : Int32) + p2).toNatClampNeg) := ⟨_, rfl⟩
        obtain ⟨c3, ec3⟩ : ∃ z : Int32, z = (t_book ((150 : Int32) + p1).toNatClampNeg) := ⟨_, rfl⟩
        have L6 : ∀ (k0 : Nat) (x5 : Int32) (t_book'_3 : Nat → Int32) (t_book'_4 : Nat → Int32) (H : Heap) (locs : List Loc) (ls : Array Slot), R_like_L62 c3 c4 k0 x5 t_book'_3 = some t_book'_4 → m_H E A (wd_R_like E a_t a_t_images a_t_kept a_t_aside a_t_limbs a_t_wide a_t_hears a_t_spies a_t_known a_t_by a_t_ways a_t_fewest a_t_heavy a_t_sums a_t_faces a_t_bestFaces a_t_text a_t_verbs a_t_many a_t_nums a_t_book t_typed t_at t_start t_token t_value t_items t_book'_3) s.heap H locs → lv_has ls 6 [(5, .int x5), (4, .int c4), (3, .int c3), (0, .ref a_t)] → (∀ (H : Heap) (locs : List Loc) (ls : Array Slot), m_H E A (wd_R_like E a_t a_t_images a_t_kept a_t_aside a_t_limbs a_t_wide a_t_hears a_t_spies a_t_known a_t_by a_t_ways a_t_fewest a_t_heavy a_t_sums a_t_faces a_t_bestFaces a_t_text a_t_verbs a_t_many a_t_nums a_t_book t_typed t_at t_start t_token t_value t_items t_book'_4) s.heap H locs → lv_has ls 6 [] → W p l e rm_R_like s m args below meth c H locs 0 0 Q (F0 m 129 ls [])) → W p l e rm_R_like s m args below meth c H locs 0 0 Q (F0 m 62 ls []) := by
          clear hF
          intro k0
          induction k0 with
          | zero =>
            intro x5 t_book'_3 t_book'_4 H locs ls hF
            cases hF
          | succ k0 ih9 =>
            intro x5 t_book'_3 t_book'_4 H locs ls hF hW hl hk8
            rw [R_like_L62] at hF
            refine lv_iload hx hb dX12_like_62 (lv_at hl 0 rfl) ?_
            refine lv_bipush (v := (6 : Int32)) hx hb dX12_like_64 (by decide) ?_
            refine lv_icmp_ge (tgt := 129) hx hb dX12_like_66 (by decide) (fun c10 => ?_) (fun c10 => ?_)
            · have hF := if_y c10 hF
              cases hF
              exact hk8 _ _ _ hW (lv_sub hl [] rfl)
            · have hF := if_n c10 hF
              refine lv_aload_n hx hb dX12_like_69 rfl (lv_at hl 3 rfl) ?_
              refine m_get X hW fdX12_7 0 rfl rfl dX12_like_70 ?_
              refine lv_sipush (v := (150 : Int32)) hx hb dX12_like_73 (by decide) ?_
              refine lv_iload hx hb dX12_like_76 (lv_at hl 0 rfl) ?_
              refine lv_iadd hx hb dX12_like_78 ?_
              obtain ⟨g11, hF⟩ := gd_some hF
              refine m_iald X hW 1 (k := ((150 : Int32) + x5).toNatClampNeg) rfl g11 rfl dX12_like_79 ?_
              refine lv_iload_n hx hb dX12_like_80 rfl (lv_at hl 2 rfl) ?_
              refine lv_icmp_eq (tgt := 100) hx hb dX12_like_81 (by decide) (fun c12 => ?_) (fun c12 => ?_)
              · have hF := if_y c12 hF
                refine lv_aload_n hx hb dX12_like_100 rfl (lv_at hl 3 rfl) ?_
                refine m_get X hW fdX12_7 0 rfl rfl dX12_like_101 ?_
                refine lv_sipush (v := (150 : Int32)) hx hb dX12_like_104 (by decide) ?_
                refine lv_iload hx hb dX12_like_107 (lv_at hl 0 rfl) ?_
                refine lv_iadd hx hb dX12_like_109 ?_
                refine lv_iload_n hx hb dX12_like_110 rfl (lv_at hl 2 rfl) ?_
                refine lv_iload hx hb dX12_like_111 (lv_at hl 1 rfl) ?_
                refine lv_icmp_ge (tgt := 120) hx hb dX12_like_113 (by decide) (fun c13 => ?_) (fun c13 => ?_)
                · have hF := if_y c13 hF
                  refine lv_iload hx hb dX12_like_120 (lv_at hl 1 rfl) ?_
                  refine m_iast X hW 1 (k := ((150 : Int32) + x5).toNatClampNeg) rfl g11 rfl dX12_like_122 (ws' := (wd_R_like E a_t a_t_images a_t_kept a_t_aside a_t_limbs a_t_wide a_t_hears a_t_spies a_t_known a_t_by a_t_ways a_t_fewest a_t_heavy a_t_sums a_t_faces a_t_bestFaces a_t_text a_t_verbs a_t_many a_t_nums a_t_book t_typed t_at t_start t_token t_value t_items (upd t_book'_3 ((150 : Int32) + x5).toNatClampNeg c4))) rfl (fun H locs hW => ?_)
                  refine lv_iinc (v := (x5 + (1 : Int32))) (lv' := [(5, .int (x5 + (1 : Int32))), (4, .int c4), (3, .int c3), (0, .ref a_t)]) hx hb dX12_like_123 hl (k := 0) rfl rfl (by decide) rfl (fun ls hl => ?_)
                  refine lv_goto (tgt := 62) hx hb dX12_like_126 (by decide) ?_
                  exact ih9 (x5 + (1 : Int32)) (upd t_book'_3 ((150 : Int32) + x5).toNatClampNeg c4) t_book'_4 _ _ _ hF hW (lv_sub hl [0, 1, 2, 3] rfl) hk8
                · have hF := if_n c13 hF
                  refine lv_iload_n hx hb dX12_like_116 rfl (lv_at hl 2 rfl) ?_
                  refine lv_goto (tgt := 122) hx hb dX12_like_117 (by decide) ?_
                  refine m_iast X hW 1 (k := ((150 : Int32) + x5).toNatClampNeg) rfl g11 rfl dX12_like_122 (ws' := (wd_R_like E a_t a_t_images a_t_kept a_t_aside a_t_limbs a_t_wide a_t_hears a_t_spies a_t_known a_t_by a_t_ways a_t_fewest a_t_heavy a_t_sums a_t_faces a_t_bestFaces a_t_text a_t_verbs a_t_many a_t_nums a_t_book t_typed t_at t_start t_token t_value t_items (upd t_book'_3 ((150 : Int32) + x5).toNatClampNeg c3))) rfl (fun H locs hW => ?_)
                  refine lv_iinc (v := (x5 + (1 : Int32))) (lv' := [(5, .int (x5 + (1 : Int32))), (4, .int c4), (3, .int c3), (0, .ref a_t)]) hx hb dX12_like_123 hl (k := 0) rfl rfl (by decide) rfl (fun ls hl => ?_)
                  refine lv_goto (tgt := 62) hx hb dX12_like_126 (by decide) ?_
                  exact ih9 (x5 + (1 : Int32)) (upd t_book'_3 ((150 : Int32) + x5).toNatClampNeg c3) t_book'_4 _ _ _ hF hW (lv_sub hl [0, 1, 2, 3] rfl) hk8
              · have hF := if_n c12 hF
                refine lv_aload_n hx hb dX12_like_84 rfl (lv_at hl 3 rfl) ?_
                refine m_get X hW fdX12_7 0 rfl rfl dX12_like_85 ?_
                refine lv_sipush (v := (150 : Int32)) hx hb dX12_like_88 (by decide) ?_
                refine lv_iload hx hb dX12_like_91 (lv_at hl 0 rfl) ?_
                refine lv_iadd hx hb dX12_like_93 ?_
                refine m_iald X hW 1 (k := ((150 : Int32) + x5).toNatClampNeg) rfl g11 rfl dX12_like_94 ?_
                refine lv_iload hx hb dX12_like_95 (lv_at hl 1 rfl) ?_
                refine lv_icmp_ne (tgt := 123) hx hb dX12_like_97 (by decide) (fun c14 => ?_) (fun c14 => ?_)
                · have hF := if_n c14 hF
                  refine lv_iinc (v := (x5 + (1 : Int32))) (lv' := [(5, .int (x5 + (1 : Int32))), (4, .int c4), (3, .int c3), (0, .ref a_t)]) hx hb dX12_like_123 hl (k := 0) rfl rfl (by decide) rfl (fun ls hl => ?_)
                  refine lv_goto (tgt := 62) hx hb dX12_like_126 (by decide) ?_
                  exact ih9 (x5 + (1 : Int32)) t_book'_3 t_book'_4 _ _ _ hF hW (lv_sub hl [0, 1, 2, 3] rfl) hk8
                · have hF := if_y c14 hF
                  refine lv_aload_n hx hb dX12_like_100 rfl (lv_at hl 3 rfl) ?_
                  refine m_get X hW fdX12_7 0 rfl rfl dX12_like_101 ?_
                  refine lv_sipush (v := (150 : Int32)) hx hb dX12_like_104 (by decide) ?_
                  refine lv_iload hx hb dX12_like_107 (lv_at hl 0 rfl) ?_
                  refine lv_iadd hx hb dX12_like_109 ?_
                  refine lv_iload_n hx hb dX12_like_110 rfl (lv_at hl 2 rfl) ?_
                  refine lv_iload hx hb dX12_like_111 (lv_at hl 1 rfl) ?_
                  refine lv_icmp_ge (tgt := 120) hx hb dX12_like_113 (by decide) (fun c15 => ?_) (fun c15 => ?_)
                  · have hF := if_y c15 hF
                    refine lv_iload hx hb dX12_like_120 (lv_at hl 1 rfl) ?_
                    refine m_iast X hW 1 (k := ((150 : Int32) + x5).toNatClampNeg) rfl g11 rfl dX12_like_122 (ws' := (wd_R_like E a_t a_t_images a_t_kept a_t_aside a_t_limbs a_t_wide a_t_hears a_t_spies a_t_known a_t_by a_t_ways a_t_fewest a_t_heavy a_t_sums a_t_faces a_t_bestFaces a_t_text a_t_verbs a_t_many a_t_nums a_t_book t_typed t_at t_start t_token t_value t_items (upd t_book'_3 ((150 : Int32) + x5).toNatClampNeg c4))) rfl (fun H locs hW => ?_)
                    refine lv_iinc (v := (x5 + (1 : Int32))) (lv' := [(5, .int (x5 + (1 : Int32))), (4, .int c4), (3, .int c3), (0, .ref a_t)]) hx hb dX12_like_123 hl (k := 0) rfl rfl (by decide) rfl (fun ls hl => ?_)
                    refine lv_goto (tgt := 62) hx hb dX12_like_126 (by decide) ?_
                    exact ih9 (x5 + (1 : Int32)) (upd t_book'_3 ((150 : Int32) + x5).toNatClampNeg c4) t_book'_4 _ _ _ hF hW (lv_sub hl [0, 1, 2, 3] rfl) hk8
                  · have hF := if_n c15 hF
                    refine lv_iload_n hx hb dX12_like_116 rfl (lv_at hl 2 rfl) ?_
                    refine lv_goto (tgt := 122) hx hb dX12_like_117 (by decide) ?_
                    refine m_iast X hW 1 (k := ((150 : Int32) + x5).toNatClampNeg) rfl g11 rfl dX12_like_122 (ws' := (wd_R_like E a_t a_t_images a_t_kept a_t_aside a_t_limbs a_t_wide a_t_hears a_t_spies a_t_known a_t_by a_t_ways a_t_fewest a_t_heavy a_t_sums a_t_faces a_t_bestFaces a_t_text a_t_verbs a_t_many a_t_nums a_t_book t_typed t_at t_start t_token t_value t_items (upd t_book'_3 ((150 : Int32) + x5).toNatClampNeg c3))) rfl (fun H locs hW => ?_)
                    refine lv_iinc (v := (x5 + (1 : Int32))) (lv' := [(5, .int (x5 + (1 : Int32))), (4, .int c4), (3, .int c3), (0, .ref a_t)]) hx hb dX12_like_123 hl (k := 0) rfl rfl (by decide) rfl (fun ls hl => ?_)
                    refine lv_goto (tgt := 62) hx hb dX12_like_126 (by decide) ?_
                    exact ih9 (x5 + (1 : Int32)) (upd t_book'_3 ((150 : Int32) + x5).toNatClampNeg c3) t_book'_4 _ _ _ hF hW (lv_sub hl [0, 1, 2, 3] rfl) hk8
        subst ec4
        subst ec3
        refine L6 N (0 : Int32) t_book t_book'_4 _ _ _ hX7 hW (lv_sub hl [0, 1, 2, 3] rfl) ?_
        intro H locs ls hW hl
        clear L6
        refine lv_iconst (v := (1 : Int32)) hx hb dX12_like_129 (by decide) ?_
        have hq := Option.some.inj hF
        subst hq
        exact hret _ _ _ _ hW dX12_like_130
      · have hF := if_y c5 hF
        refine lv_bipush (v := (-3 : Int32)) hx hb dX12_like_56 (by decide) ?_
        have hq := Option.some.inj hF
        subst hq
        exact hret _ _ _ _ hW dX12_like_58
    · have hF := if_y c2 hF
      refine lv_bipush (v := (-2 : Int32)) hx hb dX12_like_24 (by decide) ?_
      have hq := Option.some.inj hF
      subst hq
      exact hret _ _ _ _ hW dX12_like_26
abbrev wd_R_power (E : m_E)   : va_W := []
def rm_R_power : Room := { frames := 0, cells := 0, slots := 0, locals := 0 }
set_option maxHeartbeats 4000000 in
set_option maxRecDepth 100000 in
theorem c_R_power (l : Launch) (E : m_E) (sz N : Nat)   (p1 : Int32) (ures : Int32) (hF : F_R_power N p1 = some ures) : m_Met l yX12_power cX12_power 3 (some .int) rm_R_power E (wd_R_power E) (wd_R_power E) sz [.int p1] (some (.int ures)) := by
  refine m_ofI (by decide) (Nat.le_of_ble_eq_true rfl) ?_
  intro p e s m args below meth c A Q ls X hW hA hl hret
  obtain ⟨hx, hb, -, hown, hts, hK, -, hG⟩ := id X
  have hl : lv_has ls 3 [(0, .int p1)] := hl
  unfold F_R_power at hF
  refine lv_iconst (v := (1 : Int32)) hx hb dX12_power_0 (by decide) ?_
  refine lv_istore_n (lv' := [(1, .int (1 : Int32)), (0, .int p1)]) hx hb dX12_power_1 rfl hl (by decide) rfl (fun ls hl => ?_)
  refine lv_iconst (v := (0 : Int32)) hx hb dX12_power_2 (by decide) ?_
  refine lv_istore_n (lv' := [(2, .int (0 : Int32)), (1, .int (1 : Int32)), (0, .int p1)]) hx hb dX12_power_3 rfl hl (by decide) rfl (fun ls hl => ?_)
  obtain ⟨x1_2, hX2, hF⟩ := bO_s1 hF
  have L1 : ∀ (k0 : Nat) (x1 : Int32) (x2 : Int32) (x1_2 : Int32) (H : Heap) (locs : List Loc) (ls : Array Slot), R_power_L4 p1 k0 x1 x2 = some x1_2 → m_H E A (wd_R_power E) s.heap H locs → lv_has ls 3 [(2, .int x2), (1, .int x1), (0, .int p1)] → (∀ (H : Heap) (locs : List Loc) (ls : Array Slot), m_H E A (wd_R_power E) s.heap H locs → lv_has ls 3 [(1, .int x1_2)] → W p l e rm_R_power s m args below meth c H locs 0 0 Q (F0 m 20 ls [])) → W p l e rm_R_power s m args below meth c H locs 0 0 Q (F0 m 4 ls []) := by
    clear hF
    intro k0
    induction k0 with
    | zero =>
      intro x1 x2 x1_2 H locs ls hF
      cases hF
    | succ k0 ih4 =>
      intro x1 x2 x1_2 H locs ls hF hW hl hk3
      rw [R_power_L4] at hF
      refine lv_iload_n hx hb dX12_power_4 rfl (lv_at hl 0 rfl) ?_
      refine lv_iload_n hx hb dX12_power_5 rfl (lv_at hl 2 rfl) ?_
      refine lv_icmp_ge (tgt := 20) hx hb dX12_power_6 (by decide) (fun c5 => ?_) (fun c5 => ?_)
      · have hF := if_y c5 hF
        cases hF
        exact hk3 _ _ _ hW (lv_sub hl [1] rfl)
      · have hF := if_n c5 hF
        refine lv_iload_n hx hb dX12_power_9 rfl (lv_at hl 1 rfl) ?_
        refine lv_bipush (v := (6 : Int32)) hx hb dX12_power_10 (by decide) ?_
        refine lv_imul hx hb dX12_power_12 ?_
        refine lv_istore_n (lv' := [(1, .int (x1 * (6 : Int32))), (2, .int x2), (0, .int p1)]) hx hb dX12_power_13 rfl hl (by decide) rfl (fun ls hl => ?_)
        refine lv_iinc (v := (x2 + (1 : Int32))) (lv' := [(2, .int (x2 + (1 : Int32))), (1, .int (x1 * (6 : Int32))), (0, .int p1)]) hx hb dX12_power_14 hl (k := 1) rfl rfl (by decide) rfl (fun ls hl => ?_)
        refine lv_goto (tgt := 4) hx hb dX12_power_17 (by decide) ?_
        exact ih4 (x1 * (6 : Int32)) (x2 + (1 : Int32)) x1_2 _ _ _ hF hW (lv_sub hl [0, 1, 2] rfl) hk3
  refine L1 N (1 : Int32) (0 : Int32) x1_2 _ _ _ hX2 hW (lv_sub hl [0, 1, 2] rfl) ?_
  intro H locs ls hW hl
  clear L1
  refine lv_iload_n hx hb dX12_power_20 rfl (lv_at hl 0 rfl) ?_
  have hq := Option.some.inj hF
  subst hq
  exact hret _ _ _ _ hW dX12_power_21
abbrev wd_R_word (E : m_E) (a_t : Nat) (a_t_images : Nat) (a_t_kept : Nat) (a_t_aside : Nat) (a_t_limbs : Nat) (a_t_wide : Nat) (a_t_hears : Nat) (a_t_spies : Nat) (a_t_known : Nat) (a_t_by : Nat) (a_t_ways : Nat) (a_t_fewest : Nat) (a_t_heavy : Nat) (a_t_sums : Nat) (a_t_faces : Nat) (a_t_bestFaces : Nat) (a_t_text : Nat) (a_t_verbs : Nat) (a_t_many : Nat) (a_t_nums : Nat) (a_t_book : Nat) (t_typed : Int32) (t_at : Int32) (t_start : Int32) (t_token : Int32) (t_value : Int32) (t_items : Int32) (t_book : Nat → Int32) : va_W := [(a_t, .inr (12, [.ref a_t_book, .ref a_t_images, .ref a_t_kept, .ref a_t_aside, .ref a_t_limbs, .ref a_t_wide, .ref a_t_hears, .ref a_t_spies, .ref a_t_known, .ref a_t_by, .ref a_t_ways, .ref a_t_fewest, .ref a_t_heavy, .ref a_t_sums, .ref a_t_faces, .ref a_t_bestFaces, .ref a_t_text, .int t_typed, .int t_at, .int t_start, .int t_token, .int t_value, .ref a_t_verbs, .ref a_t_many, .ref a_t_nums, .int t_items])), (a_t_book, .inl (E.2.1 0, 240, .inl t_book))]
def rm_R_word : Room := { frames := 1, cells := 0, slots := 0, locals := 25 }
set_option maxHeartbeats 4000000 in
set_option maxRecDepth 100000 in
theorem c_R_word (l : Launch) (E : m_E) (sz N : Nat) (a_t : Nat) (a_t_images : Nat) (a_t_kept : Nat) (a_t_aside : Nat) (a_t_limbs : Nat) (a_t_wide : Nat) (a_t_hears : Nat) (a_t_spies : Nat) (a_t_known : Nat) (a_t_by : Nat) (a_t_ways : Nat) (a_t_fewest : Nat) (a_t_heavy : Nat) (a_t_sums : Nat) (a_t_faces : Nat) (a_t_bestFaces : Nat) (a_t_text : Nat) (a_t_verbs : Nat) (a_t_many : Nat) (a_t_nums : Nat) (a_t_book : Nat) (t_typed : Int32) (t_at : Int32) (t_start : Int32) (t_token : Int32) (t_value : Int32) (t_items : Int32) (t_book : Nat → Int32) (p1 : Int32) (p2 : Int32) (p3 : Int32) (ures : Int32 × (Nat → Int32)) (hF : F_R_word N p1 p2 p3 t_book = some ures) : m_Met l yX12_word cX12_word 5 (some .int) rm_R_word E (wd_R_word E a_t a_t_images a_t_kept a_t_aside a_t_limbs a_t_wide a_t_hears a_t_spies a_t_known a_t_by a_t_ways a_t_fewest a_t_heavy a_t_sums a_t_faces a_t_bestFaces a_t_text a_t_verbs a_t_many a_t_nums a_t_book t_typed t_at t_start t_token t_value t_items t_book) (wd_R_word E a_t a_t_images a_t_kept a_t_aside a_t_limbs a_t_wide a_t_hears a_t_spies a_t_known a_t_by a_t_ways a_t_fewest a_t_heavy a_t_sums a_t_faces a_t_bestFaces a_t_text a_t_verbs a_t_many a_t_nums a_t_book t_typed t_at t_start t_token t_value t_items ures.2) sz [.ref a_t, .int p1, .int p2, .int p3] (some (.int ures.1)) := by
  refine m_ofI (by decide) (Nat.le_of_ble_eq_true rfl) ?_
  intro p e s m args below meth c A Q ls X hW hA hl hret
  obtain ⟨hx, hb, -, hown, hts, hK, -, hG⟩ := id X
  have hl : lv_has ls 5 [(0, .ref a_t), (1, .int p1), (2, .int p2), (3, .int p3)] := hl
  unfold F_R_word at hF
  refine lv_iload_n hx hb dX12_word_0 rfl (lv_at hl 1 rfl) ?_
  refine lv_i2l (v := p1.toInt64) hx hb dX12_word_1 rfl ?_
  refine lv_lconst (v := (1 : Int64)) hx hb dX12_word_2 (by decide) ?_
  refine lv_ldc2 (v := (6 : Int64)) hx hb hown (hts _ wk_1354) dX12_word_3 ?_
  refine m_callS X hW hA hl.1 lkX12_109 (c_R_in l E _ N   p1.toInt64 (1 : Int64) (6 : Int64) (F_R_in p1.toInt64 (1 : Int64) (6 : Int64)) rfl) ([]) (by decide) rfl rfl (ws' := (wd_R_word E a_t a_t_images a_t_kept a_t_aside a_t_limbs a_t_wide a_t_hears a_t_spies a_t_known a_t_by a_t_ways a_t_fewest a_t_heavy a_t_sums a_t_faces a_t_bestFaces a_t_text a_t_verbs a_t_many a_t_nums a_t_book t_typed t_at t_start t_token t_value t_items t_book)) rfl (As := [.long p1.toInt64, .long (1 : Int64), .long (6 : Int64)]) (rest := []) rfl rfl ⟨rfl, rfl, Nat.le_of_ble_eq_true rfl, Nat.le_of_ble_eq_true rfl⟩ (Nat.le_of_ble_eq_true rfl) (Nat.zero_le _) (Nat.zero_le _) dX12_word_6 (fun H locs hW => ?_)
  refine lv_if_eq (tgt := 40) hx hb dX12_word_9 (by decide) (fun c1 => ?_) (fun c1 => ?_)
  · have hF := if_y c1 hF
    refine lv_bipush (v := (-2 : Int32)) hx hb dX12_word_40 (by decide) ?_
    have hq := Option.some.inj hF
    subst hq
    exact hret _ _ _ _ hW dX12_word_42
  · have hF := if_n c1 hF
    refine lv_iload_n hx hb dX12_word_12 rfl (lv_at hl 2 rfl) ?_
    refine lv_i2l (v := p2.toInt64) hx hb dX12_word_13 rfl ?_
    refine lv_lconst (v := (0 : Int64)) hx hb dX12_word_14 (by decide) ?_
    refine lv_iload_n hx hb dX12_word_15 rfl (lv_at hl 1 rfl) ?_
    obtain ⟨r16, hC2, hF⟩ := bO_s1 hF
    refine m_callS X hW hA hl.1 lkX12_191 (c_R_power l E _ N   p1 r16 hC2) ([]) (by decide) rfl rfl (ws' := (wd_R_word E a_t a_t_images a_t_kept a_t_aside a_t_limbs a_t_wide a_t_hears a_t_spies a_t_known a_t_by a_t_ways a_t_fewest a_t_heavy a_t_sums a_t_faces a_t_bestFaces a_t_text a_t_verbs a_t_many a_t_nums a_t_book t_typed t_at t_start t_token t_value t_items t_book)) rfl (As := [.int p1]) (rest := [.long (0 : Int64), .long p2.toInt64]) rfl rfl ⟨rfl, rfl, Nat.le_of_ble_eq_true rfl, Nat.le_of_ble_eq_true rfl⟩ (Nat.le_of_ble_eq_true rfl) (Nat.zero_le _) (Nat.zero_le _) dX12_word_16 (fun H locs hW => ?_)
    clear hC2
    refine lv_iconst (v := (1 : Int32)) hx hb dX12_word_19 (by decide) ?_
    refine lv_isub hx hb dX12_word_20 ?_
    refine lv_i2l (v := (r16 - (1 : Int32)).toInt64) hx hb dX12_word_21 rfl ?_
    refine m_callS X hW hA hl.1 lkX12_109 (c_R_in l E _ N   p2.toInt64 (0 : Int64) (r16 - (1 : Int32)).toInt64 (F_R_in p2.toInt64 (0 : Int64) (r16 - (1 : Int32)).toInt64) rfl) ([]) (by decide) rfl rfl (ws' := (wd_R_word E a_t a_t_images a_t_kept a_t_aside a_t_limbs a_t_wide a_t_hears a_t_spies a_t_known a_t_by a_t_ways a_t_fewest a_t_heavy a_t_sums a_t_faces a_t_bestFaces a_t_text a_t_verbs a_t_many a_t_nums a_t_book t_typed t_at t_start t_token t_value t_items t_book)) rfl (As := [.long p2.toInt64, .long (0 : Int64), .long (r16 - (1 : Int32)).toInt64]) (rest := []) rfl rfl ⟨rfl, rfl, Nat.le_of_ble_eq_true rfl, Nat.le_of_ble_eq_true rfl⟩ (Nat.le_of_ble_eq_true rfl) (Nat.zero_le _) (Nat.zero_le _) dX12_word_22 (fun H locs hW => ?_)
    refine lv_if_eq (tgt := 40) hx hb dX12_word_25 (by decide) (fun c3 => ?_) (fun c3 => ?_)
    · have hF := if_y c3 hF
      refine lv_bipush (v := (-2 : Int32)) hx hb dX12_word_40 (by decide) ?_
      have hq := Option.some.inj hF
      subst hq
      exact hret _ _ _ _ hW dX12_word_42
    · have hF := if_n c3 hF
      refine lv_iload_n hx hb dX12_word_28 rfl (lv_at hl 3 rfl) ?_
      refine lv_i2l (v := p3.toInt64) hx hb dX12_word_29 rfl ?_
      refine lv_lconst (v := (1 : Int64)) hx hb dX12_word_30 (by decide) ?_
      refine lv_ldc2 (v := (9 : Int64)) hx hb hown (hts _ wk_1358) dX12_word_31 ?_
      refine m_callS X hW hA hl.1 lkX12_109 (c_R_in l E _ N   p3.toInt64 (1 : Int64) (9 : Int64) (F_R_in p3.toInt64 (1 : Int64) (9 : Int64)) rfl) ([]) (by decide) rfl rfl (ws' := (wd_R_word E a_t a_t_images a_t_kept a_t_aside a_t_limbs a_t_wide a_t_hears a_t_spies a_t_known a_t_by a_t_ways a_t_fewest a_t_heavy a_t_sums a_t_faces a_t_bestFaces a_t_text a_t_verbs a_t_many a_t_nums a_t_book t_typed t_at t_start t_token t_value t_items t_book)) rfl (As := [.long p3.toInt64, .long (1 : Int64), .long (9 : Int64)]) (rest := []) rfl rfl ⟨rfl, rfl, Nat.le_of_ble_eq_true rfl, Nat.le_of_ble_eq_true rfl⟩ (Nat.le_of_ble_eq_true rfl) (Nat.zero_le _) (Nat.zero_le _) dX12_word_34 (fun H locs hW => ?_)
      refine lv_if_ne (tgt := 43) hx hb dX12_word_37 (by decide) (fun c4 => ?_) (fun c4 => ?_)
      · have hF := if_n c4 hF
        refine lv_aload_n hx hb dX12_word_43 rfl (lv_at hl 0 rfl) ?_
        refine m_get X hW fdX12_7 0 rfl rfl dX12_word_44 ?_
        refine lv_iconst (v := (3 : Int32)) hx hb dX12_word_47 (by decide) ?_
        refine m_iald X hW 1 (k := 3) rfl (by decide) rfl dX12_word_48 ?_
        refine lv_bipush (v := (10 : Int32)) hx hb dX12_word_49 (by decide) ?_
        refine lv_icmp_ne (tgt := 57) hx hb dX12_word_51 (by decide) (fun c5 => ?_) (fun c5 => ?_)
        · have hF := if_n c5 hF
          refine lv_sipush (v := (160 : Int32)) hx hb dX12_word_57 (by decide) ?_
          refine lv_iconst (v := (3 : Int32)) hx hb dX12_word_60 (by decide) ?_
          refine lv_aload_n hx hb dX12_word_61 rfl (lv_at hl 0 rfl) ?_
          refine m_get X hW fdX12_7 0 rfl rfl dX12_word_62 ?_
          refine lv_iconst (v := (3 : Int32)) hx hb dX12_word_65 (by decide) ?_
          refine m_iald X hW 1 (k := 3) rfl (by decide) rfl dX12_word_66 ?_
          refine lv_imul hx hb dX12_word_67 ?_
          refine lv_iadd hx hb dX12_word_68 ?_
          refine lv_istore (lv' := [(4, .int ((160 : Int32) + ((3 : Int32) * (t_book 3)))), (0, .ref a_t), (1, .int p1), (2, .int p2), (3, .int p3)]) hx hb dX12_word_69 hl (by decide) rfl (fun ls hl => ?_)
          refine lv_aload_n hx hb dX12_word_71 rfl (lv_at hl 1 rfl) ?_
          refine m_get X hW fdX12_7 0 rfl rfl dX12_word_72 ?_
          refine lv_iload hx hb dX12_word_75 (lv_at hl 0 rfl) ?_
          refine lv_iload_n hx hb dX12_word_77 rfl (lv_at hl 2 rfl) ?_
          obtain ⟨g6, hF⟩ := gd_some hF
          refine m_iast X hW 1 (k := ((160 : Int32) + ((3 : Int32) * (t_book 3))).toNatClampNeg) rfl g6 rfl dX12_word_78 (ws' := (wd_R_word E a_t a_t_images a_t_kept a_t_aside a_t_limbs a_t_wide a_t_hears a_t_spies a_t_known a_t_by a_t_ways a_t_fewest a_t_heavy a_t_sums a_t_faces a_t_bestFaces a_t_text a_t_verbs a_t_many a_t_nums a_t_book t_typed t_at t_start t_token t_value t_items (upd t_book ((160 : Int32) + ((3 : Int32) * (t_book 3))).toNatClampNeg p1))) rfl (fun H locs hW => ?_)
          refine lv_aload_n hx hb dX12_word_79 rfl (lv_at hl 1 rfl) ?_
          refine m_get X hW fdX12_7 0 rfl rfl dX12_word_80 ?_
          refine lv_iload hx hb dX12_word_83 (lv_at hl 0 rfl) ?_
          refine lv_iconst (v := (1 : Int32)) hx hb dX12_word_85 (by decide) ?_
          refine lv_iadd hx hb dX12_word_86 ?_
          refine lv_iload_n hx hb dX12_word_87 rfl (lv_at hl 3 rfl) ?_
          obtain ⟨g7, hF⟩ := gd_some hF
          refine m_iast X hW 1 (k := (((160 : Int32) + ((3 : Int32) * (t_book 3))) + (1 : Int32)).toNatClampNeg) rfl g7 rfl dX12_word_88 (ws' := (wd_R_word E a_t a_t_images a_t_kept a_t_aside a_t_limbs a_t_wide a_t_hears a_t_spies a_t_known a_t_by a_t_ways a_t_fewest a_t_heavy a_t_sums a_t_faces a_t_bestFaces a_t_text a_t_verbs a_t_many a_t_nums a_t_book t_typed t_at t_start t_token t_value t_items (upd (upd t_book ((160 : Int32) + ((3 : Int32) * (t_book 3))).toNatClampNeg p1) (((160 : Int32) + ((3 : Int32) * (t_book 3))) + (1 : Int32)).toNatClampNeg p2))) rfl (fun H locs hW => ?_)
          refine lv_aload_n hx hb dX12_word_89 rfl (lv_at hl 1 rfl) ?_
          refine m_get X hW fdX12_7 0 rfl rfl dX12_word_90 ?_
          refine lv_iload hx hb dX12_word_93 (lv_at hl 0 rfl) ?_
          refine lv_iconst (v := (2 : Int32)) hx hb dX12_word_95 (by decide) ?_
          refine lv_iadd hx hb dX12_word_96 ?_
          refine lv_iload_n hx hb dX12_word_97 rfl (lv_at hl 4 rfl) ?_
          obtain ⟨g8, hF⟩ := gd_some hF
          refine m_iast X hW 1 (k := (((160 : Int32) + ((3 : Int32) * (t_book 3))) + (2 : Int32)).toNatClampNeg) rfl g8 rfl dX12_word_98 (ws' := (wd_R_word E a_t a_t_images a_t_kept a_t_aside a_t_limbs a_t_wide a_t_hears a_t_spies a_t_known a_t_by a_t_ways a_t_fewest a_t_heavy a_t_sums a_t_faces a_t_bestFaces a_t_text a_t_verbs a_t_many a_t_nums a_t_book t_typed t_at t_start t_token t_value t_items (upd (upd (upd t_book ((160 : Int32) + ((3 : Int32) * (t_book 3))).toNatClampNeg p1) (((160 : Int32) + ((3 : Int32) * (t_book 3))) + (1 : Int32)).toNatClampNeg p2) (((160 : Int32) + ((3 : Int32) * (t_book 3))) + (2 : Int32)).toNatClampNeg p3))) rfl (fun H locs hW => ?_)
          refine lv_aload_n hx hb dX12_word_99 rfl (lv_at hl 1 rfl) ?_
          refine m_get X hW fdX12_7 0 rfl rfl dX12_word_100 ?_
          refine lv_iconst (v := (3 : Int32)) hx hb dX12_word_103 (by decide) ?_
          refine lv_dup2_11 hx hb dX12_word_104 rfl rfl ?_
          refine m_iald X hW 1 (k := 3) rfl (by decide) rfl dX12_word_105 ?_
          refine lv_iconst (v := (1 : Int32)) hx hb dX12_word_106 (by decide) ?_
          refine lv_iadd hx hb dX12_word_107 ?_
          refine m_iast X hW 1 (k := 3) rfl (by decide) rfl dX12_word_108 (ws' := (wd_R_word E a_t a_t_images a_t_kept a_t_aside a_t_limbs a_t_wide a_t_hears a_t_spies a_t_known a_t_by a_t_ways a_t_fewest a_t_heavy a_t_sums a_t_faces a_t_bestFaces a_t_text a_t_verbs a_t_many a_t_nums a_t_book t_typed t_at t_start t_token t_value t_items (upd (upd (upd (upd t_book ((160 : Int32) + ((3 : Int32) * (t_book 3))).toNatClampNeg p1) (((160 : Int32) + ((3 : Int32) * (t_book 3))) + (1 : Int32)).toNatClampNeg p2) (((160 : Int32) + ((3 : Int32) * (t_book 3))) + (2 : Int32)).toNatClampNeg p3) 3 (((upd (upd (upd t_book ((160 : Int32) + ((3 : Int32) * (t_book 3))).toNatClampNeg p1) (((160 : Int32) + ((3 : Int32) * (t_book 3))) + (1 : Int32)).toNatClampNeg p2) (((160 : Int32) + ((3 : Int32) * (t_book 3))) + (2 : Int32)).toNatClampNeg p3) 3) + (1 : Int32))))) rfl (fun H locs hW => ?_)
          refine lv_aload_n hx hb dX12_word_109 rfl (lv_at hl 1 rfl) ?_
          refine m_get X hW fdX12_7 0 rfl rfl dX12_word_110 ?_
          refine lv_iconst (v := (3 : Int32)) hx hb dX12_word_113 (by decide) ?_
          refine m_iald X hW 1 (k := 3) rfl (by decide) rfl dX12_word_114 ?_
          refine lv_iconst (v := (1 : Int32)) hx hb dX12_word_115 (by decide) ?_
          refine lv_isub hx hb dX12_word_116 ?_
          have hq := Option.some.inj hF
          subst hq
          exact hret _ _ _ _ hW dX12_word_117
        · have hF := if_y c5 hF
          refine lv_bipush (v := (-4 : Int32)) hx hb dX12_word_54 (by decide) ?_
          have hq := Option.some.inj hF
          subst hq
          exact hret _ _ _ _ hW dX12_word_56
      · have hF := if_y c4 hF
        refine lv_bipush (v := (-2 : Int32)) hx hb dX12_word_40 (by decide) ?_
        have hq := Option.some.inj hF
        subst hq
        exact hret _ _ _ _ hW dX12_word_42
abbrev wd_R_isWord (E : m_E) (a_t : Nat) (a_t_images : Nat) (a_t_kept : Nat) (a_t_aside : Nat) (a_t_limbs : Nat) (a_t_wide : Nat) (a_t_hears : Nat) (a_t_spies : Nat) (a_t_known : Nat) (a_t_by : Nat) (a_t_ways : Nat) (a_t_fewest : Nat) (a_t_heavy : Nat) (a_t_sums : Nat) (a_t_faces : Nat) (a_t_bestFaces : Nat) (a_t_text : Nat) (a_t_verbs : Nat) (a_t_many : Nat) (a_t_nums : Nat) (a_t_book : Nat) (t_typed : Int32) (t_at : Int32) (t_start : Int32) (t_token : Int32) (t_value : Int32) (t_items : Int32) (t_book : Nat → Int32) : va_W := [(a_t, .inr (12, [.ref a_t_book, .ref a_t_images, .ref a_t_kept, .ref a_t_aside, .ref a_t_limbs, .ref a_t_wide, .ref a_t_hears, .ref a_t_spies, .ref a_t_known, .ref a_t_by, .ref a_t_ways, .ref a_t_fewest, .ref a_t_heavy, .ref a_t_sums, .ref a_t_faces, .ref a_t_bestFaces, .ref a_t_text, .int t_typed, .int t_at, .int t_start, .int t_token, .int t_value, .ref a_t_verbs, .ref a_t_many, .ref a_t_nums, .int t_items])), (a_t_book, .inl (E.2.1 0, 240, .inl t_book))]
def rm_R_isWord : Room := { frames := 1, cells := 0, slots := 0, locals := 25 }
set_option maxHeartbeats 4000000 in
set_option maxRecDepth 100000 in
theorem c_R_isWord (l : Launch) (E : m_E) (sz N : Nat) (a_t : Nat) (a_t_images : Nat) (a_t_kept : Nat) (a_t_aside : Nat) (a_t_limbs : Nat) (a_t_wide : Nat) (a_t_hears : Nat) (a_t_spies : Nat) (a_t_known : Nat) (a_t_by : Nat) (a_t_ways : Nat) (a_t_fewest : Nat) (a_t_heavy : Nat) (a_t_sums : Nat) (a_t_faces : Nat) (a_t_bestFaces : Nat) (a_t_text : Nat) (a_t_verbs : Nat) (a_t_many : Nat) (a_t_nums : Nat) (a_t_book : Nat) (t_typed : Int32) (t_at : Int32) (t_start : Int32) (t_token : Int32) (t_value : Int32) (t_items : Int32) (t_book : Nat → Int32) (p1 : Int32) (ures : Int32) (hF : F_R_isWord p1 t_book = ures) : m_Met l yX12_isWord cX12_isWord 2 (some .boolean) rm_R_isWord E (wd_R_isWord E a_t a_t_images a_t_kept a_t_aside a_t_limbs a_t_wide a_t_hears a_t_spies a_t_known a_t_by a_t_ways a_t_fewest a_t_heavy a_t_sums a_t_faces a_t_bestFaces a_t_text a_t_verbs a_t_many a_t_nums a_t_book t_typed t_at t_start t_token t_value t_items t_book) (wd_R_isWord E a_t a_t_images a_t_kept a_t_aside a_t_limbs a_t_wide a_t_hears a_t_spies a_t_known a_t_by a_t_ways a_t_fewest a_t_heavy a_t_sums a_t_faces a_t_bestFaces a_t_text a_t_verbs a_t_many a_t_nums a_t_book t_typed t_at t_start t_token t_value t_items t_book) sz [.ref a_t, .int p1] (some (.int ures)) := by
  refine m_ofZ (by decide) (Nat.le_of_ble_eq_true rfl) ?_
  intro p e s m args below meth c A Q ls X hW hA hl hret
  obtain ⟨hx, hb, -, hown, hts, hK, -, hG⟩ := id X
  have hl : lv_has ls 2 [(0, .ref a_t), (1, .int p1)] := hl
  unfold F_R_isWord at hF
  refine lv_iload_n hx hb dX12_isWord_0 rfl (lv_at hl 1 rfl) ?_
  refine lv_i2l (v := p1.toInt64) hx hb dX12_isWord_1 rfl ?_
  refine lv_lconst (v := (0 : Int64)) hx hb dX12_isWord_2 (by decide) ?_
  refine lv_aload_n hx hb dX12_isWord_3 rfl (lv_at hl 0 rfl) ?_
  refine m_get X hW fdX12_7 0 rfl rfl dX12_isWord_4 ?_
  refine lv_iconst (v := (3 : Int32)) hx hb dX12_isWord_7 (by decide) ?_
  refine m_iald X hW 1 (k := 3) rfl (by decide) rfl dX12_isWord_8 ?_
  refine lv_iconst (v := (1 : Int32)) hx hb dX12_isWord_9 (by decide) ?_
  refine lv_isub hx hb dX12_isWord_10 ?_
  refine lv_i2l (v := ((t_book 3) - (1 : Int32)).toInt64) hx hb dX12_isWord_11 rfl ?_
  refine m_callS X hW hA hl.1 lkX12_109 (c_R_in l E _ N   p1.toInt64 (0 : Int64) ((t_book 3) - (1 : Int32)).toInt64 (F_R_in p1.toInt64 (0 : Int64) ((t_book 3) - (1 : Int32)).toInt64) rfl) ([]) (by decide) rfl rfl (ws' := (wd_R_isWord E a_t a_t_images a_t_kept a_t_aside a_t_limbs a_t_wide a_t_hears a_t_spies a_t_known a_t_by a_t_ways a_t_fewest a_t_heavy a_t_sums a_t_faces a_t_bestFaces a_t_text a_t_verbs a_t_many a_t_nums a_t_book t_typed t_at t_start t_token t_value t_items t_book)) rfl (As := [.long p1.toInt64, .long (0 : Int64), .long ((t_book 3) - (1 : Int32)).toInt64]) (rest := []) rfl rfl ⟨rfl, rfl, Nat.le_of_ble_eq_true rfl, Nat.le_of_ble_eq_true rfl⟩ (Nat.le_of_ble_eq_true rfl) (Nat.zero_le _) (Nat.zero_le _) dX12_isWord_12 (fun H locs hW => ?_)
  have hq := hF
  subst hq
  exact hret _ _ _ _ _ rfl hW dX12_isWord_15
abbrev wd_R_lengthOf (E : m_E) (a_t : Nat) (a_t_images : Nat) (a_t_kept : Nat) (a_t_aside : Nat) (a_t_limbs : Nat) (a_t_wide : Nat) (a_t_hears : Nat) (a_t_spies : Nat) (a_t_known : Nat) (a_t_by : Nat) (a_t_ways : Nat) (a_t_fewest : Nat) (a_t_heavy : Nat) (a_t_sums : Nat) (a_t_faces : Nat) (a_t_bestFaces : Nat) (a_t_text : Nat) (a_t_verbs : Nat) (a_t_many : Nat) (a_t_nums : Nat) (a_t_book : Nat) (t_typed : Int32) (t_at : Int32) (t_start : Int32) (t_token : Int32) (t_value : Int32) (t_items : Int32) (t_book : Nat → Int32) : va_W := [(a_t, .inr (12, [.ref a_t_book, .ref a_t_images, .ref a_t_kept, .ref a_t_aside, .ref a_t_limbs, .ref a_t_wide, .ref a_t_hears, .ref a_t_spies, .ref a_t_known, .ref a_t_by, .ref a_t_ways, .ref a_t_fewest, .ref a_t_heavy, .ref a_t_sums, .ref a_t_faces, .ref a_t_bestFaces, .ref a_t_text, .int t_typed, .int t_at, .int t_start, .int t_token, .int t_value, .ref a_t_verbs, .ref a_t_many, .ref a_t_nums, .int t_items])), (a_t_book, .inl (E.2.1 0, 240, .inl t_book))]
def rm_R_lengthOf : Room := { frames := 0, cells := 0, slots := 0, locals := 0 }
set_option maxHeartbeats 4000000 in
set_option maxRecDepth 100000 in
theorem c_R_lengthOf (l : Launch) (E : m_E) (sz N : Nat) (a_t : Nat) (a_t_images : Nat) (a_t_kept : Nat) (a_t_aside : Nat) (a_t_limbs : Nat) (a_t_wide : Nat) (a_t_hears : Nat) (a_t_spies : Nat) (a_t_known : Nat) (a_t_by : Nat) (a_t_ways : Nat) (a_t_fewest : Nat) (a_t_heavy : Nat) (a_t_sums : Nat) (a_t_faces : Nat) (a_t_bestFaces : Nat) (a_t_text : Nat) (a_t_verbs : Nat) (a_t_many : Nat) (a_t_nums : Nat) (a_t_book : Nat) (t_typed : Int32) (t_at : Int32) (t_start : Int32) (t_token : Int32) (t_value : Int32) (t_items : Int32) (t_book : Nat → Int32) (p1 : Int32) (ures : Int32) (hF : F_R_lengthOf p1 t_book = some ures) : m_Met l yX12_lengthOf cX12_lengthOf 2 (some .int) rm_R_lengthOf E (wd_R_lengthOf E a_t a_t_images a_t_kept a_t_aside a_t_limbs a_t_wide a_t_hears a_t_spies a_t_known a_t_by a_t_ways a_t_fewest a_t_heavy a_t_sums a_t_faces a_t_bestFaces a_t_text a_t_verbs a_t_many a_t_nums a_t_book t_typed t_at t_start t_token t_value t_items t_book) (wd_R_lengthOf E a_t a_t_images a_t_kept a_t_aside a_t_limbs a_t_wide a_t_hears a_t_spies a_t_known a_t_by a_t_ways a_t_fewest a_t_heavy a_t_sums a_t_faces a_t_bestFaces a_t_text a_t_verbs a_t_many a_t_nums a_t_book t_typed t_at t_start t_token t_value t_items t_book) sz [.ref a_t, .int p1] (some (.int ures)) := by
  refine m_ofI (by decide) (Nat.le_of_ble_eq_true rfl) ?_
  intro p e s m args below meth c A Q ls X hW hA hl hret
  obtain ⟨hx, hb, -, hown, hts, hK, -, hG⟩ := id X
  have hl : lv_has ls 2 [(0, .ref a_t), (1, .int p1)] := hl
  unfold F_R_lengthOf at hF
  refine lv_aload_n hx hb dX12_lengthOf_0 rfl (lv_at hl 0 rfl) ?_
  refine m_get X hW fdX12_7 0 rfl rfl dX12_lengthOf_1 ?_
  refine lv_sipush (v := (160 : Int32)) hx hb dX12_lengthOf_4 (by decide) ?_
  refine lv_iconst (v := (3 : Int32)) hx hb dX12_lengthOf_7 (by decide) ?_
  refine lv_iload_n hx hb dX12_lengthOf_8 rfl (lv_at hl 1 rfl) ?_
  refine lv_imul hx hb dX12_lengthOf_9 ?_
  refine lv_iadd hx hb dX12_lengthOf_10 ?_
  obtain ⟨g1, hF⟩ := gd_some hF
  refine m_iald X hW 1 (k := ((160 : Int32) + ((3 : Int32) * p1)).toNatClampNeg) rfl g1 rfl dX12_lengthOf_11 ?_
  have hq := Option.some.inj hF
  subst hq
  exact hret _ _ _ _ hW dX12_lengthOf_12
abbrev wd_R_weightOf (E : m_E) (a_t : Nat) (a_t_images : Nat) (a_t_kept : Nat) (a_t_aside : Nat) (a_t_limbs : Nat) (a_t_wide : Nat) (a_t_hears : Nat) (a_t_spies : Nat) (a_t_known : Nat) (a_t_by : Nat) (a_t_ways : Nat) (a_t_fewest : Nat) (a_t_heavy : Nat) (a_t_sums : Nat) (a_t_faces : Nat) (a_t_bestFaces : Nat) (a_t_text : Nat) (a_t_verbs : Nat) (a_t_many : Nat) (a_t_nums : Nat) (a_t_book : Nat) (t_typed : Int32) (t_at : Int32) (t_start : Int32) (t_token : Int32) (t_value : Int32) (t_items : Int32) (t_book : Nat → Int32) : va_W := [(a_t, .inr (12, [.ref a_t_book, .ref a_t_images, .ref a_t_kept, .ref a_t_aside, .ref a_t_limbs, .ref a_t_wide, .ref a_t_hears, .ref a_t_spies, .ref a_t_known, .ref a_t_by, .ref a_t_ways, .ref a_t_fewest, .ref a_t_heavy, .ref a_t_sums, .ref a_t_faces, .ref a_t_bestFaces, .ref a_t_text, .int t_typed, .int t_at, .int t_start, .int t_token, .int t_value, .ref a_t_verbs, .ref a_t_many, .ref a_t_nums, .int t_items])), (a_t_book, .inl (E.2.1 0, 240, .inl t_book))]
def rm_R_weightOf : Room := { frames := 0, cells := 0, slots := 0, locals := 0 }
set_option maxHeartbeats 4000000 in
set_option maxRecDepth 100000 in
theorem c_R_weightOf (l : Launch) (E : m_E) (sz N : Nat) (a_t : Nat) (a_t_images : Nat) (a_t_kept : Nat) (a_t_aside : Nat) (a_t_limbs : Nat) (a_t_wide : Nat) (a_t_hears : Nat) (a_t_spies : Nat) (a_t_known : Nat) (a_t_by : Nat) (a_t_ways : Nat) (a_t_fewest : Nat) (a_t_heavy : Nat) (a_t_sums : Nat) (a_t_faces : Nat) (a_t_bestFaces : Nat) (a_t_text : Nat) (a_t_verbs : Nat) (a_t_many : Nat) (a_t_nums : Nat) (a_t_book : Nat) (t_typed : Int32) (t_at : Int32) (t_start : Int32) (t_token : Int32) (t_value : Int32) (t_items : Int32) (t_book : Nat → Int32) (p1 : Int32) (ures : Int32) (hF : F_R_weightOf p1 t_book = some ures) : m_Met l yX12_weightOf cX12_weightOf 2 (some .int) rm_R_weightOf E (wd_R_weightOf E a_t a_t_images a_t_kept a_t_aside a_t_limbs a_t_wide a_t_hears a_t_spies a_t_known a_t_by a_t_ways a_t_fewest a_t_heavy a_t_sums a_t_faces a_t_bestFaces a_t_text a_t_verbs a_t_many a_t_nums a_t_book t_typed t_at t_start t_token t_value t_items t_book) (wd_R_weightOf E a_t a_t_images a_t_kept a_t_aside a_t_limbs a_t_wide a_t_hears a_t_spies a_t_known a_t_by a_t_ways a_t_fewest a_t_heavy a_t_sums a_t_faces a_t_bestFaces a_t_text a_t_verbs a_t_many a_t_nums a_t_book t_typed t_at t_start t_token t_value t_items t_book) sz [.ref a_t, .int p1] (some (.int ures)) := by
  refine m_ofI (by decide) (Nat.le_of_ble_eq_true rfl) ?_
  intro p e s m args below meth c A Q ls X hW hA hl hret
  obtain ⟨hx, hb, -, hown, hts, hK, -, hG⟩ := id X
  have hl : lv_has ls 2 [(0, .ref a_t), (1, .int p1)] := hl
  unfold F_R_weightOf at hF
  refine lv_aload_n hx hb dX12_weightOf_0 rfl (lv_at hl 0 rfl) ?_
  refine m_get X hW fdX12_7 0 rfl rfl dX12_weightOf_1 ?_
  refine lv_sipush (v := (160 : Int32)) hx hb dX12_weightOf_4 (by decide) ?_
  refine lv_iconst (v := (3 : Int32)) hx hb dX12_weightOf_7 (by decide) ?_
  refine lv_iload_n hx hb dX12_weightOf_8 rfl (lv_at hl 1 rfl) ?_
  refine lv_imul hx hb dX12_weightOf_9 ?_
  refine lv_iadd hx hb dX12_weightOf_10 ?_
  refine lv_iconst (v := (2 : Int32)) hx hb dX12_weightOf_11 (by decide) ?_
  refine lv_iadd hx hb dX12_weightOf_12 ?_
  obtain ⟨g1, hF⟩ := gd_some hF
  refine m_iald X hW 1 (k := (((160 : Int32) + ((3 : Int32) * p1)) + (2 : Int32)).toNatClampNeg) rfl g1 rfl dX12_weightOf_13 ?_
  have hq := Option.some.inj hF
  subst hq
  exact hret _ _ _ _ hW dX12_weightOf_14
abbrev wd_R_lipOf (E : m_E) (a_t : Nat) (a_t_images : Nat) (a_t_kept : Nat) (a_t_aside : Nat) (a_t_limbs : Nat) (a_t_wide : Nat) (a_t_hears : Nat) (a_t_spies : Nat) (a_t_known : Nat) (a_t_by : Nat) (a_t_ways : Nat) (a_t_fewest : Nat) (a_t_heavy : Nat) (a_t_sums : Nat) (a_t_faces : Nat) (a_t_bestFaces : Nat) (a_t_text : Nat) (a_t_verbs : Nat) (a_t_many : Nat) (a_t_nums : Nat) (a_t_book : Nat) (t_typed : Int32) (t_at : Int32) (t_start : Int32) (t_token : Int32) (t_value : Int32) (t_items : Int32) (t_book : Nat → Int32) : va_W := [(a_t, .inr (12, [.ref a_t_book, .ref a_t_images, .ref a_t_kept, .ref a_t_aside, .ref a_t_limbs, .ref a_t_wide, .ref a_t_hears, .ref a_t_spies, .ref a_t_known, .ref a_t_by, .ref a_t_ways, .ref a_t_fewest, .ref a_t_heavy, .ref a_t_sums, .ref a_t_faces, .ref a_t_bestFaces, .ref a_t_text, .int t_typed, .int t_at, .int t_start, .int t_token, .int t_value, .ref a_t_verbs, .ref a_t_many, .ref a_t_nums, .int t_items])), (a_t_book, .inl (E.2.1 0, 240, .inl t_book))]
def rm_R_lipOf : Room := { frames := 1, cells := 0, slots := 0, locals := 22 }
set_option maxHeartbeats 4000000 in
set_option maxRecDepth 100000 in
theorem c_R_lipOf (l : Launch) (E : m_E) (sz N : Nat) (a_t : Nat) (a_t_images : Nat) (a_t_kept : Nat) (a_t_aside : Nat) (a_t_limbs : Nat) (a_t_wide : Nat) (a_t_hears : Nat) (a_t_spies : Nat) (a_t_known : Nat) (a_t_by : Nat) (a_t_ways : Nat) (a_t_fewest : Nat) (a_t_heavy : Nat) (a_t_sums : Nat) (a_t_faces : Nat) (a_t_bestFaces : Nat) (a_t_text : Nat) (a_t_verbs : Nat) (a_t_many : Nat) (a_t_nums : Nat) (a_t_book : Nat) (t_typed : Int32) (t_at : Int32) (t_start : Int32) (t_token : Int32) (t_value : Int32) (t_items : Int32) (t_book : Nat → Int32) (p1 : Int32) (p2 : Int32) (ures : Int32) (hF : F_R_lipOf N p1 p2 t_book = some ures) : m_Met l yX12_lipOf cX12_lipOf 3 (some .int) rm_R_lipOf E (wd_R_lipOf E a_t a_t_images a_t_kept a_t_aside a_t_limbs a_t_wide a_t_hears a_t_spies a_t_known a_t_by a_t_ways a_t_fewest a_t_heavy a_t_sums a_t_faces a_t_bestFaces a_t_text a_t_verbs a_t_many a_t_nums a_t_book t_typed t_at t_start t_token t_value t_items t_book) (wd_R_lipOf E a_t a_t_images a_t_kept a_t_aside a_t_limbs a_t_wide a_t_hears a_t_spies a_t_known a_t_by a_t_ways a_t_fewest a_t_heavy a_t_sums a_t_faces a_t_bestFaces a_t_text a_t_verbs a_t_many a_t_nums a_t_book t_typed t_at t_start t_token t_value t_items t_book) sz [.ref a_t, .int p1, .int p2] (some (.int ures)) := by
  refine m_ofI (by decide) (Nat.le_of_ble_eq_true rfl) ?_
  intro p e s m args below meth c A Q ls X hW hA hl hret
  obtain ⟨hx, hb, -, hown, hts, hK, -, hG⟩ := id X
  have hl : lv_has ls 3 [(0, .ref a_t), (1, .int p1), (2, .int p2)] := hl
  unfold F_R_lipOf at hF
  refine lv_aload_n hx hb dX12_lipOf_0 rfl (lv_at hl 0 rfl) ?_
  refine m_get X hW fdX12_7 0 rfl rfl dX12_lipOf_1 ?_
  refine lv_sipush (v := (150 : Int32)) hx hb dX12_lipOf_4 (by decide) ?_
  refine lv_aload_n hx hb dX12_lipOf_7 rfl (lv_at hl 0 rfl) ?_
  refine m_get X hW fdX12_7 0 rfl rfl dX12_lipOf_8 ?_
  refine lv_sipush (v := (160 : Int32)) hx hb dX12_lipOf_11 (by decide) ?_
  refine lv_iconst (v := (3 : Int32)) hx hb dX12_lipOf_14 (by decide) ?_
  refine lv_iload_n hx hb dX12_lipOf_15 rfl (lv_at hl 1 rfl) ?_
  refine lv_imul hx hb dX12_lipOf_16 ?_
  refine lv_iadd hx hb dX12_lipOf_17 ?_
  refine lv_iconst (v := (1 : Int32)) hx hb dX12_lipOf_18 (by decide) ?_
  refine lv_iadd hx hb dX12_lipOf_19 ?_
  obtain ⟨g1, hF⟩ := gd_some hF
  refine m_iald X hW 1 (k := (((160 : Int32) + ((3 : Int32) * p1)) + (1 : Int32)).toNatClampNeg) rfl g1 rfl dX12_lipOf_20 ?_
  refine lv_aload_n hx hb dX12_lipOf_21 rfl (lv_at hl 0 rfl) ?_
  refine lv_iload_n hx hb dX12_lipOf_22 rfl (lv_at hl 1 rfl) ?_
  obtain ⟨r23, hC2, hF⟩ := bO_s1 hF
  refine m_callV X hW hA hl.1 lkX12_196 (c_R_lengthOf l E _ N a_t a_t_images a_t_kept a_t_aside a_t_limbs a_t_wide a_t_hears a_t_spies a_t_known a_t_by a_t_ways a_t_fewest a_t_heavy a_t_sums a_t_faces a_t_bestFaces a_t_text a_t_verbs a_t_many a_t_nums a_t_book t_typed t_at t_start t_token t_value t_items t_book p1 r23 hC2) ([0, 1]) (by decide) rfl rfl (ws' := (wd_R_lipOf E a_t a_t_images a_t_kept a_t_aside a_t_limbs a_t_wide a_t_hears a_t_spies a_t_known a_t_by a_t_ways a_t_fewest a_t_heavy a_t_sums a_t_faces a_t_bestFaces a_t_text a_t_verbs a_t_many a_t_nums a_t_book t_typed t_at t_start t_token t_value t_items t_book)) rfl 0 rfl rfl rfl (As := [.int p1]) (rest := [.int (t_book (((160 : Int32) + ((3 : Int32) * p1)) + (1 : Int32)).toNatClampNeg), .int (150 : Int32), .ref a_t_book]) rfl rfl ⟨rfl, rfl, Nat.le_of_ble_eq_true rfl, Nat.le_of_ble_eq_true rfl⟩ (Nat.le_of_ble_eq_true rfl) (Nat.zero_le _) (Nat.zero_le _) dX12_lipOf_23 (fun H locs hW => ?_)
  clear hC2
  refine lv_iconst (v := (1 : Int32)) hx hb dX12_lipOf_26 (by decide) ?_
  refine lv_isub hx hb dX12_lipOf_27 ?_
  refine lv_iload_n hx hb dX12_lipOf_28 rfl (lv_at hl 2 rfl) ?_
  refine lv_isub hx hb dX12_lipOf_29 ?_
  obtain ⟨r30, hC3, hF⟩ := bO_s1 hF
  refine m_callS X hW hA hl.1 lkX12_191 (c_R_power l E _ N   ((r23 - (1 : Int32)) - p2) r30 hC3) ([]) (by decide) rfl rfl (ws' := (wd_R_lipOf E a_t a_t_images a_t_kept a_t_aside a_t_limbs a_t_wide a_t_hears a_t_spies a_t_known a_t_by a_t_ways a_t_fewest a_t_heavy a_t_sums a_t_faces a_t_bestFaces a_t_text a_t_verbs a_t_many a_t_nums a_t_book t_typed t_at t_start t_token t_value t_items t_book)) rfl (As := [.int ((r23 - (1 : Int32)) - p2)]) (rest := [.int (t_book (((160 : Int32) + ((3 : Int32) * p1)) + (1 : Int32)).toNatClampNeg), .int (150 : Int32), .ref a_t_book]) rfl rfl ⟨rfl, rfl, Nat.le_of_ble_eq_true rfl, Nat.le_of_ble_eq_true rfl⟩ (Nat.le_of_ble_eq_true rfl) (Nat.zero_le _) (Nat.zero_le _) dX12_lipOf_30 (fun H locs hW => ?_)
  clear hC3
  obtain ⟨g4, hF⟩ := gd_some hF
  refine lv_idiv hx hb dX12_lipOf_33 (nz_ne g4) ?_
  refine lv_bipush (v := (6 : Int32)) hx hb dX12_lipOf_34 (by decide) ?_
  refine m_irem hx hb dX12_lipOf_36 (by decide) ?_
  refine lv_iadd hx hb dX12_lipOf_37 ?_
  obtain ⟨g5, hF⟩ := gd_some hF
  refine m_iald X hW 1 (k := ((150 : Int32) + (jrem ((t_book (((160 : Int32) + ((3 : Int32) * p1)) + (1 : Int32)).toNatClampNeg) / r30) (6 : Int32))).toNatClampNeg) rfl g5 rfl dX12_lipOf_38 ?_
  have hq := Option.some.inj hF
  subst hq
  exact hret _ _ _ _ hW dX12_lipOf_39
abbrev wd_R_unlike (E : m_E) (a_t : Nat) (a_t_images : Nat) (a_t_kept : Nat) (a_t_aside : Nat) (a_t_limbs : Nat) (a_t_wide : Nat) (a_t_hears : Nat) (a_t_spies : Nat) (a_t_known : Nat) (a_t_by : Nat) (a_t_ways : Nat) (a_t_fewest : Nat) (a_t_heavy : Nat) (a_t_sums : Nat) (a_t_faces : Nat) (a_t_bestFaces : Nat) (a_t_text : Nat) (a_t_verbs : Nat) (a_t_many : Nat) (a_t_nums : Nat) (a_t_book : Nat) (t_typed : Int32) (t_at : Int32) (t_start : Int32) (t_token : Int32) (t_value : Int32) (t_items : Int32) (t_book : Nat → Int32) : va_W := [(a_t, .inr (12, [.ref a_t_book, .ref a_t_images, .ref a_t_kept, .ref a_t_aside, .ref a_t_limbs, .ref a_t_wide, .ref a_t_hears, .ref a_t_spies, .ref a_t_known, .ref a_t_by, .ref a_t_ways, .ref a_t_fewest, .ref a_t_heavy, .ref a_t_sums, .ref a_t_faces, .ref a_t_bestFaces, .ref a_t_text, .int t_typed, .int t_at, .int t_start, .int t_token, .int t_value, .ref a_t_verbs, .ref a_t_many, .ref a_t_nums, .int t_items])), (a_t_book, .inl (E.2.1 0, 240, .inl t_book))]
def rm_R_unlike : Room := { frames := 2, cells := 0, slots := 0, locals := 44 }
set_option maxHeartbeats 4000000 in
set_option maxRecDepth 100000 in
theorem c_R_unlike (l : Launch) (E : m_E) (sz N : Nat) (a_t : Nat) (a_t_images : Nat) (a_t_kept : Nat) (a_t_aside : Nat) (a_t_limbs : Nat) (a_t_wide : Nat) (a_t_hears : Nat) (a_t_spies : Nat) (a_t_known : Nat) (a_t_by : Nat) (a_t_ways : Nat) (a_t_fewest : Nat) (a_t_heavy : Nat) (a_t_sums : Nat) (a_t_faces : Nat) (a_t_bestFaces : Nat) (a_t_text : Nat) (a_t_verbs : Nat) (a_t_many : Nat) (a_t_nums : Nat) (a_t_book : Nat) (t_typed : Int32) (t_at : Int32) (t_start : Int32) (t_token : Int32) (t_value : Int32) (t_items : Int32) (t_book : Nat → Int32) (p1 : Int32) (p2 : Int32) (ures : Int32) (hF : F_R_unlike N p1 p2 t_book = some ures) : m_Met l yX12_unlike cX12_unlike 5 (some .int) rm_R_unlike E (wd_R_unlike E a_t a_t_images a_t_kept a_t_aside a_t_limbs a_t_wide a_t_hears a_t_spies a_t_known a_t_by a_t_ways a_t_fewest a_t_heavy a_t_sums a_t_faces a_t_bestFaces a_t_text a_t_verbs a_t_many a_t_nums a_t_book t_typed t_at t_start t_token t_value t_items t_book) (wd_R_unlike E a_t a_t_images a_t_kept a_t_aside a_t_limbs a_t_wide a_t_hears a_t_spies a_t_known a_t_by a_t_ways a_t_fewest a_t_heavy a_t_sums a_t_faces a_t_bestFaces a_t_text a_t_verbs a_t_many a_t_nums a_t_book t_typed t_at t_start t_token t_value t_items t_book) sz [.ref a_t, .int p1, .int p2] (some (.int ures)) := by
  refine m_ofI (by decide) (Nat.le_of_ble_eq_true rfl) ?_
  intro p e s m args below meth c A Q ls X hW hA hl hret
  obtain ⟨hx, hb, -, hown, hts, hK, -, hG⟩ := id X
  have hl : lv_has ls 5 [(0, .ref a_t), (1, .int p1), (2, .int p2)] := hl
  unfold F_R_unlike at hF
  refine lv_iconst (v := (0 : Int32)) hx hb dX12_unlike_0 (by decide) ?_
  refine lv_istore_n (lv' := [(3, .int (0 : Int32)), (0, .ref a_t), (1, .int p1), (2, .int p2)]) hx hb dX12_unlike_1 rfl hl (by decide) rfl (fun ls hl => ?_)
  refine lv_iconst (v := (0 : Int32)) hx hb dX12_unlike_2 (by decide) ?_
  refine lv_istore (lv' := [(4, .int (0 : Int32)), (3, .int (0 : Int32)), (0, .ref a_t), (1, .int p1), (2, .int p2)]) hx hb dX12_unlike_3 hl (by decide) rfl (fun ls hl => ?_)
  obtain ⟨x3_2, hX2, hF⟩ := bO_s1 hF
  have L1 : ∀ (k0 : Nat) (x3 : Int32) (x4 : Int32) (x3_2 : Int32) (H : Heap) (locs : List Loc) (ls : Array Slot), R_unlike_L5 N p1 t_book p2 k0 x3 x4 = some x3_2 → m_H E A (wd_R_unlike E a_t a_t_images a_t_kept a_t_aside a_t_limbs a_t_wide a_t_hears a_t_spies a_t_known a_t_by a_t_ways a_t_fewest a_t_heavy a_t_sums a_t_faces a_t_bestFaces a_t_text a_t_verbs a_t_many a_t_nums a_t_book t_typed t_at t_start t_token t_value t_items t_book) s.heap H locs → lv_has ls 5 [(4, .int x4), (3, .int x3), (0, .ref a_t), (1, .int p1), (2, .int p2)] → (∀ (H : Heap) (locs : List Loc) (ls : Array Slot), m_H E A (wd_R_unlike E a_t a_t_images a_t_kept a_t_aside a_t_limbs a_t_wide a_t_hears a_t_spies a_t_known a_t_by a_t_ways a_t_fewest a_t_heavy a_t_sums a_t_faces a_t_bestFaces a_t_text a_t_verbs a_t_many a_t_nums a_t_book t_typed t_at t_start t_token t_value t_items t_book) s.heap H locs → lv_has ls 5 [(3, .int x3_2)] → W p l e rm_R_unlike s m args below meth c H locs 0 0 Q (F0 m 46 ls [])) → W p l e rm_R_unlike s m args below meth c H locs 0 0 Q (F0 m 5 ls []) := by
    clear hF
    intro k0
    induction k0 with
    | zero =>
      intro x3 x4 x3_2 H locs ls hF
      cases hF
    | succ k0 ih4 =>
      intro x3 x4 x3_2 H locs ls hF hW hl hk3
      rw [R_unlike_L5] at hF
      refine lv_iload hx hb dX12_unlike_5 (lv_at hl 0 rfl) ?_
      refine lv_aload_n hx hb dX12_unlike_7 rfl (lv_at hl 2 rfl) ?_
      refine lv_iload_n hx hb dX12_unlike_8 rfl (lv_at hl 3 rfl) ?_
      obtain ⟨r9, hC5, hF⟩ := bO_s1 hF
      refine m_callV X hW hA hl.1 lkX12_196 (c_R_lengthOf l E _ N a_t a_t_images a_t_kept a_t_aside a_t_limbs a_t_wide a_t_hears a_t_spies a_t_known a_t_by a_t_ways a_t_fewest a_t_heavy a_t_sums a_t_faces a_t_bestFaces a_t_text a_t_verbs a_t_many a_t_nums a_t_book t_typed t_at t_start t_token t_value t_items t_book p1 r9 hC5) ([0, 1]) (by decide) rfl rfl (ws' := (wd_R_unlike E a_t a_t_images a_t_kept a_t_aside a_t_limbs a_t_wide a_t_hears a_t_spies a_t_known a_t_by a_t_ways a_t_fewest a_t_heavy a_t_sums a_t_faces a_t_bestFaces a_t_text a_t_verbs a_t_many a_t_nums a_t_book t_typed t_at t_start t_token t_value t_items t_book)) rfl 0 rfl rfl rfl (As := [.int p1]) (rest := [.int x4]) rfl rfl ⟨rfl, rfl, Nat.le_of_ble_eq_true rfl, Nat.le_of_ble_eq_true rfl⟩ (Nat.le_of_ble_eq_true rfl) (Nat.zero_le _) (Nat.zero_le _) dX12_unlike_9 (fun H locs hW => ?_)
      clear hC5
      refine lv_icmp_ge (tgt := 46) hx hb dX12_unlike_12 (by decide) (fun c6 => ?_) (fun c6 => ?_)
      · have hF := if_y c6 hF
        cases hF
        exact hk3 _ _ _ hW (lv_sub hl [1] rfl)
      · have hF := if_n c6 hF
        refine lv_iload_n hx hb dX12_unlike_15 rfl (lv_at hl 1 rfl) ?_
        refine lv_aload_n hx hb dX12_unlike_16 rfl (lv_at hl 2 rfl) ?_
        refine lv_iload_n hx hb dX12_unlike_17 rfl (lv_at hl 3 rfl) ?_
        refine lv_iload hx hb dX12_unlike_18 (lv_at hl 0 rfl) ?_
        obtain ⟨r20, hC7, hF⟩ := bO_s1 hF
        refine m_callV X hW hA hl.1 lkX12_199 (c_R_lipOf l E _ N a_t a_t_images a_t_kept a_t_aside a_t_limbs a_t_wide a_t_hears a_t_spies a_t_known a_t_by a_t_ways a_t_fewest a_t_heavy a_t_sums a_t_faces a_t_bestFaces a_t_text a_t_verbs a_t_many a_t_nums a_t_book t_typed t_at t_start t_token t_value t_items t_book p1 x4 r20 hC7) ([0, 1]) (by decide) rfl rfl (ws' := (wd_R_unlike E a_t a_t_images a_t_kept a_t_aside a_t_limbs a_t_wide a_t_hears a_t_spies a_t_known a_t_by a_t_ways a_t_fewest a_t_heavy a_t_sums a_t_faces a_t_bestFaces a_t_text a_t_verbs a_t_many a_t_nums a_t_book t_typed t_at t_start t_token t_value t_items t_book)) rfl 0 rfl rfl rfl (As := [.int p1, .int x4]) (rest := [.int x3]) rfl rfl ⟨rfl, rfl, Nat.le_of_ble_eq_true rfl, Nat.le_of_ble_eq_true rfl⟩ (Nat.le_of_ble_eq_true rfl) (Nat.zero_le _) (Nat.zero_le _) dX12_unlike_20 (fun H locs hW => ?_)
        clear hC7
        refine lv_aload_n hx hb dX12_unlike_23 rfl (lv_at hl 2 rfl) ?_
        refine lv_iload_n hx hb dX12_unlike_24 rfl (lv_at hl 4 rfl) ?_
        refine lv_iload hx hb dX12_unlike_25 (lv_at hl 0 rfl) ?_
        obtain ⟨r27, hC8, hF⟩ := bO_s1 hF
        refine m_callV X hW hA hl.1 lkX12_199 (c_R_lipOf l E _ N a_t a_t_images a_t_kept a_t_aside a_t_limbs a_t_wide a_t_hears a_t_spies a_t_known a_t_by a_t_ways a_t_fewest a_t_heavy a_t_sums a_t_faces a_t_bestFaces a_t_text a_t_verbs a_t_many a_t_nums a_t_book t_typed t_at t_start t_token t_value t_items t_book p2 x4 r27 hC8) ([0, 1]) (by decide) rfl rfl (ws' := (wd_R_unlike E a_t a_t_images a_t_kept a_t_aside a_t_limbs a_t_wide a_t_hears a_t_spies a_t_known a_t_by a_t_ways a_t_fewest a_t_heavy a_t_sums a_t_faces a_t_bestFaces a_t_text a_t_verbs a_t_many a_t_nums a_t_book t_typed t_at t_start t_token t_value t_items t_book)) rfl 0 rfl rfl rfl (As := [.int p2, .int x4]) (rest := [.int r20, .int x3]) rfl rfl ⟨rfl, rfl, Nat.le_of_ble_eq_true rfl, Nat.le_of_ble_eq_true rfl⟩ (Nat.le_of_ble_eq_true rfl) (Nat.zero_le _) (Nat.zero_le _) dX12_unlike_27 (fun H locs hW => ?_)
        clear hC8
        refine lv_icmp_eq (tgt := 37) hx hb dX12_unlike_30 (by decide) (fun c9 => ?_) (fun c9 => ?_)
        · have hF := if_y c9 hF
          refine lv_iconst (v := (0 : Int32)) hx hb dX12_unlike_37 (by decide) ?_
          refine lv_iadd hx hb dX12_unlike_38 ?_
          refine lv_istore_n (lv' := [(3, .int (x3 + (0 : Int32))), (4, .int x4), (0, .ref a_t), (1, .int p1), (2, .int p2)]) hx hb dX12_unlike_39 rfl hl (by decide) rfl (fun ls hl => ?_)
          refine lv_iinc (v := (x4 + (1 : Int32))) (lv' := [(4, .int (x4 + (1 : Int32))), (3, .int (x3 + (0 : Int32))), (0, .ref a_t), (1, .int p1), (2, .int p2)]) hx hb dX12_unlike_40 hl (k := 1) rfl rfl (by decide) rfl (fun ls hl => ?_)
          refine lv_goto (tgt := 5) hx hb dX12_unlike_43 (by decide) ?_
          exact ih4 (x3 + (0 : Int32)) (x4 + (1 : Int32)) x3_2 _ _ _ hF hW (lv_sub hl [0, 1, 2, 3, 4] rfl) hk3
        · have hF := if_n c9 hF
          refine lv_iconst (v := (1 : Int32)) hx hb dX12_unlike_33 (by decide) ?_
          refine lv_goto (tgt := 38) hx hb dX12_unlike_34 (by decide) ?_
          refine lv_iadd hx hb dX12_unlike_38 ?_
          refine lv_istore_n (lv' := [(3, .int (x3 + (1 : Int32))), (4, .int x4), (0, .ref a_t), (1, .int p1), (2, .int p2)]) hx hb dX12_unlike_39 rfl hl (by decide) rfl (fun ls hl => ?_)
          refine lv_iinc (v := (x4 + (1 : Int32))) (lv' := [(4, .int (x4 + (1 : Int32))), (3, .int (x3 + (1 : Int32))), (0, .ref a_t), (1, .int p1), (2, .int p2)]) hx hb dX12_unlike_40 hl (k := 1) rfl rfl (by decide) rfl (fun ls hl => ?_)
          refine lv_goto (tgt := 5) hx hb dX12_unlike_43 (by decide) ?_
          exact ih4 (x3 + (1 : Int32)) (x4 + (1 : Int32)) x3_2 _ _ _ hF hW (lv_sub hl [0, 1, 2, 3, 4] rfl) hk3
  refine L1 N (0 : Int32) (0 : Int32) x3_2 _ _ _ hX2 hW (lv_sub hl [0, 1, 2, 3, 4] rfl) ?_
  intro H locs ls hW hl
  clear L1
  refine lv_iload_n hx hb dX12_unlike_46 rfl (lv_at hl 0 rfl) ?_
  have hq := Option.some.inj hF
  subst hq
  exact hret _ _ _ _ hW dX12_unlike_47
abbrev wd_R_areAlike (E : m_E) (a_t : Nat) (a_t_images : Nat) (a_t_kept : Nat) (a_t_aside : Nat) (a_t_limbs : Nat) (a_t_wide : Nat) (a_t_hears : Nat) (a_t_spies : Nat) (a_t_known : Nat) (a_t_by : Nat) (a_t_ways : Nat) (a_t_fewest : Nat) (a_t_heavy : Nat) (a_t_sums : Nat) (a_t_faces : Nat) (a_t_bestFaces : Nat) (a_t_text : Nat) (a_t_verbs : Nat) (a_t_many : Nat) (a_t_nums : Nat) (a_t_book : Nat) (t_typed : Int32) (t_at : Int32) (t_start : Int32) (t_token : Int32) (t_value : Int32) (t_items : Int32) (t_book : Nat → Int32) : va_W := [(a_t, .inr (12, [.ref a_t_book, .ref a_t_images, .ref a_t_kept, .ref a_t_aside, .ref a_t_limbs, .ref a_t_wide, .ref a_t_hears, .ref a_t_spies, .ref a_t_known, .ref a_t_by, .ref a_t_ways, .ref a_t_fewest, .ref a_t_heavy, .ref a_t_sums, .ref a_t_faces, .ref a_t_bestFaces, .ref a_t_text, .int t_typed, .int t_at, .int t_start, .int t_token, .int t_value, .ref a_t_verbs, .ref a_t_many, .ref a_t_nums, .int t_items])), (a_t_book, .inl (E.2.1 0, 240, .inl t_book))]
def rm_R_areAlike : Room := { frames := 3, cells := 0, slots := 0, locals := 68 }
set_option maxHeartbeats 4000000 in
set_option maxRecDepth 100000 in
theorem c_R_areAlike (l : Launch) (E : m_E) (sz N : Nat) (a_t : Nat) (a_t_images : Nat) (a_t_kept : Nat) (a_t_aside : Nat) (a_t_limbs : Nat) (a_t_wide : Nat) (a_t_hears : Nat) (a_t_spies : Nat) (a_t_known : Nat) (a_t_by : Nat) (a_t_ways : Nat) (a_t_fewest : Nat) (a_t_heavy : Nat) (a_t_sums : Nat) (a_t_faces : Nat) (a_t_bestFaces : Nat) (a_t_text : Nat) (a_t_verbs : Nat) (a_t_many : Nat) (a_t_nums : Nat) (a_t_book : Nat) (t_typed : Int32) (t_at : Int32) (t_start : Int32) (t_token : Int32) (t_value : Int32) (t_items : Int32) (t_book : Nat → Int32) (p1 : Int32) (p2 : Int32) (ures : Int32) (hF : F_R_areAlike N p1 p2 t_book = some ures) : m_Met l yX12_areAlike cX12_areAlike 3 (some .boolean) rm_R_areAlike E (wd_R_areAlike E a_t a_t_images a_t_kept a_t_aside a_t_limbs a_t_wide a_t_hears a_t_spies a_t_known a_t_by a_t_ways a_t_fewest a_t_heavy a_t_sums a_t_faces a_t_bestFaces a_t_text a_t_verbs a_t_many a_t_nums a_t_book t_typed t_at t_start t_token t_value t_items t_book) (wd_R_areAlike E a_t a_t_images a_t_kept a_t_aside a_t_limbs a_t_wide a_t_hears a_t_spies a_t_known a_t_by a_t_ways a_t_fewest a_t_heavy a_t_sums a_t_faces a_t_bestFaces a_t_text a_t_verbs a_t_many a_t_nums a_t_book t_typed t_at t_start t_token t_value t_items t_book) sz [.ref a_t, .int p1, .int p2] (some (.int ures)) := by
  refine m_ofZ (by decide) (Nat.le_of_ble_eq_true rfl) ?_
  intro p e s m args below meth c A Q ls X hW hA hl hret
  obtain ⟨hx, hb, -, hown, hts, hK, -, hG⟩ := id X
  have hl : lv_has ls 3 [(0, .ref a_t), (1, .int p1), (2, .int p2)] := hl
  unfold F_R_areAlike at hF
  refine lv_aload_n hx hb dX12_areAlike_0 rfl (lv_at hl 0 rfl) ?_
  refine lv_iload_n hx hb dX12_areAlike_1 rfl (lv_at hl 1 rfl) ?_
  obtain ⟨r2, hC1, hF⟩ := bO_s1 hF
  refine m_callV X hW hA hl.1 lkX12_196 (c_R_lengthOf l E _ N a_t a_t_images a_t_kept a_t_aside a_t_limbs a_t_wide a_t_hears a_t_spies a_t_known a_t_by a_t_ways a_t_fewest a_t_heavy a_t_sums a_t_faces a_t_bestFaces a_t_text a_t_verbs a_t_many a_t_nums a_t_book t_typed t_at t_start t_token t_value t_items t_book p1 r2 hC1) ([0, 1]) (by decide) rfl rfl (ws' := (wd_R_areAlike E a_t a_t_images a_t_kept a_t_aside a_t_limbs a_t_wide a_t_hears a_t_spies a_t_known a_t_by a_t_ways a_t_fewest a_t_heavy a_t_sums a_t_faces a_t_bestFaces a_t_text a_t_verbs a_t_many a_t_nums a_t_book t_typed t_at t_start t_token t_value t_items t_book)) rfl 0 rfl rfl rfl (As := [.int p1]) (rest := []) rfl rfl ⟨rfl, rfl, Nat.le_of_ble_eq_true rfl, Nat.le_of_ble_eq_true rfl⟩ (Nat.le_of_ble_eq_true rfl) (Nat.zero_le _) (Nat.zero_le _) dX12_areAlike_2 (fun H locs hW => ?_)
  clear hC1
  refine lv_aload_n hx hb dX12_areAlike_5 rfl (lv_at hl 0 rfl) ?_
  refine lv_iload_n hx hb dX12_areAlike_6 rfl (lv_at hl 2 rfl) ?_
  obtain ⟨r7, hC2, hF⟩ := bO_s1 hF
  refine m_callV X hW hA hl.1 lkX12_196 (c_R_lengthOf l E _ N a_t a_t_images a_t_kept a_t_aside a_t_limbs a_t_wide a_t_hears a_t_spies a_t_known a_t_by a_t_ways a_t_fewest a_t_heavy a_t_sums a_t_faces a_t_bestFaces a_t_text a_t_verbs a_t_many a_t_nums a_t_book t_typed t_at t_start t_token t_value t_items t_book p2 r7 hC2) ([0, 1]) (by decide) rfl rfl (ws' := (wd_R_areAlike E a_t a_t_images a_t_kept a_t_aside a_t_limbs a_t_wide a_t_hears a_t_spies a_t_known a_t_by a_t_ways a_t_fewest a_t_heavy a_t_sums a_t_faces a_t_bestFaces a_t_text a_t_verbs a_t_many a_t_nums a_t_book t_typed t_at t_start t_token t_value t_items t_book)) rfl 0 rfl rfl rfl (As := [.int p2]) (rest := [.int r2]) rfl rfl ⟨rfl, rfl, Nat.le_of_ble_eq_true rfl, Nat.le_of_ble_eq_true rfl⟩ (Nat.le_of_ble_eq_true rfl) (Nat.zero_le _) (Nat.zero_le _) dX12_areAlike_7 (fun H locs hW => ?_)
  clear hC2
  refine lv_icmp_ne (tgt := 26) hx hb dX12_areAlike_10 (by decide) (fun c3 => ?_) (fun c3 => ?_)
  · have hF := if_n c3 hF
    refine lv_iconst (v := (0 : Int32)) hx hb dX12_areAlike_26 (by decide) ?_
    have hq := Option.some.inj hF
    subst hq
    exact hret _ _ _ _ _ rfl hW dX12_areAlike_27
  · have hF := if_y c3 hF
    refine lv_aload_n hx hb dX12_areAlike_13 rfl (lv_at hl 0 rfl) ?_
    refine lv_iload_n hx hb dX12_areAlike_14 rfl (lv_at hl 1 rfl) ?_
    refine lv_iload_n hx hb dX12_areAlike_15 rfl (lv_at hl 2 rfl) ?_
    obtain ⟨r16, hC4, hF⟩ := bO_s1 hF
    refine m_callV X hW hA hl.1 lkX12_202 (c_R_unlike l E _ N a_t a_t_images a_t_kept a_t_aside a_t_limbs a_t_wide a_t_hears a_t_spies a_t_known a_t_by a_t_ways a_t_fewest a_t_heavy a_t_sums a_t_faces a_t_bestFaces a_t_text a_t_verbs a_t_many a_t_nums a_t_book t_typed t_at t_start t_token t_value t_items t_book p1 p2 r16 hC4) ([0, 1]) (by decide) rfl rfl (ws' := (wd_R_areAlike E a_t a_t_images a_t_kept a_t_aside a_t_limbs a_t_wide a_t_hears a_t_spies a_t_known a_t_by a_t_ways a_t_fewest a_t_heavy a_t_sums a_t_faces a_t_bestFaces a_t_text a_t_verbs a_t_many a_t_nums a_t_book t_typed t_at t_start t_token t_value t_items t_book)) rfl 0 rfl rfl rfl (As := [.int p1, .int p2]) (rest := []) rfl rfl ⟨rfl, rfl, Nat.le_of_ble_eq_true rfl, Nat.le_of_ble_eq_true rfl⟩ (Nat.le_of_ble_eq_true rfl) (Nat.zero_le _) (Nat.zero_le _) dX12_areAlike_16 (fun H locs hW => ?_)
    clear hC4
    refine lv_if_ne (tgt := 26) hx hb dX12_areAlike_19 (by decide) (fun c5 => ?_) (fun c5 => ?_)
    · have hF := if_n c5 hF
      refine lv_iconst (v := (0 : Int32)) hx hb dX12_areAlike_26 (by decide) ?_
      have hq := Option.some.inj hF
      subst hq
      exact hret _ _ _ _ _ rfl hW dX12_areAlike_27
    · have hF := if_y c5 hF
      refine lv_iconst (v := (1 : Int32)) hx hb dX12_areAlike_22 (by decide) ?_
      refine lv_goto (tgt := 27) hx hb dX12_areAlike_23 (by decide) ?_
      have hq := Option.some.inj hF
      subst hq
      exact hret _ _ _ _ _ rfl hW dX12_areAlike_27
abbrev wd_R_alike (E : m_E) (a_t : Nat) (a_t_images : Nat) (a_t_kept : Nat) (a_t_aside : Nat) (a_t_limbs : Nat) (a_t_wide : Nat) (a_t_hears : Nat) (a_t_spies : Nat) (a_t_known : Nat) (a_t_by : Nat) (a_t_ways : Nat) (a_t_fewest : Nat) (a_t_heavy : Nat) (a_t_sums : Nat) (a_t_faces : Nat) (a_t_bestFaces : Nat) (a_t_text : Nat) (a_t_verbs : Nat) (a_t_many : Nat) (a_t_nums : Nat) (a_t_book : Nat) (t_typed : Int32) (t_at : Int32) (t_start : Int32) (t_token : Int32) (t_value : Int32) (t_items : Int32) (t_book : Nat → Int32) : va_W := [(a_t, .inr (12, [.ref a_t_book, .ref a_t_images, .ref a_t_kept, .ref a_t_aside, .ref a_t_limbs, .ref a_t_wide, .ref a_t_hears, .ref a_t_spies, .ref a_t_known, .ref a_t_by, .ref a_t_ways, .ref a_t_fewest, .ref a_t_heavy, .ref a_t_sums, .ref a_t_faces, .ref a_t_bestFaces, .ref a_t_text, .int t_typed, .int t_at, .int t_start, .int t_token, .int t_value, .ref a_t_verbs, .ref a_t_many, .ref a_t_nums, .int t_items])), (a_t_book, .inl (E.2.1 0, 240, .inl t_book))]
def rm_R_alike : Room := { frames := 4, cells := 0, slots := 0, locals := 90 }
set_option maxHeartbeats 4000000 in
set_option maxRecDepth 100000 in
theorem c_R_alike (l : Launch) (E : m_E) (sz N : Nat) (a_t : Nat) (a_t_images : Nat) (a_t_kept : Nat) (a_t_aside : Nat) (a_t_limbs : Nat) (a_t_wide : Nat) (a_t_hears : Nat) (a_t_spies : Nat) (a_t_known : Nat) (a_t_by : Nat) (a_t_ways : Nat) (a_t_fewest : Nat) (a_t_heavy : Nat) (a_t_sums : Nat) (a_t_faces : Nat) (a_t_bestFaces : Nat) (a_t_text : Nat) (a_t_verbs : Nat) (a_t_many : Nat) (a_t_nums : Nat) (a_t_book : Nat) (t_typed : Int32) (t_at : Int32) (t_start : Int32) (t_token : Int32) (t_value : Int32) (t_items : Int32) (t_book : Nat → Int32) (p1 : Int32) (p2 : Int32) (ures : Int32) (hF : F_R_alike N p1 p2 t_book = some ures) : m_Met l yX12_alike cX12_alike 3 (some .int) rm_R_alike E (wd_R_alike E a_t a_t_images a_t_kept a_t_aside a_t_limbs a_t_wide a_t_hears a_t_spies a_t_known a_t_by a_t_ways a_t_fewest a_t_heavy a_t_sums a_t_faces a_t_bestFaces a_t_text a_t_verbs a_t_many a_t_nums a_t_book t_typed t_at t_start t_token t_value t_items t_book) (wd_R_alike E a_t a_t_images a_t_kept a_t_aside a_t_limbs a_t_wide a_t_hears a_t_spies a_t_known a_t_by a_t_ways a_t_fewest a_t_heavy a_t_sums a_t_faces a_t_bestFaces a_t_text a_t_verbs a_t_many a_t_nums a_t_book t_typed t_at t_start t_token t_value t_items t_book) sz [.ref a_t, .int p1, .int p2] (some (.int ures)) := by
  refine m_ofI (by decide) (Nat.le_of_ble_eq_true rfl) ?_
  intro p e s m args below meth c A Q ls X hW hA hl hret
  obtain ⟨hx, hb, -, hown, hts, hK, -, hG⟩ := id X
  have hl : lv_has ls 3 [(0, .ref a_t), (1, .int p1), (2, .int p2)] := hl
  unfold F_R_alike at hF
  refine lv_aload_n hx hb dX12_alike_0 rfl (lv_at hl 0 rfl) ?_
  refine lv_iload_n hx hb dX12_alike_1 rfl (lv_at hl 1 rfl) ?_
  refine m_callV X hW hA hl.1 lkX12_205 (c_R_isWord l E _ N a_t a_t_images a_t_kept a_t_aside a_t_limbs a_t_wide a_t_hears a_t_spies a_t_known a_t_by a_t_ways a_t_fewest a_t_heavy a_t_sums a_t_faces a_t_bestFaces a_t_text a_t_verbs a_t_many a_t_nums a_t_book t_typed t_at t_start t_token t_value t_items t_book p1 (F_R_isWord p1 t_book) rfl) ([0, 1]) (by decide) rfl rfl (ws' := (wd_R_alike E a_t a_t_images a_t_kept a_t_aside a_t_limbs a_t_wide a_t_hears a_t_spies a_t_known a_t_by a_t_ways a_t_fewest a_t_heavy a_t_sums a_t_faces a_t_bestFaces a_t_text a_t_verbs a_t_many a_t_nums a_t_book t_typed t_at t_start t_token t_value t_items t_book)) rfl 0 rfl rfl rfl (As := [.int p1]) (rest := []) rfl rfl ⟨rfl, rfl, Nat.le_of_ble_eq_true rfl, Nat.le_of_ble_eq_true rfl⟩ (Nat.le_of_ble_eq_true rfl) (Nat.zero_le _) (Nat.zero_le _) dX12_alike_2 (fun H locs hW => ?_)
  refine lv_if_eq (tgt := 16) hx hb dX12_alike_5 (by decide) (fun c1 => ?_) (fun c1 => ?_)
  · have hF := if_y c1 hF
    refine lv_bipush (v := (-2 : Int32)) hx hb dX12_alike_16 (by decide) ?_
    refine lv_goto (tgt := 35) hx hb dX12_alike_18 (by decide) ?_
    have hq := Option.some.inj hF
    subst hq
    exact hret _ _ _ _ hW dX12_alike_35
  · have hF := if_n c1 hF
    refine lv_aload_n hx hb dX12_alike_8 rfl (lv_at hl 0 rfl) ?_
    refine lv_iload_n hx hb dX12_alike_9 rfl (lv_at hl 2 rfl) ?_
    refine m_callV X hW hA hl.1 lkX12_205 (c_R_isWord l E _ N a_t a_t_images a_t_kept a_t_aside a_t_limbs a_t_wide a_t_hears a_t_spies a_t_known a_t_by a_t_ways a_t_fewest a_t_heavy a_t_sums a_t_faces a_t_bestFaces a_t_text a_t_verbs a_t_many a_t_nums a_t_book t_typed t_at t_start t_token t_value t_items t_book p2 (F_R_isWord p2 t_book) rfl) ([0, 1]) (by decide) rfl rfl (ws' := (wd_R_alike E a_t a_t_images a_t_kept a_t_aside a_t_limbs a_t_wide a_t_hears a_t_spies a_t_known a_t_by a_t_ways a_t_fewest a_t_heavy a_t_sums a_t_faces a_t_bestFaces a_t_text a_t_verbs a_t_many a_t_nums a_t_book t_typed t_at t_start t_token t_value t_items t_book)) rfl 0 rfl rfl rfl (As := [.int p2]) (rest := []) rfl rfl ⟨rfl, rfl, Nat.le_of_ble_eq_true rfl, Nat.le_of_ble_eq_true rfl⟩ (Nat.le_of_ble_eq_true rfl) (Nat.zero_le _) (Nat.zero_le _) dX12_alike_10 (fun H locs hW => ?_)
    refine lv_if_ne (tgt := 21) hx hb dX12_alike_13 (by decide) (fun c2 => ?_) (fun c2 => ?_)
    · have hF := if_n c2 hF
      refine lv_aload_n hx hb dX12_alike_21 rfl (lv_at hl 0 rfl) ?_
      refine lv_iload_n hx hb dX12_alike_22 rfl (lv_at hl 1 rfl) ?_
      refine lv_iload_n hx hb dX12_alike_23 rfl (lv_at hl 2 rfl) ?_
      obtain ⟨r24, hC3, hF⟩ := bO_s1 hF
      refine m_callV X hW hA hl.1 lkX12_208 (c_R_areAlike l E _ N a_t a_t_images a_t_kept a_t_aside a_t_limbs a_t_wide a_t_hears a_t_spies a_t_known a_t_by a_t_ways a_t_fewest a_t_heavy a_t_sums a_t_faces a_t_bestFaces a_t_text a_t_verbs a_t_many a_t_nums a_t_book t_typed t_at t_start t_token t_value t_items t_book p1 p2 r24 hC3) ([0, 1]) (by decide) rfl rfl (ws' := (wd_R_alike E a_t a_t_images a_t_kept a_t_aside a_t_limbs a_t_wide a_t_hears a_t_spies a_t_known a_t_by a_t_ways a_t_fewest a_t_heavy a_t_sums a_t_faces a_t_bestFaces a_t_text a_t_verbs a_t_many a_t_nums a_t_book t_typed t_at t_start t_token t_value t_items t_book)) rfl 0 rfl rfl rfl (As := [.int p1, .int p2]) (rest := []) rfl rfl ⟨rfl, rfl, Nat.le_of_ble_eq_true rfl, Nat.le_of_ble_eq_true rfl⟩ (Nat.le_of_ble_eq_true rfl) (Nat.zero_le _) (Nat.zero_le _) dX12_alike_24 (fun H locs hW => ?_)
      clear hC3
      refine lv_if_eq (tgt := 34) hx hb dX12_alike_27 (by decide) (fun c4 => ?_) (fun c4 => ?_)
      · have hF := if_y c4 hF
        refine lv_iconst (v := (0 : Int32)) hx hb dX12_alike_34 (by decide) ?_
        have hq := Option.some.inj hF
        subst hq
        exact hret _ _ _ _ hW dX12_alike_35
      · have hF := if_n c4 hF
        refine lv_iconst (v := (1 : Int32)) hx hb dX12_alike_30 (by decide) ?_
        refine lv_goto (tgt := 35) hx hb dX12_alike_31 (by decide) ?_
        have hq := Option.some.inj hF
        subst hq
        exact hret _ _ _ _ hW dX12_alike_35
    · have hF := if_y c2 hF
      refine lv_bipush (v := (-2 : Int32)) hx hb dX12_alike_16 (by decide) ?_
      refine lv_goto (tgt := 35) hx hb dX12_alike_18 (by decide) ?_
      have hq := Option.some.inj hF
      subst hq
      exact hret _ _ _ _ hW dX12_alike_35
abbrev wd_R_lip (E : m_E) (a_t : Nat) (a_t_images : Nat) (a_t_kept : Nat) (a_t_aside : Nat) (a_t_limbs : Nat) (a_t_wide : Nat) (a_t_hears : Nat) (a_t_spies : Nat) (a_t_known : Nat) (a_t_by : Nat) (a_t_ways : Nat) (a_t_fewest : Nat) (a_t_heavy : Nat) (a_t_sums : Nat) (a_t_faces : Nat) (a_t_bestFaces : Nat) (a_t_text : Nat) (a_t_verbs : Nat) (a_t_many : Nat) (a_t_nums : Nat) (a_t_book : Nat) (t_typed : Int32) (t_at : Int32) (t_start : Int32) (t_token : Int32) (t_value : Int32) (t_items : Int32) (t_book : Nat → Int32) : va_W := [(a_t, .inr (12, [.ref a_t_book, .ref a_t_images, .ref a_t_kept, .ref a_t_aside, .ref a_t_limbs, .ref a_t_wide, .ref a_t_hears, .ref a_t_spies, .ref a_t_known, .ref a_t_by, .ref a_t_ways, .ref a_t_fewest, .ref a_t_heavy, .ref a_t_sums, .ref a_t_faces, .ref a_t_bestFaces, .ref a_t_text, .int t_typed, .int t_at, .int t_start, .int t_token, .int t_value, .ref a_t_verbs, .ref a_t_many, .ref a_t_nums, .int t_items])), (a_t_book, .inl (E.2.1 0, 240, .inl t_book))]
def rm_R_lip : Room := { frames := 1, cells := 0, slots := 0, locals := 25 }
set_option maxHeartbeats 4000000 in
set_option maxRecDepth 100000 in
theorem c_R_lip (l : Launch) (E : m_E) (sz N : Nat) (a_t : Nat) (a_t_images : Nat) (a_t_kept : Nat) (a_t_aside : Nat) (a_t_limbs : Nat) (a_t_wide : Nat) (a_t_hears : Nat) (a_t_spies : Nat) (a_t_known : Nat) (a_t_by : Nat) (a_t_ways : Nat) (a_t_fewest : Nat) (a_t_heavy : Nat) (a_t_sums : Nat) (a_t_faces : Nat) (a_t_bestFaces : Nat) (a_t_text : Nat) (a_t_verbs : Nat) (a_t_many : Nat) (a_t_nums : Nat) (a_t_book : Nat) (t_typed : Int32) (t_at : Int32) (t_start : Int32) (t_token : Int32) (t_value : Int32) (t_items : Int32) (t_book : Nat → Int32) (p1 : Int32) (ures : Int32 × (Nat → Int32)) (hF : F_R_lip p1 t_book = some ures) : m_Met l yX12_lip cX12_lip 2 (some .int) rm_R_lip E (wd_R_lip E a_t a_t_images a_t_kept a_t_aside a_t_limbs a_t_wide a_t_hears a_t_spies a_t_known a_t_by a_t_ways a_t_fewest a_t_heavy a_t_sums a_t_faces a_t_bestFaces a_t_text a_t_verbs a_t_many a_t_nums a_t_book t_typed t_at t_start t_token t_value t_items t_book) (wd_R_lip E a_t a_t_images a_t_kept a_t_aside a_t_limbs a_t_wide a_t_hears a_t_spies a_t_known a_t_by a_t_ways a_t_fewest a_t_heavy a_t_sums a_t_faces a_t_bestFaces a_t_text a_t_verbs a_t_many a_t_nums a_t_book t_typed t_at t_start t_token t_value t_items ures.2) sz [.ref a_t, .int p1] (some (.int ures.1)) := by
  refine m_ofI (by decide) (Nat.le_of_ble_eq_true rfl) ?_
  intro p e s m args below meth c A Q ls X hW hA hl hret
  obtain ⟨hx, hb, -, hown, hts, hK, -, hG⟩ := id X
  have hl : lv_has ls 2 [(0, .ref a_t), (1, .int p1)] := hl
  unfold F_R_lip at hF
  refine lv_iload_n hx hb dX12_lip_0 rfl (lv_at hl 1 rfl) ?_
  refine lv_i2l (v := p1.toInt64) hx hb dX12_lip_1 rfl ?_
  refine lv_lconst (v := (0 : Int64)) hx hb dX12_lip_2 (by decide) ?_
  refine lv_ldc2 (v := (5 : Int64)) hx hb hown (hts _ wk_1349) dX12_lip_3 ?_
  refine m_callS X hW hA hl.1 lkX12_109 (c_R_in l E _ N   p1.toInt64 (0 : Int64) (5 : Int64) (F_R_in p1.toInt64 (0 : Int64) (5 : Int64)) rfl) ([]) (by decide) rfl rfl (ws' := (wd_R_lip E a_t a_t_images a_t_kept a_t_aside a_t_limbs a_t_wide a_t_hears a_t_spies a_t_known a_t_by a_t_ways a_t_fewest a_t_heavy a_t_sums a_t_faces a_t_bestFaces a_t_text a_t_verbs a_t_many a_t_nums a_t_book t_typed t_at t_start t_token t_value t_items t_book)) rfl (As := [.long p1.toInt64, .long (0 : Int64), .long (5 : Int64)]) (rest := []) rfl rfl ⟨rfl, rfl, Nat.le_of_ble_eq_true rfl, Nat.le_of_ble_eq_true rfl⟩ (Nat.le_of_ble_eq_true rfl) (Nat.zero_le _) (Nat.zero_le _) dX12_lip_6 (fun H locs hW => ?_)
  refine lv_if_ne (tgt := 15) hx hb dX12_lip_9 (by decide) (fun c1 => ?_) (fun c1 => ?_)
  · have hF := if_n c1 hF
    refine lv_aload_n hx hb dX12_lip_15 rfl (lv_at hl 0 rfl) ?_
    refine m_get X hW fdX12_7 0 rfl rfl dX12_lip_16 ?_
    refine lv_iconst (v := (4 : Int32)) hx hb dX12_lip_19 (by decide) ?_
    refine m_iald X hW 1 (k := 4) rfl (by decide) rfl dX12_lip_20 ?_
    refine lv_bipush (v := (24 : Int32)) hx hb dX12_lip_21 (by decide) ?_
    refine lv_icmp_ne (tgt := 29) hx hb dX12_lip_23 (by decide) (fun c2 => ?_) (fun c2 => ?_)
    · have hF := if_n c2 hF
      refine lv_aload_n hx hb dX12_lip_29 rfl (lv_at hl 0 rfl) ?_
      refine m_get X hW fdX12_7 0 rfl rfl dX12_lip_30 ?_
      refine lv_sipush (v := (190 : Int32)) hx hb dX12_lip_33 (by decide) ?_
      refine lv_aload_n hx hb dX12_lip_36 rfl (lv_at hl 0 rfl) ?_
      refine m_get X hW fdX12_7 0 rfl rfl dX12_lip_37 ?_
      refine lv_iconst (v := (4 : Int32)) hx hb dX12_lip_40 (by decide) ?_
      refine m_iald X hW 1 (k := 4) rfl (by decide) rfl dX12_lip_41 ?_
      refine lv_iadd hx hb dX12_lip_42 ?_
      refine lv_iload_n hx hb dX12_lip_43 rfl (lv_at hl 1 rfl) ?_
      obtain ⟨g3, hF⟩ := gd_some hF
      refine m_iast X hW 1 (k := ((190 : Int32) + (t_book 4)).toNatClampNeg) rfl g3 rfl dX12_lip_44 (ws' := (wd_R_lip E a_t a_t_images a_t_kept a_t_aside a_t_limbs a_t_wide a_t_hears a_t_spies a_t_known a_t_by a_t_ways a_t_fewest a_t_heavy a_t_sums a_t_faces a_t_bestFaces a_t_text a_t_verbs a_t_many a_t_nums a_t_book t_typed t_at t_start t_token t_value t_items (upd t_book ((190 : Int32) + (t_book 4)).toNatClampNeg p1))) rfl (fun H locs hW => ?_)
      refine lv_aload_n hx hb dX12_lip_45 rfl (lv_at hl 0 rfl) ?_
      refine m_get X hW fdX12_7 0 rfl rfl dX12_lip_46 ?_
      refine lv_iconst (v := (4 : Int32)) hx hb dX12_lip_49 (by decide) ?_
      refine lv_dup2_11 hx hb dX12_lip_50 rfl rfl ?_
      refine m_iald X hW 1 (k := 4) rfl (by decide) rfl dX12_lip_51 ?_
      refine lv_iconst (v := (1 : Int32)) hx hb dX12_lip_52 (by decide) ?_
      refine lv_iadd hx hb dX12_lip_53 ?_
      refine m_iast X hW 1 (k := 4) rfl (by decide) rfl dX12_lip_54 (ws' := (wd_R_lip E a_t a_t_images a_t_kept a_t_aside a_t_limbs a_t_wide a_t_hears a_t_spies a_t_known a_t_by a_t_ways a_t_fewest a_t_heavy a_t_sums a_t_faces a_t_bestFaces a_t_text a_t_verbs a_t_many a_t_nums a_t_book t_typed t_at t_start t_token t_value t_items (upd (upd t_book ((190 : Int32) + (t_book 4)).toNatClampNeg p1) 4 (((upd t_book ((190 : Int32) + (t_book 4)).toNatClampNeg p1) 4) + (1 : Int32))))) rfl (fun H locs hW => ?_)
      refine lv_aload_n hx hb dX12_lip_55 rfl (lv_at hl 0 rfl) ?_
      refine m_get X hW fdX12_7 0 rfl rfl dX12_lip_56 ?_
      refine lv_iconst (v := (4 : Int32)) hx hb dX12_lip_59 (by decide) ?_
      refine m_iald X hW 1 (k := 4) rfl (by decide) rfl dX12_lip_60 ?_
      have hq := Option.some.inj hF
      subst hq
      exact hret _ _ _ _ hW dX12_lip_61
    · have hF := if_y c2 hF
      refine lv_bipush (v := (-4 : Int32)) hx hb dX12_lip_26 (by decide) ?_
      have hq := Option.some.inj hF
      subst hq
      exact hret _ _ _ _ hW dX12_lip_28
  · have hF := if_y c1 hF
    refine lv_bipush (v := (-2 : Int32)) hx hb dX12_lip_12 (by decide) ?_
    have hq := Option.some.inj hF
    subst hq
    exact hret _ _ _ _ hW dX12_lip_14
