abbrev wd_R_girl (E : m_E) (a_t : Nat) (a_t_images : Nat) (a_t_kept : Nat) (a_t_aside : Nat) (a_t_limbs : Nat) (a_t_wide : Nat) (a_t_hears : Nat) (a_t_spies : Nat) (a_t_known : Nat) (a_t_by : Nat) (a_t_ways : Nat) (a_t_fewest : Nat) (a_t_heavy : Nat) (a_t_sums : Nat) (a_t_faces : Nat) (a_t_bestFaces : Nat) (a_t_text : Nat) (a_t_verbs : Nat) (a_t_many : Nat) (a_t_nums : Nat) (a_t_book : Nat) (t_typed : Int32) (t_at : Int32) (t_start : Int32) (t_token : Int32) (t_value : Int32) (t_items : Int32) (t_book : Nat → Int32) : va_W := [(a_t, .inr (12, [.ref a_t_book, .ref a_t_images, .ref a_t_kept, .ref a_t_aside, .ref a_t_limbs, .ref a_t_wide, .ref a_t_hears, .ref a_t_spies, .ref a_t_known, .ref a_t_by, .ref a_t_ways, .ref a_t_fewest, .ref a_t_heavy, .ref a_t_sums, .ref a_t_faces, .ref a_t_bestFaces, .ref a_t_text, .int t_typed, .int t_at, .int t_start, .int t_token, .int t_value, .ref a_t_verbs, .ref a_t_many, .ref a_t_nums, .int t_items])), (a_t_book, .inl (E.2.1 0, 240, .inl t_book))]
def rm_R_girl : Room := { frames := 1, cells := 0, slots := 0, locals := 25 }
set_option maxHeartbeats 4000000 in
set_option maxRecDepth 100000 in
theorem c_R_girl (l : Launch) (E : m_E) (sz N : Nat) (a_t : Nat) (a_t_images : Nat) (a_t_kept : Nat) (a_t_aside : Nat) (a_t_limbs : Nat) (a_t_wide : Nat) (a_t_hears : Nat) (a_t_spies : Nat) (a_t_known : Nat) (a_t_by : Nat) (a_t_ways : Nat) (a_t_fewest : Nat) (a_t_heavy : Nat) (a_t_sums : Nat) (a_t_faces : Nat) (a_t_bestFaces : Nat) (a_t_text : Nat) (a_t_verbs : Nat) (a_t_many : Nat) (a_t_nums : Nat) (a_t_book : Nat) (t_typed : Int32) (t_at : Int32) (t_start : Int32) (t_token : Int32) (t_value : Int32) (t_items : Int32) (t_book : Nat → Int32) (p1 : Int32) (ures : Int32 × (Nat → Int32)) (hF : F_R_girl p1 t_book = some ures) : m_Met l yX12_girl cX12_girl 2 (some .int) rm_R_girl E (wd_R_girl E a_t a_t_images a_t_kept a_t_aside a_t_limbs a_t_wide a_t_hears a_t_spies a_t_known a_t_by a_t_ways a_t_fewest a_t_heavy a_t_sums a_t_faces a_t_bestFaces a_t_text a_t_verbs a_t_many a_t_nums a_t_book t_typed t_at t_start t_token t_value t_items t_book) (wd_R_girl E a_t a_t_images a_t_kept a_t_aside a_t_limbs a_t_wide a_t_hears a_t_spies a_t_known a_t_by a_t_ways a_t_fewest a_t_heavy a_t_sums a_t_faces a_t_bestFaces a_t_text a_t_verbs a_t_many a_t_nums a_t_book t_typed t_at t_start t_token t_value t_items ures.2) sz [.ref a_t, .int p1] (some (.int ures.1)) := by
  refine m_ofI (by decide) (Nat.le_of_ble_eq_true rfl) ?_
  intro p e s m args below meth c A Q ls X hW hA hl hret
  obtain ⟨hx, hb, -, hown, hts, hK, -, hG⟩ := id X
  have hl : lv_has ls 2 [(0, .ref a_t), (1, .int p1)] := hl
  unfold F_R_girl at hF
  refine lv_iload_n hx hb dX12_girl_0 rfl (lv_at hl 1 rfl) ?_
  refine lv_i2l (v := p1.toInt64) hx hb dX12_girl_1 rfl ?_
  refine lv_lconst (v := (0 : Int64)) hx hb dX12_girl_2 (by decide) ?_
  refine lv_aload_n hx hb dX12_girl_3 rfl (lv_at hl 0 rfl) ?_
  refine m_callV X hW hA hl.1 lkX12_225 (c_R_allWords l E _ N a_t a_t_images a_t_kept a_t_aside a_t_limbs a_t_wide a_t_hears a_t_spies a_t_known a_t_by a_t_ways a_t_fewest a_t_heavy a_t_sums a_t_faces a_t_bestFaces a_t_text a_t_verbs a_t_many a_t_nums a_t_book t_typed t_at t_start t_token t_value t_items t_book  (F_R_allWords t_book) rfl) ([0, 1]) (by decide) rfl rfl (ws' := (wd_R_girl E a_t a_t_images a_t_kept a_t_aside a_t_limbs a_t_wide a_t_hears a_t_spies a_t_known a_t_by a_t_ways a_t_fewest a_t_heavy a_t_sums a_t_faces a_t_bestFaces a_t_text a_t_verbs a_t_many a_t_nums a_t_book t_typed t_at t_start t_token t_value t_items t_book)) rfl 0 rfl rfl rfl (As := []) (rest := [.long (0 : Int64), .long p1.toInt64]) rfl rfl ⟨rfl, rfl, Nat.le_of_ble_eq_true rfl, Nat.le_of_ble_eq_true rfl⟩ (Nat.le_of_ble_eq_true rfl) (Nat.zero_le _) (Nat.zero_le _) dX12_girl_4 (fun H locs hW => ?_)
  refine lv_i2l (v := (F_R_allWords t_book).toInt64) hx hb dX12_girl_7 rfl ?_
  refine m_callS X hW hA hl.1 lkX12_109 (c_R_in l E _ N   p1.toInt64 (0 : Int64) (F_R_allWords t_book).toInt64 (F_R_in p1.toInt64 (0 : Int64) (F_R_allWords t_book).toInt64) rfl) ([]) (by decide) rfl rfl (ws' := (wd_R_girl E a_t a_t_images a_t_kept a_t_aside a_t_limbs a_t_wide a_t_hears a_t_spies a_t_known a_t_by a_t_ways a_t_fewest a_t_heavy a_t_sums a_t_faces a_t_bestFaces a_t_text a_t_verbs a_t_many a_t_nums a_t_book t_typed t_at t_start t_token t_value t_items t_book)) rfl (As := [.long p1.toInt64, .long (0 : Int64), .long (F_R_allWords t_book).toInt64]) (rest := []) rfl rfl ⟨rfl, rfl, Nat.le_of_ble_eq_true rfl, Nat.le_of_ble_eq_true rfl⟩ (Nat.le_of_ble_eq_true rfl) (Nat.zero_le _) (Nat.zero_le _) dX12_girl_8 (fun H locs hW => ?_)
  refine lv_if_eq (tgt := 24) hx hb dX12_girl_11 (by decide) (fun c1 => ?_) (fun c1 => ?_)
  · have hF := if_y c1 hF
    refine lv_bipush (v := (-2 : Int32)) hx hb dX12_girl_24 (by decide) ?_
    have hq := Option.some.inj hF
    subst hq
    exact hret _ _ _ _ hW dX12_girl_26
  · have hF := if_n c1 hF
    refine lv_aload_n hx hb dX12_girl_14 rfl (lv_at hl 0 rfl) ?_
    refine lv_bipush (v := (9 : Int32)) hx hb dX12_girl_15 (by decide) ?_
    refine lv_iload_n hx hb dX12_girl_17 rfl (lv_at hl 1 rfl) ?_
    obtain ⟨r18, t_book'_2, hC2, hF⟩ := bO_s2 hF
    refine m_callV X hW hA hl.1 lkX12_130 (c_R_puts l E _ N a_t a_t_images a_t_kept a_t_aside a_t_limbs a_t_wide a_t_hears a_t_spies a_t_known a_t_by a_t_ways a_t_fewest a_t_heavy a_t_sums a_t_faces a_t_bestFaces a_t_text a_t_verbs a_t_many a_t_nums a_t_book t_typed t_at t_start t_token t_value t_items t_book (9 : Int32) p1 (r18, t_book'_2) hC2) ([0, 1]) (by decide) rfl rfl (ws' := (wd_R_girl E a_t a_t_images a_t_kept a_t_aside a_t_limbs a_t_wide a_t_hears a_t_spies a_t_known a_t_by a_t_ways a_t_fewest a_t_heavy a_t_sums a_t_faces a_t_bestFaces a_t_text a_t_verbs a_t_many a_t_nums a_t_book t_typed t_at t_start t_token t_value t_items t_book'_2)) rfl 0 rfl rfl rfl (As := [.int (9 : Int32), .int p1]) (rest := []) rfl rfl ⟨rfl, rfl, Nat.le_of_ble_eq_true rfl, Nat.le_of_ble_eq_true rfl⟩ (Nat.le_of_ble_eq_true rfl) (Nat.zero_le _) (Nat.zero_le _) dX12_girl_18 (fun H locs hW => ?_)
    clear hC2
    refine lv_goto (tgt := 26) hx hb dX12_girl_21 (by decide) ?_
    have hq := Option.some.inj hF
    subst hq
    exact hret _ _ _ _ hW dX12_girl_26
abbrev wd_R_getsOf (E : m_E) (a_t : Nat) (a_t_images : Nat) (a_t_kept : Nat) (a_t_aside : Nat) (a_t_limbs : Nat) (a_t_wide : Nat) (a_t_hears : Nat) (a_t_spies : Nat) (a_t_known : Nat) (a_t_by : Nat) (a_t_ways : Nat) (a_t_fewest : Nat) (a_t_heavy : Nat) (a_t_sums : Nat) (a_t_faces : Nat) (a_t_bestFaces : Nat) (a_t_text : Nat) (a_t_verbs : Nat) (a_t_many : Nat) (a_t_nums : Nat) (a_t_book : Nat) (t_typed : Int32) (t_at : Int32) (t_start : Int32) (t_token : Int32) (t_value : Int32) (t_items : Int32) (t_book : Nat → Int32) : va_W := [(a_t, .inr (12, [.ref a_t_book, .ref a_t_images, .ref a_t_kept, .ref a_t_aside, .ref a_t_limbs, .ref a_t_wide, .ref a_t_hears, .ref a_t_spies, .ref a_t_known, .ref a_t_by, .ref a_t_ways, .ref a_t_fewest, .ref a_t_heavy, .ref a_t_sums, .ref a_t_faces, .ref a_t_bestFaces, .ref a_t_text, .int t_typed, .int t_at, .int t_start, .int t_token, .int t_value, .ref a_t_verbs, .ref a_t_many, .ref a_t_nums, .int t_items])), (a_t_book, .inl (E.2.1 0, 240, .inl t_book))]
def rm_R_getsOf : Room := { frames := 4, cells := 0, slots := 0, locals := 90 }
set_option maxHeartbeats 4000000 in
set_option maxRecDepth 100000 in
theorem c_R_getsOf (l : Launch) (E : m_E) (sz N : Nat) (a_t : Nat) (a_t_images : Nat) (a_t_kept : Nat) (a_t_aside : Nat) (a_t_limbs : Nat) (a_t_wide : Nat) (a_t_hears : Nat) (a_t_spies : Nat) (a_t_known : Nat) (a_t_by : Nat) (a_t_ways : Nat) (a_t_fewest : Nat) (a_t_heavy : Nat) (a_t_sums : Nat) (a_t_faces : Nat) (a_t_bestFaces : Nat) (a_t_text : Nat) (a_t_verbs : Nat) (a_t_many : Nat) (a_t_nums : Nat) (a_t_book : Nat) (t_typed : Int32) (t_at : Int32) (t_start : Int32) (t_token : Int32) (t_value : Int32) (t_items : Int32) (t_book : Nat → Int32) (p1 : Int32) (ures : Int32) (hF : F_R_getsOf N p1 t_book = some ures) : m_Met l yX12_getsOf cX12_getsOf 7 (some .int) rm_R_getsOf E (wd_R_getsOf E a_t a_t_images a_t_kept a_t_aside a_t_limbs a_t_wide a_t_hears a_t_spies a_t_known a_t_by a_t_ways a_t_fewest a_t_heavy a_t_sums a_t_faces a_t_bestFaces a_t_text a_t_verbs a_t_many a_t_nums a_t_book t_typed t_at t_start t_token t_value t_items t_book) (wd_R_getsOf E a_t a_t_images a_t_kept a_t_aside a_t_limbs a_t_wide a_t_hears a_t_spies a_t_known a_t_by a_t_ways a_t_fewest a_t_heavy a_t_sums a_t_faces a_t_bestFaces a_t_text a_t_verbs a_t_many a_t_nums a_t_book t_typed t_at t_start t_token t_value t_items t_book) sz [.ref a_t, .int p1] (some (.int ures)) := by
  refine m_ofI (by decide) (Nat.le_of_ble_eq_true rfl) ?_
  intro p e s m args below meth c A Q ls X hW hA hl hret
  obtain ⟨hx, hb, -, hown, hts, hK, -, hG⟩ := id X
  have hl : lv_has ls 7 [(0, .ref a_t), (1, .int p1)] := hl
  unfold F_R_getsOf at hF
  refine lv_iconst (v := (0 : Int32)) hx hb dX12_getsOf_0 (by decide) ?_
  refine lv_istore_n (lv' := [(2, .int (0 : Int32)), (0, .ref a_t), (1, .int p1)]) hx hb dX12_getsOf_1 rfl hl (by decide) rfl (fun ls hl => ?_)
  refine lv_iconst (v := (0 : Int32)) hx hb dX12_getsOf_2 (by decide) ?_
  refine lv_istore_n (lv' := [(3, .int (0 : Int32)), (2, .int (0 : Int32)), (0, .ref a_t), (1, .int p1)]) hx hb dX12_getsOf_3 rfl hl (by decide) rfl (fun ls hl => ?_)
  obtain ⟨x2_2, hX2, hF⟩ := bO_s1 hF
  have L1 : ∀ (k0 : Nat) (x2 : Int32) (x3 : Int32) (x2_2 : Int32) (H : Heap) (locs : List Loc) (ls : Array Slot), R_getsOf_L4 N t_book p1 k0 x2 x3 = some x2_2 → m_H E A (wd_R_getsOf E a_t a_t_images a_t_kept a_t_aside a_t_limbs a_t_wide a_t_hears a_t_spies a_t_known a_t_by a_t_ways a_t_fewest a_t_heavy a_t_sums a_t_faces a_t_bestFaces a_t_text a_t_verbs a_t_many a_t_nums a_t_book t_typed t_at t_start t_token t_value t_items t_book) s.heap H locs → lv_has ls 7 [(3, .int x3), (2, .int x2), (0, .ref a_t), (1, .int p1)] → (∀ (H : Heap) (locs : List Loc) (ls : Array Slot), m_H E A (wd_R_getsOf E a_t a_t_images a_t_kept a_t_aside a_t_limbs a_t_wide a_t_hears a_t_spies a_t_known a_t_by a_t_ways a_t_fewest a_t_heavy a_t_sums a_t_faces a_t_bestFaces a_t_text a_t_verbs a_t_many a_t_nums a_t_book t_typed t_at t_start t_token t_value t_items t_book) s.heap H locs → lv_has ls 7 [(2, .int x2_2)] → W p l e rm_R_getsOf s m args below meth c H locs 0 0 Q (F0 m 148 ls [])) → W p l e rm_R_getsOf s m args below meth c H locs 0 0 Q (F0 m 4 ls []) := by
    clear hF
    intro k0
    induction k0 with
    | zero =>
      intro x2 x3 x2_2 H locs ls hF
      cases hF
    | succ k0 ih4 =>
      intro x2 x3 x2_2 H locs ls hF hW hl hk3
      rw [R_getsOf_L4] at hF
      refine lv_iload_n hx hb dX12_getsOf_4 rfl (lv_at hl 0 rfl) ?_
      refine lv_aload_n hx hb dX12_getsOf_5 rfl (lv_at hl 2 rfl) ?_
      refine m_get X hW fdX12_7 0 rfl rfl dX12_getsOf_6 ?_
      refine lv_iconst (v := (3 : Int32)) hx hb dX12_getsOf_9 (by decide) ?_
      refine m_iald X hW 1 (k := 3) rfl (by decide) rfl dX12_getsOf_10 ?_
      refine lv_icmp_ge (tgt := 148) hx hb dX12_getsOf_11 (by decide) (fun c5 => ?_) (fun c5 => ?_)
      · have hF := if_y c5 hF
        cases hF
        exact hk3 _ _ _ hW (lv_sub hl [1] rfl)
      · have hF := if_n c5 hF
        refine lv_iload_n hx hb dX12_getsOf_14 rfl (lv_at hl 3 rfl) ?_
        refine lv_iload_n hx hb dX12_getsOf_15 rfl (lv_at hl 0 rfl) ?_
        refine m_ishr hx hb dX12_getsOf_16 ?_
        refine lv_iconst (v := (1 : Int32)) hx hb dX12_getsOf_17 (by decide) ?_
        refine lv_iand hx hb dX12_getsOf_18 ?_
        refine lv_iconst (v := (1 : Int32)) hx hb dX12_getsOf_19 (by decide) ?_
        obtain ⟨y0, hX7, hF⟩ := bO_s1 hF
        have J6 : ∀ (H : Heap) (locs : List Loc) (ls : Array Slot), m_H E A (wd_R_getsOf E a_t a_t_images a_t_kept a_t_aside a_t_limbs a_t_wide a_t_hears a_t_spies a_t_known a_t_by a_t_ways a_t_fewest a_t_heavy a_t_sums a_t_faces a_t_bestFaces a_t_text a_t_verbs a_t_many a_t_nums a_t_book t_typed t_at t_start t_token t_value t_items t_book) s.heap H locs → lv_has ls 7 [(3, .int x3), (2, .int x2), (0, .ref a_t), (1, .int p1)] → W p l e rm_R_getsOf s m args below meth c H locs 0 0 Q (F0 m 28 ls [.int y0]) := by
          intro H locs ls hW hl
          refine lv_istore (lv' := [(4, .int y0), (3, .int x3), (2, .int x2), (0, .ref a_t), (1, .int p1)]) hx hb dX12_getsOf_28 hl (by decide) rfl (fun ls hl => ?_)
          refine lv_iconst (v := (0 : Int32)) hx hb dX12_getsOf_30 (by decide) ?_
          refine lv_istore (lv' := [(5, .int (0 : Int32)), (4, .int y0), (3, .int x3), (2, .int x2), (0, .ref a_t), (1, .int p1)]) hx hb dX12_getsOf_31 hl (by decide) rfl (fun ls hl => ?_)
          obtain ⟨x4_2, hX9, hF⟩ := bO_s1 hF
          have L8 : ∀ (k0 : Nat) (x4 : Int32) (x5 : Int32) (x4_2 : Int32) (H : Heap) (locs : List Loc) (ls : Array Slot), R_getsOf_L33 N t_book x3 p1 k0 x4 x5 = some x4_2 → m_H E A (wd_R_getsOf E a_t a_t_images a_t_kept a_t_aside a_t_limbs a_t_wide a_t_hears a_t_spies a_t_known a_t_by a_t_ways a_t_fewest a_t_heavy a_t_sums a_t_faces a_t_bestFaces a_t_text a_t_verbs a_t_many a_t_nums a_t_book t_typed t_at t_start t_token t_value t_items t_book) s.heap H locs → lv_has ls 7 [(5, .int x5), (4, .int x4), (3, .int x3), (2, .int x2), (0, .ref a_t), (1, .int p1)] → (∀ (H : Heap) (locs : List Loc) (ls : Array Slot), m_H E A (wd_R_getsOf E a_t a_t_images a_t_kept a_t_aside a_t_limbs a_t_wide a_t_hears a_t_spies a_t_known a_t_by a_t_ways a_t_fewest a_t_heavy a_t_sums a_t_faces a_t_bestFaces a_t_text a_t_verbs a_t_many a_t_nums a_t_book t_typed t_at t_start t_token t_value t_items t_book) s.heap H locs → lv_has ls 7 [(4, .int x4_2), (3, .int x3), (2, .int x2), (0, .ref a_t), (1, .int p1)] → W p l e rm_R_getsOf s m args below meth c H locs 0 0 Q (F0 m 127 ls [])) → W p l e rm_R_getsOf s m args below meth c H locs 0 0 Q (F0 m 33 ls []) := by
            clear hF
            intro k0
            induction k0 with
            | zero =>
              intro x4 x5 x4_2 H locs ls hF
              cases hF
            | succ k0 ih11 =>
              intro x4 x5 x4_2 H locs ls hF hW hl hk10
              rw [R_getsOf_L33] at hF
              refine lv_iload hx hb dX12_getsOf_33 (lv_at hl 0 rfl) ?_
              refine lv_aload_n hx hb dX12_getsOf_35 rfl (lv_at hl 4 rfl) ?_
              refine m_get X hW fdX12_7 0 rfl rfl dX12_getsOf_36 ?_
              refine lv_iconst (v := (3 : Int32)) hx hb dX12_getsOf_39 (by decide) ?_
              refine m_iald X hW 1 (k := 3) rfl (by decide) rfl dX12_getsOf_40 ?_
              refine lv_icmp_ge (tgt := 127) hx hb dX12_getsOf_41 (by decide) (fun c12 => ?_) (fun c12 => ?_)
              · have hF := if_y c12 hF
                cases hF
                exact hk10 _ _ _ hW (lv_sub hl [1, 2, 3, 4, 5] rfl)
              · have hF := if_n c12 hF
                refine lv_iload hx hb dX12_getsOf_44 (lv_at hl 1 rfl) ?_
                refine lv_if_eq (tgt := 127) hx hb dX12_getsOf_46 (by decide) (fun c13 => ?_) (fun c13 => ?_)
                · have hF := if_y c13 hF
                  cases hF
                  exact hk10 _ _ _ hW (lv_sub hl [1, 2, 3, 4, 5] rfl)
                · have hF := if_n c13 hF
                  refine lv_aload_n hx hb dX12_getsOf_49 rfl (lv_at hl 4 rfl) ?_
                  refine lv_iload hx hb dX12_getsOf_50 (lv_at hl 0 rfl) ?_
                  obtain ⟨r52, hC14, hF⟩ := bO_s1 hF
                  refine m_callV X hW hA hl.1 lkX12_215 (c_R_weightOf l E _ N a_t a_t_images a_t_kept a_t_aside a_t_limbs a_t_wide a_t_hears a_t_spies a_t_known a_t_by a_t_ways a_t_fewest a_t_heavy a_t_sums a_t_faces a_t_bestFaces a_t_text a_t_verbs a_t_many a_t_nums a_t_book t_typed t_at t_start t_token t_value t_items t_book x5 r52 hC14) ([0, 1]) (by decide) rfl rfl (ws' := (wd_R_getsOf E a_t a_t_images a_t_kept a_t_aside a_t_limbs a_t_wide a_t_hears a_t_spies a_t_known a_t_by a_t_ways a_t_fewest a_t_heavy a_t_sums a_t_faces a_t_bestFaces a_t_text a_t_verbs a_t_many a_t_nums a_t_book t_typed t_at t_start t_token t_value t_items t_book)) rfl 0 rfl rfl rfl (As := [.int x5]) (rest := []) rfl rfl ⟨rfl, rfl, Nat.le_of_ble_eq_true rfl, Nat.le_of_ble_eq_true rfl⟩ (Nat.le_of_ble_eq_true rfl) (Nat.zero_le _) (Nat.zero_le _) dX12_getsOf_52 (fun H locs hW => ?_)
                  clear hC14
                  refine lv_aload_n hx hb dX12_getsOf_55 rfl (lv_at hl 4 rfl) ?_
                  refine lv_iload_n hx hb dX12_getsOf_56 rfl (lv_at hl 2 rfl) ?_
                  obtain ⟨r57, hC15, hF⟩ := bO_s1 hF
                  refine m_callV X hW hA hl.1 lkX12_215 (c_R_weightOf l E _ N a_t a_t_images a_t_kept a_t_aside a_t_limbs a_t_wide a_t_hears a_t_spies a_t_known a_t_by a_t_ways a_t_fewest a_t_heavy a_t_sums a_t_faces a_t_bestFaces a_t_text a_t_verbs a_t_many a_t_nums a_t_book t_typed t_at t_start t_token t_value t_items t_book x3 r57 hC15) ([0, 1]) (by decide) rfl rfl (ws' := (wd_R_getsOf E a_t a_t_images a_t_kept a_t_aside a_t_limbs a_t_wide a_t_hears a_t_spies a_t_known a_t_by a_t_ways a_t_fewest a_t_heavy a_t_sums a_t_faces a_t_bestFaces a_t_text a_t_verbs a_t_many a_t_nums a_t_book t_typed t_at t_start t_token t_value t_items t_book)) rfl 0 rfl rfl rfl (As := [.int x3]) (rest := [.int r52]) rfl rfl ⟨rfl, rfl, Nat.le_of_ble_eq_true rfl, Nat.le_of_ble_eq_true rfl⟩ (Nat.le_of_ble_eq_true rfl) (Nat.zero_le _) (Nat.zero_le _) dX12_getsOf_57 (fun H locs hW => ?_)
                  clear hC15
                  obtain ⟨y0_2, hX17, hF⟩ := bO_s1 hF
                  have J16 : ∀ (H : Heap) (locs : List Loc) (ls : Array Slot), m_H E A (wd_R_getsOf E a_t a_t_images a_t_kept a_t_aside a_t_limbs a_t_wide a_t_hears a_t_spies a_t_known a_t_by a_t_ways a_t_fewest a_t_heavy a_t_sums a_t_faces a_t_bestFaces a_t_text a_t_verbs a_t_many a_t_nums a_t_book t_typed t_at t_start t_token t_value t_items t_book) s.heap H locs → lv_has ls 7 [(5, .int x5), (3, .int x3), (2, .int x2), (0, .ref a_t), (1, .int p1)] → W p l e rm_R_getsOf s m args below meth c H locs 0 0 Q (F0 m 88 ls [.int y0_2]) := by
                    intro H locs ls hW hl
                    refine lv_istore (lv' := [(6, .int y0_2), (5, .int x5), (3, .int x3), (2, .int x2), (0, .ref a_t), (1, .int p1)]) hx hb dX12_getsOf_88 hl (by decide) rfl (fun ls hl => ?_)
                    refine lv_iload_n hx hb dX12_getsOf_90 rfl (lv_at hl 5 rfl) ?_
                    refine lv_iload hx hb dX12_getsOf_91 (lv_at hl 1 rfl) ?_
                    refine m_ishr hx hb dX12_getsOf_93 ?_
                    refine lv_iconst (v := (1 : Int32)) hx hb dX12_getsOf_94 (by decide) ?_
                    refine lv_iand hx hb dX12_getsOf_95 ?_
                    refine lv_if_eq (tgt := 114) hx hb dX12_getsOf_96 (by decide) (fun c18 => ?_) (fun c18 => ?_)
                    · have hF := if_y c18 hF
                      refine lv_iconst (v := (1 : Int32)) hx hb dX12_getsOf_114 (by decide) ?_
                      refine lv_goto (tgt := 119) hx hb dX12_getsOf_115 (by decide) ?_
                      refine lv_istore (lv' := [(4, .int (1 : Int32)), (6, .int y0_2), (5, .int x5), (3, .int x3), (2, .int x2), (0, .ref a_t), (1, .int p1)]) hx hb dX12_getsOf_119 hl (by decide) rfl (fun ls hl => ?_)
                      refine lv_iinc (v := (x5 + (1 : Int32))) (lv' := [(5, .int (x5 + (1 : Int32))), (4, .int (1 : Int32)), (6, .int y0_2), (3, .int x3), (2, .int x2), (0, .ref a_t), (1, .int p1)]) hx hb dX12_getsOf_121 hl (k := 2) rfl rfl (by decide) rfl (fun ls hl => ?_)
                      refine lv_goto (tgt := 33) hx hb dX12_getsOf_124 (by decide) ?_
                      exact ih11 (1 : Int32) (x5 + (1 : Int32)) x4_2 _ _ _ hF hW (lv_sub hl [0, 1, 3, 4, 5, 6] rfl) hk10
                    · have hF := if_n c18 hF
                      refine lv_iload hx hb dX12_getsOf_99 (lv_at hl 0 rfl) ?_
                      refine lv_if_eq (tgt := 114) hx hb dX12_getsOf_101 (by decide) (fun c19 => ?_) (fun c19 => ?_)
                      · have hF := if_y c19 hF
                        refine lv_iconst (v := (1 : Int32)) hx hb dX12_getsOf_114 (by decide) ?_
                        refine lv_goto (tgt := 119) hx hb dX12_getsOf_115 (by decide) ?_
                        refine lv_istore (lv' := [(4, .int (1 : Int32)), (6, .int y0_2), (5, .int x5), (3, .int x3), (2, .int x2), (0, .ref a_t), (1, .int p1)]) hx hb dX12_getsOf_119 hl (by decide) rfl (fun ls hl => ?_)
                        refine lv_iinc (v := (x5 + (1 : Int32))) (lv' := [(5, .int (x5 + (1 : Int32))), (4, .int (1 : Int32)), (6, .int y0_2), (3, .int x3), (2, .int x2), (0, .ref a_t), (1, .int p1)]) hx hb dX12_getsOf_121 hl (k := 2) rfl rfl (by decide) rfl (fun ls hl => ?_)
                        refine lv_goto (tgt := 33) hx hb dX12_getsOf_124 (by decide) ?_
                        exact ih11 (1 : Int32) (x5 + (1 : Int32)) x4_2 _ _ _ hF hW (lv_sub hl [0, 1, 3, 4, 5, 6] rfl) hk10
                      · have hF := if_n c19 hF
                        refine lv_aload_n hx hb dX12_getsOf_104 rfl (lv_at hl 4 rfl) ?_
                        refine lv_iload_n hx hb dX12_getsOf_105 rfl (lv_at hl 2 rfl) ?_
                        refine lv_iload hx hb dX12_getsOf_106 (lv_at hl 1 rfl) ?_
                        obtain ⟨r108, hC20, hF⟩ := bO_s1 hF
                        refine m_callV X hW hA hl.1 lkX12_208 (c_R_areAlike l E _ N a_t a_t_images a_t_kept a_t_aside a_t_limbs a_t_wide a_t_hears a_t_spies a_t_known a_t_by a_t_ways a_t_fewest a_t_heavy a_t_sums a_t_faces a_t_bestFaces a_t_text a_t_verbs a_t_many a_t_nums a_t_book t_typed t_at t_start t_token t_value t_items t_book x3 x5 r108 hC20) ([0, 1]) (by decide) rfl rfl (ws' := (wd_R_getsOf E a_t a_t_images a_t_kept a_t_aside a_t_limbs a_t_wide a_t_hears a_t_spies a_t_known a_t_by a_t_ways a_t_fewest a_t_heavy a_t_sums a_t_faces a_t_bestFaces a_t_text a_t_verbs a_t_many a_t_nums a_t_book t_typed t_at t_start t_token t_value t_items t_book)) rfl 0 rfl rfl rfl (As := [.int x3, .int x5]) (rest := []) rfl rfl ⟨rfl, rfl, Nat.le_of_ble_eq_true rfl, Nat.le_of_ble_eq_true rfl⟩ (Nat.le_of_ble_eq_true rfl) (Nat.zero_le _) (Nat.zero_le _) dX12_getsOf_108 (fun H locs hW => ?_)
                        clear hC20
                        refine lv_if_ne (tgt := 118) hx hb dX12_getsOf_111 (by decide) (fun c21 => ?_) (fun c21 => ?_)
                        · have hF := if_n c21 hF
                          refine lv_iconst (v := (0 : Int32)) hx hb dX12_getsOf_118 (by decide) ?_
                          refine lv_istore (lv' := [(4, .int (0 : Int32)), (6, .int y0_2), (5, .int x5), (3, .int x3), (2, .int x2), (0, .ref a_t), (1, .int p1)]) hx hb dX12_getsOf_119 hl (by decide) rfl (fun ls hl => ?_)
                          refine lv_iinc (v := (x5 + (1 : Int32))) (lv' := [(5, .int (x5 + (1 : Int32))), (4, .int (0 : Int32)), (6, .int y0_2), (3, .int x3), (2, .int x2), (0, .ref a_t), (1, .int p1)]) hx hb dX12_getsOf_121 hl (k := 2) rfl rfl (by decide) rfl (fun ls hl => ?_)
                          refine lv_goto (tgt := 33) hx hb dX12_getsOf_124 (by decide) ?_
                          exact ih11 (0 : Int32) (x5 + (1 : Int32)) x4_2 _ _ _ hF hW (lv_sub hl [0, 1, 3, 4, 5, 6] rfl) hk10
                        · have hF := if_y c21 hF
                          refine lv_iconst (v := (1 : Int32)) hx hb dX12_getsOf_114 (by decide) ?_
                          refine lv_goto (tgt := 119) hx hb dX12_getsOf_115 (by decide) ?_
                          refine lv_istore (lv' := [(4, .int (1 : Int32)), (6, .int y0_2), (5, .int x5), (3, .int x3), (2, .int x2), (0, .ref a_t), (1, .int p1)]) hx hb dX12_getsOf_119 hl (by decide) rfl (fun ls hl => ?_)
                          refine lv_iinc (v := (x5 + (1 : Int32))) (lv' := [(5, .int (x5 + (1 : Int32))), (4, .int (1 : Int32)), (6, .int y0_2), (3, .int x3), (2, .int x2), (0, .ref a_t), (1, .int p1)]) hx hb dX12_getsOf_121 hl (k := 2) rfl rfl (by decide) rfl (fun ls hl => ?_)
                          refine lv_goto (tgt := 33) hx hb dX12_getsOf_124 (by decide) ?_
                          exact ih11 (1 : Int32) (x5 + (1 : Int32)) x4_2 _ _ _ hF hW (lv_sub hl [0, 1, 3, 4, 5, 6] rfl) hk10
                  clear hF
                  have hF := hX17
                  clear hX17
                  refine lv_icmp_gt (tgt := 83) hx hb dX12_getsOf_60 (by decide) (fun c22 => ?_) (fun c22 => ?_)
                  · have hF := if_y c22 hF
                    refine lv_iconst (v := (1 : Int32)) hx hb dX12_getsOf_83 (by decide) ?_
                    refine lv_goto (tgt := 88) hx hb dX12_getsOf_84 (by decide) ?_
                    cases hF
                    exact J16 _ _ _ hW (lv_sub hl [0, 2, 3, 4, 5] rfl)
                  · have hF := if_n c22 hF
                    refine lv_aload_n hx hb dX12_getsOf_63 rfl (lv_at hl 4 rfl) ?_
                    refine lv_iload hx hb dX12_getsOf_64 (lv_at hl 0 rfl) ?_
                    obtain ⟨r66, hC23, hF⟩ := bO_s1 hF
                    refine m_callV X hW hA hl.1 lkX12_215 (c_R_weightOf l E _ N a_t a_t_images a_t_kept a_t_aside a_t_limbs a_t_wide a_t_hears a_t_spies a_t_known a_t_by a_t_ways a_t_fewest a_t_heavy a_t_sums a_t_faces a_t_bestFaces a_t_text a_t_verbs a_t_many a_t_nums a_t_book t_typed t_at t_start t_token t_value t_items t_book x5 r66 hC23) ([0, 1]) (by decide) rfl rfl (ws' := (wd_R_getsOf E a_t a_t_images a_t_kept a_t_aside a_t_limbs a_t_wide a_t_hears a_t_spies a_t_known a_t_by a_t_ways a_t_fewest a_t_heavy a_t_sums a_t_faces a_t_bestFaces a_t_text a_t_verbs a_t_many a_t_nums a_t_book t_typed t_at t_start t_token t_value t_items t_book)) rfl 0 rfl rfl rfl (As := [.int x5]) (rest := []) rfl rfl ⟨rfl, rfl, Nat.le_of_ble_eq_true rfl, Nat.le_of_ble_eq_true rfl⟩ (Nat.le_of_ble_eq_true rfl) (Nat.zero_le _) (Nat.zero_le _) dX12_getsOf_66 (fun H locs hW => ?_)
                    clear hC23
                    refine lv_aload_n hx hb dX12_getsOf_69 rfl (lv_at hl 4 rfl) ?_
                    refine lv_iload_n hx hb dX12_getsOf_70 rfl (lv_at hl 2 rfl) ?_
                    obtain ⟨r71, hC24, hF⟩ := bO_s1 hF
                    refine m_callV X hW hA hl.1 lkX12_215 (c_R_weightOf l E _ N a_t a_t_images a_t_kept a_t_aside a_t_limbs a_t_wide a_t_hears a_t_spies a_t_known a_t_by a_t_ways a_t_fewest a_t_heavy a_t_sums a_t_faces a_t_bestFaces a_t_text a_t_verbs a_t_many a_t_nums a_t_book t_typed t_at t_start t_token t_value t_items t_book x3 r71 hC24) ([0, 1]) (by decide) rfl rfl (ws' := (wd_R_getsOf E a_t a_t_images a_t_kept a_t_aside a_t_limbs a_t_wide a_t_hears a_t_spies a_t_known a_t_by a_t_ways a_t_fewest a_t_heavy a_t_sums a_t_faces a_t_bestFaces a_t_text a_t_verbs a_t_many a_t_nums a_t_book t_typed t_at t_start t_token t_value t_items t_book)) rfl 0 rfl rfl rfl (As := [.int x3]) (rest := [.int r66]) rfl rfl ⟨rfl, rfl, Nat.le_of_ble_eq_true rfl, Nat.le_of_ble_eq_true rfl⟩ (Nat.le_of_ble_eq_true rfl) (Nat.zero_le _) (Nat.zero_le _) dX12_getsOf_71 (fun H locs hW => ?_)
                    clear hC24
                    refine lv_icmp_ne (tgt := 87) hx hb dX12_getsOf_74 (by decide) (fun c25 => ?_) (fun c25 => ?_)
                    · have hF := if_n c25 hF
                      refine lv_iconst (v := (0 : Int32)) hx hb dX12_getsOf_87 (by decide) ?_
                      cases hF
                      exact J16 _ _ _ hW (lv_sub hl [0, 2, 3, 4, 5] rfl)
                    · have hF := if_y c25 hF
                      refine lv_iload hx hb dX12_getsOf_77 (lv_at hl 0 rfl) ?_
                      refine lv_iload_n hx hb dX12_getsOf_79 rfl (lv_at hl 2 rfl) ?_
                      refine lv_icmp_ge (tgt := 87) hx hb dX12_getsOf_80 (by decide) (fun c26 => ?_) (fun c26 => ?_)
                      · have hF := if_y c26 hF
                        refine lv_iconst (v := (0 : Int32)) hx hb dX12_getsOf_87 (by decide) ?_
                        cases hF
                        exact J16 _ _ _ hW (lv_sub hl [0, 2, 3, 4, 5] rfl)
                      · have hF := if_n c26 hF
                        refine lv_iconst (v := (1 : Int32)) hx hb dX12_getsOf_83 (by decide) ?_
                        refine lv_goto (tgt := 88) hx hb dX12_getsOf_84 (by decide) ?_
                        cases hF
                        exact J16 _ _ _ hW (lv_sub hl [0, 2, 3, 4, 5] rfl)
          refine L8 N y0 (0 : Int32) x4_2 _ _ _ hX9 hW (lv_sub hl [0, 1, 2, 3, 4, 5] rfl) ?_
          intro H locs ls hW hl
          clear L8
          refine lv_iload_n hx hb dX12_getsOf_127 rfl (lv_at hl 2 rfl) ?_
          refine lv_iload hx hb dX12_getsOf_128 (lv_at hl 0 rfl) ?_
          refine lv_if_eq (tgt := 139) hx hb dX12_getsOf_130 (by decide) (fun c27 => ?_) (fun c27 => ?_)
          · have hF := if_y c27 hF
            refine lv_iconst (v := (0 : Int32)) hx hb dX12_getsOf_139 (by decide) ?_
            refine lv_ior hx hb dX12_getsOf_140 ?_
            refine lv_istore_n (lv' := [(2, .int (x2 ||| (0 : Int32))), (4, .int x4_2), (3, .int x3), (0, .ref a_t), (1, .int p1)]) hx hb dX12_getsOf_141 rfl hl (by decide) rfl (fun ls hl => ?_)
            refine lv_iinc (v := (x3 + (1 : Int32))) (lv' := [(3, .int (x3 + (1 : Int32))), (2, .int (x2 ||| (0 : Int32))), (4, .int x4_2), (0, .ref a_t), (1, .int p1)]) hx hb dX12_getsOf_142 hl (k := 2) rfl rfl (by decide) rfl (fun ls hl => ?_)
            refine lv_goto (tgt := 4) hx hb dX12_getsOf_145 (by decide) ?_
            exact ih4 (x2 ||| (0 : Int32)) (x3 + (1 : Int32)) x2_2 _ _ _ hF hW (lv_sub hl [0, 1, 3, 4] rfl) hk3
          · have hF := if_n c27 hF
            refine lv_iconst (v := (1 : Int32)) hx hb dX12_getsOf_133 (by decide) ?_
            refine lv_iload_n hx hb dX12_getsOf_134 rfl (lv_at hl 1 rfl) ?_
            refine m_ishl hx hb dX12_getsOf_135 ?_
            refine lv_goto (tgt := 140) hx hb dX12_getsOf_136 (by decide) ?_
            refine lv_ior hx hb dX12_getsOf_140 ?_
            refine lv_istore_n (lv' := [(2, .int (x2 ||| (jshl (1 : Int32) x3))), (4, .int x4_2), (3, .int x3), (0, .ref a_t), (1, .int p1)]) hx hb dX12_getsOf_141 rfl hl (by decide) rfl (fun ls hl => ?_)
            refine lv_iinc (v := (x3 + (1 : Int32))) (lv' := [(3, .int (x3 + (1 : Int32))), (2, .int (x2 ||| (jshl (1 : Int32) x3))), (4, .int x4_2), (0, .ref a_t), (1, .int p1)]) hx hb dX12_getsOf_142 hl (k := 2) rfl rfl (by decide) rfl (fun ls hl => ?_)
            refine lv_goto (tgt := 4) hx hb dX12_getsOf_145 (by decide) ?_
            exact ih4 (x2 ||| (jshl (1 : Int32) x3)) (x3 + (1 : Int32)) x2_2 _ _ _ hF hW (lv_sub hl [0, 1, 3, 4] rfl) hk3
        clear hF
        have hF := hX7
        clear hX7
        refine lv_icmp_ne (tgt := 27) hx hb dX12_getsOf_20 (by decide) (fun c28 => ?_) (fun c28 => ?_)
        · have hF := if_n c28 hF
          refine lv_iconst (v := (0 : Int32)) hx hb dX12_getsOf_27 (by decide) ?_
          cases hF
          exact J6 _ _ _ hW (lv_sub hl [0, 1, 2, 3] rfl)
        · have hF := if_y c28 hF
          refine lv_iconst (v := (1 : Int32)) hx hb dX12_getsOf_23 (by decide) ?_
          refine lv_goto (tgt := 28) hx hb dX12_getsOf_24 (by decide) ?_
          cases hF
          exact J6 _ _ _ hW (lv_sub hl [0, 1, 2, 3] rfl)
  refine L1 N (0 : Int32) (0 : Int32) x2_2 _ _ _ hX2 hW (lv_sub hl [0, 1, 2, 3] rfl) ?_
  intro H locs ls hW hl
  clear L1
  refine lv_iload_n hx hb dX12_getsOf_148 rfl (lv_at hl 0 rfl) ?_
  have hq := Option.some.inj hF
  subst hq
  exact hret _ _ _ _ hW dX12_getsOf_149
abbrev wd_R_gets (E : m_E) (a_t : Nat) (a_t_images : Nat) (a_t_kept : Nat) (a_t_aside : Nat) (a_t_limbs : Nat) (a_t_wide : Nat) (a_t_hears : Nat) (a_t_spies : Nat) (a_t_known : Nat) (a_t_by : Nat) (a_t_ways : Nat) (a_t_fewest : Nat) (a_t_heavy : Nat) (a_t_sums : Nat) (a_t_faces : Nat) (a_t_bestFaces : Nat) (a_t_text : Nat) (a_t_verbs : Nat) (a_t_many : Nat) (a_t_nums : Nat) (a_t_book : Nat) (t_typed : Int32) (t_at : Int32) (t_start : Int32) (t_token : Int32) (t_value : Int32) (t_items : Int32) (t_book : Nat → Int32) : va_W := [(a_t, .inr (12, [.ref a_t_book, .ref a_t_images, .ref a_t_kept, .ref a_t_aside, .ref a_t_limbs, .ref a_t_wide, .ref a_t_hears, .ref a_t_spies, .ref a_t_known, .ref a_t_by, .ref a_t_ways, .ref a_t_fewest, .ref a_t_heavy, .ref a_t_sums, .ref a_t_faces, .ref a_t_bestFaces, .ref a_t_text, .int t_typed, .int t_at, .int t_start, .int t_token, .int t_value, .ref a_t_verbs, .ref a_t_many, .ref a_t_nums, .int t_items])), (a_t_book, .inl (E.2.1 0, 240, .inl t_book))]
def rm_R_gets : Room := { frames := 5, cells := 0, slots := 0, locals := 116 }
set_option maxHeartbeats 4000000 in
set_option maxRecDepth 100000 in
theorem c_R_gets (l : Launch) (E : m_E) (sz N : Nat) (a_t : Nat) (a_t_images : Nat) (a_t_kept : Nat) (a_t_aside : Nat) (a_t_limbs : Nat) (a_t_wide : Nat) (a_t_hears : Nat) (a_t_spies : Nat) (a_t_known : Nat) (a_t_by : Nat) (a_t_ways : Nat) (a_t_fewest : Nat) (a_t_heavy : Nat) (a_t_sums : Nat) (a_t_faces : Nat) (a_t_bestFaces : Nat) (a_t_text : Nat) (a_t_verbs : Nat) (a_t_many : Nat) (a_t_nums : Nat) (a_t_book : Nat) (t_typed : Int32) (t_at : Int32) (t_start : Int32) (t_token : Int32) (t_value : Int32) (t_items : Int32) (t_book : Nat → Int32)  (ures : Int32) (hF : F_R_gets N t_book = some ures) : m_Met l yX12_gets cX12_gets 1 (some .int) rm_R_gets E (wd_R_gets E a_t a_t_images a_t_kept a_t_aside a_t_limbs a_t_wide a_t_hears a_t_spies a_t_known a_t_by a_t_ways a_t_fewest a_t_heavy a_t_sums a_t_faces a_t_bestFaces a_t_text a_t_verbs a_t_many a_t_nums a_t_book t_typed t_at t_start t_token t_value t_items t_book) (wd_R_gets E a_t a_t_images a_t_kept a_t_aside a_t_limbs a_t_wide a_t_hears a_t_spies a_t_known a_t_by a_t_ways a_t_fewest a_t_heavy a_t_sums a_t_faces a_t_bestFaces a_t_text a_t_verbs a_t_many a_t_nums a_t_book t_typed t_at t_start t_token t_value t_items t_book) sz [.ref a_t] (some (.int ures)) := by
  refine m_ofI (by decide) (Nat.le_of_ble_eq_true rfl) ?_
  intro p e s m args below meth c A Q ls X hW hA hl hret
  obtain ⟨hx, hb, -, hown, hts, hK, -, hG⟩ := id X
  have hl : lv_has ls 1 [(0, .ref a_t)] := hl
  unfold F_R_gets at hF
  refine lv_aload_n hx hb dX12_gets_0 rfl (lv_at hl 0 rfl) ?_
  refine lv_aload_n hx hb dX12_gets_1 rfl (lv_at hl 0 rfl) ?_
  refine m_get X hW fdX12_7 0 rfl rfl dX12_gets_2 ?_
  refine lv_bipush (v := (9 : Int32)) hx hb dX12_gets_5 (by decide) ?_
  refine m_iald X hW 1 (k := 9) rfl (by decide) rfl dX12_gets_7 ?_
  obtain ⟨r8, hC1, hF⟩ := bO_s1 hF
  refine m_callV X hW hA hl.1 lkX12_251 (c_R_getsOf l E _ N a_t a_t_images a_t_kept a_t_aside a_t_limbs a_t_wide a_t_hears a_t_spies a_t_known a_t_by a_t_ways a_t_fewest a_t_heavy a_t_sums a_t_faces a_t_bestFaces a_t_text a_t_verbs a_t_many a_t_nums a_t_book t_typed t_at t_start t_token t_value t_items t_book (t_book 9) r8 hC1) ([0, 1]) (by decide) rfl rfl (ws' := (wd_R_gets E a_t a_t_images a_t_kept a_t_aside a_t_limbs a_t_wide a_t_hears a_t_spies a_t_known a_t_by a_t_ways a_t_fewest a_t_heavy a_t_sums a_t_faces a_t_bestFaces a_t_text a_t_verbs a_t_many a_t_nums a_t_book t_typed t_at t_start t_token t_value t_items t_book)) rfl 0 rfl rfl rfl (As := [.int (t_book 9)]) (rest := []) rfl rfl ⟨rfl, rfl, Nat.le_of_ble_eq_true rfl, Nat.le_of_ble_eq_true rfl⟩ (Nat.le_of_ble_eq_true rfl) (Nat.zero_le _) (Nat.zero_le _) dX12_gets_8 (fun H locs hW => ?_)
  clear hC1
  have hq := Option.some.inj hF
  subst hq
  exact hret _ _ _ _ hW dX12_gets_11
abbrev wd_R_weights (E : m_E) (a_t : Nat) (a_t_images : Nat) (a_t_kept : Nat) (a_t_aside : Nat) (a_t_limbs : Nat) (a_t_wide : Nat) (a_t_hears : Nat) (a_t_spies : Nat) (a_t_known : Nat) (a_t_by : Nat) (a_t_ways : Nat) (a_t_fewest : Nat) (a_t_heavy : Nat) (a_t_sums : Nat) (a_t_faces : Nat) (a_t_bestFaces : Nat) (a_t_text : Nat) (a_t_verbs : Nat) (a_t_many : Nat) (a_t_nums : Nat) (a_t_book : Nat) (t_typed : Int32) (t_at : Int32) (t_start : Int32) (t_token : Int32) (t_value : Int32) (t_items : Int32) (t_book : Nat → Int32) : va_W := [(a_t, .inr (12, [.ref a_t_book, .ref a_t_images, .ref a_t_kept, .ref a_t_aside, .ref a_t_limbs, .ref a_t_wide, .ref a_t_hears, .ref a_t_spies, .ref a_t_known, .ref a_t_by, .ref a_t_ways, .ref a_t_fewest, .ref a_t_heavy, .ref a_t_sums, .ref a_t_faces, .ref a_t_bestFaces, .ref a_t_text, .int t_typed, .int t_at, .int t_start, .int t_token, .int t_value, .ref a_t_verbs, .ref a_t_many, .ref a_t_nums, .int t_items])), (a_t_book, .inl (E.2.1 0, 240, .inl t_book))]
def rm_R_weights : Room := { frames := 1, cells := 0, slots := 0, locals := 21 }
set_option maxHeartbeats 4000000 in
set_option maxRecDepth 100000 in
theorem c_R_weights (l : Launch) (E : m_E) (sz N : Nat) (a_t : Nat) (a_t_images : Nat) (a_t_kept : Nat) (a_t_aside : Nat) (a_t_limbs : Nat) (a_t_wide : Nat) (a_t_hears : Nat) (a_t_spies : Nat) (a_t_known : Nat) (a_t_by : Nat) (a_t_ways : Nat) (a_t_fewest : Nat) (a_t_heavy : Nat) (a_t_sums : Nat) (a_t_faces : Nat) (a_t_bestFaces : Nat) (a_t_text : Nat) (a_t_verbs : Nat) (a_t_many : Nat) (a_t_nums : Nat) (a_t_book : Nat) (t_typed : Int32) (t_at : Int32) (t_start : Int32) (t_token : Int32) (t_value : Int32) (t_items : Int32) (t_book : Nat → Int32) (p1 : Int32) (ures : Int32) (hF : F_R_weights N p1 t_book = some ures) : m_Met l yX12_weights cX12_weights 4 (some .int) rm_R_weights E (wd_R_weights E a_t a_t_images a_t_kept a_t_aside a_t_limbs a_t_wide a_t_hears a_t_spies a_t_known a_t_by a_t_ways a_t_fewest a_t_heavy a_t_sums a_t_faces a_t_bestFaces a_t_text a_t_verbs a_t_many a_t_nums a_t_book t_typed t_at t_start t_token t_value t_items t_book) (wd_R_weights E a_t a_t_images a_t_kept a_t_aside a_t_limbs a_t_wide a_t_hears a_t_spies a_t_known a_t_by a_t_ways a_t_fewest a_t_heavy a_t_sums a_t_faces a_t_bestFaces a_t_text a_t_verbs a_t_many a_t_nums a_t_book t_typed t_at t_start t_token t_value t_items t_book) sz [.ref a_t, .int p1] (some (.int ures)) := by
  refine m_ofI (by decide) (Nat.le_of_ble_eq_true rfl) ?_
  intro p e s m args below meth c A Q ls X hW hA hl hret
  obtain ⟨hx, hb, -, hown, hts, hK, -, hG⟩ := id X
  have hl : lv_has ls 4 [(0, .ref a_t), (1, .int p1)] := hl
  unfold F_R_weights at hF
  refine lv_iconst (v := (0 : Int32)) hx hb dX12_weights_0 (by decide) ?_
  refine lv_istore_n (lv' := [(2, .int (0 : Int32)), (0, .ref a_t), (1, .int p1)]) hx hb dX12_weights_1 rfl hl (by decide) rfl (fun ls hl => ?_)
  refine lv_iconst (v := (0 : Int32)) hx hb dX12_weights_2 (by decide) ?_
  refine lv_istore_n (lv' := [(3, .int (0 : Int32)), (2, .int (0 : Int32)), (0, .ref a_t), (1, .int p1)]) hx hb dX12_weights_3 rfl hl (by decide) rfl (fun ls hl => ?_)
  obtain ⟨x2_2, hX2, hF⟩ := bO_s1 hF
  have L1 : ∀ (k0 : Nat) (x2 : Int32) (x3 : Int32) (x2_2 : Int32) (H : Heap) (locs : List Loc) (ls : Array Slot), R_weights_L4 t_book p1 k0 x2 x3 = some x2_2 → m_H E A (wd_R_weights E a_t a_t_images a_t_kept a_t_aside a_t_limbs a_t_wide a_t_hears a_t_spies a_t_known a_t_by a_t_ways a_t_fewest a_t_heavy a_t_sums a_t_faces a_t_bestFaces a_t_text a_t_verbs a_t_many a_t_nums a_t_book t_typed t_at t_start t_token t_value t_items t_book) s.heap H locs → lv_has ls 4 [(3, .int x3), (2, .int x2), (0, .ref a_t), (1, .int p1)] → (∀ (H : Heap) (locs : List Loc) (ls : Array Slot), m_H E A (wd_R_weights E a_t a_t_images a_t_kept a_t_aside a_t_limbs a_t_wide a_t_hears a_t_spies a_t_known a_t_by a_t_ways a_t_fewest a_t_heavy a_t_sums a_t_faces a_t_bestFaces a_t_text a_t_verbs a_t_many a_t_nums a_t_book t_typed t_at t_start t_token t_value t_items t_book) s.heap H locs → lv_has ls 4 [(2, .int x2_2)] → W p l e rm_R_weights s m args below meth c H locs 0 0 Q (F0 m 41 ls [])) → W p l e rm_R_weights s m args below meth c H locs 0 0 Q (F0 m 4 ls []) := by
    clear hF
    intro k0
    induction k0 with
    | zero =>
      intro x2 x3 x2_2 H locs ls hF
      cases hF
    | succ k0 ih4 =>
      intro x2 x3 x2_2 H locs ls hF hW hl hk3
      rw [R_weights_L4] at hF
      refine lv_iload_n hx hb dX12_weights_4 rfl (lv_at hl 0 rfl) ?_
      refine lv_aload_n hx hb dX12_weights_5 rfl (lv_at hl 2 rfl) ?_
      refine m_get X hW fdX12_7 0 rfl rfl dX12_weights_6 ?_
      refine lv_iconst (v := (3 : Int32)) hx hb dX12_weights_9 (by decide) ?_
      refine m_iald X hW 1 (k := 3) rfl (by decide) rfl dX12_weights_10 ?_
      refine lv_icmp_ge (tgt := 41) hx hb dX12_weights_11 (by decide) (fun c5 => ?_) (fun c5 => ?_)
      · have hF := if_y c5 hF
        cases hF
        exact hk3 _ _ _ hW (lv_sub hl [1] rfl)
      · have hF := if_n c5 hF
        refine lv_iload_n hx hb dX12_weights_14 rfl (lv_at hl 1 rfl) ?_
        refine lv_iload_n hx hb dX12_weights_15 rfl (lv_at hl 3 rfl) ?_
        refine lv_iload_n hx hb dX12_weights_16 rfl (lv_at hl 0 rfl) ?_
        refine m_ishr hx hb dX12_weights_17 ?_
        refine lv_iconst (v := (1 : Int32)) hx hb dX12_weights_18 (by decide) ?_
        refine lv_iand hx hb dX12_weights_19 ?_
        refine lv_iconst (v := (1 : Int32)) hx hb dX12_weights_20 (by decide) ?_
        refine lv_icmp_ne (tgt := 32) hx hb dX12_weights_21 (by decide) (fun c6 => ?_) (fun c6 => ?_)
        · have hF := if_n c6 hF
          refine lv_iconst (v := (0 : Int32)) hx hb dX12_weights_32 (by decide) ?_
          refine lv_iadd hx hb dX12_weights_33 ?_
          refine lv_istore_n (lv' := [(2, .int (x2 + (0 : Int32))), (3, .int x3), (0, .ref a_t), (1, .int p1)]) hx hb dX12_weights_34 rfl hl (by decide) rfl (fun ls hl => ?_)
          refine lv_iinc (v := (x3 + (1 : Int32))) (lv' := [(3, .int (x3 + (1 : Int32))), (2, .int (x2 + (0 : Int32))), (0, .ref a_t), (1, .int p1)]) hx hb dX12_weights_35 hl (k := 1) rfl rfl (by decide) rfl (fun ls hl => ?_)
          refine lv_goto (tgt := 4) hx hb dX12_weights_38 (by decide) ?_
          exact ih4 (x2 + (0 : Int32)) (x3 + (1 : Int32)) x2_2 _ _ _ hF hW (lv_sub hl [0, 1, 2, 3] rfl) hk3
        · have hF := if_y c6 hF
          refine lv_aload_n hx hb dX12_weights_24 rfl (lv_at hl 2 rfl) ?_
          refine lv_iload_n hx hb dX12_weights_25 rfl (lv_at hl 0 rfl) ?_
          obtain ⟨r26, hC7, hF⟩ := bO_s1 hF
          refine m_callV X hW hA hl.1 lkX12_215 (c_R_weightOf l E _ N a_t a_t_images a_t_kept a_t_aside a_t_limbs a_t_wide a_t_hears a_t_spies a_t_known a_t_by a_t_ways a_t_fewest a_t_heavy a_t_sums a_t_faces a_t_bestFaces a_t_text a_t_verbs a_t_many a_t_nums a_t_book t_typed t_at t_start t_token t_value t_items t_book x3 r26 hC7) ([0, 1]) (by decide) rfl rfl (ws' := (wd_R_weights E a_t a_t_images a_t_kept a_t_aside a_t_limbs a_t_wide a_t_hears a_t_spies a_t_known a_t_by a_t_ways a_t_fewest a_t_heavy a_t_sums a_t_faces a_t_bestFaces a_t_text a_t_verbs a_t_many a_t_nums a_t_book t_typed t_at t_start t_token t_value t_items t_book)) rfl 0 rfl rfl rfl (As := [.int x3]) (rest := [.int x2]) rfl rfl ⟨rfl, rfl, Nat.le_of_ble_eq_true rfl, Nat.le_of_ble_eq_true rfl⟩ (Nat.le_of_ble_eq_true rfl) (Nat.zero_le _) (Nat.zero_le _) dX12_weights_26 (fun H locs hW => ?_)
          clear hC7
          refine lv_goto (tgt := 33) hx hb dX12_weights_29 (by decide) ?_
          refine lv_iadd hx hb dX12_weights_33 ?_
          refine lv_istore_n (lv' := [(2, .int (x2 + r26)), (3, .int x3), (0, .ref a_t), (1, .int p1)]) hx hb dX12_weights_34 rfl hl (by decide) rfl (fun ls hl => ?_)
          refine lv_iinc (v := (x3 + (1 : Int32))) (lv' := [(3, .int (x3 + (1 : Int32))), (2, .int (x2 + r26)), (0, .ref a_t), (1, .int p1)]) hx hb dX12_weights_35 hl (k := 1) rfl rfl (by decide) rfl (fun ls hl => ?_)
          refine lv_goto (tgt := 4) hx hb dX12_weights_38 (by decide) ?_
          exact ih4 (x2 + r26) (x3 + (1 : Int32)) x2_2 _ _ _ hF hW (lv_sub hl [0, 1, 2, 3] rfl) hk3
  refine L1 N (0 : Int32) (0 : Int32) x2_2 _ _ _ hX2 hW (lv_sub hl [0, 1, 2, 3] rfl) ?_
  intro H locs ls hW hl
  clear L1
  refine lv_iload_n hx hb dX12_weights_41 rfl (lv_at hl 0 rfl) ?_
  have hq := Option.some.inj hF
  subst hq
  exact hret _ _ _ _ hW dX12_weights_42
abbrev wd_R_share (E : m_E) (a_t : Nat) (a_t_images : Nat) (a_t_kept : Nat) (a_t_aside : Nat) (a_t_hears : Nat) (a_t_spies : Nat) (a_t_known : Nat) (a_t_by : Nat) (a_t_ways : Nat) (a_t_fewest : Nat) (a_t_heavy : Nat) (a_t_sums : Nat) (a_t_faces : Nat) (a_t_bestFaces : Nat) (a_t_text : Nat) (a_t_verbs : Nat) (a_t_many : Nat) (a_t_nums : Nat) (a_t_book : Nat) (a_t_limbs : Nat) (a_t_wide : Nat) (t_typed : Int32) (t_at : Int32) (t_start : Int32) (t_token : Int32) (t_value : Int32) (t_items : Int32) (t_book : Nat → Int32) (t_limbs : Nat → Int32) (t_wide : Nat → Int32) : va_W := [(a_t, .inr (12, [.ref a_t_book, .ref a_t_images, .ref a_t_kept, .ref a_t_aside, .ref a_t_limbs, .ref a_t_wide, .ref a_t_hears, .ref a_t_spies, .ref a_t_known, .ref a_t_by, .ref a_t_ways, .ref a_t_fewest, .ref a_t_heavy, .ref a_t_sums, .ref a_t_faces, .ref a_t_bestFaces, .ref a_t_text, .int t_typed, .int t_at, .int t_start, .int t_token, .int t_value, .ref a_t_verbs, .ref a_t_many, .ref a_t_nums, .int t_items])), (a_t_book, .inl (E.2.1 0, 240, .inl t_book)), (a_t_limbs, .inl (E.2.1 0, 1680, .inl t_limbs)), (a_t_wide, .inl (E.2.1 0, 28, .inl t_wide))]
def rm_R_share : Room := { frames := 6, cells := 0, slots := 0, locals := 136 }
set_option maxHeartbeats 4000000 in
set_option maxRecDepth 100000 in
theorem c_R_share (l : Launch) (E : m_E) (sz N : Nat) (a_t : Nat) (a_t_images : Nat) (a_t_kept : Nat) (a_t_aside : Nat) (a_t_hears : Nat) (a_t_spies : Nat) (a_t_known : Nat) (a_t_by : Nat) (a_t_ways : Nat) (a_t_fewest : Nat) (a_t_heavy : Nat) (a_t_sums : Nat) (a_t_faces : Nat) (a_t_bestFaces : Nat) (a_t_text : Nat) (a_t_verbs : Nat) (a_t_many : Nat) (a_t_nums : Nat) (a_t_book : Nat) (a_t_limbs : Nat) (a_t_wide : Nat) (t_typed : Int32) (t_at : Int32) (t_start : Int32) (t_token : Int32) (t_value : Int32) (t_items : Int32) (t_book : Nat → Int32) (t_limbs : Nat → Int32) (t_wide : Nat → Int32)  (ures : Int32 × (Nat → Int32) × (Nat → Int32)) (hF : F_R_share N t_book t_limbs t_wide = some ures) : m_Met l yX12_share cX12_share 1 (some .int) rm_R_share E (wd_R_share E a_t a_t_images a_t_kept a_t_aside a_t_hears a_t_spies a_t_known a_t_by a_t_ways a_t_fewest a_t_heavy a_t_sums a_t_faces a_t_bestFaces a_t_text a_t_verbs a_t_many a_t_nums a_t_book a_t_limbs a_t_wide t_typed t_at t_start t_token t_value t_items t_book t_limbs t_wide) (wd_R_share E a_t a_t_images a_t_kept a_t_aside a_t_hears a_t_spies a_t_known a_t_by a_t_ways a_t_fewest a_t_heavy a_t_sums a_t_faces a_t_bestFaces a_t_text a_t_verbs a_t_many a_t_nums a_t_book a_t_limbs a_t_wide t_typed t_at t_start t_token t_value t_items t_book ures.2.1 ures.2.2) sz [.ref a_t] (some (.int ures.1)) := by
  refine m_ofI (by decide) (Nat.le_of_ble_eq_true rfl) ?_
  intro p e s m args below meth c A Q ls X hW hA hl hret
  obtain ⟨hx, hb, -, hown, hts, hK, -, hG⟩ := id X
  have hl : lv_has ls 1 [(0, .ref a_t)] := hl
  unfold F_R_share at hF
  refine lv_aload_n hx hb dX12_share_0 rfl (lv_at hl 0 rfl) ?_
  refine m_get X hW fdX12_7 0 rfl rfl dX12_share_1 ?_
  refine lv_iconst (v := (3 : Int32)) hx hb dX12_share_4 (by decide) ?_
  refine m_iald X hW 1 (k := 3) rfl (by decide) rfl dX12_share_5 ?_
  refine lv_if_ne (tgt := 14) hx hb dX12_share_6 (by decide) (fun c1 => ?_) (fun c1 => ?_)
  · have hF := if_n c1 hF
    refine lv_aload_n hx hb dX12_share_14 rfl (lv_at hl 0 rfl) ?_
    refine lv_aload_n hx hb dX12_share_15 rfl (lv_at hl 0 rfl) ?_
    refine lv_aload_n hx hb dX12_share_16 rfl (lv_at hl 0 rfl) ?_
    obtain ⟨r17, hC2, hF⟩ := bO_s1 hF
    refine m_callV X hW hA hl.1 lkX12_254 (c_R_gets l E _ N a_t a_t_images a_t_kept a_t_aside a_t_limbs a_t_wide a_t_hears a_t_spies a_t_known a_t_by a_t_ways a_t_fewest a_t_heavy a_t_sums a_t_faces a_t_bestFaces a_t_text a_t_verbs a_t_many a_t_nums a_t_book t_typed t_at t_start t_token t_value t_items t_book  r17 hC2) ([0, 1]) (by decide) rfl rfl (ws' := (wd_R_share E a_t a_t_images a_t_kept a_t_aside a_t_hears a_t_spies a_t_known a_t_by a_t_ways a_t_fewest a_t_heavy a_t_sums a_t_faces a_t_bestFaces a_t_text a_t_verbs a_t_many a_t_nums a_t_book a_t_limbs a_t_wide t_typed t_at t_start t_token t_value t_items t_book t_limbs t_wide)) rfl 0 rfl rfl rfl (As := []) (rest := [.ref a_t, .ref a_t]) rfl rfl ⟨rfl, rfl, Nat.le_of_ble_eq_true rfl, Nat.le_of_ble_eq_true rfl⟩ (Nat.le_of_ble_eq_true rfl) (Nat.zero_le _) (Nat.zero_le _) dX12_share_17 (fun H locs hW => ?_)
    clear hC2
    obtain ⟨r20, hC3, hF⟩ := bO_s1 hF
    refine m_callV X hW hA hl.1 lkX12_257 (c_R_weights l E _ N a_t a_t_images a_t_kept a_t_aside a_t_limbs a_t_wide a_t_hears a_t_spies a_t_known a_t_by a_t_ways a_t_fewest a_t_heavy a_t_sums a_t_faces a_t_bestFaces a_t_text a_t_verbs a_t_many a_t_nums a_t_book t_typed t_at t_start t_token t_value t_items t_book r17 r20 hC3) ([0, 1]) (by decide) rfl rfl (ws' := (wd_R_share E a_t a_t_images a_t_kept a_t_aside a_t_hears a_t_spies a_t_known a_t_by a_t_ways a_t_fewest a_t_heavy a_t_sums a_t_faces a_t_bestFaces a_t_text a_t_verbs a_t_many a_t_nums a_t_book a_t_limbs a_t_wide t_typed t_at t_start t_token t_value t_items t_book t_limbs t_wide)) rfl 0 rfl rfl rfl (As := [.int r17]) (rest := [.ref a_t]) rfl rfl ⟨rfl, rfl, Nat.le_of_ble_eq_true rfl, Nat.le_of_ble_eq_true rfl⟩ (Nat.le_of_ble_eq_true rfl) (Nat.zero_le _) (Nat.zero_le _) dX12_share_20 (fun H locs hW => ?_)
    clear hC3
    refine lv_i2l (v := r20.toInt64) hx hb dX12_share_23 rfl ?_
    refine lv_aload_n hx hb dX12_share_24 rfl (lv_at hl 0 rfl) ?_
    refine lv_aload_n hx hb dX12_share_25 rfl (lv_at hl 0 rfl) ?_
    refine m_callV X hW hA hl.1 lkX12_225 (c_R_allWords l E _ N a_t a_t_images a_t_kept a_t_aside a_t_limbs a_t_wide a_t_hears a_t_spies a_t_known a_t_by a_t_ways a_t_fewest a_t_heavy a_t_sums a_t_faces a_t_bestFaces a_t_text a_t_verbs a_t_many a_t_nums a_t_book t_typed t_at t_start t_token t_value t_items t_book  (F_R_allWords t_book) rfl) ([0, 1]) (by decide) rfl rfl (ws' := (wd_R_share E a_t a_t_images a_t_kept a_t_aside a_t_hears a_t_spies a_t_known a_t_by a_t_ways a_t_fewest a_t_heavy a_t_sums a_t_faces a_t_bestFaces a_t_text a_t_verbs a_t_many a_t_nums a_t_book a_t_limbs a_t_wide t_typed t_at t_start t_token t_value t_items t_book t_limbs t_wide)) rfl 0 rfl rfl rfl (As := []) (rest := [.ref a_t, .long r20.toInt64, .ref a_t]) rfl rfl ⟨rfl, rfl, Nat.le_of_ble_eq_true rfl, Nat.le_of_ble_eq_true rfl⟩ (Nat.le_of_ble_eq_true rfl) (Nat.zero_le _) (Nat.zero_le _) dX12_share_26 (fun H locs hW => ?_)
    obtain ⟨r29, hC4, hF⟩ := bO_s1 hF
    refine m_callV X hW hA hl.1 lkX12_257 (c_R_weights l E _ N a_t a_t_images a_t_kept a_t_aside a_t_limbs a_t_wide a_t_hears a_t_spies a_t_known a_t_by a_t_ways a_t_fewest a_t_heavy a_t_sums a_t_faces a_t_bestFaces a_t_text a_t_verbs a_t_many a_t_nums a_t_book t_typed t_at t_start t_token t_value t_items t_book (F_R_allWords t_book) r29 hC4) ([0, 1]) (by decide) rfl rfl (ws' := (wd_R_share E a_t a_t_images a_t_kept a_t_aside a_t_hears a_t_spies a_t_known a_t_by a_t_ways a_t_fewest a_t_heavy a_t_sums a_t_faces a_t_bestFaces a_t_text a_t_verbs a_t_many a_t_nums a_t_book a_t_limbs a_t_wide t_typed t_at t_start t_token t_value t_items t_book t_limbs t_wide)) rfl 0 rfl rfl rfl (As := [.int (F_R_allWords t_book)]) (rest := [.long r20.toInt64, .ref a_t]) rfl rfl ⟨rfl, rfl, Nat.le_of_ble_eq_true rfl, Nat.le_of_ble_eq_true rfl⟩ (Nat.le_of_ble_eq_true rfl) (Nat.zero_le _) (Nat.zero_le _) dX12_share_29 (fun H locs hW => ?_)
    clear hC4
    refine lv_i2l (v := r29.toInt64) hx hb dX12_share_32 rfl ?_
    obtain ⟨r33, t_limbs'_2, t_wide'_2, hC5, hF⟩ := bO_s3 hF
    refine m_callV X hW hA hl.1 lkX12_260 (c_R_told l E _ N a_t a_t_book a_t_images a_t_kept a_t_aside a_t_hears a_t_spies a_t_known a_t_by a_t_ways a_t_fewest a_t_heavy a_t_sums a_t_faces a_t_bestFaces a_t_text a_t_verbs a_t_many a_t_nums a_t_limbs a_t_wide t_typed t_at t_start t_token t_value t_items t_limbs t_wide r20.toInt64 r29.toInt64 (r33, t_limbs'_2, t_wide'_2) hC5) ([0, 2, 3]) (by decide) rfl rfl (ws' := (wd_R_share E a_t a_t_images a_t_kept a_t_aside a_t_hears a_t_spies a_t_known a_t_by a_t_ways a_t_fewest a_t_heavy a_t_sums a_t_faces a_t_bestFaces a_t_text a_t_verbs a_t_many a_t_nums a_t_book a_t_limbs a_t_wide t_typed t_at t_start t_token t_value t_items t_book t_limbs'_2 t_wide'_2)) rfl 0 rfl rfl rfl (As := [.long r20.toInt64, .long r29.toInt64]) (rest := []) rfl rfl ⟨rfl, rfl, Nat.le_of_ble_eq_true rfl, Nat.le_of_ble_eq_true rfl⟩ (Nat.le_of_ble_eq_true rfl) (Nat.zero_le _) (Nat.zero_le _) dX12_share_33 (fun H locs hW => ?_)
    clear hC5
    have hq := Option.some.inj hF
    subst hq
    exact hret _ _ _ _ hW dX12_share_36
  · have hF := if_y c1 hF
    refine lv_bipush (v := (-3 : Int32)) hx hb dX12_share_9 (by decide) ?_
    refine lv_goto (tgt := 36) hx hb dX12_share_11 (by decide) ?_
    have hq := Option.some.inj hF
    subst hq
    exact hret _ _ _ _ hW dX12_share_36
abbrev wd_R_teach (E : m_E) (a_t : Nat) (a_t_images : Nat) (a_t_kept : Nat) (a_t_aside : Nat) (a_t_limbs : Nat) (a_t_wide : Nat) (a_t_hears : Nat) (a_t_spies : Nat) (a_t_known : Nat) (a_t_by : Nat) (a_t_ways : Nat) (a_t_fewest : Nat) (a_t_heavy : Nat) (a_t_sums : Nat) (a_t_faces : Nat) (a_t_bestFaces : Nat) (a_t_text : Nat) (a_t_verbs : Nat) (a_t_many : Nat) (a_t_nums : Nat) (a_t_book : Nat) (t_typed : Int32) (t_at : Int32) (t_start : Int32) (t_token : Int32) (t_value : Int32) (t_items : Int32) (t_book : Nat → Int32) : va_W := [(a_t, .inr (12, [.ref a_t_book, .ref a_t_images, .ref a_t_kept, .ref a_t_aside, .ref a_t_limbs, .ref a_t_wide, .ref a_t_hears, .ref a_t_spies, .ref a_t_known, .ref a_t_by, .ref a_t_ways, .ref a_t_fewest, .ref a_t_heavy, .ref a_t_sums, .ref a_t_faces, .ref a_t_bestFaces, .ref a_t_text, .int t_typed, .int t_at, .int t_start, .int t_token, .int t_value, .ref a_t_verbs, .ref a_t_many, .ref a_t_nums, .int t_items])), (a_t_book, .inl (E.2.1 0, 240, .inl t_book))]
def rm_R_teach : Room := { frames := 5, cells := 0, slots := 0, locals := 116 }
set_option maxHeartbeats 4000000 in
set_option maxRecDepth 100000 in
theorem c_R_teach (l : Launch) (E : m_E) (sz N : Nat) (a_t : Nat) (a_t_images : Nat) (a_t_kept : Nat) (a_t_aside : Nat) (a_t_limbs : Nat) (a_t_wide : Nat) (a_t_hears : Nat) (a_t_spies : Nat) (a_t_known : Nat) (a_t_by : Nat) (a_t_ways : Nat) (a_t_fewest : Nat) (a_t_heavy : Nat) (a_t_sums : Nat) (a_t_faces : Nat) (a_t_bestFaces : Nat) (a_t_text : Nat) (a_t_verbs : Nat) (a_t_many : Nat) (a_t_nums : Nat) (a_t_book : Nat) (t_typed : Int32) (t_at : Int32) (t_start : Int32) (t_token : Int32) (t_value : Int32) (t_items : Int32) (t_book : Nat → Int32) (p1 : Int32) (ures : Int32) (hF : F_R_teach N p1 t_book = some ures) : m_Met l yX12_teach cX12_teach 6 (some .int) rm_R_teach E (wd_R_teach E a_t a_t_images a_t_kept a_t_aside a_t_limbs a_t_wide a_t_hears a_t_spies a_t_known a_t_by a_t_ways a_t_fewest a_t_heavy a_t_sums a_t_faces a_t_bestFaces a_t_text a_t_verbs a_t_many a_t_nums a_t_book t_typed t_at t_start t_token t_value t_items t_book) (wd_R_teach E a_t a_t_images a_t_kept a_t_aside a_t_limbs a_t_wide a_t_hears a_t_spies a_t_known a_t_by a_t_ways a_t_fewest a_t_heavy a_t_sums a_t_faces a_t_bestFaces a_t_text a_t_verbs a_t_many a_t_nums a_t_book t_typed t_at t_start t_token t_value t_items t_book) sz [.ref a_t, .int p1] (some (.int ures)) := by
  refine m_ofI (by decide) (Nat.le_of_ble_eq_true rfl) ?_
  intro p e s m args below meth c A Q ls X hW hA hl hret
  obtain ⟨hx, hb, -, hown, hts, hK, -, hG⟩ := id X
  have hl : lv_has ls 6 [(0, .ref a_t), (1, .int p1)] := hl
  unfold F_R_teach at hF
  refine lv_iload_n hx hb dX12_teach_0 rfl (lv_at hl 1 rfl) ?_
  refine lv_i2l (v := p1.toInt64) hx hb dX12_teach_1 rfl ?_
  refine lv_lconst (v := (0 : Int64)) hx hb dX12_teach_2 (by decide) ?_
  refine lv_aload_n hx hb dX12_teach_3 rfl (lv_at hl 0 rfl) ?_
  refine m_callV X hW hA hl.1 lkX12_225 (c_R_allWords l E _ N a_t a_t_images a_t_kept a_t_aside a_t_limbs a_t_wide a_t_hears a_t_spies a_t_known a_t_by a_t_ways a_t_fewest a_t_heavy a_t_sums a_t_faces a_t_bestFaces a_t_text a_t_verbs a_t_many a_t_nums a_t_book t_typed t_at t_start t_token t_value t_items t_book  (F_R_allWords t_book) rfl) ([0, 1]) (by decide) rfl rfl (ws' := (wd_R_teach E a_t a_t_images a_t_kept a_t_aside a_t_limbs a_t_wide a_t_hears a_t_spies a_t_known a_t_by a_t_ways a_t_fewest a_t_heavy a_t_sums a_t_faces a_t_bestFaces a_t_text a_t_verbs a_t_many a_t_nums a_t_book t_typed t_at t_start t_token t_value t_items t_book)) rfl 0 rfl rfl rfl (As := []) (rest := [.long (0 : Int64), .long p1.toInt64]) rfl rfl ⟨rfl, rfl, Nat.le_of_ble_eq_true rfl, Nat.le_of_ble_eq_true rfl⟩ (Nat.le_of_ble_eq_true rfl) (Nat.zero_le _) (Nat.zero_le _) dX12_teach_4 (fun H locs hW => ?_)
  refine lv_aload_n hx hb dX12_teach_7 rfl (lv_at hl 0 rfl) ?_
  refine m_get X hW fdX12_7 0 rfl rfl dX12_teach_8 ?_
  refine lv_bipush (v := (9 : Int32)) hx hb dX12_teach_11 (by decide) ?_
  refine m_iald X hW 1 (k := 9) rfl (by decide) rfl dX12_teach_13 ?_
  refine lv_iconst (v := (-1 : Int32)) hx hb dX12_teach_14 (by decide) ?_
  refine lv_ixor hx hb dX12_teach_15 ?_
  refine lv_iand hx hb dX12_teach_16 ?_
  obtain ⟨r17, hC1, hF⟩ := bO_s1 hF
  refine m_callS X hW hA hl.1 lkX12_181 (c_R_sizeOf l E _ N   ((F_R_allWords t_book) &&& ((t_book 9) ^^^ (-1 : Int32))) r17 hC1) ([]) (by decide) rfl rfl (ws' := (wd_R_teach E a_t a_t_images a_t_kept a_t_aside a_t_limbs a_t_wide a_t_hears a_t_spies a_t_known a_t_by a_t_ways a_t_fewest a_t_heavy a_t_sums a_t_faces a_t_bestFaces a_t_text a_t_verbs a_t_many a_t_nums a_t_book t_typed t_at t_start t_token t_value t_items t_book)) rfl (As := [.int ((F_R_allWords t_book) &&& ((t_book 9) ^^^ (-1 : Int32)))]) (rest := [.long (0 : Int64), .long p1.toInt64]) rfl rfl ⟨rfl, rfl, Nat.le_of_ble_eq_true rfl, Nat.le_of_ble_eq_true rfl⟩ (Nat.le_of_ble_eq_true rfl) (Nat.zero_le _) (Nat.zero_le _) dX12_teach_17 (fun H locs hW => ?_)
  clear hC1
  refine lv_i2l (v := r17.toInt64) hx hb dX12_teach_20 rfl ?_
  refine m_callS X hW hA hl.1 lkX12_109 (c_R_in l E _ N   p1.toInt64 (0 : Int64) r17.toInt64 (F_R_in p1.toInt64 (0 : Int64) r17.toInt64) rfl) ([]) (by decide) rfl rfl (ws' := (wd_R_teach E a_t a_t_images a_t_kept a_t_aside a_t_limbs a_t_wide a_t_hears a_t_spies a_t_known a_t_by a_t_ways a_t_fewest a_t_heavy a_t_sums a_t_faces a_t_bestFaces a_t_text a_t_verbs a_t_many a_t_nums a_t_book t_typed t_at t_start t_token t_value t_items t_book)) rfl (As := [.long p1.toInt64, .long (0 : Int64), .long r17.toInt64]) (rest := []) rfl rfl ⟨rfl, rfl, Nat.le_of_ble_eq_true rfl, Nat.le_of_ble_eq_true rfl⟩ (Nat.le_of_ble_eq_true rfl) (Nat.zero_le _) (Nat.zero_le _) dX12_teach_21 (fun H locs hW => ?_)
  refine lv_if_ne (tgt := 30) hx hb dX12_teach_24 (by decide) (fun c2 => ?_) (fun c2 => ?_)
  · have hF := if_n c2 hF
    refine lv_iconst (v := (-1 : Int32)) hx hb dX12_teach_30 (by decide) ?_
    refine lv_istore_n (lv' := [(2, .int (-1 : Int32)), (0, .ref a_t), (1, .int p1)]) hx hb dX12_teach_31 rfl hl (by decide) rfl (fun ls hl => ?_)
    refine lv_iconst (v := (-1 : Int32)) hx hb dX12_teach_32 (by decide) ?_
    refine lv_istore_n (lv' := [(3, .int (-1 : Int32)), (2, .int (-1 : Int32)), (0, .ref a_t), (1, .int p1)]) hx hb dX12_teach_33 rfl hl (by decide) rfl (fun ls hl => ?_)
    refine lv_iconst (v := (0 : Int32)) hx hb dX12_teach_34 (by decide) ?_
    refine lv_istore (lv' := [(4, .int (0 : Int32)), (3, .int (-1 : Int32)), (2, .int (-1 : Int32)), (0, .ref a_t), (1, .int p1)]) hx hb dX12_teach_35 hl (by decide) rfl (fun ls hl => ?_)
    obtain ⟨x2_2, hX4, hF⟩ := bO_s1 hF
    have L3 : ∀ (k0 : Nat) (x2 : Int32) (x3 : Int32) (x4 : Int32) (x2_2 : Int32) (H : Heap) (locs : List Loc) (ls : Array Slot), R_teach_L37 N t_book p1 k0 x2 x3 x4 = some x2_2 → m_H E A (wd_R_teach E a_t a_t_images a_t_kept a_t_aside a_t_limbs a_t_wide a_t_hears a_t_spies a_t_known a_t_by a_t_ways a_t_fewest a_t_heavy a_t_sums a_t_faces a_t_bestFaces a_t_text a_t_verbs a_t_many a_t_nums a_t_book t_typed t_at t_start t_token t_value t_items t_book) s.heap H locs → lv_has ls 6 [(4, .int x4), (3, .int x3), (2, .int x2), (0, .ref a_t), (1, .int p1)] → (∀ (H : Heap) (locs : List Loc) (ls : Array Slot), m_H E A (wd_R_teach E a_t a_t_images a_t_kept a_t_aside a_t_limbs a_t_wide a_t_hears a_t_spies a_t_known a_t_by a_t_ways a_t_fewest a_t_heavy a_t_sums a_t_faces a_t_bestFaces a_t_text a_t_verbs a_t_many a_t_nums a_t_book t_typed t_at t_start t_token t_value t_items t_book) s.heap H locs → lv_has ls 6 [(2, .int x2_2)] → W p l e rm_R_teach s m args below meth c H locs 0 0 Q (F0 m 106 ls [])) → W p l e rm_R_teach s m args below meth c H locs 0 0 Q (F0 m 37 ls []) := by
      clear hF
      intro k0
      induction k0 with
      | zero =>
        intro x2 x3 x4 x2_2 H locs ls hF
        cases hF
      | succ k0 ih6 =>
        intro x2 x3 x4 x2_2 H locs ls hF hW hl hk5
        rw [R_teach_L37] at hF
        refine lv_iload hx hb dX12_teach_37 (lv_at hl 0 rfl) ?_
        refine lv_aload_n hx hb dX12_teach_39 rfl (lv_at hl 3 rfl) ?_
        refine m_callV X hW hA hl.1 lkX12_225 (c_R_allWords l E _ N a_t a_t_images a_t_kept a_t_aside a_t_limbs a_t_wide a_t_hears a_t_spies a_t_known a_t_by a_t_ways a_t_fewest a_t_heavy a_t_sums a_t_faces a_t_bestFaces a_t_text a_t_verbs a_t_many a_t_nums a_t_book t_typed t_at t_start t_token t_value t_items t_book  (F_R_allWords t_book) rfl) ([0, 1]) (by decide) rfl rfl (ws' := (wd_R_teach E a_t a_t_images a_t_kept a_t_aside a_t_limbs a_t_wide a_t_hears a_t_spies a_t_known a_t_by a_t_ways a_t_fewest a_t_heavy a_t_sums a_t_faces a_t_bestFaces a_t_text a_t_verbs a_t_many a_t_nums a_t_book t_typed t_at t_start t_token t_value t_items t_book)) rfl 0 rfl rfl rfl (As := []) (rest := [.int x4]) rfl rfl ⟨rfl, rfl, Nat.le_of_ble_eq_true rfl, Nat.le_of_ble_eq_true rfl⟩ (Nat.le_of_ble_eq_true rfl) (Nat.zero_le _) (Nat.zero_le _) dX12_teach_40 (fun H locs hW => ?_)
        refine lv_icmp_gt (tgt := 106) hx hb dX12_teach_43 (by decide) (fun c7 => ?_) (fun c7 => ?_)
        · have hF := if_y c7 hF
          cases hF
          exact hk5 _ _ _ hW (lv_sub hl [2] rfl)
        · have hF := if_n c7 hF
          refine lv_iload hx hb dX12_teach_46 (lv_at hl 0 rfl) ?_
          refine lv_aload_n hx hb dX12_teach_48 rfl (lv_at hl 3 rfl) ?_
          refine m_get X hW fdX12_7 0 rfl rfl dX12_teach_49 ?_
          refine lv_bipush (v := (9 : Int32)) hx hb dX12_teach_52 (by decide) ?_
          refine m_iald X hW 1 (k := 9) rfl (by decide) rfl dX12_teach_54 ?_
          refine lv_iand hx hb dX12_teach_55 ?_
          refine lv_if_ne (tgt := 100) hx hb dX12_teach_56 (by decide) (fun c8 => ?_) (fun c8 => ?_)
          · have hF := if_n c8 hF
            refine lv_iinc (v := (x4 + (1 : Int32))) (lv' := [(4, .int (x4 + (1 : Int32))), (3, .int x3), (2, .int x2), (0, .ref a_t), (1, .int p1)]) hx hb dX12_teach_100 hl (k := 0) rfl rfl (by decide) rfl (fun ls hl => ?_)
            refine lv_goto (tgt := 37) hx hb dX12_teach_103 (by decide) ?_
            exact ih6 x2 x3 (x4 + (1 : Int32)) x2_2 _ _ _ hF hW (lv_sub hl [0, 1, 2, 3, 4] rfl) hk5
          · have hF := if_y c8 hF
            refine lv_iload hx hb dX12_teach_59 (lv_at hl 0 rfl) ?_
            obtain ⟨r61, hC9, hF⟩ := bO_s1 hF
            refine m_callS X hW hA hl.1 lkX12_181 (c_R_sizeOf l E _ N   x4 r61 hC9) ([]) (by decide) rfl rfl (ws' := (wd_R_teach E a_t a_t_images a_t_kept a_t_aside a_t_limbs a_t_wide a_t_hears a_t_spies a_t_known a_t_by a_t_ways a_t_fewest a_t_heavy a_t_sums a_t_faces a_t_bestFaces a_t_text a_t_verbs a_t_many a_t_nums a_t_book t_typed t_at t_start t_token t_value t_items t_book)) rfl (As := [.int x4]) (rest := []) rfl rfl ⟨rfl, rfl, Nat.le_of_ble_eq_true rfl, Nat.le_of_ble_eq_true rfl⟩ (Nat.le_of_ble_eq_true rfl) (Nat.zero_le _) (Nat.zero_le _) dX12_teach_61 (fun H locs hW => ?_)
            clear hC9
            refine lv_iload_n hx hb dX12_teach_64 rfl (lv_at hl 4 rfl) ?_
            refine lv_icmp_ne (tgt := 100) hx hb dX12_teach_65 (by decide) (fun c10 => ?_) (fun c10 => ?_)
            · have hF := if_n c10 hF
              refine lv_iinc (v := (x4 + (1 : Int32))) (lv' := [(4, .int (x4 + (1 : Int32))), (3, .int x3), (2, .int x2), (0, .ref a_t), (1, .int p1)]) hx hb dX12_teach_100 hl (k := 0) rfl rfl (by decide) rfl (fun ls hl => ?_)
              refine lv_goto (tgt := 37) hx hb dX12_teach_103 (by decide) ?_
              exact ih6 x2 x3 (x4 + (1 : Int32)) x2_2 _ _ _ hF hW (lv_sub hl [0, 1, 2, 3, 4] rfl) hk5
            · have hF := if_y c10 hF
              refine lv_aload_n hx hb dX12_teach_68 rfl (lv_at hl 3 rfl) ?_
              refine lv_aload_n hx hb dX12_teach_69 rfl (lv_at hl 3 rfl) ?_
              refine lv_aload_n hx hb dX12_teach_70 rfl (lv_at hl 3 rfl) ?_
              refine m_get X hW fdX12_7 0 rfl rfl dX12_teach_71 ?_
              refine lv_bipush (v := (9 : Int32)) hx hb dX12_teach_74 (by decide) ?_
              refine m_iald X hW 1 (k := 9) rfl (by decide) rfl dX12_teach_76 ?_
              refine lv_iload hx hb dX12_teach_77 (lv_at hl 0 rfl) ?_
              refine lv_ior hx hb dX12_teach_79 ?_
              obtain ⟨r80, hC11, hF⟩ := bO_s1 hF
              refine m_callV X hW hA hl.1 lkX12_251 (c_R_getsOf l E _ N a_t a_t_images a_t_kept a_t_aside a_t_limbs a_t_wide a_t_hears a_t_spies a_t_known a_t_by a_t_ways a_t_fewest a_t_heavy a_t_sums a_t_faces a_t_bestFaces a_t_text a_t_verbs a_t_many a_t_nums a_t_book t_typed t_at t_start t_token t_value t_items t_book ((t_book 9) ||| x4) r80 hC11) ([0, 1]) (by decide) rfl rfl (ws' := (wd_R_teach E a_t a_t_images a_t_kept a_t_aside a_t_limbs a_t_wide a_t_hears a_t_spies a_t_known a_t_by a_t_ways a_t_fewest a_t_heavy a_t_sums a_t_faces a_t_bestFaces a_t_text a_t_verbs a_t_many a_t_nums a_t_book t_typed t_at t_start t_token t_value t_items t_book)) rfl 0 rfl rfl rfl (As := [.int ((t_book 9) ||| x4)]) (rest := [.ref a_t]) rfl rfl ⟨rfl, rfl, Nat.le_of_ble_eq_true rfl, Nat.le_of_ble_eq_true rfl⟩ (Nat.le_of_ble_eq_true rfl) (Nat.zero_le _) (Nat.zero_le _) dX12_teach_80 (fun H locs hW => ?_)
              clear hC11
              obtain ⟨r83, hC12, hF⟩ := bO_s1 hF
              refine m_callV X hW hA hl.1 lkX12_257 (c_R_weights l E _ N a_t a_t_images a_t_kept a_t_aside a_t_limbs a_t_wide a_t_hears a_t_spies a_t_known a_t_by a_t_ways a_t_fewest a_t_heavy a_t_sums a_t_faces a_t_bestFaces a_t_text a_t_verbs a_t_many a_t_nums a_t_book t_typed t_at t_start t_token t_value t_items t_book r80 r83 hC12) ([0, 1]) (by decide) rfl rfl (ws' := (wd_R_teach E a_t a_t_images a_t_kept a_t_aside a_t_limbs a_t_wide a_t_hears a_t_spies a_t_known a_t_by a_t_ways a_t_fewest a_t_heavy a_t_sums a_t_faces a_t_bestFaces a_t_text a_t_verbs a_t_many a_t_nums a_t_book t_typed t_at t_start t_token t_value t_items t_book)) rfl 0 rfl rfl rfl (As := [.int r80]) (rest := []) rfl rfl ⟨rfl, rfl, Nat.le_of_ble_eq_true rfl, Nat.le_of_ble_eq_true rfl⟩ (Nat.le_of_ble_eq_true rfl) (Nat.zero_le _) (Nat.zero_le _) dX12_teach_83 (fun H locs hW => ?_)
              clear hC12
              refine lv_istore (lv' := [(5, .int r83), (4, .int x4), (3, .int x3), (2, .int x2), (0, .ref a_t), (1, .int p1)]) hx hb dX12_teach_86 hl (by decide) rfl (fun ls hl => ?_)
              refine lv_iload hx hb dX12_teach_88 (lv_at hl 0 rfl) ?_
              refine lv_iload_n hx hb dX12_teach_90 rfl (lv_at hl 2 rfl) ?_
              refine lv_icmp_le (tgt := 100) hx hb dX12_teach_91 (by decide) (fun c13 => ?_) (fun c13 => ?_)
              · have hF := if_y c13 hF
                refine lv_iinc (v := (x4 + (1 : Int32))) (lv' := [(4, .int (x4 + (1 : Int32))), (5, .int r83), (3, .int x3), (2, .int x2), (0, .ref a_t), (1, .int p1)]) hx hb dX12_teach_100 hl (k := 1) rfl rfl (by decide) rfl (fun ls hl => ?_)
                refine lv_goto (tgt := 37) hx hb dX12_teach_103 (by decide) ?_
                exact ih6 x2 x3 (x4 + (1 : Int32)) x2_2 _ _ _ hF hW (lv_sub hl [0, 2, 3, 4, 5] rfl) hk5
              · have hF := if_n c13 hF
                refine lv_iload hx hb dX12_teach_94 (lv_at hl 1 rfl) ?_
                refine lv_istore_n (lv' := [(2, .int x4), (5, .int r83), (4, .int x4), (3, .int x3), (0, .ref a_t), (1, .int p1)]) hx hb dX12_teach_96 rfl hl (by decide) rfl (fun ls hl => ?_)
                refine lv_iload hx hb dX12_teach_97 (lv_at hl 1 rfl) ?_
                refine lv_istore_n (lv' := [(3, .int r83), (2, .int x4), (5, .int r83), (4, .int x4), (0, .ref a_t), (1, .int p1)]) hx hb dX12_teach_99 rfl hl (by decide) rfl (fun ls hl => ?_)
                refine lv_iinc (v := (x4 + (1 : Int32))) (lv' := [(4, .int (x4 + (1 : Int32))), (3, .int r83), (2, .int x4), (5, .int r83), (0, .ref a_t), (1, .int p1)]) hx hb dX12_teach_100 hl (k := 3) rfl rfl (by decide) rfl (fun ls hl => ?_)
                refine lv_goto (tgt := 37) hx hb dX12_teach_103 (by decide) ?_
                exact ih6 x4 r83 (x4 + (1 : Int32)) x2_2 _ _ _ hF hW (lv_sub hl [0, 1, 2, 4, 5] rfl) hk5
    refine L3 N (-1 : Int32) (-1 : Int32) (0 : Int32) x2_2 _ _ _ hX4 hW (lv_sub hl [0, 1, 2, 3, 4] rfl) ?_
    intro H locs ls hW hl
    clear L3
    refine lv_iload_n hx hb dX12_teach_106 rfl (lv_at hl 0 rfl) ?_
    have hq := Option.some.inj hF
    subst hq
    exact hret _ _ _ _ hW dX12_teach_107
  · have hF := if_y c2 hF
    refine lv_bipush (v := (-2 : Int32)) hx hb dX12_teach_27 (by decide) ?_
    have hq := Option.some.inj hF
    subst hq
    exact hret _ _ _ _ hW dX12_teach_29
abbrev wd_R_band (E : m_E) (a_t : Nat) (a_t_images : Nat) (a_t_kept : Nat) (a_t_aside : Nat) (a_t_limbs : Nat) (a_t_wide : Nat) (a_t_hears : Nat) (a_t_spies : Nat) (a_t_known : Nat) (a_t_by : Nat) (a_t_ways : Nat) (a_t_fewest : Nat) (a_t_heavy : Nat) (a_t_sums : Nat) (a_t_faces : Nat) (a_t_bestFaces : Nat) (a_t_text : Nat) (a_t_verbs : Nat) (a_t_many : Nat) (a_t_nums : Nat) (a_t_book : Nat) (t_typed : Int32) (t_at : Int32) (t_start : Int32) (t_token : Int32) (t_value : Int32) (t_items : Int32) (t_book : Nat → Int32) : va_W := [(a_t, .inr (12, [.ref a_t_book, .ref a_t_images, .ref a_t_kept, .ref a_t_aside, .ref a_t_limbs, .ref a_t_wide, .ref a_t_hears, .ref a_t_spies, .ref a_t_known, .ref a_t_by, .ref a_t_ways, .ref a_t_fewest, .ref a_t_heavy, .ref a_t_sums, .ref a_t_faces, .ref a_t_bestFaces, .ref a_t_text, .int t_typed, .int t_at, .int t_start, .int t_token, .int t_value, .ref a_t_verbs, .ref a_t_many, .ref a_t_nums, .int t_items])), (a_t_book, .inl (E.2.1 0, 240, .inl t_book))]
def rm_R_band : Room := { frames := 1, cells := 0, slots := 0, locals := 25 }
set_option maxHeartbeats 4000000 in
set_option maxRecDepth 100000 in
theorem c_R_band (l : Launch) (E : m_E) (sz N : Nat) (a_t : Nat) (a_t_images : Nat) (a_t_kept : Nat) (a_t_aside : Nat) (a_t_limbs : Nat) (a_t_wide : Nat) (a_t_hears : Nat) (a_t_spies : Nat) (a_t_known : Nat) (a_t_by : Nat) (a_t_ways : Nat) (a_t_fewest : Nat) (a_t_heavy : Nat) (a_t_sums : Nat) (a_t_faces : Nat) (a_t_bestFaces : Nat) (a_t_text : Nat) (a_t_verbs : Nat) (a_t_many : Nat) (a_t_nums : Nat) (a_t_book : Nat) (t_typed : Int32) (t_at : Int32) (t_start : Int32) (t_token : Int32) (t_value : Int32) (t_items : Int32) (t_book : Nat → Int32) (p1 : Int32) (p2 : Int32) (p3 : Int32) (ures : Int32 × (Nat → Int32)) (hF : F_R_band p1 p2 p3 t_book = some ures) : m_Met l yX12_band cX12_band 4 (some .int) rm_R_band E (wd_R_band E a_t a_t_images a_t_kept a_t_aside a_t_limbs a_t_wide a_t_hears a_t_spies a_t_known a_t_by a_t_ways a_t_fewest a_t_heavy a_t_sums a_t_faces a_t_bestFaces a_t_text a_t_verbs a_t_many a_t_nums a_t_book t_typed t_at t_start t_token t_value t_items t_book) (wd_R_band E a_t a_t_images a_t_kept a_t_aside a_t_limbs a_t_wide a_t_hears a_t_spies a_t_known a_t_by a_t_ways a_t_fewest a_t_heavy a_t_sums a_t_faces a_t_bestFaces a_t_text a_t_verbs a_t_many a_t_nums a_t_book t_typed t_at t_start t_token t_value t_items ures.2) sz [.ref a_t, .int p1, .int p2, .int p3] (some (.int ures.1)) := by
  refine m_ofI (by decide) (Nat.le_of_ble_eq_true rfl) ?_
  intro p e s m args below meth c A Q ls X hW hA hl hret
  obtain ⟨hx, hb, -, hown, hts, hK, -, hG⟩ := id X
  have hl : lv_has ls 4 [(0, .ref a_t), (1, .int p1), (2, .int p2), (3, .int p3)] := hl
  unfold F_R_band at hF
  refine lv_iload_n hx hb dX12_band_0 rfl (lv_at hl 1 rfl) ?_
  refine lv_i2l (v := p1.toInt64) hx hb dX12_band_1 rfl ?_
  refine lv_lconst (v := (0 : Int64)) hx hb dX12_band_2 (by decide) ?_
  refine lv_ldc2 (v := (5 : Int64)) hx hb hown (hts _ wk_1349) dX12_band_3 ?_
  refine m_callS X hW hA hl.1 lkX12_109 (c_R_in l E _ N   p1.toInt64 (0 : Int64) (5 : Int64) (F_R_in p1.toInt64 (0 : Int64) (5 : Int64)) rfl) ([]) (by decide) rfl rfl (ws' := (wd_R_band E a_t a_t_images a_t_kept a_t_aside a_t_limbs a_t_wide a_t_hears a_t_spies a_t_known a_t_by a_t_ways a_t_fewest a_t_heavy a_t_sums a_t_faces a_t_bestFaces a_t_text a_t_verbs a_t_many a_t_nums a_t_book t_typed t_at t_start t_token t_value t_items t_book)) rfl (As := [.long p1.toInt64, .long (0 : Int64), .long (5 : Int64)]) (rest := []) rfl rfl ⟨rfl, rfl, Nat.le_of_ble_eq_true rfl, Nat.le_of_ble_eq_true rfl⟩ (Nat.le_of_ble_eq_true rfl) (Nat.zero_le _) (Nat.zero_le _) dX12_band_6 (fun H locs hW => ?_)
  refine lv_if_eq (tgt := 36) hx hb dX12_band_9 (by decide) (fun c1 => ?_) (fun c1 => ?_)
  · have hF := if_y c1 hF
    refine lv_bipush (v := (-2 : Int32)) hx hb dX12_band_36 (by decide) ?_
    have hq := Option.some.inj hF
    subst hq
    exact hret _ _ _ _ hW dX12_band_38
  · have hF := if_n c1 hF
    refine lv_iload_n hx hb dX12_band_12 rfl (lv_at hl 2 rfl) ?_
    refine lv_i2l (v := p2.toInt64) hx hb dX12_band_13 rfl ?_
    refine lv_lconst (v := (0 : Int64)) hx hb dX12_band_14 (by decide) ?_
    refine lv_ldc2 (v := (99 : Int64)) hx hb hown (hts _ wk_1430) dX12_band_15 ?_
    refine m_callS X hW hA hl.1 lkX12_109 (c_R_in l E _ N   p2.toInt64 (0 : Int64) (99 : Int64) (F_R_in p2.toInt64 (0 : Int64) (99 : Int64)) rfl) ([]) (by decide) rfl rfl (ws' := (wd_R_band E a_t a_t_images a_t_kept a_t_aside a_t_limbs a_t_wide a_t_hears a_t_spies a_t_known a_t_by a_t_ways a_t_fewest a_t_heavy a_t_sums a_t_faces a_t_bestFaces a_t_text a_t_verbs a_t_many a_t_nums a_t_book t_typed t_at t_start t_token t_value t_items t_book)) rfl (As := [.long p2.toInt64, .long (0 : Int64), .long (99 : Int64)]) (rest := []) rfl rfl ⟨rfl, rfl, Nat.le_of_ble_eq_true rfl, Nat.le_of_ble_eq_true rfl⟩ (Nat.le_of_ble_eq_true rfl) (Nat.zero_le _) (Nat.zero_le _) dX12_band_18 (fun H locs hW => ?_)
    refine lv_if_eq (tgt := 36) hx hb dX12_band_21 (by decide) (fun c2 => ?_) (fun c2 => ?_)
    · have hF := if_y c2 hF
      refine lv_bipush (v := (-2 : Int32)) hx hb dX12_band_36 (by decide) ?_
      have hq := Option.some.inj hF
      subst hq
      exact hret _ _ _ _ hW dX12_band_38
    · have hF := if_n c2 hF
      refine lv_iload_n hx hb dX12_band_24 rfl (lv_at hl 3 rfl) ?_
      refine lv_i2l (v := p3.toInt64) hx hb dX12_band_25 rfl ?_
      refine lv_lconst (v := (0 : Int64)) hx hb dX12_band_26 (by decide) ?_
      refine lv_ldc2 (v := (9 : Int64)) hx hb hown (hts _ wk_1358) dX12_band_27 ?_
      refine m_callS X hW hA hl.1 lkX12_109 (c_R_in l E _ N   p3.toInt64 (0 : Int64) (9 : Int64) (F_R_in p3.toInt64 (0 : Int64) (9 : Int64)) rfl) ([]) (by decide) rfl rfl (ws' := (wd_R_band E a_t a_t_images a_t_kept a_t_aside a_t_limbs a_t_wide a_t_hears a_t_spies a_t_known a_t_by a_t_ways a_t_fewest a_t_heavy a_t_sums a_t_faces a_t_bestFaces a_t_text a_t_verbs a_t_many a_t_nums a_t_book t_typed t_at t_start t_token t_value t_items t_book)) rfl (As := [.long p3.toInt64, .long (0 : Int64), .long (9 : Int64)]) (rest := []) rfl rfl ⟨rfl, rfl, Nat.le_of_ble_eq_true rfl, Nat.le_of_ble_eq_true rfl⟩ (Nat.le_of_ble_eq_true rfl) (Nat.zero_le _) (Nat.zero_le _) dX12_band_30 (fun H locs hW => ?_)
      refine lv_if_ne (tgt := 39) hx hb dX12_band_33 (by decide) (fun c3 => ?_) (fun c3 => ?_)
      · have hF := if_n c3 hF
        refine lv_aload_n hx hb dX12_band_39 rfl (lv_at hl 0 rfl) ?_
        refine m_get X hW fdX12_7 0 rfl rfl dX12_band_40 ?_
        refine lv_sipush (v := (220 : Int32)) hx hb dX12_band_43 (by decide) ?_
        refine lv_iconst (v := (2 : Int32)) hx hb dX12_band_46 (by decide) ?_
        refine lv_iload_n hx hb dX12_band_47 rfl (lv_at hl 1 rfl) ?_
        refine lv_imul hx hb dX12_band_48 ?_
        refine lv_iadd hx hb dX12_band_49 ?_
        refine lv_iload_n hx hb dX12_band_50 rfl (lv_at hl 2 rfl) ?_
        obtain ⟨g4, hF⟩ := gd_some hF
        refine m_iast X hW 1 (k := ((220 : Int32) + ((2 : Int32) * p1)).toNatClampNeg) rfl g4 rfl dX12_band_51 (ws' := (wd_R_band E a_t a_t_images a_t_kept a_t_aside a_t_limbs a_t_wide a_t_hears a_t_spies a_t_known a_t_by a_t_ways a_t_fewest a_t_heavy a_t_sums a_t_faces a_t_bestFaces a_t_text a_t_verbs a_t_many a_t_nums a_t_book t_typed t_at t_start t_token t_value t_items (upd t_book ((220 : Int32) + ((2 : Int32) * p1)).toNatClampNeg p2))) rfl (fun H locs hW => ?_)
        refine lv_aload_n hx hb dX12_band_52 rfl (lv_at hl 0 rfl) ?_
        refine m_get X hW fdX12_7 0 rfl rfl dX12_band_53 ?_
        refine lv_sipush (v := (220 : Int32)) hx hb dX12_band_56 (by decide) ?_
        refine lv_iconst (v := (2 : Int32)) hx hb dX12_band_59 (by decide) ?_
        refine lv_iload_n hx hb dX12_band_60 rfl (lv_at hl 1 rfl) ?_
        refine lv_imul hx hb dX12_band_61 ?_
        refine lv_iadd hx hb dX12_band_62 ?_
        refine lv_iconst (v := (1 : Int32)) hx hb dX12_band_63 (by decide) ?_
        refine lv_iadd hx hb dX12_band_64 ?_
        refine lv_iload_n hx hb dX12_band_65 rfl (lv_at hl 3 rfl) ?_
        obtain ⟨g5, hF⟩ := gd_some hF
        refine m_iast X hW 1 (k := (((220 : Int32) + ((2 : Int32) * p1)) + (1 : Int32)).toNatClampNeg) rfl g5 rfl dX12_band_66 (ws' := (wd_R_band E a_t a_t_images a_t_kept a_t_aside a_t_limbs a_t_wide a_t_hears a_t_spies a_t_known a_t_by a_t_ways a_t_fewest a_t_heavy a_t_sums a_t_faces a_t_bestFaces a_t_text a_t_verbs a_t_many a_t_nums a_t_book t_typed t_at t_start t_token t_value t_items (upd (upd t_book ((220 : Int32) + ((2 : Int32) * p1)).toNatClampNeg p2) (((220 : Int32) + ((2 : Int32) * p1)) + (1 : Int32)).toNatClampNeg p3))) rfl (fun H locs hW => ?_)
        refine lv_iconst (v := (1 : Int32)) hx hb dX12_band_67 (by decide) ?_
        have hq := Option.some.inj hF
        subst hq
        exact hret _ _ _ _ hW dX12_band_68
      · have hF := if_y c3 hF
        refine lv_bipush (v := (-2 : Int32)) hx hb dX12_band_36 (by decide) ?_
        have hq := Option.some.inj hF
        subst hq
        exact hret _ _ _ _ hW dX12_band_38
abbrev wd_R_heard (E : m_E) (a_t : Nat) (a_t_images : Nat) (a_t_kept : Nat) (a_t_aside : Nat) (a_t_limbs : Nat) (a_t_wide : Nat) (a_t_hears : Nat) (a_t_spies : Nat) (a_t_known : Nat) (a_t_by : Nat) (a_t_ways : Nat) (a_t_fewest : Nat) (a_t_heavy : Nat) (a_t_sums : Nat) (a_t_faces : Nat) (a_t_bestFaces : Nat) (a_t_text : Nat) (a_t_verbs : Nat) (a_t_many : Nat) (a_t_nums : Nat) (a_t_book : Nat) (t_typed : Int32) (t_at : Int32) (t_start : Int32) (t_token : Int32) (t_value : Int32) (t_items : Int32) (t_book : Nat → Int32) : va_W := [(a_t, .inr (12, [.ref a_t_book, .ref a_t_images, .ref a_t_kept, .ref a_t_aside, .ref a_t_limbs, .ref a_t_wide, .ref a_t_hears, .ref a_t_spies, .ref a_t_known, .ref a_t_by, .ref a_t_ways, .ref a_t_fewest, .ref a_t_heavy, .ref a_t_sums, .ref a_t_faces, .ref a_t_bestFaces, .ref a_t_text, .int t_typed, .int t_at, .int t_start, .int t_token, .int t_value, .ref a_t_verbs, .ref a_t_many, .ref a_t_nums, .int t_items])), (a_t_book, .inl (E.2.1 0, 240, .inl t_book))]
def rm_R_heard : Room := { frames := 1, cells := 0, slots := 0, locals := 25 }
set_option maxHeartbeats 4000000 in
set_option maxRecDepth 100000 in
theorem c_R_heard (l : Launch) (E : m_E) (sz N : Nat) (a_t : Nat) (a_t_images : Nat) (a_t_kept : Nat) (a_t_aside : Nat) (a_t_limbs : Nat) (a_t_wide : Nat) (a_t_hears : Nat) (a_t_spies : Nat) (a_t_known : Nat) (a_t_by : Nat) (a_t_ways : Nat) (a_t_fewest : Nat) (a_t_heavy : Nat) (a_t_sums : Nat) (a_t_faces : Nat) (a_t_bestFaces : Nat) (a_t_text : Nat) (a_t_verbs : Nat) (a_t_many : Nat) (a_t_nums : Nat) (a_t_book : Nat) (t_typed : Int32) (t_at : Int32) (t_start : Int32) (t_token : Int32) (t_value : Int32) (t_items : Int32) (t_book : Nat → Int32) (p1 : Int32) (p2 : Int32) (ures : Int32) (hF : F_R_heard N p1 p2 t_book = some ures) : m_Met l yX12_heard cX12_heard 5 (some .int) rm_R_heard E (wd_R_heard E a_t a_t_images a_t_kept a_t_aside a_t_limbs a_t_wide a_t_hears a_t_spies a_t_known a_t_by a_t_ways a_t_fewest a_t_heavy a_t_sums a_t_faces a_t_bestFaces a_t_text a_t_verbs a_t_many a_t_nums a_t_book t_typed t_at t_start t_token t_value t_items t_book) (wd_R_heard E a_t a_t_images a_t_kept a_t_aside a_t_limbs a_t_wide a_t_hears a_t_spies a_t_known a_t_by a_t_ways a_t_fewest a_t_heavy a_t_sums a_t_faces a_t_bestFaces a_t_text a_t_verbs a_t_many a_t_nums a_t_book t_typed t_at t_start t_token t_value t_items t_book) sz [.ref a_t, .int p1, .int p2] (some (.int ures)) := by
  refine m_ofI (by decide) (Nat.le_of_ble_eq_true rfl) ?_
  intro p e s m args below meth c A Q ls X hW hA hl hret
  obtain ⟨hx, hb, -, hown, hts, hK, -, hG⟩ := id X
  have hl : lv_has ls 5 [(0, .ref a_t), (1, .int p1), (2, .int p2)] := hl
  unfold F_R_heard at hF
  refine lv_iload_n hx hb dX12_heard_0 rfl (lv_at hl 1 rfl) ?_
  refine lv_i2l (v := p1.toInt64) hx hb dX12_heard_1 rfl ?_
  refine lv_lconst (v := (0 : Int64)) hx hb dX12_heard_2 (by decide) ?_
  refine lv_ldc2 (v := (60 : Int64)) hx hb hown (hts _ wk_1526) dX12_heard_3 ?_
  refine m_callS X hW hA hl.1 lkX12_109 (c_R_in l E _ N   p1.toInt64 (0 : Int64) (60 : Int64) (F_R_in p1.toInt64 (0 : Int64) (60 : Int64)) rfl) ([]) (by decide) rfl rfl (ws' := (wd_R_heard E a_t a_t_images a_t_kept a_t_aside a_t_limbs a_t_wide a_t_hears a_t_spies a_t_known a_t_by a_t_ways a_t_fewest a_t_heavy a_t_sums a_t_faces a_t_bestFaces a_t_text a_t_verbs a_t_many a_t_nums a_t_book t_typed t_at t_start t_token t_value t_items t_book)) rfl (As := [.long p1.toInt64, .long (0 : Int64), .long (60 : Int64)]) (rest := []) rfl rfl ⟨rfl, rfl, Nat.le_of_ble_eq_true rfl, Nat.le_of_ble_eq_true rfl⟩ (Nat.le_of_ble_eq_true rfl) (Nat.zero_le _) (Nat.zero_le _) dX12_heard_6 (fun H locs hW => ?_)
  refine lv_if_eq (tgt := 24) hx hb dX12_heard_9 (by decide) (fun c1 => ?_) (fun c1 => ?_)
  · have hF := if_y c1 hF
    refine lv_bipush (v := (-2 : Int32)) hx hb dX12_heard_24 (by decide) ?_
    have hq := Option.some.inj hF
    subst hq
    exact hret _ _ _ _ hW dX12_heard_26
  · have hF := if_n c1 hF
    refine lv_iload_n hx hb dX12_heard_12 rfl (lv_at hl 2 rfl) ?_
    refine lv_i2l (v := p2.toInt64) hx hb dX12_heard_13 rfl ?_
    refine lv_lconst (v := (0 : Int64)) hx hb dX12_heard_14 (by decide) ?_
    refine lv_ldc2 (v := (99 : Int64)) hx hb hown (hts _ wk_1430) dX12_heard_15 ?_
    refine m_callS X hW hA hl.1 lkX12_109 (c_R_in l E _ N   p2.toInt64 (0 : Int64) (99 : Int64) (F_R_in p2.toInt64 (0 : Int64) (99 : Int64)) rfl) ([]) (by decide) rfl rfl (ws' := (wd_R_heard E a_t a_t_images a_t_kept a_t_aside a_t_limbs a_t_wide a_t_hears a_t_spies a_t_known a_t_by a_t_ways a_t_fewest a_t_heavy a_t_sums a_t_faces a_t_bestFaces a_t_text a_t_verbs a_t_many a_t_nums a_t_book t_typed t_at t_start t_token t_value t_items t_book)) rfl (As := [.long p2.toInt64, .long (0 : Int64), .long (99 : Int64)]) (rest := []) rfl rfl ⟨rfl, rfl, Nat.le_of_ble_eq_true rfl, Nat.le_of_ble_eq_true rfl⟩ (Nat.le_of_ble_eq_true rfl) (Nat.zero_le _) (Nat.zero_le _) dX12_heard_18 (fun H locs hW => ?_)
    refine lv_if_ne (tgt := 27) hx hb dX12_heard_21 (by decide) (fun c2 => ?_) (fun c2 => ?_)
    · have hF := if_n c2 hF
      refine lv_iconst (v := (0 : Int32)) hx hb dX12_heard_27 (by decide) ?_
      refine lv_istore_n (lv' := [(3, .int (0 : Int32)), (0, .ref a_t), (1, .int p1), (2, .int p2)]) hx hb dX12_heard_28 rfl hl (by decide) rfl (fun ls hl => ?_)
      refine lv_iconst (v := (0 : Int32)) hx hb dX12_heard_29 (by decide) ?_
      refine lv_istore (lv' := [(4, .int (0 : Int32)), (3, .int (0 : Int32)), (0, .ref a_t), (1, .int p1), (2, .int p2)]) hx hb dX12_heard_30 hl (by decide) rfl (fun ls hl => ?_)
      obtain ⟨x3_2, hX4, hF⟩ := bO_s1 hF
      have L3 : ∀ (k0 : Nat) (x3 : Int32) (x4 : Int32) (x3_2 : Int32) (H : Heap) (locs : List Loc) (ls : Array Slot), R_heard_L32 t_book p1 p2 k0 x3 x4 = some x3_2 → m_H E A (wd_R_heard E a_t a_t_images a_t_kept a_t_aside a_t_limbs a_t_wide a_t_hears a_t_spies a_t_known a_t_by a_t_ways a_t_fewest a_t_heavy a_t_sums a_t_faces a_t_bestFaces a_t_text a_t_verbs a_t_many a_t_nums a_t_book t_typed t_at t_start t_token t_value t_items t_book) s.heap H locs → lv_has ls 5 [(4, .int x4), (3, .int x3), (0, .ref a_t), (1, .int p1), (2, .int p2)] → (∀ (H : Heap) (locs : List Loc) (ls : Array Slot), m_H E A (wd_R_heard E a_t a_t_images a_t_kept a_t_aside a_t_limbs a_t_wide a_t_hears a_t_spies a_t_known a_t_by a_t_ways a_t_fewest a_t_heavy a_t_sums a_t_faces a_t_bestFaces a_t_text a_t_verbs a_t_many a_t_nums a_t_book t_typed t_at t_start t_token t_value t_items t_book) s.heap H locs → lv_has ls 5 [(3, .int x3_2)] → W p l e rm_R_heard s m args below meth c H locs 0 0 Q (F0 m 91 ls [])) → W p l e rm_R_heard s m args below meth c H locs 0 0 Q (F0 m 32 ls []) := by
        clear hF
        intro k0
        induction k0 with
        | zero =>
          intro x3 x4 x3_2 H locs ls hF
          cases hF
        | succ k0 ih6 =>
          intro x3 x4 x3_2 H locs ls hF hW hl hk5
          rw [R_heard_L32] at hF
          refine lv_iload hx hb dX12_heard_32 (lv_at hl 0 rfl) ?_
          refine lv_bipush (v := (6 : Int32)) hx hb dX12_heard_34 (by decide) ?_
          refine lv_icmp_ge (tgt := 91) hx hb dX12_heard_36 (by decide) (fun c7 => ?_) (fun c7 => ?_)
          · have hF := if_y c7 hF
            cases hF
            exact hk5 _ _ _ hW (lv_sub hl [1] rfl)
          · have hF := if_n c7 hF
            refine lv_iload_n hx hb dX12_heard_39 rfl (lv_at hl 1 rfl) ?_
            refine lv_aload_n hx hb dX12_heard_40 rfl (lv_at hl 2 rfl) ?_
            refine m_get X hW fdX12_7 0 rfl rfl dX12_heard_41 ?_
            refine lv_sipush (v := (220 : Int32)) hx hb dX12_heard_44 (by decide) ?_
            refine lv_iconst (v := (2 : Int32)) hx hb dX12_heard_47 (by decide) ?_
            refine lv_iload hx hb dX12_heard_48 (lv_at hl 0 rfl) ?_
            refine lv_imul hx hb dX12_heard_50 ?_
            refine lv_iadd hx hb dX12_heard_51 ?_
            obtain ⟨g8, hF⟩ := gd_some hF
            refine m_iald X hW 1 (k := ((220 : Int32) + ((2 : Int32) * x4)).toNatClampNeg) rfl g8 rfl dX12_heard_52 ?_
            refine lv_aload_n hx hb dX12_heard_53 rfl (lv_at hl 2 rfl) ?_
            refine m_get X hW fdX12_7 0 rfl rfl dX12_heard_54 ?_
            refine lv_sipush (v := (220 : Int32)) hx hb dX12_heard_57 (by decide) ?_
            refine lv_iconst (v := (2 : Int32)) hx hb dX12_heard_60 (by decide) ?_
            refine lv_iload hx hb dX12_heard_61 (lv_at hl 0 rfl) ?_
            refine lv_imul hx hb dX12_heard_63 ?_
            refine lv_iadd hx hb dX12_heard_64 ?_
            refine lv_iconst (v := (1 : Int32)) hx hb dX12_heard_65 (by decide) ?_
            refine lv_iadd hx hb dX12_heard_66 ?_
            obtain ⟨g9, hF⟩ := gd_some hF
            refine m_iald X hW 1 (k := (((220 : Int32) + ((2 : Int32) * x4)) + (1 : Int32)).toNatClampNeg) rfl g9 rfl dX12_heard_67 ?_
            refine lv_iload_n hx hb dX12_heard_68 rfl (lv_at hl 3 rfl) ?_
            refine lv_imul hx hb dX12_heard_69 ?_
            refine lv_isub hx hb dX12_heard_70 ?_
            refine lv_iload_n hx hb dX12_heard_71 rfl (lv_at hl 4 rfl) ?_
            refine lv_icmp_le (tgt := 82) hx hb dX12_heard_72 (by decide) (fun c10 => ?_) (fun c10 => ?_)
            · have hF := if_y c10 hF
              refine lv_iconst (v := (0 : Int32)) hx hb dX12_heard_82 (by decide) ?_
              refine lv_ior hx hb dX12_heard_83 ?_
              refine lv_istore_n (lv' := [(3, .int (x3 ||| (0 : Int32))), (4, .int x4), (0, .ref a_t), (1, .int p1), (2, .int p2)]) hx hb dX12_heard_84 rfl hl (by decide) rfl (fun ls hl => ?_)
              refine lv_iinc (v := (x4 + (1 : Int32))) (lv' := [(4, .int (x4 + (1 : Int32))), (3, .int (x3 ||| (0 : Int32))), (0, .ref a_t), (1, .int p1), (2, .int p2)]) hx hb dX12_heard_85 hl (k := 1) rfl rfl (by decide) rfl (fun ls hl => ?_)
              refine lv_goto (tgt := 32) hx hb dX12_heard_88 (by decide) ?_
              exact ih6 (x3 ||| (0 : Int32)) (x4 + (1 : Int32)) x3_2 _ _ _ hF hW (lv_sub hl [0, 1, 2, 3, 4] rfl) hk5
            · have hF := if_n c10 hF
              refine lv_iconst (v := (1 : Int32)) hx hb dX12_heard_75 (by decide) ?_
              refine lv_iload hx hb dX12_heard_76 (lv_at hl 0 rfl) ?_
              refine m_ishl hx hb dX12_heard_78 ?_
              refine lv_goto (tgt := 83) hx hb dX12_heard_79 (by decide) ?_
              refine lv_ior hx hb dX12_heard_83 ?_
              refine lv_istore_n (lv' := [(3, .int (x3 ||| (jshl (1 : Int32) x4))), (4, .int x4), (0, .ref a_t), (1, .int p1), (2, .int p2)]) hx hb dX12_heard_84 rfl hl (by decide) rfl (fun ls hl => ?_)
              refine lv_iinc (v := (x4 + (1 : Int32))) (lv' := [(4, .int (x4 + (1 : Int32))), (3, .int (x3 ||| (jshl (1 : Int32) x4))), (0, .ref a_t), (1, .int p1), (2, .int p2)]) hx hb dX12_heard_85 hl (k := 1) rfl rfl (by decide) rfl (fun ls hl => ?_)
              refine lv_goto (tgt := 32) hx hb dX12_heard_88 (by decide) ?_
              exact ih6 (x3 ||| (jshl (1 : Int32) x4)) (x4 + (1 : Int32)) x3_2 _ _ _ hF hW (lv_sub hl [0, 1, 2, 3, 4] rfl) hk5
      refine L3 N (0 : Int32) (0 : Int32) x3_2 _ _ _ hX4 hW (lv_sub hl [0, 1, 2, 3, 4] rfl) ?_
      intro H locs ls hW hl
      clear L3
      refine lv_iload_n hx hb dX12_heard_91 rfl (lv_at hl 0 rfl) ?_
      have hq := Option.some.inj hF
      subst hq
      exact hret _ _ _ _ hW dX12_heard_92
    · have hF := if_y c2 hF
      refine lv_bipush (v := (-2 : Int32)) hx hb dX12_heard_24 (by decide) ?_
      have hq := Option.some.inj hF
      subst hq
      exact hret _ _ _ _ hW dX12_heard_26
abbrev wd_R_pairs (E : m_E) (a_t : Nat) (a_t_images : Nat) (a_t_kept : Nat) (a_t_aside : Nat) (a_t_limbs : Nat) (a_t_wide : Nat) (a_t_hears : Nat) (a_t_spies : Nat) (a_t_known : Nat) (a_t_by : Nat) (a_t_ways : Nat) (a_t_fewest : Nat) (a_t_heavy : Nat) (a_t_sums : Nat) (a_t_bestFaces : Nat) (a_t_text : Nat) (a_t_verbs : Nat) (a_t_many : Nat) (a_t_nums : Nat) (a_t_book : Nat) (a_t_faces : Nat) (t_typed : Int32) (t_at : Int32) (t_start : Int32) (t_token : Int32) (t_value : Int32) (t_items : Int32) (t_book : Nat → Int32) (t_faces : Nat → Int32) : va_W := [(a_t, .inr (12, [.ref a_t_book, .ref a_t_images, .ref a_t_kept, .ref a_t_aside, .ref a_t_limbs, .ref a_t_wide, .ref a_t_hears, .ref a_t_spies, .ref a_t_known, .ref a_t_by, .ref a_t_ways, .ref a_t_fewest, .ref a_t_heavy, .ref a_t_sums, .ref a_t_faces, .ref a_t_bestFaces, .ref a_t_text, .int t_typed, .int t_at, .int t_start, .int t_token, .int t_value, .ref a_t_verbs, .ref a_t_many, .ref a_t_nums, .int t_items])), (a_t_book, .inl (E.2.1 0, 240, .inl t_book)), (a_t_faces, .inl (E.2.1 0, 8, .inl t_faces))]
def rm_R_pairs : Room := { frames := 3, cells := 0, slots := 0, locals := 78 }
set_option maxHeartbeats 4000000 in
set_option maxRecDepth 100000 in
theorem c_R_pairs (l : Launch) (E : m_E) (sz N : Nat) (a_t : Nat) (a_t_images : Nat) (a_t_kept : Nat) (a_t_aside : Nat) (a_t_limbs : Nat) (a_t_wide : Nat) (a_t_hears : Nat) (a_t_spies : Nat) (a_t_known : Nat) (a_t_by : Nat) (a_t_ways : Nat) (a_t_fewest : Nat) (a_t_heavy : Nat) (a_t_sums : Nat) (a_t_bestFaces : Nat) (a_t_text : Nat) (a_t_verbs : Nat) (a_t_many : Nat) (a_t_nums : Nat) (a_t_book : Nat) (a_t_faces : Nat) (t_typed : Int32) (t_at : Int32) (t_start : Int32) (t_token : Int32) (t_value : Int32) (t_items : Int32) (t_book : Nat → Int32) (t_faces : Nat → Int32)  (ures : Int32) (hF : F_R_pairs N t_book t_faces = some ures) : m_Met l yX12_pairs cX12_pairs 4 (some .int) rm_R_pairs E (wd_R_pairs E a_t a_t_images a_t_kept a_t_aside a_t_limbs a_t_wide a_t_hears a_t_spies a_t_known a_t_by a_t_ways a_t_fewest a_t_heavy a_t_sums a_t_bestFaces a_t_text a_t_verbs a_t_many a_t_nums a_t_book a_t_faces t_typed t_at t_start t_token t_value t_items t_book t_faces) (wd_R_pairs E a_t a_t_images a_t_kept a_t_aside a_t_limbs a_t_wide a_t_hears a_t_spies a_t_known a_t_by a_t_ways a_t_fewest a_t_heavy a_t_sums a_t_bestFaces a_t_text a_t_verbs a_t_many a_t_nums a_t_book a_t_faces t_typed t_at t_start t_token t_value t_items t_book t_faces) sz [.ref a_t] (some (.int ures)) := by
  refine m_ofI (by decide) (Nat.le_of_ble_eq_true rfl) ?_
  intro p e s m args below meth c A Q ls X hW hA hl hret
  obtain ⟨hx, hb, -, hown, hts, hK, -, hG⟩ := id X
  have hl : lv_has ls 4 [(0, .ref a_t)] := hl
  unfold F_R_pairs at hF
  refine lv_iconst (v := (0 : Int32)) hx hb dX12_pairs_0 (by decide) ?_
  refine lv_istore_n (lv' := [(1, .int (0 : Int32)), (0, .ref a_t)]) hx hb dX12_pairs_1 rfl hl (by decide) rfl (fun ls hl => ?_)
  refine lv_iconst (v := (0 : Int32)) hx hb dX12_pairs_2 (by decide) ?_
  refine lv_istore_n (lv' := [(2, .int (0 : Int32)), (1, .int (0 : Int32)), (0, .ref a_t)]) hx hb dX12_pairs_3 rfl hl (by decide) rfl (fun ls hl => ?_)
  obtain ⟨x1_4, hX2, hF⟩ := bO_s1 hF
  have L1 : ∀ (k0 : Nat) (x1 : Int32) (x2 : Int32) (x1_4 : Int32) (H : Heap) (locs : List Loc) (ls : Array Slot), R_pairs_L4 N t_book t_faces k0 x1 x2 = some x1_4 → m_H E A (wd_R_pairs E a_t a_t_images a_t_kept a_t_aside a_t_limbs a_t_wide a_t_hears a_t_spies a_t_known a_t_by a_t_ways a_t_fewest a_t_heavy a_t_sums a_t_bestFaces a_t_text a_t_verbs a_t_many a_t_nums a_t_book a_t_faces t_typed t_at t_start t_token t_value t_items t_book t_faces) s.heap H locs → lv_has ls 4 [(2, .int x2), (1, .int x1), (0, .ref a_t)] → (∀ (H : Heap) (locs : List Loc) (ls : Array Slot), m_H E A (wd_R_pairs E a_t a_t_images a_t_kept a_t_aside a_t_limbs a_t_wide a_t_hears a_t_spies a_t_known a_t_by a_t_ways a_t_fewest a_t_heavy a_t_sums a_t_bestFaces a_t_text a_t_verbs a_t_many a_t_nums a_t_book a_t_faces t_typed t_at t_start t_token t_value t_items t_book t_faces) s.heap H locs → lv_has ls 4 [(1, .int x1_4)] → W p l e rm_R_pairs s m args below meth c H locs 0 0 Q (F0 m 70 ls [])) → W p l e rm_R_pairs s m args below meth c H locs 0 0 Q (F0 m 4 ls []) := by
    clear hF
    intro k0
    induction k0 with
    | zero =>
      intro x1 x2 x1_4 H locs ls hF
      cases hF
    | succ k0 ih4 =>
      intro x1 x2 x1_4 H locs ls hF hW hl hk3
      rw [R_pairs_L4] at hF
      refine lv_iload_n hx hb dX12_pairs_4 rfl (lv_at hl 0 rfl) ?_
      refine lv_aload_n hx hb dX12_pairs_5 rfl (lv_at hl 2 rfl) ?_
      refine m_get X hW fdX12_7 0 rfl rfl dX12_pairs_6 ?_
      refine lv_iconst (v := (1 : Int32)) hx hb dX12_pairs_9 (by decide) ?_
      refine m_iald X hW 1 (k := 1) rfl (by decide) rfl dX12_pairs_10 ?_
      refine lv_icmp_ge (tgt := 70) hx hb dX12_pairs_11 (by decide) (fun c5 => ?_) (fun c5 => ?_)
      · have hF := if_y c5 hF
        cases hF
        exact hk3 _ _ _ hW (lv_sub hl [1] rfl)
      · have hF := if_n c5 hF
        refine lv_iconst (v := (0 : Int32)) hx hb dX12_pairs_14 (by decide) ?_
        refine lv_istore_n (lv' := [(3, .int (0 : Int32)), (2, .int x2), (1, .int x1), (0, .ref a_t)]) hx hb dX12_pairs_15 rfl hl (by decide) rfl (fun ls hl => ?_)
        obtain ⟨x1_3, hX7, hF⟩ := bO_s1 hF
        have L6 : ∀ (k0 : Nat) (x1_2 : Int32) (x3 : Int32) (x1_3 : Int32) (H : Heap) (locs : List Loc) (ls : Array Slot), R_pairs_L16 N x2 t_book t_faces k0 x1_2 x3 = some x1_3 → m_H E A (wd_R_pairs E a_t a_t_images a_t_kept a_t_aside a_t_limbs a_t_wide a_t_hears a_t_spies a_t_known a_t_by a_t_ways a_t_fewest a_t_heavy a_t_sums a_t_bestFaces a_t_text a_t_verbs a_t_many a_t_nums a_t_book a_t_faces t_typed t_at t_start t_token t_value t_items t_book t_faces) s.heap H locs → lv_has ls 4 [(3, .int x3), (2, .int x2), (1, .int x1_2), (0, .ref a_t)] → (∀ (H : Heap) (locs : List Loc) (ls : Array Slot), m_H E A (wd_R_pairs E a_t a_t_images a_t_kept a_t_aside a_t_limbs a_t_wide a_t_hears a_t_spies a_t_known a_t_by a_t_ways a_t_fewest a_t_heavy a_t_sums a_t_bestFaces a_t_text a_t_verbs a_t_many a_t_nums a_t_book a_t_faces t_typed t_at t_start t_token t_value t_items t_book t_faces) s.heap H locs → lv_has ls 4 [(2, .int x2), (1, .int x1_3), (0, .ref a_t)] → W p l e rm_R_pairs s m args below meth c H locs 0 0 Q (F0 m 64 ls [])) → W p l e rm_R_pairs s m args below meth c H locs 0 0 Q (F0 m 16 ls []) := by
          clear hF
          intro k0
          induction k0 with
          | zero =>
            intro x1_2 x3 x1_3 H locs ls hF
            cases hF
          | succ k0 ih9 =>
            intro x1_2 x3 x1_3 H locs ls hF hW hl hk8
            rw [R_pairs_L16] at hF
            refine lv_iload_n hx hb dX12_pairs_16 rfl (lv_at hl 0 rfl) ?_
            refine lv_iload_n hx hb dX12_pairs_17 rfl (lv_at hl 1 rfl) ?_
            refine lv_icmp_ge (tgt := 64) hx hb dX12_pairs_18 (by decide) (fun c10 => ?_) (fun c10 => ?_)
            · have hF := if_y c10 hF
              cases hF
              exact hk8 _ _ _ hW (lv_sub hl [1, 2, 3] rfl)
            · have hF := if_n c10 hF
              refine lv_iload_n hx hb dX12_pairs_21 rfl (lv_at hl 2 rfl) ?_
              refine lv_aload_n hx hb dX12_pairs_22 rfl (lv_at hl 3 rfl) ?_
              refine lv_aload_n hx hb dX12_pairs_23 rfl (lv_at hl 3 rfl) ?_
              refine lv_iload_n hx hb dX12_pairs_24 rfl (lv_at hl 1 rfl) ?_
              obtain ⟨r25, hC11, hF⟩ := bO_s1 hF
              refine m_callV X hW hA hl.1 lkX12_115 (c_R_placeOf l E _ N a_t a_t_images a_t_kept a_t_aside a_t_limbs a_t_wide a_t_hears a_t_spies a_t_known a_t_by a_t_ways a_t_fewest a_t_heavy a_t_sums a_t_faces a_t_bestFaces a_t_text a_t_verbs a_t_many a_t_nums a_t_book t_typed t_at t_start t_token t_value t_items t_book x2 r25 hC11) ([0, 1]) (by decide) rfl rfl (ws' := (wd_R_pairs E a_t a_t_images a_t_kept a_t_aside a_t_limbs a_t_wide a_t_hears a_t_spies a_t_known a_t_by a_t_ways a_t_fewest a_t_heavy a_t_sums a_t_bestFaces a_t_text a_t_verbs a_t_many a_t_nums a_t_book a_t_faces t_typed t_at t_start t_token t_value t_items t_book t_faces)) rfl 0 rfl rfl rfl (As := [.int x2]) (rest := [.ref a_t, .int x1_2]) rfl rfl ⟨rfl, rfl, Nat.le_of_ble_eq_true rfl, Nat.le_of_ble_eq_true rfl⟩ (Nat.le_of_ble_eq_true rfl) (Nat.zero_le _) (Nat.zero_le _) dX12_pairs_25 (fun H locs hW => ?_)
              clear hC11
              refine lv_aload_n hx hb dX12_pairs_28 rfl (lv_at hl 3 rfl) ?_
              refine m_get X hW fdX12_53 0 rfl rfl dX12_pairs_29 ?_
              refine lv_iload_n hx hb dX12_pairs_32 rfl (lv_at hl 1 rfl) ?_
              obtain ⟨g12, hF⟩ := gd_some hF
              refine m_iald X hW 2 (k := x2.toNatClampNeg) rfl g12 rfl dX12_pairs_33 ?_
              refine lv_aload_n hx hb dX12_pairs_34 rfl (lv_at hl 3 rfl) ?_
              refine lv_iload_n hx hb dX12_pairs_35 rfl (lv_at hl 0 rfl) ?_
              obtain ⟨r36, hC13, hF⟩ := bO_s1 hF
              refine m_callV X hW hA hl.1 lkX12_115 (c_R_placeOf l E _ N a_t a_t_images a_t_kept a_t_aside a_t_limbs a_t_wide a_t_hears a_t_spies a_t_known a_t_by a_t_ways a_t_fewest a_t_heavy a_t_sums a_t_faces a_t_bestFaces a_t_text a_t_verbs a_t_many a_t_nums a_t_book t_typed t_at t_start t_token t_value t_items t_book x3 r36 hC13) ([0, 1]) (by decide) rfl rfl (ws' := (wd_R_pairs E a_t a_t_images a_t_kept a_t_aside a_t_limbs a_t_wide a_t_hears a_t_spies a_t_known a_t_by a_t_ways a_t_fewest a_t_heavy a_t_sums a_t_bestFaces a_t_text a_t_verbs a_t_many a_t_nums a_t_book a_t_faces t_typed t_at t_start t_token t_value t_items t_book t_faces)) rfl 0 rfl rfl rfl (As := [.int x3]) (rest := [.int (t_faces x2.toNatClampNeg), .int r25, .ref a_t, .int x1_2]) rfl rfl ⟨rfl, rfl, Nat.le_of_ble_eq_true rfl, Nat.le_of_ble_eq_true rfl⟩ (Nat.le_of_ble_eq_true rfl) (Nat.zero_le _) (Nat.zero_le _) dX12_pairs_36 (fun H locs hW => ?_)
              clear hC13
              refine lv_aload_n hx hb dX12_pairs_39 rfl (lv_at hl 3 rfl) ?_
              refine m_get X hW fdX12_53 0 rfl rfl dX12_pairs_40 ?_
              refine lv_iload_n hx hb dX12_pairs_43 rfl (lv_at hl 0 rfl) ?_
              obtain ⟨g14, hF⟩ := gd_some hF
              refine m_iald X hW 2 (k := x3.toNatClampNeg) rfl g14 rfl dX12_pairs_44 ?_
              obtain ⟨r45, hC15, hF⟩ := bO_s1 hF
              refine m_callV X hW hA hl.1 lkX12_151 (c_R_areReading l E _ N a_t a_t_images a_t_kept a_t_aside a_t_limbs a_t_wide a_t_hears a_t_spies a_t_known a_t_by a_t_ways a_t_fewest a_t_heavy a_t_sums a_t_faces a_t_bestFaces a_t_text a_t_verbs a_t_many a_t_nums a_t_book t_typed t_at t_start t_token t_value t_items t_book r25 (t_faces x2.toNatClampNeg) r36 (t_faces x3.toNatClampNeg) r45 hC15) ([0, 1]) (by decide) rfl rfl (ws' := (wd_R_pairs E a_t a_t_images a_t_kept a_t_aside a_t_limbs a_t_wide a_t_hears a_t_spies a_t_known a_t_by a_t_ways a_t_fewest a_t_heavy a_t_sums a_t_bestFaces a_t_text a_t_verbs a_t_many a_t_nums a_t_book a_t_faces t_typed t_at t_start t_token t_value t_items t_book t_faces)) rfl 0 rfl rfl rfl (As := [.int r25, .int (t_faces x2.toNatClampNeg), .int r36, .int (t_faces x3.toNatClampNeg)]) (rest := [.int x1_2]) rfl rfl ⟨rfl, rfl, Nat.le_of_ble_eq_true rfl, Nat.le_of_ble_eq_true rfl⟩ (Nat.le_of_ble_eq_true rfl) (Nat.zero_le _) (Nat.zero_le _) dX12_pairs_45 (fun H locs hW => ?_)
              clear hC15
              refine lv_if_eq (tgt := 55) hx hb dX12_pairs_48 (by decide) (fun c16 => ?_) (fun c16 => ?_)
              · have hF := if_y c16 hF
                refine lv_iconst (v := (0 : Int32)) hx hb dX12_pairs_55 (by decide) ?_
                refine lv_iadd hx hb dX12_pairs_56 ?_
                refine lv_istore_n (lv' := [(1, .int (x1_2 + (0 : Int32))), (3, .int x3), (2, .int x2), (0, .ref a_t)]) hx hb dX12_pairs_57 rfl hl (by decide) rfl (fun ls hl => ?_)
                refine lv_iinc (v := (x3 + (1 : Int32))) (lv' := [(3, .int (x3 + (1 : Int32))), (1, .int (x1_2 + (0 : Int32))), (2, .int x2), (0, .ref a_t)]) hx hb dX12_pairs_58 hl (k := 1) rfl rfl (by decide) rfl (fun ls hl => ?_)
                refine lv_goto (tgt := 16) hx hb dX12_pairs_61 (by decide) ?_
                exact ih9 (x1_2 + (0 : Int32)) (x3 + (1 : Int32)) x1_3 _ _ _ hF hW (lv_sub hl [0, 2, 1, 3] rfl) hk8
              · have hF := if_n c16 hF
                refine lv_iconst (v := (1 : Int32)) hx hb dX12_pairs_51 (by decide) ?_
                refine lv_goto (tgt := 56) hx hb dX12_pairs_52 (by decide) ?_
                refine lv_iadd hx hb dX12_pairs_56 ?_
                refine lv_istore_n (lv' := [(1, .int (x1_2 + (1 : Int32))), (3, .int x3), (2, .int x2), (0, .ref a_t)]) hx hb dX12_pairs_57 rfl hl (by decide) rfl (fun ls hl => ?_)
                refine lv_iinc (v := (x3 + (1 : Int32))) (lv' := [(3, .int (x3 + (1 : Int32))), (1, .int (x1_2 + (1 : Int32))), (2, .int x2), (0, .ref a_t)]) hx hb dX12_pairs_58 hl (k := 1) rfl rfl (by decide) rfl (fun ls hl => ?_)
                refine lv_goto (tgt := 16) hx hb dX12_pairs_61 (by decide) ?_
                exact ih9 (x1_2 + (1 : Int32)) (x3 + (1 : Int32)) x1_3 _ _ _ hF hW (lv_sub hl [0, 2, 1, 3] rfl) hk8
        refine L6 N x1 (0 : Int32) x1_3 _ _ _ hX7 hW (lv_sub hl [0, 1, 2, 3] rfl) ?_
        intro H locs ls hW hl
        clear L6
        refine lv_iinc (v := (x2 + (1 : Int32))) (lv' := [(2, .int (x2 + (1 : Int32))), (1, .int x1_3), (0, .ref a_t)]) hx hb dX12_pairs_64 hl (k := 0) rfl rfl (by decide) rfl (fun ls hl => ?_)
        refine lv_goto (tgt := 4) hx hb dX12_pairs_67 (by decide) ?_
        exact ih4 x1_3 (x2 + (1 : Int32)) x1_4 _ _ _ hF hW (lv_sub hl [0, 1, 2] rfl) hk3
  refine L1 N (0 : Int32) (0 : Int32) x1_4 _ _ _ hX2 hW (lv_sub hl [0, 1, 2] rfl) ?_
  intro H locs ls hW hl
  clear L1
  refine lv_iload_n hx hb dX12_pairs_70 rfl (lv_at hl 0 rfl) ?_
  have hq := Option.some.inj hF
  subst hq
  exact hret _ _ _ _ hW dX12_pairs_71
abbrev wd_R_anew (E : m_E) (a_t : Nat) (a_t_images : Nat) (a_t_kept : Nat) (a_t_aside : Nat) (a_t_limbs : Nat) (a_t_wide : Nat) (a_t_hears : Nat) (a_t_spies : Nat) (a_t_known : Nat) (a_t_by : Nat) (a_t_ways : Nat) (a_t_fewest : Nat) (a_t_heavy : Nat) (a_t_sums : Nat) (a_t_text : Nat) (a_t_verbs : Nat) (a_t_many : Nat) (a_t_nums : Nat) (a_t_book : Nat) (a_t_faces : Nat) (a_t_bestFaces : Nat) (t_typed : Int32) (t_at : Int32) (t_start : Int32) (t_token : Int32) (t_value : Int32) (t_items : Int32) (t_book : Nat → Int32) (t_faces : Nat → Int32) (t_bestFaces : Nat → Int32) : va_W := [(a_t, .inr (12, [.ref a_t_book, .ref a_t_images, .ref a_t_kept, .ref a_t_aside, .ref a_t_limbs, .ref a_t_wide, .ref a_t_hears, .ref a_t_spies, .ref a_t_known, .ref a_t_by, .ref a_t_ways, .ref a_t_fewest, .ref a_t_heavy, .ref a_t_sums, .ref a_t_faces, .ref a_t_bestFaces, .ref a_t_text, .int t_typed, .int t_at, .int t_start, .int t_token, .int t_value, .ref a_t_verbs, .ref a_t_many, .ref a_t_nums, .int t_items])), (a_t_book, .inl (E.2.1 0, 240, .inl t_book)), (a_t_faces, .inl (E.2.1 0, 8, .inl t_faces)), (a_t_bestFaces, .inl (E.2.1 0, 8, .inl t_bestFaces))]
def rm_R_anew : Room := { frames := 4, cells := 0, slots := 0, locals := 101 }
set_option maxHeartbeats 4000000 in
set_option maxRecDepth 100000 in
theorem c_R_anew (l : Launch) (E : m_E) (sz N : Nat) (a_t : Nat) (a_t_images : Nat) (a_t_kept : Nat) (a_t_aside : Nat) (a_t_limbs : Nat) (a_t_wide : Nat) (a_t_hears : Nat) (a_t_spies : Nat) (a_t_known : Nat) (a_t_by : Nat) (a_t_ways : Nat) (a_t_fewest : Nat) (a_t_heavy : Nat) (a_t_sums : Nat) (a_t_text : Nat) (a_t_verbs : Nat) (a_t_many : Nat) (a_t_nums : Nat) (a_t_book : Nat) (a_t_faces : Nat) (a_t_bestFaces : Nat) (t_typed : Int32) (t_at : Int32) (t_start : Int32) (t_token : Int32) (t_value : Int32) (t_items : Int32) (t_book : Nat → Int32) (t_faces : Nat → Int32) (t_bestFaces : Nat → Int32) (p1 : Int32) (p2 : Int32) (ures : Int32 × (Nat → Int32) × (Nat → Int32)) (hF : F_R_anew N p1 p2 t_book t_faces t_bestFaces = some ures) : m_Met l yX12_anew cX12_anew 7 (some .int) rm_R_anew E (wd_R_anew E a_t a_t_images a_t_kept a_t_aside a_t_limbs a_t_wide a_t_hears a_t_spies a_t_known a_t_by a_t_ways a_t_fewest a_t_heavy a_t_sums a_t_text a_t_verbs a_t_many a_t_nums a_t_book a_t_faces a_t_bestFaces t_typed t_at t_start t_token t_value t_items t_book t_faces t_bestFaces) (wd_R_anew E a_t a_t_images a_t_kept a_t_aside a_t_limbs a_t_wide a_t_hears a_t_spies a_t_known a_t_by a_t_ways a_t_fewest a_t_heavy a_t_sums a_t_text a_t_verbs a_t_many a_t_nums a_t_book a_t_faces a_t_bestFaces t_typed t_at t_start t_token t_value t_items t_book ures.2.1 ures.2.2) sz [.ref a_t, .int p1, .int p2] (some (.int ures.1)) := by
  refine m_ofI (by decide) (Nat.le_of_ble_eq_true rfl) ?_
  intro p e s m args below meth c A Q ls X hW hA hl hret
  obtain ⟨hx, hb, -, hown, hts, hK, -, hG⟩ := id X
  have hl : lv_has ls 7 [(0, .ref a_t), (1, .int p1), (2, .int p2)] := hl
  unfold F_R_anew at hF
  refine lv_iload_n hx hb dX12_anew_0 rfl (lv_at hl 1 rfl) ?_
  refine lv_i2l (v := p1.toInt64) hx hb dX12_anew_1 rfl ?_
  refine lv_lconst (v := (0 : Int64)) hx hb dX12_anew_2 (by decide) ?_
  refine lv_lconst (v := (1 : Int64)) hx hb dX12_anew_3 (by decide) ?_
  refine m_callS X hW hA hl.1 lkX12_109 (c_R_in l E _ N   p1.toInt64 (0 : Int64) (1 : Int64) (F_R_in p1.toInt64 (0 : Int64) (1 : Int64)) rfl) ([]) (by decide) rfl rfl (ws' := (wd_R_anew E a_t a_t_images a_t_kept a_t_aside a_t_limbs a_t_wide a_t_hears a_t_spies a_t_known a_t_by a_t_ways a_t_fewest a_t_heavy a_t_sums a_t_text a_t_verbs a_t_many a_t_nums a_t_book a_t_faces a_t_bestFaces t_typed t_at t_start t_token t_value t_items t_book t_faces t_bestFaces)) rfl (As := [.long p1.toInt64, .long (0 : Int64), .long (1 : Int64)]) (rest := []) rfl rfl ⟨rfl, rfl, Nat.le_of_ble_eq_true rfl, Nat.le_of_ble_eq_true rfl⟩ (Nat.le_of_ble_eq_true rfl) (Nat.zero_le _) (Nat.zero_le _) dX12_anew_4 (fun H locs hW => ?_)
  refine lv_if_eq (tgt := 23) hx hb dX12_anew_7 (by decide) (fun c1 => ?_) (fun c1 => ?_)
  · have hF := if_y c1 hF
    refine lv_bipush (v := (-10 : Int32)) hx hb dX12_anew_23 (by decide) ?_
    have hq := Option.some.inj hF
    subst hq
    exact hret _ _ _ _ hW dX12_anew_25
  · have hF := if_n c1 hF
    refine lv_iload_n hx hb dX12_anew_10 rfl (lv_at hl 2 rfl) ?_
    refine lv_iconst (v := (-1 : Int32)) hx hb dX12_anew_11 (by decide) ?_
    obtain ⟨out5, hX3, hr4, hF⟩ := bT_s0 hF
    have J2 : ∀  (H : Heap) (locs : List Loc) (ls : Array Slot), out5 = .inr () → m_H E A (wd_R_anew E a_t a_t_images a_t_kept a_t_aside a_t_limbs a_t_wide a_t_hears a_t_spies a_t_known a_t_by a_t_ways a_t_fewest a_t_heavy a_t_sums a_t_text a_t_verbs a_t_many a_t_nums a_t_book a_t_faces a_t_bestFaces t_typed t_at t_start t_token t_value t_items t_book t_faces t_bestFaces) s.heap H locs → lv_has ls 7 [(0, .ref a_t), (1, .int p1), (2, .int p2)] → W p l e rm_R_anew s m args below meth c H locs 0 0 Q (F0 m 26 ls []) := by
      intro  H locs ls ho hW hl
      have hF := hF  ho
      refine lv_aload_n hx hb dX12_anew_26 rfl (lv_at hl 0 rfl) ?_
      refine m_get X hW fdX12_7 0 rfl rfl dX12_anew_27 ?_
      refine lv_iconst (v := (1 : Int32)) hx hb dX12_anew_30 (by decide) ?_
      refine m_iald X hW 1 (k := 1) rfl (by decide) rfl dX12_anew_31 ?_
      refine lv_bipush (v := (6 : Int32)) hx hb dX12_anew_32 (by decide) ?_
      refine lv_icmp_le (tgt := 40) hx hb dX12_anew_34 (by decide) (fun c6 => ?_) (fun c6 => ?_)
      · have hF := if_y c6 hF
        refine lv_iconst (v := (-1 : Int32)) hx hb dX12_anew_40 (by decide) ?_
        refine lv_istore_n (lv' := [(3, .int (-1 : Int32)), (0, .ref a_t), (1, .int p1), (2, .int p2)]) hx hb dX12_anew_41 rfl hl (by decide) rfl (fun ls hl => ?_)
        refine lv_iconst (v := (0 : Int32)) hx hb dX12_anew_42 (by decide) ?_
        refine lv_istore (lv' := [(4, .int (0 : Int32)), (3, .int (-1 : Int32)), (0, .ref a_t), (1, .int p1), (2, .int p2)]) hx hb dX12_anew_43 hl (by decide) rfl (fun ls hl => ?_)
        obtain ⟨x3_2, t_faces'_8, t_bestFaces'_16, hX8, hF⟩ := bO_s3 hF
        have L7 : ∀ (k0 : Nat) (x3 : Int32) (x4 : Int32) (t_faces'_5 : Nat → Int32) (t_bestFaces'_9 : Nat → Int32) (x3_2 : Int32) (t_faces'_8 : Nat → Int32) (t_bestFaces'_16 : Nat → Int32) (H : Heap) (locs : List Loc) (ls : Array Slot), R_anew_L45 N t_book p1 k0 x3 x4 t_faces'_5 t_bestFaces'_9 = some (x3_2, t_faces'_8, t_bestFaces'_16) → m_H E A (wd_R_anew E a_t a_t_images a_t_kept a_t_aside a_t_limbs a_t_wide a_t_hears a_t_spies a_t_known a_t_by a_t_ways a_t_fewest a_t_heavy a_t_sums a_t_text a_t_verbs a_t_many a_t_nums a_t_book a_t_faces a_t_bestFaces t_typed t_at t_start t_token t_value t_items t_book t_faces'_5 t_bestFaces'_9) s.heap H locs → lv_has ls 7 [(4, .int x4), (3, .int x3), (0, .ref a_t), (1, .int p1), (2, .int p2)] → (∀ (H : Heap) (locs : List Loc) (ls : Array Slot), m_H E A (wd_R_anew E a_t a_t_images a_t_kept a_t_aside a_t_limbs a_t_wide a_t_hears a_t_spies a_t_known a_t_by a_t_ways a_t_fewest a_t_heavy a_t_sums a_t_text a_t_verbs a_t_many a_t_nums a_t_book a_t_faces a_t_bestFaces t_typed t_at t_start t_token t_value t_items t_book t_faces'_8 t_bestFaces'_16) s.heap H locs → lv_has ls 7 [(3, .int x3_2), (0, .ref a_t), (2, .int p2)] → W p l e rm_R_anew s m args below meth c H locs 0 0 Q (F0 m 178 ls [])) → W p l e rm_R_anew s m args below meth c H locs 0 0 Q (F0 m 45 ls []) := by
          clear hF
          intro k0
          induction k0 with
          | zero =>
            intro x3 x4 t_faces'_5 t_bestFaces'_9 x3_2 t_faces'_8 t_bestFaces'_16 H locs ls hF
            cases hF
          | succ k0 ih10 =>
            intro x3 x4 t_faces'_5 t_bestFaces'_9 x3_2 t_faces'_8 t_bestFaces'_16 H locs ls hF hW hl hk9
            rw [R_anew_L45] at hF
            refine lv_iload hx hb dX12_anew_45 (lv_at hl 0 rfl) ?_
            refine lv_iconst (v := (1 : Int32)) hx hb dX12_anew_47 (by decide) ?_
            refine lv_iconst (v := (2 : Int32)) hx hb dX12_anew_48 (by decide) ?_
            refine lv_aload_n hx hb dX12_anew_49 rfl (lv_at hl 2 rfl) ?_
            refine m_get X hW fdX12_7 0 rfl rfl dX12_anew_50 ?_
            refine lv_iconst (v := (1 : Int32)) hx hb dX12_anew_53 (by decide) ?_
            refine m_iald X hW 1 (k := 1) rfl (by decide) rfl dX12_anew_54 ?_
            refine lv_imul hx hb dX12_anew_55 ?_
            refine m_ishl hx hb dX12_anew_56 ?_
            refine lv_icmp_ge (tgt := 178) hx hb dX12_anew_57 (by decide) (fun c11 => ?_) (fun c11 => ?_)
            · have hF := if_y c11 hF
              cases hF
              exact hk9 _ _ _ hW (lv_sub hl [1, 2, 4] rfl)
            · have hF := if_n c11 hF
              refine lv_iconst (v := (0 : Int32)) hx hb dX12_anew_60 (by decide) ?_
              refine lv_istore (lv' := [(5, .int (0 : Int32)), (4, .int x4), (3, .int x3), (0, .ref a_t), (1, .int p1), (2, .int p2)]) hx hb dX12_anew_61 hl (by decide) rfl (fun ls hl => ?_)
              obtain ⟨t_faces'_7, hX13, hF⟩ := bO_s1 hF
              have L12 : ∀ (k0 : Nat) (x5 : Int32) (t_faces'_6 : Nat → Int32) (t_faces'_7 : Nat → Int32) (H : Heap) (locs : List Loc) (ls : Array Slot), R_anew_L63 t_book x4 k0 x5 t_faces'_6 = some t_faces'_7 → m_H E A (wd_R_anew E a_t a_t_images a_t_kept a_t_aside a_t_limbs a_t_wide a_t_hears a_t_spies a_t_known a_t_by a_t_ways a_t_fewest a_t_heavy a_t_sums a_t_text a_t_verbs a_t_many a_t_nums a_t_book a_t_faces a_t_bestFaces t_typed t_at t_start t_token t_value t_items t_book t_faces'_6 t_bestFaces'_9) s.heap H locs → lv_has ls 7 [(5, .int x5), (4, .int x4), (3, .int x3), (0, .ref a_t), (1, .int p1), (2, .int p2)] → (∀ (H : Heap) (locs : List Loc) (ls : Array Slot), m_H E A (wd_R_anew E a_t a_t_images a_t_kept a_t_aside a_t_limbs a_t_wide a_t_hears a_t_spies a_t_known a_t_by a_t_ways a_t_fewest a_t_heavy a_t_sums a_t_text a_t_verbs a_t_many a_t_nums a_t_book a_t_faces a_t_bestFaces t_typed t_at t_start t_token t_value t_items t_book t_faces'_7 t_bestFaces'_9) s.heap H locs → lv_has ls 7 [(4, .int x4), (3, .int x3), (0, .ref a_t), (1, .int p1), (2, .int p2)] → W p l e rm_R_anew s m args below meth c H locs 0 0 Q (F0 m 105 ls [])) → W p l e rm_R_anew s m args below meth c H locs 0 0 Q (F0 m 63 ls []) := by
                clear hF
                intro k0
                induction k0 with
                | zero =>
                  intro x5 t_faces'_6 t_faces'_7 H locs ls hF
                  cases hF
                | succ k0 ih15 =>
                  intro x5 t_faces'_6 t_faces'_7 H locs ls hF hW hl hk14
                  rw [R_anew_L63] at hF
                  refine lv_iload hx hb dX12_anew_63 (lv_at hl 0 rfl) ?_
                  refine lv_aload_n hx hb dX12_anew_65 rfl (lv_at hl 3 rfl) ?_
                  refine m_get X hW fdX12_7 0 rfl rfl dX12_anew_66 ?_
                  refine lv_iconst (v := (1 : Int32)) hx hb dX12_anew_69 (by decide) ?_
                  refine m_iald X hW 1 (k := 1) rfl (by decide) rfl dX12_anew_70 ?_
                  refine lv_icmp_ge (tgt := 105) hx hb dX12_anew_71 (by decide) (fun c16 => ?_) (fun c16 => ?_)
                  · have hF := if_y c16 hF
                    cases hF
                    exact hk14 _ _ _ hW (lv_sub hl [1, 2, 3, 4, 5] rfl)
                  · have hF := if_n c16 hF
                    refine lv_aload_n hx hb dX12_anew_74 rfl (lv_at hl 3 rfl) ?_
                    refine m_get X hW fdX12_53 0 rfl rfl dX12_anew_75 ?_
                    refine lv_iload hx hb dX12_anew_78 (lv_at hl 0 rfl) ?_
                    refine lv_iload hx hb dX12_anew_80 (lv_at hl 1 rfl) ?_
                    refine lv_iconst (v := (2 : Int32)) hx hb dX12_anew_82 (by decide) ?_
                    refine lv_aload_n hx hb dX12_anew_83 rfl (lv_at hl 3 rfl) ?_
                    refine m_get X hW fdX12_7 0 rfl rfl dX12_anew_84 ?_
                    refine lv_iconst (v := (1 : Int32)) hx hb dX12_anew_87 (by decide) ?_
                    refine m_iald X hW 1 (k := 1) rfl (by decide) rfl dX12_anew_88 ?_
                    refine lv_iconst (v := (1 : Int32)) hx hb dX12_anew_89 (by decide) ?_
                    refine lv_isub hx hb dX12_anew_90 ?_
                    refine lv_iload hx hb dX12_anew_91 (lv_at hl 0 rfl) ?_
                    refine lv_isub hx hb dX12_anew_93 ?_
                    refine lv_imul hx hb dX12_anew_94 ?_
                    refine m_ishr hx hb dX12_anew_95 ?_
                    refine lv_iconst (v := (3 : Int32)) hx hb dX12_anew_96 (by decide) ?_
                    refine lv_iand hx hb dX12_anew_97 ?_
                    obtain ⟨g17, hF⟩ := gd_some hF
                    refine m_iast X hW 2 (k := x5.toNatClampNeg) rfl g17 rfl dX12_anew_98 (ws' := (wd_R_anew E a_t a_t_images a_t_kept a_t_aside a_t_limbs a_t_wide a_t_hears a_t_spies a_t_known a_t_by a_t_ways a_t_fewest a_t_heavy a_t_sums a_t_text a_t_verbs a_t_many a_t_nums a_t_book a_t_faces a_t_bestFaces t_typed t_at t_start t_token t_value t_items t_book (upd t_faces'_6 x5.toNatClampNeg ((jshr x4 ((2 : Int32) * (((t_book 1) - (1 : Int32)) - x5))) &&& (3 : Int32))) t_bestFaces'_9)) rfl (fun H locs hW => ?_)
                    refine lv_iinc (v := (x5 + (1 : Int32))) (lv' := [(5, .int (x5 + (1 : Int32))), (4, .int x4), (3, .int x3), (0, .ref a_t), (1, .int p1), (2, .int p2)]) hx hb dX12_anew_99 hl (k := 0) rfl rfl (by decide) rfl (fun ls hl => ?_)
                    refine lv_goto (tgt := 63) hx hb dX12_anew_102 (by decide) ?_
                    exact ih15 (x5 + (1 : Int32)) (upd t_faces'_6 x5.toNatClampNeg ((jshr x4 ((2 : Int32) * (((t_book 1) - (1 : Int32)) - x5))) &&& (3 : Int32))) t_faces'_7 _ _ _ hF hW (lv_sub hl [0, 1, 2, 3, 4, 5] rfl) hk14
              refine L12 N (0 : Int32) t_faces'_5 t_faces'_7 _ _ _ hX13 hW (lv_sub hl [0, 1, 2, 3, 4, 5] rfl) ?_
              intro H locs ls hW hl
              clear L12
              refine lv_aload_n hx hb dX12_anew_105 rfl (lv_at hl 2 rfl) ?_
              obtain ⟨r106, hC18, hF⟩ := bO_s1 hF
              refine m_callV X hW hA hl.1 lkX12_266 (c_R_pairs l E _ N a_t a_t_images a_t_kept a_t_aside a_t_limbs a_t_wide a_t_hears a_t_spies a_t_known a_t_by a_t_ways a_t_fewest a_t_heavy a_t_sums a_t_bestFaces a_t_text a_t_verbs a_t_many a_t_nums a_t_book a_t_faces t_typed t_at t_start t_token t_value t_items t_book t_faces'_7  r106 hC18) ([0, 1, 2]) (by decide) rfl rfl (ws' := (wd_R_anew E a_t a_t_images a_t_kept a_t_aside a_t_limbs a_t_wide a_t_hears a_t_spies a_t_known a_t_by a_t_ways a_t_fewest a_t_heavy a_t_sums a_t_text a_t_verbs a_t_many a_t_nums a_t_book a_t_faces a_t_bestFaces t_typed t_at t_start t_token t_value t_items t_book t_faces'_7 t_bestFaces'_9)) rfl 0 rfl rfl rfl (As := []) (rest := []) rfl rfl ⟨rfl, rfl, Nat.le_of_ble_eq_true rfl, Nat.le_of_ble_eq_true rfl⟩ (Nat.le_of_ble_eq_true rfl) (Nat.zero_le _) (Nat.zero_le _) dX12_anew_106 (fun H locs hW => ?_)
              clear hC18
              refine lv_istore (lv' := [(5, .int r106), (4, .int x4), (3, .int x3), (0, .ref a_t), (1, .int p1), (2, .int p2)]) hx hb dX12_anew_109 hl (by decide) rfl (fun ls hl => ?_)
              refine lv_iload_n hx hb dX12_anew_111 rfl (lv_at hl 2 rfl) ?_
              refine lv_iconst (v := (-1 : Int32)) hx hb dX12_anew_112 (by decide) ?_
              refine lv_icmp_eq (tgt := 135) hx hb dX12_anew_113 (by decide) (fun c19 => ?_) (fun c19 => ?_)
              · have hF := if_y c19 hF
                refine lv_iload hx hb dX12_anew_135 (lv_at hl 0 rfl) ?_
                refine lv_istore_n (lv' := [(3, .int r106), (5, .int r106), (4, .int x4), (0, .ref a_t), (1, .int p1), (2, .int p2)]) hx hb dX12_anew_137 rfl hl (by decide) rfl (fun ls hl => ?_)
                refine lv_iconst (v := (0 : Int32)) hx hb dX12_anew_138 (by decide) ?_
                refine lv_istore (lv' := [(6, .int (0 : Int32)), (3, .int r106), (5, .int r106), (4, .int x4), (0, .ref a_t), (1, .int p1), (2, .int p2)]) hx hb dX12_anew_139 hl (by decide) rfl (fun ls hl => ?_)
                obtain ⟨t_bestFaces'_11, hX21, hF⟩ := bO_s1 hF
                have L20 : ∀ (k0 : Nat) (x6 : Int32) (t_bestFaces'_10 : Nat → Int32) (t_bestFaces'_11 : Nat → Int32) (H : Heap) (locs : List Loc) (ls : Array Slot), R_anew_L141 t_book t_faces'_7 k0 x6 t_bestFaces'_10 = some t_bestFaces'_11 → m_H E A (wd_R_anew E a_t a_t_images a_t_kept a_t_aside a_t_limbs a_t_wide a_t_hears a_t_spies a_t_known a_t_by a_t_ways a_t_fewest a_t_heavy a_t_sums a_t_text a_t_verbs a_t_many a_t_nums a_t_book a_t_faces a_t_bestFaces t_typed t_at t_start t_token t_value t_items t_book t_faces'_7 t_bestFaces'_10) s.heap H locs → lv_has ls 7 [(6, .int x6), (3, .int r106), (4, .int x4), (0, .ref a_t), (1, .int p1), (2, .int p2)] → (∀ (H : Heap) (locs : List Loc) (ls : Array Slot), m_H E A (wd_R_anew E a_t a_t_images a_t_kept a_t_aside a_t_limbs a_t_wide a_t_hears a_t_spies a_t_known a_t_by a_t_ways a_t_fewest a_t_heavy a_t_sums a_t_text a_t_verbs a_t_many a_t_nums a_t_book a_t_faces a_t_bestFaces t_typed t_at t_start t_token t_value t_items t_book t_faces'_7 t_bestFaces'_11) s.heap H locs → lv_has ls 7 [(3, .int r106), (4, .int x4), (0, .ref a_t), (1, .int p1), (2, .int p2)] → W p l e rm_R_anew s m args below meth c H locs 0 0 Q (F0 m 172 ls [])) → W p l e rm_R_anew s m args below meth c H locs 0 0 Q (F0 m 141 ls []) := by
                  clear hF
                  intro k0
                  induction k0 with
                  | zero =>
                    intro x6 t_bestFaces'_10 t_bestFaces'_11 H locs ls hF
                    cases hF
                  | succ k0 ih23 =>
                    intro x6 t_bestFaces'_10 t_bestFaces'_11 H locs ls hF hW hl hk22
                    rw [R_anew_L141] at hF
                    refine lv_iload hx hb dX12_anew_141 (lv_at hl 0 rfl) ?_
                    refine lv_aload_n hx hb dX12_anew_143 rfl (lv_at hl 3 rfl) ?_
                    refine m_get X hW fdX12_7 0 rfl rfl dX12_anew_144 ?_
                    refine lv_iconst (v := (1 : Int32)) hx hb dX12_anew_147 (by decide) ?_
                    refine m_iald X hW 1 (k := 1) rfl (by decide) rfl dX12_anew_148 ?_
                    refine lv_icmp_ge (tgt := 172) hx hb dX12_anew_149 (by decide) (fun c24 => ?_) (fun c24 => ?_)
                    · have hF := if_y c24 hF
                      cases hF
                      exact hk22 _ _ _ hW (lv_sub hl [1, 2, 3, 4, 5] rfl)
                    · have hF := if_n c24 hF
                      refine lv_aload_n hx hb dX12_anew_152 rfl (lv_at hl 3 rfl) ?_
                      refine m_get X hW fdX12_56 0 rfl rfl dX12_anew_153 ?_
                      refine lv_iload hx hb dX12_anew_156 (lv_at hl 0 rfl) ?_
                      refine lv_aload_n hx hb dX12_anew_158 rfl (lv_at hl 3 rfl) ?_
                      refine m_get X hW fdX12_53 0 rfl rfl dX12_anew_159 ?_
                      refine lv_iload hx hb dX12_anew_162 (lv_at hl 0 rfl) ?_
                      obtain ⟨g25, hF⟩ := gd_some hF
                      refine m_iald X hW 2 (k := x6.toNatClampNeg) rfl g25 rfl dX12_anew_164 ?_
                      refine m_iast X hW 3 (k := x6.toNatClampNeg) rfl g25 rfl dX12_anew_165 (ws' := (wd_R_anew E a_t a_t_images a_t_kept a_t_aside a_t_limbs a_t_wide a_t_hears a_t_spies a_t_known a_t_by a_t_ways a_t_fewest a_t_heavy a_t_sums a_t_text a_t_verbs a_t_many a_t_nums a_t_book a_t_faces a_t_bestFaces t_typed t_at t_start t_token t_value t_items t_book t_faces'_7 (upd t_bestFaces'_10 x6.toNatClampNeg (t_faces'_7 x6.toNatClampNeg)))) rfl (fun H locs hW => ?_)
                      refine lv_iinc (v := (x6 + (1 : Int32))) (lv' := [(6, .int (x6 + (1 : Int32))), (3, .int r106), (4, .int x4), (0, .ref a_t), (1, .int p1), (2, .int p2)]) hx hb dX12_anew_166 hl (k := 0) rfl rfl (by decide) rfl (fun ls hl => ?_)
                      refine lv_goto (tgt := 141) hx hb dX12_anew_169 (by decide) ?_
                      exact ih23 (x6 + (1 : Int32)) (upd t_bestFaces'_10 x6.toNatClampNeg (t_faces'_7 x6.toNatClampNeg)) t_bestFaces'_11 _ _ _ hF hW (lv_sub hl [0, 1, 2, 3, 4, 5] rfl) hk22
                refine L20 N (0 : Int32) t_bestFaces'_9 t_bestFaces'_11 _ _ _ hX21 hW (lv_sub hl [0, 1, 3, 4, 5, 6] rfl) ?_
                intro H locs ls hW hl
                clear L20
                refine lv_iinc (v := (x4 + (1 : Int32))) (lv' := [(4, .int (x4 + (1 : Int32))), (3, .int r106), (0, .ref a_t), (1, .int p1), (2, .int p2)]) hx hb dX12_anew_172 hl (k := 1) rfl rfl (by decide) rfl (fun ls hl => ?_)
                refine lv_goto (tgt := 45) hx hb dX12_anew_175 (by decide) ?_
                exact ih10 r106 (x4 + (1 : Int32)) t_faces'_7 t_bestFaces'_11 x3_2 t_faces'_8 t_bestFaces'_16 _ _ _ hF hW (lv_sub hl [0, 1, 2, 3, 4] rfl) hk9
              · have hF := if_n c19 hF
                refine lv_iload_n hx hb dX12_anew_116 rfl (lv_at hl 4 rfl) ?_
                refine lv_if_ne (tgt := 129) hx hb dX12_anew_117 (by decide) (fun c26 => ?_) (fun c26 => ?_)
                · have hF := if_n c26 hF
                  refine lv_iload hx hb dX12_anew_129 (lv_at hl 0 rfl) ?_
                  refine lv_iload_n hx hb dX12_anew_131 rfl (lv_at hl 2 rfl) ?_
                  refine lv_icmp_ge (tgt := 172) hx hb dX12_anew_132 (by decide) (fun c27 => ?_) (fun c27 => ?_)
                  · have hF := if_y c27 hF
                    refine lv_iinc (v := (x4 + (1 : Int32))) (lv' := [(4, .int (x4 + (1 : Int32))), (5, .int r106), (3, .int x3), (0, .ref a_t), (1, .int p1), (2, .int p2)]) hx hb dX12_anew_172 hl (k := 1) rfl rfl (by decide) rfl (fun ls hl => ?_)
                    refine lv_goto (tgt := 45) hx hb dX12_anew_175 (by decide) ?_
                    exact ih10 x3 (x4 + (1 : Int32)) t_faces'_7 t_bestFaces'_9 x3_2 t_faces'_8 t_bestFaces'_16 _ _ _ hF hW (lv_sub hl [0, 2, 3, 4, 5] rfl) hk9
                  · have hF := if_n c27 hF
                    refine lv_iload hx hb dX12_anew_135 (lv_at hl 0 rfl) ?_
                    refine lv_istore_n (lv' := [(3, .int r106), (5, .int r106), (4, .int x4), (0, .ref a_t), (1, .int p1), (2, .int p2)]) hx hb dX12_anew_137 rfl hl (by decide) rfl (fun ls hl => ?_)
                    refine lv_iconst (v := (0 : Int32)) hx hb dX12_anew_138 (by decide) ?_
                    refine lv_istore (lv' := [(6, .int (0 : Int32)), (3, .int r106), (5, .int r106), (4, .int x4), (0, .ref a_t), (1, .int p1), (2, .int p2)]) hx hb dX12_anew_139 hl (by decide) rfl (fun ls hl => ?_)
                    obtain ⟨t_bestFaces'_15, hX29, hF⟩ := bO_s1 hF
                    have L28 : ∀ (k0 : Nat) (x6_3 : Int32) (t_bestFaces'_14 : Nat → Int32) (t_bestFaces'_15 : Nat → Int32) (H : Heap) (locs : List Loc) (ls : Array Slot), R_anew_L141_3 t_book t_faces'_7 k0 x6_3 t_bestFaces'_14 = some t_bestFaces'_15 → m_H E A (wd_R_anew E a_t a_t_images a_t_kept a_t_aside a_t_limbs a_t_wide a_t_hears a_t_spies a_t_known a_t_by a_t_ways a_t_fewest a_t_heavy a_t_sums a_t_text a_t_verbs a_t_many a_t_nums a_t_book a_t_faces a_t_bestFaces t_typed t_at t_start t_token t_value t_items t_book t_faces'_7 t_bestFaces'_14) s.heap H locs → lv_has ls 7 [(6, .int x6_3), (3, .int r106), (4, .int x4), (0, .ref a_t), (1, .int p1), (2, .int p2)] → (∀ (H : Heap) (locs : List Loc) (ls : Array Slot), m_H E A (wd_R_anew E a_t a_t_images a_t_kept a_t_aside a_t_limbs a_t_wide a_t_hears a_t_spies a_t_known a_t_by a_t_ways a_t_fewest a_t_heavy a_t_sums a_t_text a_t_verbs a_t_many a_t_nums a_t_book a_t_faces a_t_bestFaces t_typed t_at t_start t_token t_value t_items t_book t_faces'_7 t_bestFaces'_15) s.heap H locs → lv_has ls 7 [(3, .int r106), (4, .int x4), (0, .ref a_t), (1, .int p1), (2, .int p2)] → W p l e rm_R_anew s m args below meth c H locs 0 0 Q (F0 m 172 ls [])) → W p l e rm_R_anew s m args below meth c H locs 0 0 Q (F0 m 141 ls []) := by
                      clear hF
                      intro k0
                      induction k0 with
                      | zero =>
                        intro x6_3 t_bestFaces'_14 t_bestFaces'_15 H locs ls hF
                        cases hF
                      | succ k0 ih31 =>
                        intro x6_3 t_bestFaces'_14 t_bestFaces'_15 H locs ls hF hW hl hk30
                        rw [R_anew_L141_3] at hF
                        refine lv_iload hx hb dX12_anew_141 (lv_at hl 0 rfl) ?_
                        refine lv_aload_n hx hb dX12_anew_143 rfl (lv_at hl 3 rfl) ?_
                        refine m_get X hW fdX12_7 0 rfl rfl dX12_anew_144 ?_
                        refine lv_iconst (v := (1 : Int32)) hx hb dX12_anew_147 (by decide) ?_
                        refine m_iald X hW 1 (k := 1) rfl (by decide) rfl dX12_anew_148 ?_
                        refine lv_icmp_ge (tgt := 172) hx hb dX12_anew_149 (by decide) (fun c32 => ?_) (fun c32 => ?_)
                        · have hF := if_y c32 hF
                          cases hF
                          exact hk30 _ _ _ hW (lv_sub hl [1, 2, 3, 4, 5] rfl)
                        · have hF := if_n c32 hF
                          refine lv_aload_n hx hb dX12_anew_152 rfl (lv_at hl 3 rfl) ?_
                          refine m_get X hW fdX12_56 0 rfl rfl dX12_anew_153 ?_
                          refine lv_iload hx hb dX12_anew_156 (lv_at hl 0 rfl) ?_
                          refine lv_aload_n hx hb dX12_anew_158 rfl (lv_at hl 3 rfl) ?_
                          refine m_get X hW fdX12_53 0 rfl rfl dX12_anew_159 ?_
                          refine lv_iload hx hb dX12_anew_162 (lv_at hl 0 rfl) ?_
                          obtain ⟨g33, hF⟩ := gd_some hF
                          refine m_iald X hW 2 (k := x6_3.toNatClampNeg) rfl g33 rfl dX12_anew_164 ?_
                          refine m_iast X hW 3 (k := x6_3.toNatClampNeg) rfl g33 rfl dX12_anew_165 (ws' := (wd_R_anew E a_t a_t_images a_t_kept a_t_aside a_t_limbs a_t_wide a_t_hears a_t_spies a_t_known a_t_by a_t_ways a_t_fewest a_t_heavy a_t_sums a_t_text a_t_verbs a_t_many a_t_nums a_t_book a_t_faces a_t_bestFaces t_typed t_at t_start t_token t_value t_items t_book t_faces'_7 (upd t_bestFaces'_14 x6_3.toNatClampNeg (t_faces'_7 x6_3.toNatClampNeg)))) rfl (fun H locs hW => ?_)
                          refine lv_iinc (v := (x6_3 + (1 : Int32))) (lv' := [(6, .int (x6_3 + (1 : Int32))), (3, .int r106), (4, .int x4), (0, .ref a_t), (1, .int p1), (2, .int p2)]) hx hb dX12_anew_166 hl (k := 0) rfl rfl (by decide) rfl (fun ls hl => ?_)
                          refine lv_goto (tgt := 141) hx hb dX12_anew_169 (by decide) ?_
                          exact ih31 (x6_3 + (1 : Int32)) (upd t_bestFaces'_14 x6_3.toNatClampNeg (t_faces'_7 x6_3.toNatClampNeg)) t_bestFaces'_15 _ _ _ hF hW (lv_sub hl [0, 1, 2, 3, 4, 5] rfl) hk30
                    refine L28 N (0 : Int32) t_bestFaces'_9 t_bestFaces'_15 _ _ _ hX29 hW (lv_sub hl [0, 1, 3, 4, 5, 6] rfl) ?_
                    intro H locs ls hW hl
                    clear L28
                    refine lv_iinc (v := (x4 + (1 : Int32))) (lv' := [(4, .int (x4 + (1 : Int32))), (3, .int r106), (0, .ref a_t), (1, .int p1), (2, .int p2)]) hx hb dX12_anew_172 hl (k := 1) rfl rfl (by decide) rfl (fun ls hl => ?_)
                    refine lv_goto (tgt := 45) hx hb dX12_anew_175 (by decide) ?_
                    exact ih10 r106 (x4 + (1 : Int32)) t_faces'_7 t_bestFaces'_15 x3_2 t_faces'_8 t_bestFaces'_16 _ _ _ hF hW (lv_sub hl [0, 1, 2, 3, 4] rfl) hk9
                · have hF := if_y c26 hF
                  refine lv_iload hx hb dX12_anew_120 (lv_at hl 0 rfl) ?_
                  refine lv_iload_n hx hb dX12_anew_122 rfl (lv_at hl 2 rfl) ?_
                  refine lv_icmp_le (tgt := 172) hx hb dX12_anew_123 (by decide) (fun c34 => ?_) (fun c34 => ?_)
                  · have hF := if_y c34 hF
                    refine lv_iinc (v := (x4 + (1 : Int32))) (lv' := [(4, .int (x4 + (1 : Int32))), (5, .int r106), (3, .int x3), (0, .ref a_t), (1, .int p1), (2, .int p2)]) hx hb dX12_anew_172 hl (k := 1) rfl rfl (by decide) rfl (fun ls hl => ?_)
                    refine lv_goto (tgt := 45) hx hb dX12_anew_175 (by decide) ?_
                    exact ih10 x3 (x4 + (1 : Int32)) t_faces'_7 t_bestFaces'_9 x3_2 t_faces'_8 t_bestFaces'_16 _ _ _ hF hW (lv_sub hl [0, 2, 3, 4, 5] rfl) hk9
                  · have hF := if_n c34 hF
                    refine lv_goto (tgt := 135) hx hb dX12_anew_126 (by decide) ?_
                    refine lv_iload hx hb dX12_anew_135 (lv_at hl 0 rfl) ?_
                    refine lv_istore_n (lv' := [(3, .int r106), (5, .int r106), (4, .int x4), (0, .ref a_t), (1, .int p1), (2, .int p2)]) hx hb dX12_anew_137 rfl hl (by decide) rfl (fun ls hl => ?_)
                    refine lv_iconst (v := (0 : Int32)) hx hb dX12_anew_138 (by decide) ?_
                    refine lv_istore (lv' := [(6, .int (0 : Int32)), (3, .int r106), (5, .int r106), (4, .int x4), (0, .ref a_t), (1, .int p1), (2, .int p2)]) hx hb dX12_anew_139 hl (by decide) rfl (fun ls hl => ?_)
                    obtain ⟨t_bestFaces'_13, hX36, hF⟩ := bO_s1 hF
                    have L35 : ∀ (k0 : Nat) (x6_2 : Int32) (t_bestFaces'_12 : Nat → Int32) (t_bestFaces'_13 : Nat → Int32) (H : Heap) (locs : List Loc) (ls : Array Slot), R_anew_L141_2 t_book t_faces'_7 k0 x6_2 t_bestFaces'_12 = some t_bestFaces'_13 → m_H E A (wd_R_anew E a_t a_t_images a_t_kept a_t_aside a_t_limbs a_t_wide a_t_hears a_t_spies a_t_known a_t_by a_t_ways a_t_fewest a_t_heavy a_t_sums a_t_text a_t_verbs a_t_many a_t_nums a_t_book a_t_faces a_t_bestFaces t_typed t_at t_start t_token t_value t_items t_book t_faces'_7 t_bestFaces'_12) s.heap H locs → lv_has ls 7 [(6, .int x6_2), (3, .int r106), (4, .int x4), (0, .ref a_t), (1, .int p1), (2, .int p2)] → (∀ (H : Heap) (locs : List Loc) (ls : Array Slot), m_H E A (wd_R_anew E a_t a_t_images a_t_kept a_t_aside a_t_limbs a_t_wide a_t_hears a_t_spies a_t_known a_t_by a_t_ways a_t_fewest a_t_heavy a_t_sums a_t_text a_t_verbs a_t_many a_t_nums a_t_book a_t_faces a_t_bestFaces t_typed t_at t_start t_token t_value t_items t_book t_faces'_7 t_bestFaces'_13) s.heap H locs → lv_has ls 7 [(3, .int r106), (4, .int x4), (0, .ref a_t), (1, .int p1), (2, .int p2)] → W p l e rm_R_anew s m args below meth c H locs 0 0 Q (F0 m 172 ls [])) → W p l e rm_R_anew s m args below meth c H locs 0 0 Q (F0 m 141 ls []) := by
                      clear hF
                      intro k0
                      induction k0 with
                      | zero =>
                        intro x6_2 t_bestFaces'_12 t_bestFaces'_13 H locs ls hF
                        cases hF
                      | succ k0 ih38 =>
                        intro x6_2 t_bestFaces'_12 t_bestFaces'_13 H locs ls hF hW hl hk37
                        rw [R_anew_L141_2] at hF
                        refine lv_iload hx hb dX12_anew_141 (lv_at hl 0 rfl) ?_
                        refine lv_aload_n hx hb dX12_anew_143 rfl (lv_at hl 3 rfl) ?_
                        refine m_get X hW fdX12_7 0 rfl rfl dX12_anew_144 ?_
                        refine lv_iconst (v := (1 : Int32)) hx hb dX12_anew_147 (by decide) ?_
                        refine m_iald X hW 1 (k := 1) rfl (by decide) rfl dX12_anew_148 ?_
                        refine lv_icmp_ge (tgt := 172) hx hb dX12_anew_149 (by decide) (fun c39 => ?_) (fun c39 => ?_)
                        · have hF := if_y c39 hF
                          cases hF
                          exact hk37 _ _ _ hW (lv_sub hl [1, 2, 3, 4, 5] rfl)
                        · have hF := if_n c39 hF
                          refine lv_aload_n hx hb dX12_anew_152 rfl (lv_at hl 3 rfl) ?_
                          refine m_get X hW fdX12_56 0 rfl rfl dX12_anew_153 ?_
                          refine lv_iload hx hb dX12_anew_156 (lv_at hl 0 rfl) ?_
                          refine lv_aload_n hx hb dX12_anew_158 rfl (lv_at hl 3 rfl) ?_
                          refine m_get X hW fdX12_53 0 rfl rfl dX12_anew_159 ?_
                          refine lv_iload hx hb dX12_anew_162 (lv_at hl 0 rfl) ?_
                          obtain ⟨g40, hF⟩ := gd_some hF
                          refine m_iald X hW 2 (k := x6_2.toNatClampNeg) rfl g40 rfl dX12_anew_164 ?_
                          refine m_iast X hW 3 (k := x6_2.toNatClampNeg) rfl g40 rfl dX12_anew_165 (ws' := (wd_R_anew E a_t a_t_images a_t_kept a_t_aside a_t_limbs a_t_wide a_t_hears a_t_spies a_t_known a_t_by a_t_ways a_t_fewest a_t_heavy a_t_sums a_t_text a_t_verbs a_t_many a_t_nums a_t_book a_t_faces a_t_bestFaces t_typed t_at t_start t_token t_value t_items t_book t_faces'_7 (upd t_bestFaces'_12 x6_2.toNatClampNeg (t_faces'_7 x6_2.toNatClampNeg)))) rfl (fun H locs hW => ?_)
                          refine lv_iinc (v := (x6_2 + (1 : Int32))) (lv' := [(6, .int (x6_2 + (1 : Int32))), (3, .int r106), (4, .int x4), (0, .ref a_t), (1, .int p1), (2, .int p2)]) hx hb dX12_anew_166 hl (k := 0) rfl rfl (by decide) rfl (fun ls hl => ?_)
                          refine lv_goto (tgt := 141) hx hb dX12_anew_169 (by decide) ?_
                          exact ih38 (x6_2 + (1 : Int32)) (upd t_bestFaces'_12 x6_2.toNatClampNeg (t_faces'_7 x6_2.toNatClampNeg)) t_bestFaces'_13 _ _ _ hF hW (lv_sub hl [0, 1, 2, 3, 4, 5] rfl) hk37
                    refine L35 N (0 : Int32) t_bestFaces'_9 t_bestFaces'_13 _ _ _ hX36 hW (lv_sub hl [0, 1, 3, 4, 5, 6] rfl) ?_
                    intro H locs ls hW hl
                    clear L35
                    refine lv_iinc (v := (x4 + (1 : Int32))) (lv' := [(4, .int (x4 + (1 : Int32))), (3, .int r106), (0, .ref a_t), (1, .int p1), (2, .int p2)]) hx hb dX12_anew_172 hl (k := 1) rfl rfl (by decide) rfl (fun ls hl => ?_)
                    refine lv_goto (tgt := 45) hx hb dX12_anew_175 (by decide) ?_
                    exact ih10 r106 (x4 + (1 : Int32)) t_faces'_7 t_bestFaces'_13 x3_2 t_faces'_8 t_bestFaces'_16 _ _ _ hF hW (lv_sub hl [0, 1, 2, 3, 4] rfl) hk9
        refine L7 N (-1 : Int32) (0 : Int32) t_faces t_bestFaces x3_2 t_faces'_8 t_bestFaces'_16 _ _ _ hX8 hW (lv_sub hl [0, 1, 2, 3, 4] rfl) ?_
        intro H locs ls hW hl
        clear L7
        refine lv_iload_n hx hb dX12_anew_178 rfl (lv_at hl 2 rfl) ?_
        refine lv_iconst (v := (-1 : Int32)) hx hb dX12_anew_179 (by decide) ?_
        refine lv_icmp_ne (tgt := 187) hx hb dX12_anew_180 (by decide) (fun c41 => ?_) (fun c41 => ?_)
        · have hF := if_n c41 hF
          refine lv_aload_n hx hb dX12_anew_187 rfl (lv_at hl 1 rfl) ?_
          refine m_get X hW fdX12_56 0 rfl rfl dX12_anew_188 ?_
          refine lv_iload_n hx hb dX12_anew_191 rfl (lv_at hl 2 rfl) ?_
          obtain ⟨g42, hF⟩ := gd_some hF
          refine m_iald X hW 3 (k := p2.toNatClampNeg) rfl g42 rfl dX12_anew_192 ?_
          have hq := Option.some.inj hF
          subst hq
          exact hret _ _ _ _ hW dX12_anew_193
        · have hF := if_y c41 hF
          refine lv_iload_n hx hb dX12_anew_183 rfl (lv_at hl 0 rfl) ?_
          refine lv_goto (tgt := 193) hx hb dX12_anew_184 (by decide) ?_
          have hq := Option.some.inj hF
          subst hq
          exact hret _ _ _ _ hW dX12_anew_193
      · have hF := if_n c6 hF
        refine lv_bipush (v := (-20 : Int32)) hx hb dX12_anew_37 (by decide) ?_
        have hq := Option.some.inj hF
        subst hq
        exact hret _ _ _ _ hW dX12_anew_39
    clear hF
    have hF := hX3
    clear hX3
    refine lv_icmp_eq (tgt := 26) hx hb dX12_anew_12 (by decide) (fun c43 => ?_) (fun c43 => ?_)
    · have hF := if_y c43 hF
      exact J2  _ _ _ (Option.some.inj hF).symm hW (lv_sub hl [0, 1, 2] rfl)
    · have hF := if_n c43 hF
      refine lv_aload_n hx hb dX12_anew_15 rfl (lv_at hl 0 rfl) ?_
      refine lv_iload_n hx hb dX12_anew_16 rfl (lv_at hl 2 rfl) ?_
      refine m_callV X hW hA hl.1 lkX12_127 (c_R_isWeaver l E _ N a_t a_t_images a_t_kept a_t_aside a_t_limbs a_t_wide a_t_hears a_t_spies a_t_known a_t_by a_t_ways a_t_fewest a_t_heavy a_t_sums a_t_faces a_t_bestFaces a_t_text a_t_verbs a_t_many a_t_nums a_t_book t_typed t_at t_start t_token t_value t_items t_book p2 (F_R_isWeaver p2 t_book) rfl) ([0, 1]) (by decide) rfl rfl (ws' := (wd_R_anew E a_t a_t_images a_t_kept a_t_aside a_t_limbs a_t_wide a_t_hears a_t_spies a_t_known a_t_by a_t_ways a_t_fewest a_t_heavy a_t_sums a_t_text a_t_verbs a_t_many a_t_nums a_t_book a_t_faces a_t_bestFaces t_typed t_at t_start t_token t_value t_items t_book t_faces t_bestFaces)) rfl 0 rfl rfl rfl (As := [.int p2]) (rest := []) rfl rfl ⟨rfl, rfl, Nat.le_of_ble_eq_true rfl, Nat.le_of_ble_eq_true rfl⟩ (Nat.le_of_ble_eq_true rfl) (Nat.zero_le _) (Nat.zero_le _) dX12_anew_17 (fun H locs hW => ?_)
      refine lv_if_ne (tgt := 26) hx hb dX12_anew_20 (by decide) (fun c44 => ?_) (fun c44 => ?_)
      · have hF := if_n c44 hF
        exact J2  _ _ _ (Option.some.inj hF).symm hW (lv_sub hl [0, 1, 2] rfl)
      · have hF := if_y c44 hF
        refine lv_bipush (v := (-10 : Int32)) hx hb dX12_anew_23 (by decide) ?_
        have hq := (Option.some.inj hF).symm
        have hq := hr4 _ hq
        subst hq
        exact hret _ _ _ _ hW dX12_anew_25
abbrev wd_R_type (E : m_E) (a_t : Nat) (a_t_book : Nat) (a_t_images : Nat) (a_t_kept : Nat) (a_t_aside : Nat) (a_t_limbs : Nat) (a_t_wide : Nat) (a_t_hears : Nat) (a_t_spies : Nat) (a_t_known : Nat) (a_t_by : Nat) (a_t_ways : Nat) (a_t_fewest : Nat) (a_t_heavy : Nat) (a_t_sums : Nat) (a_t_faces : Nat) (a_t_bestFaces : Nat) (a_t_verbs : Nat) (a_t_many : Nat) (a_t_nums : Nat) (a_t_text : Nat) (t_typed : Int32) (t_at : Int32) (t_start : Int32) (t_token : Int32) (t_value : Int32) (t_items : Int32) (t_text : Nat → Int32) : va_W := [(a_t, .inr (12, [.ref a_t_book, .ref a_t_images, .ref a_t_kept, .ref a_t_aside, .ref a_t_limbs, .ref a_t_wide, .ref a_t_hears, .ref a_t_spies, .ref a_t_known, .ref a_t_by, .ref a_t_ways, .ref a_t_fewest, .ref a_t_heavy, .ref a_t_sums, .ref a_t_faces, .ref a_t_bestFaces, .ref a_t_text, .int t_typed, .int t_at, .int t_start, .int t_token, .int t_value, .ref a_t_verbs, .ref a_t_many, .ref a_t_nums, .int t_items])), (a_t_text, .inl (E.2.1 0, 240, .inl t_text))]
def rm_R_type : Room := { frames := 1, cells := 0, slots := 0, locals := 25 }
set_option maxHeartbeats 4000000 in
set_option maxRecDepth 100000 in
theorem c_R_type (l : Launch) (E : m_E) (sz N : Nat) (a_t : Nat) (a_t_book : Nat) (a_t_images : Nat) (a_t_kept : Nat) (a_t_aside : Nat) (a_t_limbs : Nat) (a_t_wide : Nat) (a_t_hears : Nat) (a_t_spies : Nat) (a_t_known : Nat) (a_t_by : Nat) (a_t_ways : Nat) (a_t_fewest : Nat) (a_t_heavy : Nat) (a_t_sums : Nat) (a_t_faces : Nat) (a_t_bestFaces : Nat) (a_t_verbs : Nat) (a_t_many : Nat) (a_t_nums : Nat) (a_t_text : Nat) (t_typed : Int32) (t_at : Int32) (t_start : Int32) (t_token : Int32) (t_value : Int32) (t_items : Int32) (t_text : Nat → Int32) (p1 : Int64) (p2 : Int32) (ures : Int32 × Int32 × (Nat → Int32)) (hF : F_R_type N p1 p2 t_typed t_text = some ures) : m_Met l yX12_type cX12_type 5 (some .int) rm_R_type E (wd_R_type E a_t a_t_book a_t_images a_t_kept a_t_aside a_t_limbs a_t_wide a_t_hears a_t_spies a_t_known a_t_by a_t_ways a_t_fewest a_t_heavy a_t_sums a_t_faces a_t_bestFaces a_t_verbs a_t_many a_t_nums a_t_text t_typed t_at t_start t_token t_value t_items t_text) (wd_R_type E a_t a_t_book a_t_images a_t_kept a_t_aside a_t_limbs a_t_wide a_t_hears a_t_spies a_t_known a_t_by a_t_ways a_t_fewest a_t_heavy a_t_sums a_t_faces a_t_bestFaces a_t_verbs a_t_many a_t_nums a_t_text ures.2.1 t_at t_start t_token t_value t_items ures.2.2) sz [.ref a_t, .long p1, .int p2] (some (.int ures.1)) := by
  refine m_ofI (by decide) (Nat.le_of_ble_eq_true rfl) ?_
  intro p e s m args below meth c A Q ls X hW hA hl hret
  obtain ⟨hx, hb, -, hown, hts, hK, -, hG⟩ := id X
  have hl : lv_has ls 5 [(0, .ref a_t), (1, .long p1), (3, .int p2)] := hl
  unfold F_R_type at hF
  refine lv_iload_n hx hb dX12_type_0 rfl (lv_at hl 2 rfl) ?_
  refine lv_i2l (v := p2.toInt64) hx hb dX12_type_1 rfl ?_
  refine lv_lconst (v := (1 : Int64)) hx hb dX12_type_2 (by decide) ?_
  refine lv_ldc2 (v := (8 : Int64)) hx hb hown (hts _ wk_1539) dX12_type_3 ?_
  refine m_callS X hW hA hl.1 lkX12_109 (c_R_in l E _ N   p2.toInt64 (1 : Int64) (8 : Int64) (F_R_in p2.toInt64 (1 : Int64) (8 : Int64)) rfl) ([]) (by decide) rfl rfl (ws' := (wd_R_type E a_t a_t_book a_t_images a_t_kept a_t_aside a_t_limbs a_t_wide a_t_hears a_t_spies a_t_known a_t_by a_t_ways a_t_fewest a_t_heavy a_t_sums a_t_faces a_t_bestFaces a_t_verbs a_t_many a_t_nums a_t_text t_typed t_at t_start t_token t_value t_items t_text)) rfl (As := [.long p2.toInt64, .long (1 : Int64), .long (8 : Int64)]) (rest := []) rfl rfl ⟨rfl, rfl, Nat.le_of_ble_eq_true rfl, Nat.le_of_ble_eq_true rfl⟩ (Nat.le_of_ble_eq_true rfl) (Nat.zero_le _) (Nat.zero_le _) dX12_type_6 (fun H locs hW => ?_)
  refine lv_if_ne (tgt := 15) hx hb dX12_type_9 (by decide) (fun c1 => ?_) (fun c1 => ?_)
  · have hF := if_n c1 hF
    refine lv_aload_n hx hb dX12_type_15 rfl (lv_at hl 0 rfl) ?_
    refine m_get X hW fdX12_271 0 rfl rfl dX12_type_16 ?_
    refine lv_iload_n hx hb dX12_type_19 rfl (lv_at hl 2 rfl) ?_
    refine lv_iadd hx hb dX12_type_20 ?_
    refine lv_sipush (v := (240 : Int32)) hx hb dX12_type_21 (by decide) ?_
    refine lv_icmp_le (tgt := 30) hx hb dX12_type_24 (by decide) (fun c2 => ?_) (fun c2 => ?_)
    · have hF := if_y c2 hF
      refine lv_iload_n hx hb dX12_type_30 rfl (lv_at hl 2 rfl) ?_
      refine lv_iconst (v := (1 : Int32)) hx hb dX12_type_31 (by decide) ?_
      refine lv_isub hx hb dX12_type_32 ?_
      refine lv_istore (lv' := [(4, .int (p2 - (1 : Int32))), (0, .ref a_t), (1, .long p1), (3, .int p2)]) hx hb dX12_type_33 hl (by decide) rfl (fun ls hl => ?_)
      obtain ⟨t_text'_4, t_typed'_4, hX4, hF⟩ := bO_s2 hF
      have L3 : ∀ (k0 : Nat) (x4 : Int32) (t_text'_3 : Nat → Int32) (t_typed'_3 : Int32) (t_text'_4 : Nat → Int32) (t_typed'_4 : Int32) (H : Heap) (locs : List Loc) (ls : Array Slot), R_type_L35 p1 k0 x4 t_text'_3 t_typed'_3 = some (t_text'_4, t_typed'_4) → m_H E A (wd_R_type E a_t a_t_book a_t_images a_t_kept a_t_aside a_t_limbs a_t_wide a_t_hears a_t_spies a_t_known a_t_by a_t_ways a_t_fewest a_t_heavy a_t_sums a_t_faces a_t_bestFaces a_t_verbs a_t_many a_t_nums a_t_text t_typed'_3 t_at t_start t_token t_value t_items t_text'_3) s.heap H locs → lv_has ls 5 [(4, .int x4), (0, .ref a_t), (1, .long p1)] → (∀ (H : Heap) (locs : List Loc) (ls : Array Slot), m_H E A (wd_R_type E a_t a_t_book a_t_images a_t_kept a_t_aside a_t_limbs a_t_wide a_t_hears a_t_spies a_t_known a_t_by a_t_ways a_t_fewest a_t_heavy a_t_sums a_t_faces a_t_bestFaces a_t_verbs a_t_many a_t_nums a_t_text t_typed'_4 t_at t_start t_token t_value t_items t_text'_4) s.heap H locs → lv_has ls 5 [(0, .ref a_t)] → W p l e rm_R_type s m args below meth c H locs 0 0 Q (F0 m 77 ls [])) → W p l e rm_R_type s m args below meth c H locs 0 0 Q (F0 m 35 ls []) := by
        clear hF
        intro k0
        induction k0 with
        | zero =>
          intro x4 t_text'_3 t_typed'_3 t_text'_4 t_typed'_4 H locs ls hF
          cases hF
        | succ k0 ih6 =>
          intro x4 t_text'_3 t_typed'_3 t_text'_4 t_typed'_4 H locs ls hF hW hl hk5
          rw [R_type_L35] at hF
          refine lv_iload hx hb dX12_type_35 (lv_at hl 0 rfl) ?_
          refine lv_if_lt (tgt := 77) hx hb dX12_type_37 (by decide) (fun c7 => ?_) (fun c7 => ?_)
          · have hF := if_y c7 hF
            cases hF
            exact hk5 _ _ _ hW (lv_sub hl [1] rfl)
          · have hF := if_n c7 hF
            refine lv_aload_n hx hb dX12_type_40 rfl (lv_at hl 1 rfl) ?_
            refine m_get X hW fdX12_59 0 rfl rfl dX12_type_41 ?_
            refine lv_aload_n hx hb dX12_type_44 rfl (lv_at hl 1 rfl) ?_
            refine m_get X hW fdX12_271 0 rfl rfl dX12_type_45 ?_
            refine lv_lload_n hx hb dX12_type_48 rfl (lv_at hl 2 rfl) ?_
            refine lv_bipush (v := (8 : Int32)) hx hb dX12_type_49 (by decide) ?_
            refine lv_iload hx hb dX12_type_51 (lv_at hl 0 rfl) ?_
            refine lv_imul hx hb dX12_type_53 ?_
            refine m_lshr hx hb dX12_type_54 ?_
            refine lv_ldc2 (v := (255 : Int64)) hx hb hown (hts _ wk_1540) dX12_type_55 ?_
            refine lv_land hx hb dX12_type_58 ?_
            refine lv_l2i (v := ((jshrL p1 ((8 : Int32) * x4)) &&& (255 : Int64)).toInt32) hx hb dX12_type_59 rfl ?_
            obtain ⟨g8, hF⟩ := gd_some hF
            refine m_iast X hW 1 (k := t_typed'_3.toNatClampNeg) rfl g8 rfl dX12_type_60 (ws' := (wd_R_type E a_t a_t_book a_t_images a_t_kept a_t_aside a_t_limbs a_t_wide a_t_hears a_t_spies a_t_known a_t_by a_t_ways a_t_fewest a_t_heavy a_t_sums a_t_faces a_t_bestFaces a_t_verbs a_t_many a_t_nums a_t_text t_typed'_3 t_at t_start t_token t_value t_items (upd t_text'_3 t_typed'_3.toNatClampNeg ((jshrL p1 ((8 : Int32) * x4)) &&& (255 : Int64)).toInt32))) rfl (fun H locs hW => ?_)
            refine lv_aload_n hx hb dX12_type_61 rfl (lv_at hl 1 rfl) ?_
            refine lv_dup hx hb dX12_type_62 rfl ?_
            refine m_get X hW fdX12_271 0 rfl rfl dX12_type_63 ?_
            refine lv_iconst (v := (1 : Int32)) hx hb dX12_type_66 (by decide) ?_
            refine lv_iadd hx hb dX12_type_67 ?_
            refine m_putf X hW fdX12_271 0 rfl (Nat.le_of_ble_eq_true rfl) rfl rfl dX12_type_68 (ws' := (wd_R_type E a_t a_t_book a_t_images a_t_kept a_t_aside a_t_limbs a_t_wide a_t_hears a_t_spies a_t_known a_t_by a_t_ways a_t_fewest a_t_heavy a_t_sums a_t_faces a_t_bestFaces a_t_verbs a_t_many a_t_nums a_t_text (t_typed'_3 + (1 : Int32)) t_at t_start t_token t_value t_items (upd t_text'_3 t_typed'_3.toNatClampNeg ((jshrL p1 ((8 : Int32) * x4)) &&& (255 : Int64)).toInt32))) rfl (fun H locs hW => ?_)
            refine lv_iinc (v := (x4 + (-1 : Int32))) (lv' := [(4, .int (x4 + (-1 : Int32))), (0, .ref a_t), (1, .long p1)]) hx hb dX12_type_71 hl (k := 0) rfl rfl (by decide) rfl (fun ls hl => ?_)
            refine lv_goto (tgt := 35) hx hb dX12_type_74 (by decide) ?_
            exact ih6 (x4 + (-1 : Int32)) (upd t_text'_3 t_typed'_3.toNatClampNeg ((jshrL p1 ((8 : Int32) * x4)) &&& (255 : Int64)).toInt32) (t_typed'_3 + (1 : Int32)) t_text'_4 t_typed'_4 _ _ _ hF hW (lv_sub hl [0, 1, 2] rfl) hk5
      refine L3 N (p2 - (1 : Int32)) t_text t_typed t_text'_4 t_typed'_4 _ _ _ hX4 hW (lv_sub hl [0, 1, 2] rfl) ?_
      intro H locs ls hW hl
      clear L3
      refine lv_aload_n hx hb dX12_type_77 rfl (lv_at hl 0 rfl) ?_
      refine m_get X hW fdX12_271 0 rfl rfl dX12_type_78 ?_
      have hq := Option.some.inj hF
      subst hq
      exact hret _ _ _ _ hW dX12_type_81
    · have hF := if_n c2 hF
      refine lv_bipush (v := (-4 : Int32)) hx hb dX12_type_27 (by decide) ?_
      have hq := Option.some.inj hF
      subst hq
      exact hret _ _ _ _ hW dX12_type_29
  · have hF := if_y c1 hF
    refine lv_bipush (v := (-2 : Int32)) hx hb dX12_type_12 (by decide) ?_
    have hq := Option.some.inj hF
    subst hq
    exact hret _ _ _ _ hW dX12_type_14
abbrev wd_R_erase (E : m_E) (a_t : Nat) (a_t_book : Nat) (a_t_images : Nat) (a_t_kept : Nat) (a_t_aside : Nat) (a_t_limbs : Nat) (a_t_wide : Nat) (a_t_hears : Nat) (a_t_spies : Nat) (a_t_known : Nat) (a_t_by : Nat) (a_t_ways : Nat) (a_t_fewest : Nat) (a_t_heavy : Nat) (a_t_sums : Nat) (a_t_faces : Nat) (a_t_bestFaces : Nat) (a_t_text : Nat) (a_t_verbs : Nat) (a_t_many : Nat) (a_t_nums : Nat) (t_typed : Int32) (t_at : Int32) (t_start : Int32) (t_token : Int32) (t_value : Int32) (t_items : Int32) : va_W := [(a_t, .inr (12, [.ref a_t_book, .ref a_t_images, .ref a_t_kept, .ref a_t_aside, .ref a_t_limbs, .ref a_t_wide, .ref a_t_hears, .ref a_t_spies, .ref a_t_known, .ref a_t_by, .ref a_t_ways, .ref a_t_fewest, .ref a_t_heavy, .ref a_t_sums, .ref a_t_faces, .ref a_t_bestFaces, .ref a_t_text, .int t_typed, .int t_at, .int t_start, .int t_token, .int t_value, .ref a_t_verbs, .ref a_t_many, .ref a_t_nums, .int t_items]))]
def rm_R_erase : Room := { frames := 0, cells := 0, slots := 0, locals := 0 }
set_option maxHeartbeats 4000000 in
set_option maxRecDepth 100000 in
theorem c_R_erase (l : Launch) (E : m_E) (sz N : Nat) (a_t : Nat) (a_t_book : Nat) (a_t_images : Nat) (a_t_kept : Nat) (a_t_aside : Nat) (a_t_limbs : Nat) (a_t_wide : Nat) (a_t_hears : Nat) (a_t_spies : Nat) (a_t_known : Nat) (a_t_by : Nat) (a_t_ways : Nat) (a_t_fewest : Nat) (a_t_heavy : Nat) (a_t_sums : Nat) (a_t_faces : Nat) (a_t_bestFaces : Nat) (a_t_text : Nat) (a_t_verbs : Nat) (a_t_many : Nat) (a_t_nums : Nat) (t_typed : Int32) (t_at : Int32) (t_start : Int32) (t_token : Int32) (t_value : Int32) (t_items : Int32)  (ures : Int32 × Int32) (hF : F_R_erase t_typed = some ures) : m_Met l yX12_erase cX12_erase 2 (some .int) rm_R_erase E (wd_R_erase E a_t a_t_book a_t_images a_t_kept a_t_aside a_t_limbs a_t_wide a_t_hears a_t_spies a_t_known a_t_by a_t_ways a_t_fewest a_t_heavy a_t_sums a_t_faces a_t_bestFaces a_t_text a_t_verbs a_t_many a_t_nums t_typed t_at t_start t_token t_value t_items) (wd_R_erase E a_t a_t_book a_t_images a_t_kept a_t_aside a_t_limbs a_t_wide a_t_hears a_t_spies a_t_known a_t_by a_t_ways a_t_fewest a_t_heavy a_t_sums a_t_faces a_t_bestFaces a_t_text a_t_verbs a_t_many a_t_nums ures.2 t_at t_start t_token t_value t_items) sz [.ref a_t] (some (.int ures.1)) := by
  refine m_ofI (by decide) (Nat.le_of_ble_eq_true rfl) ?_
  intro p e s m args below meth c A Q ls X hW hA hl hret
  obtain ⟨hx, hb, -, hown, hts, hK, -, hG⟩ := id X
  have hl : lv_has ls 2 [(0, .ref a_t)] := hl
  unfold F_R_erase at hF
  refine lv_aload_n hx hb dX12_erase_0 rfl (lv_at hl 0 rfl) ?_
  refine m_get X hW fdX12_271 0 rfl rfl dX12_erase_1 ?_
  refine lv_istore_n (lv' := [(1, .int t_typed), (0, .ref a_t)]) hx hb dX12_erase_4 rfl hl (by decide) rfl (fun ls hl => ?_)
  refine lv_aload_n hx hb dX12_erase_5 rfl (lv_at hl 1 rfl) ?_
  refine lv_iconst (v := (0 : Int32)) hx hb dX12_erase_6 (by decide) ?_
  refine m_putf X hW fdX12_271 0 rfl (Nat.le_of_ble_eq_true rfl) rfl rfl dX12_erase_7 (ws' := (wd_R_erase E a_t a_t_book a_t_images a_t_kept a_t_aside a_t_limbs a_t_wide a_t_hears a_t_spies a_t_known a_t_by a_t_ways a_t_fewest a_t_heavy a_t_sums a_t_faces a_t_bestFaces a_t_text a_t_verbs a_t_many a_t_nums (0 : Int32) t_at t_start t_token t_value t_items)) rfl (fun H locs hW => ?_)
  refine lv_iload_n hx hb dX12_erase_10 rfl (lv_at hl 0 rfl) ?_
  have hq := Option.some.inj hF
  subst hq
  exact hret _ _ _ _ hW dX12_erase_11
abbrev wd_R_isAt (E : m_E) (a_t : Nat) (a_t_book : Nat) (a_t_images : Nat) (a_t_kept : Nat) (a_t_aside : Nat) (a_t_limbs : Nat) (a_t_wide : Nat) (a_t_hears : Nat) (a_t_spies : Nat) (a_t_known : Nat) (a_t_by : Nat) (a_t_ways : Nat) (a_t_fewest : Nat) (a_t_heavy : Nat) (a_t_sums : Nat) (a_t_faces : Nat) (a_t_bestFaces : Nat) (a_t_verbs : Nat) (a_t_many : Nat) (a_t_nums : Nat) (a_t_text : Nat) (t_typed : Int32) (t_at : Int32) (t_start : Int32) (t_token : Int32) (t_value : Int32) (t_items : Int32) (t_text : Nat → Int32) : va_W := [(a_t, .inr (12, [.ref a_t_book, .ref a_t_images, .ref a_t_kept, .ref a_t_aside, .ref a_t_limbs, .ref a_t_wide, .ref a_t_hears, .ref a_t_spies, .ref a_t_known, .ref a_t_by, .ref a_t_ways, .ref a_t_fewest, .ref a_t_heavy, .ref a_t_sums, .ref a_t_faces, .ref a_t_bestFaces, .ref a_t_text, .int t_typed, .int t_at, .int t_start, .int t_token, .int t_value, .ref a_t_verbs, .ref a_t_many, .ref a_t_nums, .int t_items])), (a_t_text, .inl (E.2.1 0, 240, .inl t_text))]
def rm_R_isAt : Room := { frames := 1, cells := 0, slots := 0, locals := 25 }
set_option maxHeartbeats 4000000 in
set_option maxRecDepth 100000 in
theorem c_R_isAt (l : Launch) (E : m_E) (sz N : Nat) (a_t : Nat) (a_t_book : Nat) (a_t_images : Nat) (a_t_kept : Nat) (a_t_aside : Nat) (a_t_limbs : Nat) (a_t_wide : Nat) (a_t_hears : Nat) (a_t_spies : Nat) (a_t_known : Nat) (a_t_by : Nat) (a_t_ways : Nat) (a_t_fewest : Nat) (a_t_heavy : Nat) (a_t_sums : Nat) (a_t_faces : Nat) (a_t_bestFaces : Nat) (a_t_verbs : Nat) (a_t_many : Nat) (a_t_nums : Nat) (a_t_text : Nat) (t_typed : Int32) (t_at : Int32) (t_start : Int32) (t_token : Int32) (t_value : Int32) (t_items : Int32) (t_text : Nat → Int32) (p1 : Int32) (p2 : Int32) (ures : Int32) (hF : F_R_isAt p1 p2 t_typed t_at t_text = some ures) : m_Met l yX12_isAt cX12_isAt 3 (some .boolean) rm_R_isAt E (wd_R_isAt E a_t a_t_book a_t_images a_t_kept a_t_aside a_t_limbs a_t_wide a_t_hears a_t_spies a_t_known a_t_by a_t_ways a_t_fewest a_t_heavy a_t_sums a_t_faces a_t_bestFaces a_t_verbs a_t_many a_t_nums a_t_text t_typed t_at t_start t_token t_value t_items t_text) (wd_R_isAt E a_t a_t_book a_t_images a_t_kept a_t_aside a_t_limbs a_t_wide a_t_hears a_t_spies a_t_known a_t_by a_t_ways a_t_fewest a_t_heavy a_t_sums a_t_faces a_t_bestFaces a_t_verbs a_t_many a_t_nums a_t_text t_typed t_at t_start t_token t_value t_items t_text) sz [.ref a_t, .int p1, .int p2] (some (.int ures)) := by
  refine m_ofZ (by decide) (Nat.le_of_ble_eq_true rfl) ?_
  intro p e s m args below meth c A Q ls X hW hA hl hret
  obtain ⟨hx, hb, -, hown, hts, hK, -, hG⟩ := id X
  have hl : lv_has ls 3 [(0, .ref a_t), (1, .int p1), (2, .int p2)] := hl
  unfold F_R_isAt at hF
  refine lv_aload_n hx hb dX12_isAt_0 rfl (lv_at hl 0 rfl) ?_
  refine m_get X hW fdX12_277 0 rfl rfl dX12_isAt_1 ?_
  refine lv_aload_n hx hb dX12_isAt_4 rfl (lv_at hl 0 rfl) ?_
  refine m_get X hW fdX12_271 0 rfl rfl dX12_isAt_5 ?_
  refine lv_icmp_ge (tgt := 35) hx hb dX12_isAt_8 (by decide) (fun c1 => ?_) (fun c1 => ?_)
  · have hF := if_y c1 hF
    refine lv_iconst (v := (0 : Int32)) hx hb dX12_isAt_35 (by decide) ?_
    have hq := Option.some.inj hF
    subst hq
    exact hret _ _ _ _ _ rfl hW dX12_isAt_36
  · have hF := if_n c1 hF
    refine lv_aload_n hx hb dX12_isAt_11 rfl (lv_at hl 0 rfl) ?_
    refine m_get X hW fdX12_59 0 rfl rfl dX12_isAt_12 ?_
    refine lv_aload_n hx hb dX12_isAt_15 rfl (lv_at hl 0 rfl) ?_
    refine m_get X hW fdX12_277 0 rfl rfl dX12_isAt_16 ?_
    obtain ⟨g2, hF⟩ := gd_some hF
    refine m_iald X hW 1 (k := t_at.toNatClampNeg) rfl g2 rfl dX12_isAt_19 ?_
    refine lv_i2l (v := (t_text t_at.toNatClampNeg).toInt64) hx hb dX12_isAt_20 rfl ?_
    refine lv_iload_n hx hb dX12_isAt_21 rfl (lv_at hl 1 rfl) ?_
    refine lv_i2l (v := p1.toInt64) hx hb dX12_isAt_22 rfl ?_
    refine lv_iload_n hx hb dX12_isAt_23 rfl (lv_at hl 2 rfl) ?_
    refine lv_i2l (v := p2.toInt64) hx hb dX12_isAt_24 rfl ?_
    refine m_callS X hW hA hl.1 lkX12_109 (c_R_in l E _ N   (t_text t_at.toNatClampNeg).toInt64 p1.toInt64 p2.toInt64 (F_R_in (t_text t_at.toNatClampNeg).toInt64 p1.toInt64 p2.toInt64) rfl) ([]) (by decide) rfl rfl (ws' := (wd_R_isAt E a_t a_t_book a_t_images a_t_kept a_t_aside a_t_limbs a_t_wide a_t_hears a_t_spies a_t_known a_t_by a_t_ways a_t_fewest a_t_heavy a_t_sums a_t_faces a_t_bestFaces a_t_verbs a_t_many a_t_nums a_t_text t_typed t_at t_start t_token t_value t_items t_text)) rfl (As := [.long (t_text t_at.toNatClampNeg).toInt64, .long p1.toInt64, .long p2.toInt64]) (rest := []) rfl rfl ⟨rfl, rfl, Nat.le_of_ble_eq_true rfl, Nat.le_of_ble_eq_true rfl⟩ (Nat.le_of_ble_eq_true rfl) (Nat.zero_le _) (Nat.zero_le _) dX12_isAt_25 (fun H locs hW => ?_)
    refine lv_if_eq (tgt := 35) hx hb dX12_isAt_28 (by decide) (fun c3 => ?_) (fun c3 => ?_)
    · have hF := if_y c3 hF
      refine lv_iconst (v := (0 : Int32)) hx hb dX12_isAt_35 (by decide) ?_
      have hq := Option.some.inj hF
      subst hq
      exact hret _ _ _ _ _ rfl hW dX12_isAt_36
    · have hF := if_n c3 hF
      refine lv_iconst (v := (1 : Int32)) hx hb dX12_isAt_31 (by decide) ?_
      refine lv_goto (tgt := 36) hx hb dX12_isAt_32 (by decide) ?_
      have hq := Option.some.inj hF
      subst hq
      exact hret _ _ _ _ _ rfl hW dX12_isAt_36
abbrev wd_R_wordOf (E : m_E)   : va_W := []
def rm_R_wordOf : Room := { frames := 0, cells := 0, slots := 0, locals := 0 }
set_option maxHeartbeats 4000000 in
set_option maxRecDepth 100000 in
theorem c_R_wordOf (l : Launch) (E : m_E) (sz N : Nat)   (p1 : Int64) (ures : Int32) (hF : F_R_wordOf p1 = ures) : m_Met l yX12_wordOf cX12_wordOf 2 (some .int) rm_R_wordOf E (wd_R_wordOf E) (wd_R_wordOf E) sz [.long p1] (some (.int ures)) := by
  refine m_ofI (by decide) (Nat.le_of_ble_eq_true rfl) ?_
  intro p e s m args below meth c A Q ls X hW hA hl hret
  obtain ⟨hx, hb, -, hown, hts, hK, -, hG⟩ := id X
  have hl : lv_has ls 2 [(0, .long p1)] := hl
  unfold F_R_wordOf at hF
  refine lv_lload_n hx hb dX12_wordOf_0 rfl (lv_at hl 0 rfl) ?_
  refine lv_ldc2 (v := (546713650 : Int64)) hx hb hown (hts _ wk_1566) dX12_wordOf_1 ?_
  refine W.lcmp hx hb dX12_wordOf_4 ?_
  refine lv_if_ne (tgt := 13) hx hb dX12_wordOf_5 (by decide) (fun c1 => ?_) (fun c1 => ?_)
  · have hF := if_n c1 hF
    refine lv_lload_n hx hb dX12_wordOf_13 rfl (lv_at hl 0 rfl) ?_
    refine lv_ldc2 (v := (777050290 : Int64)) hx hb hown (hts _ wk_1567) dX12_wordOf_14 ?_
    refine W.lcmp hx hb dX12_wordOf_17 ?_
    refine lv_if_ne (tgt := 26) hx hb dX12_wordOf_18 (by decide) (fun c2 => ?_) (fun c2 => ?_)
    · have hF := if_n c2 hF
      refine lv_lload_n hx hb dX12_wordOf_26 rfl (lv_at hl 0 rfl) ?_
      refine lv_ldc2 (v := (660876 : Int64)) hx hb hown (hts _ wk_1568) dX12_wordOf_27 ?_
      refine W.lcmp hx hb dX12_wordOf_30 ?_
      refine lv_if_ne (tgt := 39) hx hb dX12_wordOf_31 (by decide) (fun c3 => ?_) (fun c3 => ?_)
      · have hF := if_n c3 hF
        refine lv_lload_n hx hb dX12_wordOf_39 rfl (lv_at hl 0 rfl) ?_
        refine lv_ldc2 (v := (409067 : Int64)) hx hb hown (hts _ wk_1569) dX12_wordOf_40 ?_
        refine W.lcmp hx hb dX12_wordOf_43 ?_
        refine lv_if_ne (tgt := 52) hx hb dX12_wordOf_44 (by decide) (fun c4 => ?_) (fun c4 => ?_)
        · have hF := if_n c4 hF
          refine lv_lload_n hx hb dX12_wordOf_52 rfl (lv_at hl 0 rfl) ?_
          refine lv_ldc2 (v := (6194 : Int64)) hx hb hown (hts _ wk_1570) dX12_wordOf_53 ?_
          refine W.lcmp hx hb dX12_wordOf_56 ?_
          refine lv_if_ne (tgt := 65) hx hb dX12_wordOf_57 (by decide) (fun c5 => ?_) (fun c5 => ?_)
          · have hF := if_n c5 hF
            refine lv_lload_n hx hb dX12_wordOf_65 rfl (lv_at hl 0 rfl) ?_
            refine lv_ldc2 (v := (769604 : Int64)) hx hb hown (hts _ wk_1571) dX12_wordOf_66 ?_
            refine W.lcmp hx hb dX12_wordOf_69 ?_
            refine lv_if_ne (tgt := 78) hx hb dX12_wordOf_70 (by decide) (fun c6 => ?_) (fun c6 => ?_)
            · have hF := if_n c6 hF
              refine lv_lload_n hx hb dX12_wordOf_78 rfl (lv_at hl 0 rfl) ?_
              refine lv_ldc2 (v := (402789 : Int64)) hx hb hown (hts _ wk_1572) dX12_wordOf_79 ?_
              refine W.lcmp hx hb dX12_wordOf_82 ?_
              refine lv_if_ne (tgt := 91) hx hb dX12_wordOf_83 (by decide) (fun c7 => ?_) (fun c7 => ?_)
              · have hF := if_n c7 hF
                refine lv_iconst (v := (1 : Int32)) hx hb dX12_wordOf_91 (by decide) ?_
                have hq := hF
                subst hq
                exact hret _ _ _ _ hW dX12_wordOf_92
              · have hF := if_y c7 hF
                refine lv_bipush (v := (16 : Int32)) hx hb dX12_wordOf_86 (by decide) ?_
                refine lv_goto (tgt := 92) hx hb dX12_wordOf_88 (by decide) ?_
                have hq := hF
                subst hq
                exact hret _ _ _ _ hW dX12_wordOf_92
            · have hF := if_y c6 hF
              refine lv_bipush (v := (15 : Int32)) hx hb dX12_wordOf_73 (by decide) ?_
              refine lv_goto (tgt := 92) hx hb dX12_wordOf_75 (by decide) ?_
              have hq := hF
              subst hq
              exact hret _ _ _ _ hW dX12_wordOf_92
          · have hF := if_y c5 hF
            refine lv_bipush (v := (14 : Int32)) hx hb dX12_wordOf_60 (by decide) ?_
            refine lv_goto (tgt := 92) hx hb dX12_wordOf_62 (by decide) ?_
            have hq := hF
            subst hq
            exact hret _ _ _ _ hW dX12_wordOf_92
        · have hF := if_y c4 hF
          refine lv_bipush (v := (13 : Int32)) hx hb dX12_wordOf_47 (by decide) ?_
          refine lv_goto (tgt := 92) hx hb dX12_wordOf_49 (by decide) ?_
          have hq := hF
          subst hq
          exact hret _ _ _ _ hW dX12_wordOf_92
      · have hF := if_y c3 hF
        refine lv_bipush (v := (12 : Int32)) hx hb dX12_wordOf_34 (by decide) ?_
        refine lv_goto (tgt := 92) hx hb dX12_wordOf_36 (by decide) ?_
        have hq := hF
        subst hq
        exact hret _ _ _ _ hW dX12_wordOf_92
    · have hF := if_y c2 hF
      refine lv_bipush (v := (11 : Int32)) hx hb dX12_wordOf_21 (by decide) ?_
      refine lv_goto (tgt := 92) hx hb dX12_wordOf_23 (by decide) ?_
      have hq := hF
      subst hq
      exact hret _ _ _ _ hW dX12_wordOf_92
  · have hF := if_y c1 hF
    refine lv_bipush (v := (10 : Int32)) hx hb dX12_wordOf_8 (by decide) ?_
    refine lv_goto (tgt := 92) hx hb dX12_wordOf_10 (by decide) ?_
    have hq := hF
    subst hq
    exact hret _ _ _ _ hW dX12_wordOf_92
abbrev wd_R_scans (E : m_E) (a_t : Nat) (a_t_book : Nat) (a_t_images : Nat) (a_t_kept : Nat) (a_t_aside : Nat) (a_t_limbs : Nat) (a_t_wide : Nat) (a_t_hears : Nat) (a_t_spies : Nat) (a_t_known : Nat) (a_t_by : Nat) (a_t_ways : Nat) (a_t_fewest : Nat) (a_t_heavy : Nat) (a_t_sums : Nat) (a_t_faces : Nat) (a_t_bestFaces : Nat) (a_t_verbs : Nat) (a_t_many : Nat) (a_t_nums : Nat) (a_t_text : Nat) (t_typed : Int32) (t_at : Int32) (t_start : Int32) (t_token : Int32) (t_value : Int32) (t_items : Int32) (t_text : Nat → Int32) : va_W := [(a_t, .inr (12, [.ref a_t_book, .ref a_t_images, .ref a_t_kept, .ref a_t_aside, .ref a_t_limbs, .ref a_t_wide, .ref a_t_hears, .ref a_t_spies, .ref a_t_known, .ref a_t_by, .ref a_t_ways, .ref a_t_fewest, .ref a_t_heavy, .ref a_t_sums, .ref a_t_faces, .ref a_t_bestFaces, .ref a_t_text, .int t_typed, .int t_at, .int t_start, .int t_token, .int t_value, .ref a_t_verbs, .ref a_t_many, .ref a_t_nums, .int t_items])), (a_t_text, .inl (E.2.1 0, 240, .inl t_text))]
def rm_R_scans : Room := { frames := 2, cells := 0, slots := 0, locals := 47 }
set_option maxHeartbeats 4000000 in
set_option maxRecDepth 100000 in
theorem c_R_scans (l : Launch) (E : m_E) (sz N : Nat) (a_t : Nat) (a_t_book : Nat) (a_t_images : Nat) (a_t_kept : Nat) (a_t_aside : Nat) (a_t_limbs : Nat) (a_t_wide : Nat) (a_t_hears : Nat) (a_t_spies : Nat) (a_t_known : Nat) (a_t_by : Nat) (a_t_ways : Nat) (a_t_fewest : Nat) (a_t_heavy : Nat) (a_t_sums : Nat) (a_t_faces : Nat) (a_t_bestFaces : Nat) (a_t_verbs : Nat) (a_t_many : Nat) (a_t_nums : Nat) (a_t_text : Nat) (t_typed : Int32) (t_at : Int32) (t_start : Int32) (t_token : Int32) (t_value : Int32) (t_items : Int32) (t_text : Nat → Int32)  (ures : Int32 × Int32 × Int32 × Int32) (hF : F_R_scans N t_typed t_at t_value t_text = some ures) : m_Met l yX12_scans cX12_scans 3 none rm_R_scans E (wd_R_scans E a_t a_t_book a_t_images a_t_kept a_t_aside a_t_limbs a_t_wide a_t_hears a_t_spies a_t_known a_t_by a_t_ways a_t_fewest a_t_heavy a_t_sums a_t_faces a_t_bestFaces a_t_verbs a_t_many a_t_nums a_t_text t_typed t_at t_start t_token t_value t_items t_text) (wd_R_scans E a_t a_t_book a_t_images a_t_kept a_t_aside a_t_limbs a_t_wide a_t_hears a_t_spies a_t_known a_t_by a_t_ways a_t_fewest a_t_heavy a_t_sums a_t_faces a_t_bestFaces a_t_verbs a_t_many a_t_nums a_t_text t_typed ures.1 ures.2.1 ures.2.2.1 ures.2.2.2 t_items t_text) sz [.ref a_t] none := by
  refine m_ofV (by decide) (Nat.le_of_ble_eq_true rfl) ?_
  intro p e s m args below meth c A Q ls X hW hA hl hret
  obtain ⟨hx, hb, -, hown, hts, hK, -, hG⟩ := id X
  have hl : lv_has ls 3 [(0, .ref a_t)] := hl
  unfold F_R_scans at hF
  obtain ⟨t_at'_8, hX2, hF⟩ := bO_s1 hF
  have L1 : ∀ (k0 : Nat) (t_at'_7 : Int32) (t_at'_8 : Int32) (H : Heap) (locs : List Loc) (ls : Array Slot), R_scans_L0 t_typed t_text k0 t_at'_7 = some t_at'_8 → m_H E A (wd_R_scans E a_t a_t_book a_t_images a_t_kept a_t_aside a_t_limbs a_t_wide a_t_hears a_t_spies a_t_known a_t_by a_t_ways a_t_fewest a_t_heavy a_t_sums a_t_faces a_t_bestFaces a_t_verbs a_t_many a_t_nums a_t_text t_typed t_at'_7 t_start t_token t_value t_items t_text) s.heap H locs → lv_has ls 3 [(0, .ref a_t)] → (∀ (H : Heap) (locs : List Loc) (ls : Array Slot), m_H E A (wd_R_scans E a_t a_t_book a_t_images a_t_kept a_t_aside a_t_limbs a_t_wide a_t_hears a_t_spies a_t_known a_t_by a_t_ways a_t_fewest a_t_heavy a_t_sums a_t_faces a_t_bestFaces a_t_verbs a_t_many a_t_nums a_t_text t_typed t_at'_8 t_start t_token t_value t_items t_text) s.heap H locs → lv_has ls 3 [(0, .ref a_t)] → W p l e rm_R_scans s m args below meth c H locs 0 0 Q (F0 m 24 ls [])) → W p l e rm_R_scans s m args below meth c H locs 0 0 Q (F0 m 0 ls []) := by
    clear hF
    intro k0
    induction k0 with
    | zero =>
      intro t_at'_7 t_at'_8 H locs ls hF
      cases hF
    | succ k0 ih4 =>
      intro t_at'_7 t_at'_8 H locs ls hF hW hl hk3
      rw [R_scans_L0] at hF
      refine lv_aload_n hx hb dX12_scans_0 rfl (lv_at hl 0 rfl) ?_
      refine lv_bipush (v := (32 : Int32)) hx hb dX12_scans_1 (by decide) ?_
      refine lv_bipush (v := (32 : Int32)) hx hb dX12_scans_3 (by decide) ?_
      obtain ⟨r5, hC5, hF⟩ := bO_s1 hF
      refine m_callV X hW hA hl.1 lkX12_294 (c_R_isAt l E _ N a_t a_t_book a_t_images a_t_kept a_t_aside a_t_limbs a_t_wide a_t_hears a_t_spies a_t_known a_t_by a_t_ways a_t_fewest a_t_heavy a_t_sums a_t_faces a_t_bestFaces a_t_verbs a_t_many a_t_nums a_t_text t_typed t_at'_7 t_start t_token t_value t_items t_text (32 : Int32) (32 : Int32) r5 hC5) ([0, 1]) (by decide) rfl rfl (ws' := (wd_R_scans E a_t a_t_book a_t_images a_t_kept a_t_aside a_t_limbs a_t_wide a_t_hears a_t_spies a_t_known a_t_by a_t_ways a_t_fewest a_t_heavy a_t_sums a_t_faces a_t_bestFaces a_t_verbs a_t_many a_t_nums a_t_text t_typed t_at'_7 t_start t_token t_value t_items t_text)) rfl 0 rfl rfl rfl (As := [.int (32 : Int32), .int (32 : Int32)]) (rest := []) rfl rfl ⟨rfl, rfl, Nat.le_of_ble_eq_true rfl, Nat.le_of_ble_eq_true rfl⟩ (Nat.le_of_ble_eq_true rfl) (Nat.zero_le _) (Nat.zero_le _) dX12_scans_5 (fun H locs hW => ?_)
      clear hC5
      refine lv_if_eq (tgt := 24) hx hb dX12_scans_8 (by decide) (fun c6 => ?_) (fun c6 => ?_)
      · have hF := if_y c6 hF
        cases hF
        exact hk3 _ _ _ hW (lv_sub hl [0] rfl)
      · have hF := if_n c6 hF
        refine lv_aload_n hx hb dX12_scans_11 rfl (lv_at hl 0 rfl) ?_
        refine lv_dup hx hb dX12_scans_12 rfl ?_
        refine m_get X hW fdX12_277 0 rfl rfl dX12_scans_13 ?_
        refine lv_iconst (v := (1 : Int32)) hx hb dX12_scans_16 (by decide) ?_
        refine lv_iadd hx hb dX12_scans_17 ?_
        refine m_putf X hW fdX12_277 0 rfl (Nat.le_of_ble_eq_true rfl) rfl rfl dX12_scans_18 (ws' := (wd_R_scans E a_t a_t_book a_t_images a_t_kept a_t_aside a_t_limbs a_t_wide a_t_hears a_t_spies a_t_known a_t_by a_t_ways a_t_fewest a_t_heavy a_t_sums a_t_faces a_t_bestFaces a_t_verbs a_t_many a_t_nums a_t_text t_typed (t_at'_7 + (1 : Int32)) t_start t_token t_value t_items t_text)) rfl (fun H locs hW => ?_)
        refine lv_goto (tgt := 0) hx hb dX12_scans_21 (by decide) ?_
        exact ih4 (t_at'_7 + (1 : Int32)) t_at'_8 _ _ _ hF hW (lv_sub hl [0] rfl) hk3
  refine L1 N t_at t_at'_8 _ _ _ hX2 hW (lv_sub hl [0] rfl) ?_
  intro H locs ls hW hl
  clear L1
  refine lv_aload_n hx hb dX12_scans_24 rfl (lv_at hl 0 rfl) ?_
  refine lv_aload_n hx hb dX12_scans_25 rfl (lv_at hl 0 rfl) ?_
  refine m_get X hW fdX12_277 0 rfl rfl dX12_scans_26 ?_
  refine m_putf X hW fdX12_297 0 rfl (Nat.le_of_ble_eq_true rfl) rfl rfl dX12_scans_29 (ws' := (wd_R_scans E a_t a_t_book a_t_images a_t_kept a_t_aside a_t_limbs a_t_wide a_t_hears a_t_spies a_t_known a_t_by a_t_ways a_t_fewest a_t_heavy a_t_sums a_t_faces a_t_bestFaces a_t_verbs a_t_many a_t_nums a_t_text t_typed t_at'_8 t_at'_8 t_token t_value t_items t_text)) rfl (fun H locs hW => ?_)
  refine lv_aload_n hx hb dX12_scans_32 rfl (lv_at hl 0 rfl) ?_
  refine m_get X hW fdX12_277 0 rfl rfl dX12_scans_33 ?_
  refine lv_aload_n hx hb dX12_scans_36 rfl (lv_at hl 0 rfl) ?_
  refine m_get X hW fdX12_271 0 rfl rfl dX12_scans_37 ?_
  refine lv_icmp_ne (tgt := 49) hx hb dX12_scans_40 (by decide) (fun c7 => ?_) (fun c7 => ?_)
  · have hF := if_n c7 hF
    refine lv_aload_n hx hb dX12_scans_49 rfl (lv_at hl 0 rfl) ?_
    refine lv_bipush (v := (97 : Int32)) hx hb dX12_scans_50 (by decide) ?_
    refine lv_bipush (v := (122 : Int32)) hx hb dX12_scans_52 (by decide) ?_
    obtain ⟨r54, hC8, hF⟩ := bO_s1 hF
    refine m_callV X hW hA hl.1 lkX12_294 (c_R_isAt l E _ N a_t a_t_book a_t_images a_t_kept a_t_aside a_t_limbs a_t_wide a_t_hears a_t_spies a_t_known a_t_by a_t_ways a_t_fewest a_t_heavy a_t_sums a_t_faces a_t_bestFaces a_t_verbs a_t_many a_t_nums a_t_text t_typed t_at'_8 t_at'_8 t_token t_value t_items t_text (97 : Int32) (122 : Int32) r54 hC8) ([0, 1]) (by decide) rfl rfl (ws' := (wd_R_scans E a_t a_t_book a_t_images a_t_kept a_t_aside a_t_limbs a_t_wide a_t_hears a_t_spies a_t_known a_t_by a_t_ways a_t_fewest a_t_heavy a_t_sums a_t_faces a_t_bestFaces a_t_verbs a_t_many a_t_nums a_t_text t_typed t_at'_8 t_at'_8 t_token t_value t_items t_text)) rfl 0 rfl rfl rfl (As := [.int (97 : Int32), .int (122 : Int32)]) (rest := []) rfl rfl ⟨rfl, rfl, Nat.le_of_ble_eq_true rfl, Nat.le_of_ble_eq_true rfl⟩ (Nat.le_of_ble_eq_true rfl) (Nat.zero_le _) (Nat.zero_le _) dX12_scans_54 (fun H locs hW => ?_)
    clear hC8
    refine lv_if_eq (tgt := 154) hx hb dX12_scans_57 (by decide) (fun c9 => ?_) (fun c9 => ?_)
    · have hF := if_y c9 hF
      refine lv_aload_n hx hb dX12_scans_154 rfl (lv_at hl 0 rfl) ?_
      refine lv_bipush (v := (48 : Int32)) hx hb dX12_scans_155 (by decide) ?_
      refine lv_bipush (v := (57 : Int32)) hx hb dX12_scans_157 (by decide) ?_
      obtain ⟨r159, hC10, hF⟩ := bO_s1 hF
      refine m_callV X hW hA hl.1 lkX12_294 (c_R_isAt l E _ N a_t a_t_book a_t_images a_t_kept a_t_aside a_t_limbs a_t_wide a_t_hears a_t_spies a_t_known a_t_by a_t_ways a_t_fewest a_t_heavy a_t_sums a_t_faces a_t_bestFaces a_t_verbs a_t_many a_t_nums a_t_text t_typed t_at'_8 t_at'_8 t_token t_value t_items t_text (48 : Int32) (57 : Int32) r159 hC10) ([0, 1]) (by decide) rfl rfl (ws' := (wd_R_scans E a_t a_t_book a_t_images a_t_kept a_t_aside a_t_limbs a_t_wide a_t_hears a_t_spies a_t_known a_t_by a_t_ways a_t_fewest a_t_heavy a_t_sums a_t_faces a_t_bestFaces a_t_verbs a_t_many a_t_nums a_t_text t_typed t_at'_8 t_at'_8 t_token t_value t_items t_text)) rfl 0 rfl rfl rfl (As := [.int (48 : Int32), .int (57 : Int32)]) (rest := []) rfl rfl ⟨rfl, rfl, Nat.le_of_ble_eq_true rfl, Nat.le_of_ble_eq_true rfl⟩ (Nat.le_of_ble_eq_true rfl) (Nat.zero_le _) (Nat.zero_le _) dX12_scans_159 (fun H locs hW => ?_)
      clear hC10
      refine lv_if_eq (tgt := 261) hx hb dX12_scans_162 (by decide) (fun c11 => ?_) (fun c11 => ?_)
      · have hF := if_y c11 hF
        refine lv_aload_n hx hb dX12_scans_261 rfl (lv_at hl 0 rfl) ?_
        refine lv_aload_n hx hb dX12_scans_262 rfl (lv_at hl 0 rfl) ?_
        refine lv_bipush (v := (59 : Int32)) hx hb dX12_scans_263 (by decide) ?_
        refine lv_bipush (v := (59 : Int32)) hx hb dX12_scans_265 (by decide) ?_
        obtain ⟨r267, hC12, hF⟩ := bO_s1 hF
        refine m_callV X hW hA hl.1 lkX12_294 (c_R_isAt l E _ N a_t a_t_book a_t_images a_t_kept a_t_aside a_t_limbs a_t_wide a_t_hears a_t_spies a_t_known a_t_by a_t_ways a_t_fewest a_t_heavy a_t_sums a_t_faces a_t_bestFaces a_t_verbs a_t_many a_t_nums a_t_text t_typed t_at'_8 t_at'_8 t_token t_value t_items t_text (59 : Int32) (59 : Int32) r267 hC12) ([0, 1]) (by decide) rfl rfl (ws' := (wd_R_scans E a_t a_t_book a_t_images a_t_kept a_t_aside a_t_limbs a_t_wide a_t_hears a_t_spies a_t_known a_t_by a_t_ways a_t_fewest a_t_heavy a_t_sums a_t_faces a_t_bestFaces a_t_verbs a_t_many a_t_nums a_t_text t_typed t_at'_8 t_at'_8 t_token t_value t_items t_text)) rfl 0 rfl rfl rfl (As := [.int (59 : Int32), .int (59 : Int32)]) (rest := [.ref a_t]) rfl rfl ⟨rfl, rfl, Nat.le_of_ble_eq_true rfl, Nat.le_of_ble_eq_true rfl⟩ (Nat.le_of_ble_eq_true rfl) (Nat.zero_le _) (Nat.zero_le _) dX12_scans_267 (fun H locs hW => ?_)
        clear hC12
        refine lv_if_eq (tgt := 277) hx hb dX12_scans_270 (by decide) (fun c13 => ?_) (fun c13 => ?_)
        · have hF := if_y c13 hF
          refine lv_iconst (v := (1 : Int32)) hx hb dX12_scans_277 (by decide) ?_
          refine m_putf X hW fdX12_300 0 rfl (Nat.le_of_ble_eq_true rfl) rfl rfl dX12_scans_278 (ws' := (wd_R_scans E a_t a_t_book a_t_images a_t_kept a_t_aside a_t_limbs a_t_wide a_t_hears a_t_spies a_t_known a_t_by a_t_ways a_t_fewest a_t_heavy a_t_sums a_t_faces a_t_bestFaces a_t_verbs a_t_many a_t_nums a_t_text t_typed t_at'_8 t_at'_8 (1 : Int32) t_value t_items t_text)) rfl (fun H locs hW => ?_)
          refine lv_aload_n hx hb dX12_scans_281 rfl (lv_at hl 0 rfl) ?_
          refine lv_dup hx hb dX12_scans_282 rfl ?_
          refine m_get X hW fdX12_277 0 rfl rfl dX12_scans_283 ?_
          refine lv_iconst (v := (1 : Int32)) hx hb dX12_scans_286 (by decide) ?_
          refine lv_iadd hx hb dX12_scans_287 ?_
          refine m_putf X hW fdX12_277 0 rfl (Nat.le_of_ble_eq_true rfl) rfl rfl dX12_scans_288 (ws' := (wd_R_scans E a_t a_t_book a_t_images a_t_kept a_t_aside a_t_limbs a_t_wide a_t_hears a_t_spies a_t_known a_t_by a_t_ways a_t_fewest a_t_heavy a_t_sums a_t_faces a_t_bestFaces a_t_verbs a_t_many a_t_nums a_t_text t_typed (t_at'_8 + (1 : Int32)) t_at'_8 (1 : Int32) t_value t_items t_text)) rfl (fun H locs hW => ?_)
          have hq := Option.some.inj hF
          subst hq
          exact hret _ _ _ _ hW dX12_scans_291
        · have hF := if_n c13 hF
          refine lv_iconst (v := (3 : Int32)) hx hb dX12_scans_273 (by decide) ?_
          refine lv_goto (tgt := 278) hx hb dX12_scans_274 (by decide) ?_
          refine m_putf X hW fdX12_300 0 rfl (Nat.le_of_ble_eq_true rfl) rfl rfl dX12_scans_278 (ws' := (wd_R_scans E a_t a_t_book a_t_images a_t_kept a_t_aside a_t_limbs a_t_wide a_t_hears a_t_spies a_t_known a_t_by a_t_ways a_t_fewest a_t_heavy a_t_sums a_t_faces a_t_bestFaces a_t_verbs a_t_many a_t_nums a_t_text t_typed t_at'_8 t_at'_8 (3 : Int32) t_value t_items t_text)) rfl (fun H locs hW => ?_)
          refine lv_aload_n hx hb dX12_scans_281 rfl (lv_at hl 0 rfl) ?_
          refine lv_dup hx hb dX12_scans_282 rfl ?_
          refine m_get X hW fdX12_277 0 rfl rfl dX12_scans_283 ?_
          refine lv_iconst (v := (1 : Int32)) hx hb dX12_scans_286 (by decide) ?_
          refine lv_iadd hx hb dX12_scans_287 ?_
          refine m_putf X hW fdX12_277 0 rfl (Nat.le_of_ble_eq_true rfl) rfl rfl dX12_scans_288 (ws' := (wd_R_scans E a_t a_t_book a_t_images a_t_kept a_t_aside a_t_limbs a_t_wide a_t_hears a_t_spies a_t_known a_t_by a_t_ways a_t_fewest a_t_heavy a_t_sums a_t_faces a_t_bestFaces a_t_verbs a_t_many a_t_nums a_t_text t_typed (t_at'_8 + (1 : Int32)) t_at'_8 (3 : Int32) t_value t_items t_text)) rfl (fun H locs hW => ?_)
          have hq := Option.some.inj hF
          subst hq
          exact hret _ _ _ _ hW dX12_scans_291
      · have hF := if_n c11 hF
        refine lv_aload_n hx hb dX12_scans_165 rfl (lv_at hl 0 rfl) ?_
        refine lv_iconst (v := (0 : Int32)) hx hb dX12_scans_166 (by decide) ?_
        refine m_putf X hW fdX12_311 0 rfl (Nat.le_of_ble_eq_true rfl) rfl rfl dX12_scans_167 (ws' := (wd_R_scans E a_t a_t_book a_t_images a_t_kept a_t_aside a_t_limbs a_t_wide a_t_hears a_t_spies a_t_known a_t_by a_t_ways a_t_fewest a_t_heavy a_t_sums a_t_faces a_t_bestFaces a_t_verbs a_t_many a_t_nums a_t_text t_typed t_at'_8 t_at'_8 t_token (0 : Int32) t_items t_text)) rfl (fun H locs hW => ?_)
        obtain ⟨t_at'_10, t_value'_4, hX15, hF⟩ := bO_s2 hF
        have L14 : ∀ (k0 : Nat) (t_at'_9 : Int32) (t_value'_3 : Int32) (t_at'_10 : Int32) (t_value'_4 : Int32) (H : Heap) (locs : List Loc) (ls : Array Slot), R_scans_L170 t_typed t_text t_at'_8 k0 t_at'_9 t_value'_3 = some (t_at'_10, t_value'_4) → m_H E A (wd_R_scans E a_t a_t_book a_t_images a_t_kept a_t_aside a_t_limbs a_t_wide a_t_hears a_t_spies a_t_known a_t_by a_t_ways a_t_fewest a_t_heavy a_t_sums a_t_faces a_t_bestFaces a_t_verbs a_t_many a_t_nums a_t_text t_typed t_at'_9 t_at'_8 t_token t_value'_3 t_items t_text) s.heap H locs → lv_has ls 3 [(0, .ref a_t)] → (∀ (H : Heap) (locs : List Loc) (ls : Array Slot), m_H E A (wd_R_scans E a_t a_t_book a_t_images a_t_kept a_t_aside a_t_limbs a_t_wide a_t_hears a_t_spies a_t_known a_t_by a_t_ways a_t_fewest a_t_heavy a_t_sums a_t_faces a_t_bestFaces a_t_verbs a_t_many a_t_nums a_t_text t_typed t_at'_10 t_at'_8 t_token t_value'_4 t_items t_text) s.heap H locs → lv_has ls 3 [(0, .ref a_t)] → W p l e rm_R_scans s m args below meth c H locs 0 0 Q (F0 m 238 ls [])) → W p l e rm_R_scans s m args below meth c H locs 0 0 Q (F0 m 170 ls []) := by
          clear hF
          intro k0
          induction k0 with
          | zero =>
            intro t_at'_9 t_value'_3 t_at'_10 t_value'_4 H locs ls hF
            cases hF
          | succ k0 ih17 =>
            intro t_at'_9 t_value'_3 t_at'_10 t_value'_4 H locs ls hF hW hl hk16
            rw [R_scans_L170] at hF
            refine lv_aload_n hx hb dX12_scans_170 rfl (lv_at hl 0 rfl) ?_
            refine lv_bipush (v := (48 : Int32)) hx hb dX12_scans_171 (by decide) ?_
            refine lv_bipush (v := (57 : Int32)) hx hb dX12_scans_173 (by decide) ?_
            obtain ⟨r175, hC18, hF⟩ := bO_s1 hF
            refine m_callV X hW hA hl.1 lkX12_294 (c_R_isAt l E _ N a_t a_t_book a_t_images a_t_kept a_t_aside a_t_limbs a_t_wide a_t_hears a_t_spies a_t_known a_t_by a_t_ways a_t_fewest a_t_heavy a_t_sums a_t_faces a_t_bestFaces a_t_verbs a_t_many a_t_nums a_t_text t_typed t_at'_9 t_at'_8 t_token t_value'_3 t_items t_text (48 : Int32) (57 : Int32) r175 hC18) ([0, 1]) (by decide) rfl rfl (ws' := (wd_R_scans E a_t a_t_book a_t_images a_t_kept a_t_aside a_t_limbs a_t_wide a_t_hears a_t_spies a_t_known a_t_by a_t_ways a_t_fewest a_t_heavy a_t_sums a_t_faces a_t_bestFaces a_t_verbs a_t_many a_t_nums a_t_text t_typed t_at'_9 t_at'_8 t_token t_value'_3 t_items t_text)) rfl 0 rfl rfl rfl (As := [.int (48 : Int32), .int (57 : Int32)]) (rest := []) rfl rfl ⟨rfl, rfl, Nat.le_of_ble_eq_true rfl, Nat.le_of_ble_eq_true rfl⟩ (Nat.le_of_ble_eq_true rfl) (Nat.zero_le _) (Nat.zero_le _) dX12_scans_175 (fun H locs hW => ?_)
            clear hC18
            refine lv_if_eq (tgt := 238) hx hb dX12_scans_178 (by decide) (fun c19 => ?_) (fun c19 => ?_)
            · have hF := if_y c19 hF
              cases hF
              exact hk16 _ _ _ hW (lv_sub hl [0] rfl)
            · have hF := if_n c19 hF
              refine lv_aload_n hx hb dX12_scans_181 rfl (lv_at hl 0 rfl) ?_
              refine lv_aload_n hx hb dX12_scans_182 rfl (lv_at hl 0 rfl) ?_
              refine m_get X hW fdX12_277 0 rfl rfl dX12_scans_183 ?_
              refine lv_aload_n hx hb dX12_scans_186 rfl (lv_at hl 0 rfl) ?_
              refine m_get X hW fdX12_297 0 rfl rfl dX12_scans_187 ?_
              refine lv_isub hx hb dX12_scans_190 ?_
              refine lv_iconst (v := (3 : Int32)) hx hb dX12_scans_191 (by decide) ?_
              refine lv_icmp_ge (tgt := 218) hx hb dX12_scans_192 (by decide) (fun c20 => ?_) (fun c20 => ?_)
              · have hF := if_y c20 hF
                refine lv_aload_n hx hb dX12_scans_218 rfl (lv_at hl 0 rfl) ?_
                refine m_get X hW fdX12_311 0 rfl rfl dX12_scans_219 ?_
                refine m_putf X hW fdX12_311 0 rfl (Nat.le_of_ble_eq_true rfl) rfl rfl dX12_scans_222 (ws' := (wd_R_scans E a_t a_t_book a_t_images a_t_kept a_t_aside a_t_limbs a_t_wide a_t_hears a_t_spies a_t_known a_t_by a_t_ways a_t_fewest a_t_heavy a_t_sums a_t_faces a_t_bestFaces a_t_verbs a_t_many a_t_nums a_t_text t_typed t_at'_9 t_at'_8 t_token t_value'_3 t_items t_text)) rfl (fun H locs hW => ?_)
                refine lv_aload_n hx hb dX12_scans_225 rfl (lv_at hl 0 rfl) ?_
                refine lv_dup hx hb dX12_scans_226 rfl ?_
                refine m_get X hW fdX12_277 0 rfl rfl dX12_scans_227 ?_
                refine lv_iconst (v := (1 : Int32)) hx hb dX12_scans_230 (by decide) ?_
                refine lv_iadd hx hb dX12_scans_231 ?_
                refine m_putf X hW fdX12_277 0 rfl (Nat.le_of_ble_eq_true rfl) rfl rfl dX12_scans_232 (ws' := (wd_R_scans E a_t a_t_book a_t_images a_t_kept a_t_aside a_t_limbs a_t_wide a_t_hears a_t_spies a_t_known a_t_by a_t_ways a_t_fewest a_t_heavy a_t_sums a_t_faces a_t_bestFaces a_t_verbs a_t_many a_t_nums a_t_text t_typed (t_at'_9 + (1 : Int32)) t_at'_8 t_token t_value'_3 t_items t_text)) rfl (fun H locs hW => ?_)
                refine lv_goto (tgt := 170) hx hb dX12_scans_235 (by decide) ?_
                exact ih17 (t_at'_9 + (1 : Int32)) t_value'_3 t_at'_10 t_value'_4 _ _ _ hF hW (lv_sub hl [0] rfl) hk16
              · have hF := if_n c20 hF
                refine lv_bipush (v := (10 : Int32)) hx hb dX12_scans_195 (by decide) ?_
                refine lv_aload_n hx hb dX12_scans_197 rfl (lv_at hl 0 rfl) ?_
                refine m_get X hW fdX12_311 0 rfl rfl dX12_scans_198 ?_
                refine lv_imul hx hb dX12_scans_201 ?_
                refine lv_aload_n hx hb dX12_scans_202 rfl (lv_at hl 0 rfl) ?_
                refine m_get X hW fdX12_59 0 rfl rfl dX12_scans_203 ?_
                refine lv_aload_n hx hb dX12_scans_206 rfl (lv_at hl 0 rfl) ?_
                refine m_get X hW fdX12_277 0 rfl rfl dX12_scans_207 ?_
                obtain ⟨g21, hF⟩ := gd_some hF
                refine m_iald X hW 1 (k := t_at'_9.toNatClampNeg) rfl g21 rfl dX12_scans_210 ?_
                refine lv_iadd hx hb dX12_scans_211 ?_
                refine lv_bipush (v := (48 : Int32)) hx hb dX12_scans_212 (by decide) ?_
                refine lv_isub hx hb dX12_scans_214 ?_
                refine lv_goto (tgt := 222) hx hb dX12_scans_215 (by decide) ?_
                refine m_putf X hW fdX12_311 0 rfl (Nat.le_of_ble_eq_true rfl) rfl rfl dX12_scans_222 (ws' := (wd_R_scans E a_t a_t_book a_t_images a_t_kept a_t_aside a_t_limbs a_t_wide a_t_hears a_t_spies a_t_known a_t_by a_t_ways a_t_fewest a_t_heavy a_t_sums a_t_faces a_t_bestFaces a_t_verbs a_t_many a_t_nums a_t_text t_typed t_at'_9 t_at'_8 t_token ((((10 : Int32) * t_value'_3) + (t_text t_at'_9.toNatClampNeg)) - (48 : Int32)) t_items t_text)) rfl (fun H locs hW => ?_)
                refine lv_aload_n hx hb dX12_scans_225 rfl (lv_at hl 0 rfl) ?_
                refine lv_dup hx hb dX12_scans_226 rfl ?_
                refine m_get X hW fdX12_277 0 rfl rfl dX12_scans_227 ?_
                refine lv_iconst (v := (1 : Int32)) hx hb dX12_scans_230 (by decide) ?_
                refine lv_iadd hx hb dX12_scans_231 ?_
                refine m_putf X hW fdX12_277 0 rfl (Nat.le_of_ble_eq_true rfl) rfl rfl dX12_scans_232 (ws' := (wd_R_scans E a_t a_t_book a_t_images a_t_kept a_t_aside a_t_limbs a_t_wide a_t_hears a_t_spies a_t_known a_t_by a_t_ways a_t_fewest a_t_heavy a_t_sums a_t_faces a_t_bestFaces a_t_verbs a_t_many a_t_nums a_t_text t_typed (t_at'_9 + (1 : Int32)) t_at'_8 t_token ((((10 : Int32) * t_value'_3) + (t_text t_at'_9.toNatClampNeg)) - (48 : Int32)) t_items t_text)) rfl (fun H locs hW => ?_)
                refine lv_goto (tgt := 170) hx hb dX12_scans_235 (by decide) ?_
                exact ih17 (t_at'_9 + (1 : Int32)) ((((10 : Int32) * t_value'_3) + (t_text t_at'_9.toNatClampNeg)) - (48 : Int32)) t_at'_10 t_value'_4 _ _ _ hF hW (lv_sub hl [0] rfl) hk16
        refine L14 N t_at'_8 (0 : Int32) t_at'_10 t_value'_4 _ _ _ hX15 hW (lv_sub hl [0] rfl) ?_
        intro H locs ls hW hl
        clear L14
        refine lv_aload_n hx hb dX12_scans_238 rfl (lv_at hl 0 rfl) ?_
        refine lv_aload_n hx hb dX12_scans_239 rfl (lv_at hl 0 rfl) ?_
        refine m_get X hW fdX12_277 0 rfl rfl dX12_scans_240 ?_
        refine lv_aload_n hx hb dX12_scans_243 rfl (lv_at hl 0 rfl) ?_
        refine m_get X hW fdX12_297 0 rfl rfl dX12_scans_244 ?_
        refine lv_isub hx hb dX12_scans_247 ?_
        refine lv_iconst (v := (3 : Int32)) hx hb dX12_scans_248 (by decide) ?_
        refine lv_icmp_le (tgt := 256) hx hb dX12_scans_249 (by decide) (fun c22 => ?_) (fun c22 => ?_)
        · have hF := if_y c22 hF
          refine lv_iconst (v := (2 : Int32)) hx hb dX12_scans_256 (by decide) ?_
          refine m_putf X hW fdX12_300 0 rfl (Nat.le_of_ble_eq_true rfl) rfl rfl dX12_scans_257 (ws' := (wd_R_scans E a_t a_t_book a_t_images a_t_kept a_t_aside a_t_limbs a_t_wide a_t_hears a_t_spies a_t_known a_t_by a_t_ways a_t_fewest a_t_heavy a_t_sums a_t_faces a_t_bestFaces a_t_verbs a_t_many a_t_nums a_t_text t_typed t_at'_10 t_at'_8 (2 : Int32) t_value'_4 t_items t_text)) rfl (fun H locs hW => ?_)
          have hq := Option.some.inj hF
          subst hq
          exact hret _ _ _ _ hW dX12_scans_260
        · have hF := if_n c22 hF
          refine lv_iconst (v := (1 : Int32)) hx hb dX12_scans_252 (by decide) ?_
          refine lv_goto (tgt := 257) hx hb dX12_scans_253 (by decide) ?_
          refine m_putf X hW fdX12_300 0 rfl (Nat.le_of_ble_eq_true rfl) rfl rfl dX12_scans_257 (ws' := (wd_R_scans E a_t a_t_book a_t_images a_t_kept a_t_aside a_t_limbs a_t_wide a_t_hears a_t_spies a_t_known a_t_by a_t_ways a_t_fewest a_t_heavy a_t_sums a_t_faces a_t_bestFaces a_t_verbs a_t_many a_t_nums a_t_text t_typed t_at'_10 t_at'_8 (1 : Int32) t_value'_4 t_items t_text)) rfl (fun H locs hW => ?_)
          have hq := Option.some.inj hF
          subst hq
          exact hret _ _ _ _ hW dX12_scans_260
    · have hF := if_n c9 hF
      refine lv_lconst (v := (0 : Int64)) hx hb dX12_scans_60 (by decide) ?_
      refine lv_lstore_n (lv' := [(1, .long (0 : Int64)), (0, .ref a_t)]) hx hb dX12_scans_61 rfl hl (by decide) rfl (fun ls hl => ?_)
      obtain ⟨x1_2, t_at'_12, hX24, hF⟩ := bO_s2 hF
      have L23 : ∀ (k0 : Nat) (x1 : Int64) (t_at'_11 : Int32) (x1_2 : Int64) (t_at'_12 : Int32) (H : Heap) (locs : List Loc) (ls : Array Slot), R_scans_L62 t_typed t_text t_at'_8 k0 x1 t_at'_11 = some (x1_2, t_at'_12) → m_H E A (wd_R_scans E a_t a_t_book a_t_images a_t_kept a_t_aside a_t_limbs a_t_wide a_t_hears a_t_spies a_t_known a_t_by a_t_ways a_t_fewest a_t_heavy a_t_sums a_t_faces a_t_bestFaces a_t_verbs a_t_many a_t_nums a_t_text t_typed t_at'_11 t_at'_8 t_token t_value t_items t_text) s.heap H locs → lv_has ls 3 [(1, .long x1), (0, .ref a_t)] → (∀ (H : Heap) (locs : List Loc) (ls : Array Slot), m_H E A (wd_R_scans E a_t a_t_book a_t_images a_t_kept a_t_aside a_t_limbs a_t_wide a_t_hears a_t_spies a_t_known a_t_by a_t_ways a_t_fewest a_t_heavy a_t_sums a_t_faces a_t_bestFaces a_t_verbs a_t_many a_t_nums a_t_text t_typed t_at'_12 t_at'_8 t_token t_value t_items t_text) s.heap H locs → lv_has ls 3 [(1, .long x1_2), (0, .ref a_t)] → W p l e rm_R_scans s m args below meth c H locs 0 0 Q (F0 m 127 ls [])) → W p l e rm_R_scans s m args below meth c H locs 0 0 Q (F0 m 62 ls []) := by
        clear hF
        intro k0
        induction k0 with
        | zero =>
          intro x1 t_at'_11 x1_2 t_at'_12 H locs ls hF
          cases hF
        | succ k0 ih26 =>
          intro x1 t_at'_11 x1_2 t_at'_12 H locs ls hF hW hl hk25
          rw [R_scans_L62] at hF
          refine lv_aload_n hx hb dX12_scans_62 rfl (lv_at hl 1 rfl) ?_
          refine lv_bipush (v := (97 : Int32)) hx hb dX12_scans_63 (by decide) ?_
          refine lv_bipush (v := (122 : Int32)) hx hb dX12_scans_65 (by decide) ?_
          obtain ⟨r67, hC27, hF⟩ := bO_s1 hF
          refine m_callV X hW hA hl.1 lkX12_294 (c_R_isAt l E _ N a_t a_t_book a_t_images a_t_kept a_t_aside a_t_limbs a_t_wide a_t_hears a_t_spies a_t_known a_t_by a_t_ways a_t_fewest a_t_heavy a_t_sums a_t_faces a_t_bestFaces a_t_verbs a_t_many a_t_nums a_t_text t_typed t_at'_11 t_at'_8 t_token t_value t_items t_text (97 : Int32) (122 : Int32) r67 hC27) ([0, 1]) (by decide) rfl rfl (ws' := (wd_R_scans E a_t a_t_book a_t_images a_t_kept a_t_aside a_t_limbs a_t_wide a_t_hears a_t_spies a_t_known a_t_by a_t_ways a_t_fewest a_t_heavy a_t_sums a_t_faces a_t_bestFaces a_t_verbs a_t_many a_t_nums a_t_text t_typed t_at'_11 t_at'_8 t_token t_value t_items t_text)) rfl 0 rfl rfl rfl (As := [.int (97 : Int32), .int (122 : Int32)]) (rest := []) rfl rfl ⟨rfl, rfl, Nat.le_of_ble_eq_true rfl, Nat.le_of_ble_eq_true rfl⟩ (Nat.le_of_ble_eq_true rfl) (Nat.zero_le _) (Nat.zero_le _) dX12_scans_67 (fun H locs hW => ?_)
          clear hC27
          refine lv_if_eq (tgt := 127) hx hb dX12_scans_70 (by decide) (fun c28 => ?_) (fun c28 => ?_)
          · have hF := if_y c28 hF
            cases hF
            exact hk25 _ _ _ hW (lv_sub hl [0, 1] rfl)
          · have hF := if_n c28 hF
            refine lv_aload_n hx hb dX12_scans_73 rfl (lv_at hl 1 rfl) ?_
            refine m_get X hW fdX12_277 0 rfl rfl dX12_scans_74 ?_
            refine lv_aload_n hx hb dX12_scans_77 rfl (lv_at hl 1 rfl) ?_
            refine m_get X hW fdX12_297 0 rfl rfl dX12_scans_78 ?_
            refine lv_isub hx hb dX12_scans_81 ?_
            refine lv_bipush (v := (6 : Int32)) hx hb dX12_scans_82 (by decide) ?_
            refine lv_icmp_le (tgt := 91) hx hb dX12_scans_84 (by decide) (fun c29 => ?_) (fun c29 => ?_)
            · have hF := if_y c29 hF
              refine lv_ldc2 (v := (32 : Int64)) hx hb hown (hts _ wk_1561) dX12_scans_91 ?_
              refine lv_lload_n hx hb dX12_scans_94 rfl (lv_at hl 0 rfl) ?_
              refine lv_lmul hx hb dX12_scans_95 ?_
              refine lv_aload_n hx hb dX12_scans_96 rfl (lv_at hl 1 rfl) ?_
              refine m_get X hW fdX12_59 0 rfl rfl dX12_scans_97 ?_
              refine lv_aload_n hx hb dX12_scans_100 rfl (lv_at hl 1 rfl) ?_
              refine m_get X hW fdX12_277 0 rfl rfl dX12_scans_101 ?_
              obtain ⟨g30, hF⟩ := gd_some hF
              refine m_iald X hW 1 (k := t_at'_11.toNatClampNeg) rfl g30 rfl dX12_scans_104 ?_
              refine lv_i2l (v := (t_text t_at'_11.toNatClampNeg).toInt64) hx hb dX12_scans_105 rfl ?_
              refine lv_ladd hx hb dX12_scans_106 ?_
              refine lv_ldc2 (v := (97 : Int64)) hx hb hown (hts _ wk_1562) dX12_scans_107 ?_
              refine lv_lsub hx hb dX12_scans_110 ?_
              refine lv_lconst (v := (1 : Int64)) hx hb dX12_scans_111 (by decide) ?_
              refine lv_ladd hx hb dX12_scans_112 ?_
              refine lv_lstore_n (lv' := [(1, .long (((((32 : Int64) * x1) + (t_text t_at'_11.toNatClampNeg).toInt64) - (97 : Int64)) + (1 : Int64))), (0, .ref a_t)]) hx hb dX12_scans_113 rfl hl (by decide) rfl (fun ls hl => ?_)
              refine lv_aload_n hx hb dX12_scans_114 rfl (lv_at hl 1 rfl) ?_
              refine lv_dup hx hb dX12_scans_115 rfl ?_
              refine m_get X hW fdX12_277 0 rfl rfl dX12_scans_116 ?_
              refine lv_iconst (v := (1 : Int32)) hx hb dX12_scans_119 (by decide) ?_
              refine lv_iadd hx hb dX12_scans_120 ?_
              refine m_putf X hW fdX12_277 0 rfl (Nat.le_of_ble_eq_true rfl) rfl rfl dX12_scans_121 (ws' := (wd_R_scans E a_t a_t_book a_t_images a_t_kept a_t_aside a_t_limbs a_t_wide a_t_hears a_t_spies a_t_known a_t_by a_t_ways a_t_fewest a_t_heavy a_t_sums a_t_faces a_t_bestFaces a_t_verbs a_t_many a_t_nums a_t_text t_typed (t_at'_11 + (1 : Int32)) t_at'_8 t_token t_value t_items t_text)) rfl (fun H locs hW => ?_)
              refine lv_goto (tgt := 62) hx hb dX12_scans_124 (by decide) ?_
              exact ih26 (((((32 : Int64) * x1) + (t_text t_at'_11.toNatClampNeg).toInt64) - (97 : Int64)) + (1 : Int64)) (t_at'_11 + (1 : Int32)) x1_2 t_at'_12 _ _ _ hF hW (lv_sub hl [0, 1] rfl) hk25
            · have hF := if_n c29 hF
              refine lv_lconst (v := (0 : Int64)) hx hb dX12_scans_87 (by decide) ?_
              refine lv_goto (tgt := 113) hx hb dX12_scans_88 (by decide) ?_
              refine lv_lstore_n (lv' := [(1, .long (0 : Int64)), (0, .ref a_t)]) hx hb dX12_scans_113 rfl hl (by decide) rfl (fun ls hl => ?_)
              refine lv_aload_n hx hb dX12_scans_114 rfl (lv_at hl 1 rfl) ?_
              refine lv_dup hx hb dX12_scans_115 rfl ?_
              refine m_get X hW fdX12_277 0 rfl rfl dX12_scans_116 ?_
              refine lv_iconst (v := (1 : Int32)) hx hb dX12_scans_119 (by decide) ?_
              refine lv_iadd hx hb dX12_scans_120 ?_
              refine m_putf X hW fdX12_277 0 rfl (Nat.le_of_ble_eq_true rfl) rfl rfl dX12_scans_121 (ws' := (wd_R_scans E a_t a_t_book a_t_images a_t_kept a_t_aside a_t_limbs a_t_wide a_t_hears a_t_spies a_t_known a_t_by a_t_ways a_t_fewest a_t_heavy a_t_sums a_t_faces a_t_bestFaces a_t_verbs a_t_many a_t_nums a_t_text t_typed (t_at'_11 + (1 : Int32)) t_at'_8 t_token t_value t_items t_text)) rfl (fun H locs hW => ?_)
              refine lv_goto (tgt := 62) hx hb dX12_scans_124 (by decide) ?_
              exact ih26 (0 : Int64) (t_at'_11 + (1 : Int32)) x1_2 t_at'_12 _ _ _ hF hW (lv_sub hl [0, 1] rfl) hk25
      refine L23 N (0 : Int64) t_at'_8 x1_2 t_at'_12 _ _ _ hX24 hW (lv_sub hl [0, 1] rfl) ?_
      intro H locs ls hW hl
      clear L23
      refine lv_aload_n hx hb dX12_scans_127 rfl (lv_at hl 1 rfl) ?_
      refine lv_aload_n hx hb dX12_scans_128 rfl (lv_at hl 1 rfl) ?_
      refine m_get X hW fdX12_277 0 rfl rfl dX12_scans_129 ?_
      refine lv_aload_n hx hb dX12_scans_132 rfl (lv_at hl 1 rfl) ?_
      refine m_get X hW fdX12_297 0 rfl rfl dX12_scans_133 ?_
      refine lv_isub hx hb dX12_scans_136 ?_
      refine lv_bipush (v := (6 : Int32)) hx hb dX12_scans_137 (by decide) ?_
      refine lv_icmp_le (tgt := 146) hx hb dX12_scans_139 (by decide) (fun c31 => ?_) (fun c31 => ?_)
      · have hF := if_y c31 hF
        refine lv_lload_n hx hb dX12_scans_146 rfl (lv_at hl 0 rfl) ?_
        refine m_callS X hW hA hl.1 lkX12_307 (c_R_wordOf l E _ N   x1_2 (F_R_wordOf x1_2) rfl) ([]) (by decide) rfl rfl (ws' := (wd_R_scans E a_t a_t_book a_t_images a_t_kept a_t_aside a_t_limbs a_t_wide a_t_hears a_t_spies a_t_known a_t_by a_t_ways a_t_fewest a_t_heavy a_t_sums a_t_faces a_t_bestFaces a_t_verbs a_t_many a_t_nums a_t_text t_typed t_at'_12 t_at'_8 t_token t_value t_items t_text)) rfl (As := [.long x1_2]) (rest := [.ref a_t]) rfl rfl ⟨rfl, rfl, Nat.le_of_ble_eq_true rfl, Nat.le_of_ble_eq_true rfl⟩ (Nat.le_of_ble_eq_true rfl) (Nat.zero_le _) (Nat.zero_le _) dX12_scans_147 (fun H locs hW => ?_)
        refine m_putf X hW fdX12_300 0 rfl (Nat.le_of_ble_eq_true rfl) rfl rfl dX12_scans_150 (ws' := (wd_R_scans E a_t a_t_book a_t_images a_t_kept a_t_aside a_t_limbs a_t_wide a_t_hears a_t_spies a_t_known a_t_by a_t_ways a_t_fewest a_t_heavy a_t_sums a_t_faces a_t_bestFaces a_t_verbs a_t_many a_t_nums a_t_text t_typed t_at'_12 t_at'_8 (F_R_wordOf x1_2) t_value t_items t_text)) rfl (fun H locs hW => ?_)
        have hq := Option.some.inj hF
        subst hq
        exact hret _ _ _ _ hW dX12_scans_153
      · have hF := if_n c31 hF
        refine lv_iconst (v := (1 : Int32)) hx hb dX12_scans_142 (by decide) ?_
        refine lv_goto (tgt := 150) hx hb dX12_scans_143 (by decide) ?_
        refine m_putf X hW fdX12_300 0 rfl (Nat.le_of_ble_eq_true rfl) rfl rfl dX12_scans_150 (ws' := (wd_R_scans E a_t a_t_book a_t_images a_t_kept a_t_aside a_t_limbs a_t_wide a_t_hears a_t_spies a_t_known a_t_by a_t_ways a_t_fewest a_t_heavy a_t_sums a_t_faces a_t_bestFaces a_t_verbs a_t_many a_t_nums a_t_text t_typed t_at'_12 t_at'_8 (1 : Int32) t_value t_items t_text)) rfl (fun H locs hW => ?_)
        have hq := Option.some.inj hF
        subst hq
        exact hret _ _ _ _ hW dX12_scans_153
  · have hF := if_y c7 hF
    refine lv_aload_n hx hb dX12_scans_43 rfl (lv_at hl 0 rfl) ?_
    refine lv_iconst (v := (0 : Int32)) hx hb dX12_scans_44 (by decide) ?_
    refine m_putf X hW fdX12_300 0 rfl (Nat.le_of_ble_eq_true rfl) rfl rfl dX12_scans_45 (ws' := (wd_R_scans E a_t a_t_book a_t_images a_t_kept a_t_aside a_t_limbs a_t_wide a_t_hears a_t_spies a_t_known a_t_by a_t_ways a_t_fewest a_t_heavy a_t_sums a_t_faces a_t_bestFaces a_t_verbs a_t_many a_t_nums a_t_text t_typed t_at'_8 t_at'_8 (0 : Int32) t_value t_items t_text)) rfl (fun H locs hW => ?_)
    have hq := Option.some.inj hF
    subst hq
    exact hret _ _ _ _ hW dX12_scans_48
