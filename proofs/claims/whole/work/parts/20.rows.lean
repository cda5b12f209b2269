abbrev wd_R_hush (E : m_E) (a_t : Nat) (a_t_images : Nat) (a_t_kept : Nat) (a_t_aside : Nat) (a_t_limbs : Nat) (a_t_wide : Nat) (a_t_hears : Nat) (a_t_spies : Nat) (a_t_known : Nat) (a_t_by : Nat) (a_t_ways : Nat) (a_t_fewest : Nat) (a_t_heavy : Nat) (a_t_sums : Nat) (a_t_faces : Nat) (a_t_bestFaces : Nat) (a_t_text : Nat) (a_t_verbs : Nat) (a_t_many : Nat) (a_t_nums : Nat) (a_t_book : Nat) (t_typed : Int32) (t_at : Int32) (t_start : Int32) (t_token : Int32) (t_value : Int32) (t_items : Int32) (t_book : Nat → Int32) : va_W := [(a_t, .inr (12, [.ref a_t_book, .ref a_t_images, .ref a_t_kept, .ref a_t_aside, .ref a_t_limbs, .ref a_t_wide, .ref a_t_hears, .ref a_t_spies, .ref a_t_known, .ref a_t_by, .ref a_t_ways, .ref a_t_fewest, .ref a_t_heavy, .ref a_t_sums, .ref a_t_faces, .ref a_t_bestFaces, .ref a_t_text, .int t_typed, .int t_at, .int t_start, .int t_token, .int t_value, .ref a_t_verbs, .ref a_t_many, .ref a_t_nums, .int t_items])), (a_t_book, .inl (E.2.1 0, 240, .inl t_book))]
def rm_R_hush : Room := { frames := 1, cells := 0, slots := 0, locals := 23 }
set_option maxHeartbeats 4000000 in
set_option maxRecDepth 100000 in
theorem c_R_hush (l : Launch) (E : m_E) (sz N : Nat) (a_t : Nat) (a_t_images : Nat) (a_t_kept : Nat) (a_t_aside : Nat) (a_t_limbs : Nat) (a_t_wide : Nat) (a_t_hears : Nat) (a_t_spies : Nat) (a_t_known : Nat) (a_t_by : Nat) (a_t_ways : Nat) (a_t_fewest : Nat) (a_t_heavy : Nat) (a_t_sums : Nat) (a_t_faces : Nat) (a_t_bestFaces : Nat) (a_t_text : Nat) (a_t_verbs : Nat) (a_t_many : Nat) (a_t_nums : Nat) (a_t_book : Nat) (t_typed : Int32) (t_at : Int32) (t_start : Int32) (t_token : Int32) (t_value : Int32) (t_items : Int32) (t_book : Nat → Int32)  (ures : Int32 × (Nat → Int32)) (hF : F_R_hush t_book = some ures) : m_Met l yX12_hush cX12_hush 1 (some .int) rm_R_hush E (wd_R_hush E a_t a_t_images a_t_kept a_t_aside a_t_limbs a_t_wide a_t_hears a_t_spies a_t_known a_t_by a_t_ways a_t_fewest a_t_heavy a_t_sums a_t_faces a_t_bestFaces a_t_text a_t_verbs a_t_many a_t_nums a_t_book t_typed t_at t_start t_token t_value t_items t_book) (wd_R_hush E a_t a_t_images a_t_kept a_t_aside a_t_limbs a_t_wide a_t_hears a_t_spies a_t_known a_t_by a_t_ways a_t_fewest a_t_heavy a_t_sums a_t_faces a_t_bestFaces a_t_text a_t_verbs a_t_many a_t_nums a_t_book t_typed t_at t_start t_token t_value t_items ures.2) sz [.ref a_t] (some (.int ures.1)) := by
  refine m_ofI (by decide) (Nat.le_of_ble_eq_true rfl) ?_
  intro p e s m args below meth c A Q ls X hW hA hl hret
  obtain ⟨hx, hb, -, hown, hts, hK, -, hG⟩ := id X
  have hl : lv_has ls 1 [(0, .ref a_t)] := hl
  unfold F_R_hush at hF
  refine lv_aload_n hx hb dX12_hush_0 rfl (lv_at hl 0 rfl) ?_
  refine lv_iconst (v := (4 : Int32)) hx hb dX12_hush_1 (by decide) ?_
  refine lv_iconst (v := (0 : Int32)) hx hb dX12_hush_2 (by decide) ?_
  obtain ⟨r3, t_book'_2, hC1, hF⟩ := bO_s2 hF
  refine m_callV X hW hA hl.1 lkX12_130 (c_R_puts l E _ N a_t a_t_images a_t_kept a_t_aside a_t_limbs a_t_wide a_t_hears a_t_spies a_t_known a_t_by a_t_ways a_t_fewest a_t_heavy a_t_sums a_t_faces a_t_bestFaces a_t_text a_t_verbs a_t_many a_t_nums a_t_book t_typed t_at t_start t_token t_value t_items t_book (4 : Int32) (0 : Int32) (r3, t_book'_2) hC1) ([0, 1]) (by decide) rfl rfl (ws' := (wd_R_hush E a_t a_t_images a_t_kept a_t_aside a_t_limbs a_t_wide a_t_hears a_t_spies a_t_known a_t_by a_t_ways a_t_fewest a_t_heavy a_t_sums a_t_faces a_t_bestFaces a_t_text a_t_verbs a_t_many a_t_nums a_t_book t_typed t_at t_start t_token t_value t_items t_book'_2)) rfl 0 rfl rfl rfl (As := [.int (4 : Int32), .int (0 : Int32)]) (rest := []) rfl rfl ⟨rfl, rfl, Nat.le_of_ble_eq_true rfl, Nat.le_of_ble_eq_true rfl⟩ (Nat.le_of_ble_eq_true rfl) (Nat.zero_le _) (Nat.zero_le _) dX12_hush_3 (fun H locs hW => ?_)
  clear hC1
  have hq := Option.some.inj hF
  subst hq
  exact hret _ _ _ _ hW dX12_hush_6
abbrev wd_R_isAtRow (E : m_E) (a_t : Nat) (a_t_images : Nat) (a_t_kept : Nat) (a_t_aside : Nat) (a_t_limbs : Nat) (a_t_wide : Nat) (a_t_hears : Nat) (a_t_spies : Nat) (a_t_known : Nat) (a_t_by : Nat) (a_t_ways : Nat) (a_t_fewest : Nat) (a_t_heavy : Nat) (a_t_sums : Nat) (a_t_faces : Nat) (a_t_bestFaces : Nat) (a_t_text : Nat) (a_t_verbs : Nat) (a_t_many : Nat) (a_t_nums : Nat) (a_t_book : Nat) (t_typed : Int32) (t_at : Int32) (t_start : Int32) (t_token : Int32) (t_value : Int32) (t_items : Int32) (t_book : Nat → Int32) : va_W := [(a_t, .inr (12, [.ref a_t_book, .ref a_t_images, .ref a_t_kept, .ref a_t_aside, .ref a_t_limbs, .ref a_t_wide, .ref a_t_hears, .ref a_t_spies, .ref a_t_known, .ref a_t_by, .ref a_t_ways, .ref a_t_fewest, .ref a_t_heavy, .ref a_t_sums, .ref a_t_faces, .ref a_t_bestFaces, .ref a_t_text, .int t_typed, .int t_at, .int t_start, .int t_token, .int t_value, .ref a_t_verbs, .ref a_t_many, .ref a_t_nums, .int t_items])), (a_t_book, .inl (E.2.1 0, 240, .inl t_book))]
def rm_R_isAtRow : Room := { frames := 2, cells := 0, slots := 0, locals := 44 }
set_option maxHeartbeats 4000000 in
set_option maxRecDepth 100000 in
theorem c_R_isAtRow (l : Launch) (E : m_E) (sz N : Nat) (a_t : Nat) (a_t_images : Nat) (a_t_kept : Nat) (a_t_aside : Nat) (a_t_limbs : Nat) (a_t_wide : Nat) (a_t_hears : Nat) (a_t_spies : Nat) (a_t_known : Nat) (a_t_by : Nat) (a_t_ways : Nat) (a_t_fewest : Nat) (a_t_heavy : Nat) (a_t_sums : Nat) (a_t_faces : Nat) (a_t_bestFaces : Nat) (a_t_text : Nat) (a_t_verbs : Nat) (a_t_many : Nat) (a_t_nums : Nat) (a_t_book : Nat) (t_typed : Int32) (t_at : Int32) (t_start : Int32) (t_token : Int32) (t_value : Int32) (t_items : Int32) (t_book : Nat → Int32) (p1 : Int32) (p2 : Int32) (ures : Int32) (hF : F_R_isAtRow N p1 p2 t_book = some ures) : m_Met l yX12_isAtRow cX12_isAtRow 5 (some .boolean) rm_R_isAtRow E (wd_R_isAtRow E a_t a_t_images a_t_kept a_t_aside a_t_limbs a_t_wide a_t_hears a_t_spies a_t_known a_t_by a_t_ways a_t_fewest a_t_heavy a_t_sums a_t_faces a_t_bestFaces a_t_text a_t_verbs a_t_many a_t_nums a_t_book t_typed t_at t_start t_token t_value t_items t_book) (wd_R_isAtRow E a_t a_t_images a_t_kept a_t_aside a_t_limbs a_t_wide a_t_hears a_t_spies a_t_known a_t_by a_t_ways a_t_fewest a_t_heavy a_t_sums a_t_faces a_t_bestFaces a_t_text a_t_verbs a_t_many a_t_nums a_t_book t_typed t_at t_start t_token t_value t_items t_book) sz [.ref a_t, .int p1, .int p2] (some (.int ures)) := by
  refine m_ofZ (by decide) (Nat.le_of_ble_eq_true rfl) ?_
  intro p e s m args below meth c A Q ls X hW hA hl hret
  obtain ⟨hx, hb, -, hown, hts, hK, -, hG⟩ := id X
  have hl : lv_has ls 5 [(0, .ref a_t), (1, .int p1), (2, .int p2)] := hl
  unfold F_R_isAtRow at hF
  refine lv_iload_n hx hb dX12_isAtRow_0 rfl (lv_at hl 2 rfl) ?_
  refine lv_aload_n hx hb dX12_isAtRow_1 rfl (lv_at hl 0 rfl) ?_
  refine lv_iload_n hx hb dX12_isAtRow_2 rfl (lv_at hl 1 rfl) ?_
  obtain ⟨r3, hC1, hF⟩ := bO_s1 hF
  refine m_callV X hW hA hl.1 lkX12_196 (c_R_lengthOf l E _ N a_t a_t_images a_t_kept a_t_aside a_t_limbs a_t_wide a_t_hears a_t_spies a_t_known a_t_by a_t_ways a_t_fewest a_t_heavy a_t_sums a_t_faces a_t_bestFaces a_t_text a_t_verbs a_t_many a_t_nums a_t_book t_typed t_at t_start t_token t_value t_items t_book p1 r3 hC1) ([0, 1]) (by decide) rfl rfl (ws' := (wd_R_isAtRow E a_t a_t_images a_t_kept a_t_aside a_t_limbs a_t_wide a_t_hears a_t_spies a_t_known a_t_by a_t_ways a_t_fewest a_t_heavy a_t_sums a_t_faces a_t_bestFaces a_t_text a_t_verbs a_t_many a_t_nums a_t_book t_typed t_at t_start t_token t_value t_items t_book)) rfl 0 rfl rfl rfl (As := [.int p1]) (rest := [.int p2]) rfl rfl ⟨rfl, rfl, Nat.le_of_ble_eq_true rfl, Nat.le_of_ble_eq_true rfl⟩ (Nat.le_of_ble_eq_true rfl) (Nat.zero_le _) (Nat.zero_le _) dX12_isAtRow_3 (fun H locs hW => ?_)
  clear hC1
  refine lv_iadd hx hb dX12_isAtRow_6 ?_
  refine lv_aload_n hx hb dX12_isAtRow_7 rfl (lv_at hl 0 rfl) ?_
  refine m_get X hW fdX12_7 0 rfl rfl dX12_isAtRow_8 ?_
  refine lv_iconst (v := (4 : Int32)) hx hb dX12_isAtRow_11 (by decide) ?_
  refine m_iald X hW 1 (k := 4) rfl (by decide) rfl dX12_isAtRow_12 ?_
  obtain ⟨y0, hX3, hF⟩ := bO_s1 hF
  have J2 : ∀ (H : Heap) (locs : List Loc) (ls : Array Slot), m_H E A (wd_R_isAtRow E a_t a_t_images a_t_kept a_t_aside a_t_limbs a_t_wide a_t_hears a_t_spies a_t_known a_t_by a_t_ways a_t_fewest a_t_heavy a_t_sums a_t_faces a_t_bestFaces a_t_text a_t_verbs a_t_many a_t_nums a_t_book t_typed t_at t_start t_token t_value t_items t_book) s.heap H locs → lv_has ls 5 [(0, .ref a_t), (1, .int p1), (2, .int p2)] → W p l e rm_R_isAtRow s m args below meth c H locs 0 0 Q (F0 m 21 ls [.int y0]) := by
    intro H locs ls hW hl
    refine lv_istore_n (lv' := [(3, .int y0), (0, .ref a_t), (1, .int p1), (2, .int p2)]) hx hb dX12_isAtRow_21 rfl hl (by decide) rfl (fun ls hl => ?_)
    refine lv_iconst (v := (0 : Int32)) hx hb dX12_isAtRow_22 (by decide) ?_
    refine lv_istore (lv' := [(4, .int (0 : Int32)), (3, .int y0), (0, .ref a_t), (1, .int p1), (2, .int p2)]) hx hb dX12_isAtRow_23 hl (by decide) rfl (fun ls hl => ?_)
    obtain ⟨x3_2, hX5, hF⟩ := bO_s1 hF
    have L4 : ∀ (k0 : Nat) (x3 : Int32) (x4 : Int32) (x3_2 : Int32) (H : Heap) (locs : List Loc) (ls : Array Slot), R_isAtRow_L25 N p1 t_book p2 k0 x3 x4 = some x3_2 → m_H E A (wd_R_isAtRow E a_t a_t_images a_t_kept a_t_aside a_t_limbs a_t_wide a_t_hears a_t_spies a_t_known a_t_by a_t_ways a_t_fewest a_t_heavy a_t_sums a_t_faces a_t_bestFaces a_t_text a_t_verbs a_t_many a_t_nums a_t_book t_typed t_at t_start t_token t_value t_items t_book) s.heap H locs → lv_has ls 5 [(4, .int x4), (3, .int x3), (0, .ref a_t), (1, .int p1), (2, .int p2)] → (∀ (H : Heap) (locs : List Loc) (ls : Array Slot), m_H E A (wd_R_isAtRow E a_t a_t_images a_t_kept a_t_aside a_t_limbs a_t_wide a_t_hears a_t_spies a_t_known a_t_by a_t_ways a_t_fewest a_t_heavy a_t_sums a_t_faces a_t_bestFaces a_t_text a_t_verbs a_t_many a_t_nums a_t_book t_typed t_at t_start t_token t_value t_items t_book) s.heap H locs → lv_has ls 5 [(3, .int x3_2)] → W p l e rm_R_isAtRow s m args below meth c H locs 0 0 Q (F0 m 83 ls [])) → W p l e rm_R_isAtRow s m args below meth c H locs 0 0 Q (F0 m 25 ls []) := by
      clear hF
      intro k0
      induction k0 with
      | zero =>
        intro x3 x4 x3_2 H locs ls hF
        cases hF
      | succ k0 ih7 =>
        intro x3 x4 x3_2 H locs ls hF hW hl hk6
        rw [R_isAtRow_L25] at hF
        refine lv_iload hx hb dX12_isAtRow_25 (lv_at hl 0 rfl) ?_
        refine lv_aload_n hx hb dX12_isAtRow_27 rfl (lv_at hl 2 rfl) ?_
        refine lv_iload_n hx hb dX12_isAtRow_28 rfl (lv_at hl 3 rfl) ?_
        obtain ⟨r29, hC8, hF⟩ := bO_s1 hF
        refine m_callV X hW hA hl.1 lkX12_196 (c_R_lengthOf l E _ N a_t a_t_images a_t_kept a_t_aside a_t_limbs a_t_wide a_t_hears a_t_spies a_t_known a_t_by a_t_ways a_t_fewest a_t_heavy a_t_sums a_t_faces a_t_bestFaces a_t_text a_t_verbs a_t_many a_t_nums a_t_book t_typed t_at t_start t_token t_value t_items t_book p1 r29 hC8) ([0, 1]) (by decide) rfl rfl (ws' := (wd_R_isAtRow E a_t a_t_images a_t_kept a_t_aside a_t_limbs a_t_wide a_t_hears a_t_spies a_t_known a_t_by a_t_ways a_t_fewest a_t_heavy a_t_sums a_t_faces a_t_bestFaces a_t_text a_t_verbs a_t_many a_t_nums a_t_book t_typed t_at t_start t_token t_value t_items t_book)) rfl 0 rfl rfl rfl (As := [.int p1]) (rest := [.int x4]) rfl rfl ⟨rfl, rfl, Nat.le_of_ble_eq_true rfl, Nat.le_of_ble_eq_true rfl⟩ (Nat.le_of_ble_eq_true rfl) (Nat.zero_le _) (Nat.zero_le _) dX12_isAtRow_29 (fun H locs hW => ?_)
        clear hC8
        refine lv_icmp_ge (tgt := 83) hx hb dX12_isAtRow_32 (by decide) (fun c9 => ?_) (fun c9 => ?_)
        · have hF := if_y c9 hF
          cases hF
          exact hk6 _ _ _ hW (lv_sub hl [1] rfl)
        · have hF := if_n c9 hF
          refine lv_iload_n hx hb dX12_isAtRow_35 rfl (lv_at hl 1 rfl) ?_
          refine lv_if_eq (tgt := 83) hx hb dX12_isAtRow_36 (by decide) (fun c10 => ?_) (fun c10 => ?_)
          · have hF := if_y c10 hF
            cases hF
            exact hk6 _ _ _ hW (lv_sub hl [1] rfl)
          · have hF := if_n c10 hF
            refine lv_aload_n hx hb dX12_isAtRow_39 rfl (lv_at hl 2 rfl) ?_
            refine lv_iload_n hx hb dX12_isAtRow_40 rfl (lv_at hl 3 rfl) ?_
            refine lv_iload hx hb dX12_isAtRow_41 (lv_at hl 0 rfl) ?_
            obtain ⟨r43, hC11, hF⟩ := bO_s1 hF
            refine m_callV X hW hA hl.1 lkX12_199 (c_R_lipOf l E _ N a_t a_t_images a_t_kept a_t_aside a_t_limbs a_t_wide a_t_hears a_t_spies a_t_known a_t_by a_t_ways a_t_fewest a_t_heavy a_t_sums a_t_faces a_t_bestFaces a_t_text a_t_verbs a_t_many a_t_nums a_t_book t_typed t_at t_start t_token t_value t_items t_book p1 x4 r43 hC11) ([0, 1]) (by decide) rfl rfl (ws' := (wd_R_isAtRow E a_t a_t_images a_t_kept a_t_aside a_t_limbs a_t_wide a_t_hears a_t_spies a_t_known a_t_by a_t_ways a_t_fewest a_t_heavy a_t_sums a_t_faces a_t_bestFaces a_t_text a_t_verbs a_t_many a_t_nums a_t_book t_typed t_at t_start t_token t_value t_items t_book)) rfl 0 rfl rfl rfl (As := [.int p1, .int x4]) (rest := []) rfl rfl ⟨rfl, rfl, Nat.le_of_ble_eq_true rfl, Nat.le_of_ble_eq_true rfl⟩ (Nat.le_of_ble_eq_true rfl) (Nat.zero_le _) (Nat.zero_le _) dX12_isAtRow_43 (fun H locs hW => ?_)
            clear hC11
            refine lv_aload_n hx hb dX12_isAtRow_46 rfl (lv_at hl 2 rfl) ?_
            refine m_get X hW fdX12_7 0 rfl rfl dX12_isAtRow_47 ?_
            refine lv_sipush (v := (150 : Int32)) hx hb dX12_isAtRow_50 (by decide) ?_
            refine lv_aload_n hx hb dX12_isAtRow_53 rfl (lv_at hl 2 rfl) ?_
            refine m_get X hW fdX12_7 0 rfl rfl dX12_isAtRow_54 ?_
            refine lv_sipush (v := (190 : Int32)) hx hb dX12_isAtRow_57 (by decide) ?_
            refine lv_iload_n hx hb dX12_isAtRow_60 rfl (lv_at hl 4 rfl) ?_
            refine lv_iadd hx hb dX12_isAtRow_61 ?_
            refine lv_iload hx hb dX12_isAtRow_62 (lv_at hl 0 rfl) ?_
            refine lv_iadd hx hb dX12_isAtRow_64 ?_
            obtain ⟨g12, hF⟩ := gd_some hF
            refine m_iald X hW 1 (k := (((190 : Int32) + p2) + x4).toNatClampNeg) rfl g12 rfl dX12_isAtRow_65 ?_
            refine lv_iadd hx hb dX12_isAtRow_66 ?_
            obtain ⟨g13, hF⟩ := gd_some hF
            refine m_iald X hW 1 (k := ((150 : Int32) + (t_book (((190 : Int32) + p2) + x4).toNatClampNeg)).toNatClampNeg) rfl g13 rfl dX12_isAtRow_67 ?_
            refine lv_icmp_ne (tgt := 75) hx hb dX12_isAtRow_68 (by decide) (fun c14 => ?_) (fun c14 => ?_)
            · have hF := if_n c14 hF
              refine lv_iconst (v := (0 : Int32)) hx hb dX12_isAtRow_75 (by decide) ?_
              refine lv_istore_n (lv' := [(3, .int (0 : Int32)), (4, .int x4), (0, .ref a_t), (1, .int p1), (2, .int p2)]) hx hb dX12_isAtRow_76 rfl hl (by decide) rfl (fun ls hl => ?_)
              refine lv_iinc (v := (x4 + (1 : Int32))) (lv' := [(4, .int (x4 + (1 : Int32))), (3, .int (0 : Int32)), (0, .ref a_t), (1, .int p1), (2, .int p2)]) hx hb dX12_isAtRow_77 hl (k := 1) rfl rfl (by decide) rfl (fun ls hl => ?_)
              refine lv_goto (tgt := 25) hx hb dX12_isAtRow_80 (by decide) ?_
              exact ih7 (0 : Int32) (x4 + (1 : Int32)) x3_2 _ _ _ hF hW (lv_sub hl [0, 1, 2, 3, 4] rfl) hk6
            · have hF := if_y c14 hF
              refine lv_iconst (v := (1 : Int32)) hx hb dX12_isAtRow_71 (by decide) ?_
              refine lv_goto (tgt := 76) hx hb dX12_isAtRow_72 (by decide) ?_
              refine lv_istore_n (lv' := [(3, .int (1 : Int32)), (4, .int x4), (0, .ref a_t), (1, .int p1), (2, .int p2)]) hx hb dX12_isAtRow_76 rfl hl (by decide) rfl (fun ls hl => ?_)
              refine lv_iinc (v := (x4 + (1 : Int32))) (lv' := [(4, .int (x4 + (1 : Int32))), (3, .int (1 : Int32)), (0, .ref a_t), (1, .int p1), (2, .int p2)]) hx hb dX12_isAtRow_77 hl (k := 1) rfl rfl (by decide) rfl (fun ls hl => ?_)
              refine lv_goto (tgt := 25) hx hb dX12_isAtRow_80 (by decide) ?_
              exact ih7 (1 : Int32) (x4 + (1 : Int32)) x3_2 _ _ _ hF hW (lv_sub hl [0, 1, 2, 3, 4] rfl) hk6
    refine L4 N y0 (0 : Int32) x3_2 _ _ _ hX5 hW (lv_sub hl [0, 1, 2, 3, 4] rfl) ?_
    intro H locs ls hW hl
    clear L4
    refine lv_iload_n hx hb dX12_isAtRow_83 rfl (lv_at hl 0 rfl) ?_
    have hq := Option.some.inj hF
    subst hq
    exact hret _ _ _ _ _ rfl hW dX12_isAtRow_84
  clear hF
  have hF := hX3
  clear hX3
  refine lv_icmp_gt (tgt := 20) hx hb dX12_isAtRow_13 (by decide) (fun c15 => ?_) (fun c15 => ?_)
  · have hF := if_y c15 hF
    refine lv_iconst (v := (0 : Int32)) hx hb dX12_isAtRow_20 (by decide) ?_
    cases hF
    exact J2 _ _ _ hW (lv_sub hl [0, 1, 2] rfl)
  · have hF := if_n c15 hF
    refine lv_iconst (v := (1 : Int32)) hx hb dX12_isAtRow_16 (by decide) ?_
    refine lv_goto (tgt := 21) hx hb dX12_isAtRow_17 (by decide) ?_
    cases hF
    exact J2 _ _ _ hW (lv_sub hl [0, 1, 2] rfl)
abbrev wd_R_readsRow (E : m_E) (a_t : Nat) (a_t_images : Nat) (a_t_kept : Nat) (a_t_aside : Nat) (a_t_limbs : Nat) (a_t_wide : Nat) (a_t_hears : Nat) (a_t_spies : Nat) (a_t_known : Nat) (a_t_by : Nat) (a_t_sums : Nat) (a_t_faces : Nat) (a_t_bestFaces : Nat) (a_t_text : Nat) (a_t_verbs : Nat) (a_t_many : Nat) (a_t_nums : Nat) (a_t_book : Nat) (a_t_ways : Nat) (a_t_fewest : Nat) (a_t_heavy : Nat) (t_typed : Int32) (t_at : Int32) (t_start : Int32) (t_token : Int32) (t_value : Int32) (t_items : Int32) (t_book : Nat → Int32) (t_ways : Nat → Int32) (t_fewest : Nat → Int32) (t_heavy : Nat → Int32) : va_W := [(a_t, .inr (12, [.ref a_t_book, .ref a_t_images, .ref a_t_kept, .ref a_t_aside, .ref a_t_limbs, .ref a_t_wide, .ref a_t_hears, .ref a_t_spies, .ref a_t_known, .ref a_t_by, .ref a_t_ways, .ref a_t_fewest, .ref a_t_heavy, .ref a_t_sums, .ref a_t_faces, .ref a_t_bestFaces, .ref a_t_text, .int t_typed, .int t_at, .int t_start, .int t_token, .int t_value, .ref a_t_verbs, .ref a_t_many, .ref a_t_nums, .int t_items])), (a_t_book, .inl (E.2.1 0, 240, .inl t_book)), (a_t_ways, .inl (E.2.1 0, 25, .inl t_ways)), (a_t_fewest, .inl (E.2.1 0, 25, .inl t_fewest)), (a_t_heavy, .inl (E.2.1 0, 25, .inl t_heavy))]
def rm_R_readsRow : Room := { frames := 3, cells := 0, slots := 0, locals := 68 }
set_option maxHeartbeats 4000000 in
set_option maxRecDepth 100000 in
theorem c_R_readsRow (l : Launch) (E : m_E) (sz N : Nat) (a_t : Nat) (a_t_images : Nat) (a_t_kept : Nat) (a_t_aside : Nat) (a_t_limbs : Nat) (a_t_wide : Nat) (a_t_hears : Nat) (a_t_spies : Nat) (a_t_known : Nat) (a_t_by : Nat) (a_t_sums : Nat) (a_t_faces : Nat) (a_t_bestFaces : Nat) (a_t_text : Nat) (a_t_verbs : Nat) (a_t_many : Nat) (a_t_nums : Nat) (a_t_book : Nat) (a_t_ways : Nat) (a_t_fewest : Nat) (a_t_heavy : Nat) (t_typed : Int32) (t_at : Int32) (t_start : Int32) (t_token : Int32) (t_value : Int32) (t_items : Int32) (t_book : Nat → Int32) (t_ways : Nat → Int32) (t_fewest : Nat → Int32) (t_heavy : Nat → Int32)  (ures : (Nat → Int32) × (Nat → Int32) × (Nat → Int32)) (hF : F_R_readsRow N t_book t_ways t_fewest t_heavy = some ures) : m_Met l yX12_readsRow cX12_readsRow 7 none rm_R_readsRow E (wd_R_readsRow E a_t a_t_images a_t_kept a_t_aside a_t_limbs a_t_wide a_t_hears a_t_spies a_t_known a_t_by a_t_sums a_t_faces a_t_bestFaces a_t_text a_t_verbs a_t_many a_t_nums a_t_book a_t_ways a_t_fewest a_t_heavy t_typed t_at t_start t_token t_value t_items t_book t_ways t_fewest t_heavy) (wd_R_readsRow E a_t a_t_images a_t_kept a_t_aside a_t_limbs a_t_wide a_t_hears a_t_spies a_t_known a_t_by a_t_sums a_t_faces a_t_bestFaces a_t_text a_t_verbs a_t_many a_t_nums a_t_book a_t_ways a_t_fewest a_t_heavy t_typed t_at t_start t_token t_value t_items t_book ures.1 ures.2.1 ures.2.2) sz [.ref a_t] none := by
  refine m_ofV (by decide) (Nat.le_of_ble_eq_true rfl) ?_
  intro p e s m args below meth c A Q ls X hW hA hl hret
  obtain ⟨hx, hb, -, hown, hts, hK, -, hG⟩ := id X
  have hl : lv_has ls 7 [(0, .ref a_t)] := hl
  unfold F_R_readsRow at hF
  refine lv_aload_n hx hb dX12_readsRow_0 rfl (lv_at hl 0 rfl) ?_
  refine m_get X hW fdX12_7 0 rfl rfl dX12_readsRow_1 ?_
  refine lv_iconst (v := (4 : Int32)) hx hb dX12_readsRow_4 (by decide) ?_
  refine m_iald X hW 1 (k := 4) rfl (by decide) rfl dX12_readsRow_5 ?_
  refine lv_istore_n (lv' := [(1, .int (t_book 4)), (0, .ref a_t)]) hx hb dX12_readsRow_6 rfl hl (by decide) rfl (fun ls hl => ?_)
  refine lv_iload_n hx hb dX12_readsRow_7 rfl (lv_at hl 0 rfl) ?_
  refine lv_istore_n (lv' := [(2, .int (t_book 4)), (1, .int (t_book 4)), (0, .ref a_t)]) hx hb dX12_readsRow_8 rfl hl (by decide) rfl (fun ls hl => ?_)
  obtain ⟨t_ways'_8, t_fewest'_8, t_heavy'_8, hX2, hF⟩ := bO_s3 hF
  obtain ⟨c1, ec1⟩ : ∃ z : Int32, z = (t_book 4) := ⟨_, rfl⟩
  have L1 : ∀ (k0 : Nat) (x2 : Int32) (t_ways'_5 : Nat → Int32) (t_fewest'_5 : Nat → Int32) (t_heavy'_5 : Nat → Int32) (t_ways'_8 : Nat → Int32) (t_fewest'_8 : Nat → Int32) (t_heavy'_8 : Nat → Int32) (H : Heap) (locs : List Loc) (ls : Array Slot), R_readsRow_L9 N c1 t_book k0 x2 t_ways'_5 t_fewest'_5 t_heavy'_5 = some (t_ways'_8, t_fewest'_8, t_heavy'_8) → m_H E A (wd_R_readsRow E a_t a_t_images a_t_kept a_t_aside a_t_limbs a_t_wide a_t_hears a_t_spies a_t_known a_t_by a_t_sums a_t_faces a_t_bestFaces a_t_text a_t_verbs a_t_many a_t_nums a_t_book a_t_ways a_t_fewest a_t_heavy t_typed t_at t_start t_token t_value t_items t_book t_ways'_5 t_fewest'_5 t_heavy'_5) s.heap H locs → lv_has ls 7 [(2, .int x2), (1, .int c1), (0, .ref a_t)] → (∀ (H : Heap) (locs : List Loc) (ls : Array Slot), m_H E A (wd_R_readsRow E a_t a_t_images a_t_kept a_t_aside a_t_limbs a_t_wide a_t_hears a_t_spies a_t_known a_t_by a_t_sums a_t_faces a_t_bestFaces a_t_text a_t_verbs a_t_many a_t_nums a_t_book a_t_ways a_t_fewest a_t_heavy t_typed t_at t_start t_token t_value t_items t_book t_ways'_8 t_fewest'_8 t_heavy'_8) s.heap H locs → lv_has ls 7 [] → W p l e rm_R_readsRow s m args below meth c H locs 0 0 Q (F0 m 198 ls [])) → W p l e rm_R_readsRow s m args below meth c H locs 0 0 Q (F0 m 9 ls []) := by
    clear hF
    intro k0
    induction k0 with
    | zero =>
      intro x2 t_ways'_5 t_fewest'_5 t_heavy'_5 t_ways'_8 t_fewest'_8 t_heavy'_8 H locs ls hF
      cases hF
    | succ k0 ih4 =>
      intro x2 t_ways'_5 t_fewest'_5 t_heavy'_5 t_ways'_8 t_fewest'_8 t_heavy'_8 H locs ls hF hW hl hk3
      rw [R_readsRow_L9] at hF
      refine lv_iload_n hx hb dX12_readsRow_9 rfl (lv_at hl 0 rfl) ?_
      refine lv_if_lt (tgt := 198) hx hb dX12_readsRow_10 (by decide) (fun c5 => ?_) (fun c5 => ?_)
      · have hF := if_y c5 hF
        cases hF
        exact hk3 _ _ _ hW (lv_sub hl [] rfl)
      · have hF := if_n c5 hF
        refine lv_aload_n hx hb dX12_readsRow_13 rfl (lv_at hl 2 rfl) ?_
        refine m_get X hW fdX12_41 0 rfl rfl dX12_readsRow_14 ?_
        refine lv_iload_n hx hb dX12_readsRow_17 rfl (lv_at hl 0 rfl) ?_
        refine lv_iload_n hx hb dX12_readsRow_18 rfl (lv_at hl 0 rfl) ?_
        refine lv_iload_n hx hb dX12_readsRow_19 rfl (lv_at hl 1 rfl) ?_
        obtain ⟨y2, hX7, hF⟩ := bO_s1 hF
        have J6 : ∀ (H : Heap) (locs : List Loc) (ls : Array Slot), m_H E A (wd_R_readsRow E a_t a_t_images a_t_kept a_t_aside a_t_limbs a_t_wide a_t_hears a_t_spies a_t_known a_t_by a_t_sums a_t_faces a_t_bestFaces a_t_text a_t_verbs a_t_many a_t_nums a_t_book a_t_ways a_t_fewest a_t_heavy t_typed t_at t_start t_token t_value t_items t_book t_ways'_5 t_fewest'_5 t_heavy'_5) s.heap H locs → lv_has ls 7 [(2, .int x2), (1, .int c1), (0, .ref a_t)] → W p l e rm_R_readsRow s m args below meth c H locs 0 0 Q (F0 m 28 ls [.int y2, .int x2, .ref a_t_ways]) := by
          intro H locs ls hW hl
          obtain ⟨g8, hF⟩ := gd_some hF
          refine m_iast X hW 2 (k := x2.toNatClampNeg) rfl g8 rfl dX12_readsRow_28 (ws' := (wd_R_readsRow E a_t a_t_images a_t_kept a_t_aside a_t_limbs a_t_wide a_t_hears a_t_spies a_t_known a_t_by a_t_sums a_t_faces a_t_bestFaces a_t_text a_t_verbs a_t_many a_t_nums a_t_book a_t_ways a_t_fewest a_t_heavy t_typed t_at t_start t_token t_value t_items t_book (upd t_ways'_5 x2.toNatClampNeg y2) t_fewest'_5 t_heavy'_5)) rfl (fun H locs hW => ?_)
          refine lv_aload_n hx hb dX12_readsRow_29 rfl (lv_at hl 2 rfl) ?_
          refine m_get X hW fdX12_44 0 rfl rfl dX12_readsRow_30 ?_
          refine lv_iload_n hx hb dX12_readsRow_33 rfl (lv_at hl 0 rfl) ?_
          refine lv_iload_n hx hb dX12_readsRow_34 rfl (lv_at hl 0 rfl) ?_
          refine lv_iload_n hx hb dX12_readsRow_35 rfl (lv_at hl 1 rfl) ?_
          obtain ⟨y2_2, hX10, hF⟩ := bO_s1 hF
          have J9 : ∀ (H : Heap) (locs : List Loc) (ls : Array Slot), m_H E A (wd_R_readsRow E a_t a_t_images a_t_kept a_t_aside a_t_limbs a_t_wide a_t_hears a_t_spies a_t_known a_t_by a_t_sums a_t_faces a_t_bestFaces a_t_text a_t_verbs a_t_many a_t_nums a_t_book a_t_ways a_t_fewest a_t_heavy t_typed t_at t_start t_token t_value t_items t_book (upd t_ways'_5 x2.toNatClampNeg y2) t_fewest'_5 t_heavy'_5) s.heap H locs → lv_has ls 7 [(2, .int x2), (1, .int c1), (0, .ref a_t)] → W p l e rm_R_readsRow s m args below meth c H locs 0 0 Q (F0 m 45 ls [.int y2_2, .int x2, .ref a_t_fewest]) := by
            intro H locs ls hW hl
            refine m_iast X hW 3 (k := x2.toNatClampNeg) rfl g8 rfl dX12_readsRow_45 (ws' := (wd_R_readsRow E a_t a_t_images a_t_kept a_t_aside a_t_limbs a_t_wide a_t_hears a_t_spies a_t_known a_t_by a_t_sums a_t_faces a_t_bestFaces a_t_text a_t_verbs a_t_many a_t_nums a_t_book a_t_ways a_t_fewest a_t_heavy t_typed t_at t_start t_token t_value t_items t_book (upd t_ways'_5 x2.toNatClampNeg y2) (upd t_fewest'_5 x2.toNatClampNeg y2_2) t_heavy'_5)) rfl (fun H locs hW => ?_)
            refine lv_aload_n hx hb dX12_readsRow_46 rfl (lv_at hl 2 rfl) ?_
            refine m_get X hW fdX12_47 0 rfl rfl dX12_readsRow_47 ?_
            refine lv_iload_n hx hb dX12_readsRow_50 rfl (lv_at hl 0 rfl) ?_
            refine lv_iconst (v := (0 : Int32)) hx hb dX12_readsRow_51 (by decide) ?_
            refine m_iast X hW 4 (k := x2.toNatClampNeg) rfl g8 rfl dX12_readsRow_52 (ws' := (wd_R_readsRow E a_t a_t_images a_t_kept a_t_aside a_t_limbs a_t_wide a_t_hears a_t_spies a_t_known a_t_by a_t_sums a_t_faces a_t_bestFaces a_t_text a_t_verbs a_t_many a_t_nums a_t_book a_t_ways a_t_fewest a_t_heavy t_typed t_at t_start t_token t_value t_items t_book (upd t_ways'_5 x2.toNatClampNeg y2) (upd t_fewest'_5 x2.toNatClampNeg y2_2) (upd t_heavy'_5 x2.toNatClampNeg (0 : Int32)))) rfl (fun H locs hW => ?_)
            refine lv_iconst (v := (0 : Int32)) hx hb dX12_readsRow_53 (by decide) ?_
            refine lv_istore_n (lv' := [(3, .int (0 : Int32)), (2, .int x2), (1, .int c1), (0, .ref a_t)]) hx hb dX12_readsRow_54 rfl hl (by decide) rfl (fun ls hl => ?_)
            obtain ⟨t_ways'_7, t_fewest'_7, t_heavy'_7, hX12, hF⟩ := bO_s3 hF
            have L11 : ∀ (k0 : Nat) (x3 : Int32) (t_ways'_6 : Nat → Int32) (t_fewest'_6 : Nat → Int32) (t_heavy'_6 : Nat → Int32) (t_ways'_7 : Nat → Int32) (t_fewest'_7 : Nat → Int32) (t_heavy'_7 : Nat → Int32) (H : Heap) (locs : List Loc) (ls : Array Slot), R_readsRow_L55 N t_book c1 x2 k0 x3 t_ways'_6 t_fewest'_6 t_heavy'_6 = some (t_ways'_7, t_fewest'_7, t_heavy'_7) → m_H E A (wd_R_readsRow E a_t a_t_images a_t_kept a_t_aside a_t_limbs a_t_wide a_t_hears a_t_spies a_t_known a_t_by a_t_sums a_t_faces a_t_bestFaces a_t_text a_t_verbs a_t_many a_t_nums a_t_book a_t_ways a_t_fewest a_t_heavy t_typed t_at t_start t_token t_value t_items t_book t_ways'_6 t_fewest'_6 t_heavy'_6) s.heap H locs → lv_has ls 7 [(3, .int x3), (2, .int x2), (1, .int c1), (0, .ref a_t)] → (∀ (H : Heap) (locs : List Loc) (ls : Array Slot), m_H E A (wd_R_readsRow E a_t a_t_images a_t_kept a_t_aside a_t_limbs a_t_wide a_t_hears a_t_spies a_t_known a_t_by a_t_sums a_t_faces a_t_bestFaces a_t_text a_t_verbs a_t_many a_t_nums a_t_book a_t_ways a_t_fewest a_t_heavy t_typed t_at t_start t_token t_value t_items t_book t_ways'_7 t_fewest'_7 t_heavy'_7) s.heap H locs → lv_has ls 7 [(2, .int x2), (1, .int c1), (0, .ref a_t)] → W p l e rm_R_readsRow s m args below meth c H locs 0 0 Q (F0 m 192 ls [])) → W p l e rm_R_readsRow s m args below meth c H locs 0 0 Q (F0 m 55 ls []) := by
              clear hF
              intro k0
              induction k0 with
              | zero =>
                intro x3 t_ways'_6 t_fewest'_6 t_heavy'_6 t_ways'_7 t_fewest'_7 t_heavy'_7 H locs ls hF
                cases hF
              | succ k0 ih14 =>
                intro x3 t_ways'_6 t_fewest'_6 t_heavy'_6 t_ways'_7 t_fewest'_7 t_heavy'_7 H locs ls hF hW hl hk13
                rw [R_readsRow_L55] at hF
                refine lv_iload_n hx hb dX12_readsRow_55 rfl (lv_at hl 0 rfl) ?_
                refine lv_aload_n hx hb dX12_readsRow_56 rfl (lv_at hl 3 rfl) ?_
                refine m_get X hW fdX12_7 0 rfl rfl dX12_readsRow_57 ?_
                refine lv_iconst (v := (3 : Int32)) hx hb dX12_readsRow_60 (by decide) ?_
                refine m_iald X hW 1 (k := 3) rfl (by decide) rfl dX12_readsRow_61 ?_
                refine lv_icmp_ge (tgt := 192) hx hb dX12_readsRow_62 (by decide) (fun c15 => ?_) (fun c15 => ?_)
                · have hF := if_y c15 hF
                  cases hF
                  exact hk13 _ _ _ hW (lv_sub hl [1, 2, 3] rfl)
                · have hF := if_n c15 hF
                  refine lv_iload_n hx hb dX12_readsRow_65 rfl (lv_at hl 1 rfl) ?_
                  refine lv_iload_n hx hb dX12_readsRow_66 rfl (lv_at hl 2 rfl) ?_
                  refine lv_icmp_ge (tgt := 186) hx hb dX12_readsRow_67 (by decide) (fun c16 => ?_) (fun c16 => ?_)
                  · have hF := if_y c16 hF
                    refine lv_iinc (v := (x3 + (1 : Int32))) (lv' := [(3, .int (x3 + (1 : Int32))), (2, .int x2), (1, .int c1), (0, .ref a_t)]) hx hb dX12_readsRow_186 hl (k := 0) rfl rfl (by decide) rfl (fun ls hl => ?_)
                    refine lv_goto (tgt := 55) hx hb dX12_readsRow_189 (by decide) ?_
                    exact ih14 (x3 + (1 : Int32)) t_ways'_6 t_fewest'_6 t_heavy'_6 t_ways'_7 t_fewest'_7 t_heavy'_7 _ _ _ hF hW (lv_sub hl [0, 1, 2, 3] rfl) hk13
                  · have hF := if_n c16 hF
                    refine lv_aload_n hx hb dX12_readsRow_70 rfl (lv_at hl 3 rfl) ?_
                    refine lv_iload_n hx hb dX12_readsRow_71 rfl (lv_at hl 0 rfl) ?_
                    refine lv_iload_n hx hb dX12_readsRow_72 rfl (lv_at hl 1 rfl) ?_
                    obtain ⟨r73, hC17, hF⟩ := bO_s1 hF
                    refine m_callV X hW hA hl.1 lkX12_211 (c_R_isAtRow l E _ N a_t a_t_images a_t_kept a_t_aside a_t_limbs a_t_wide a_t_hears a_t_spies a_t_known a_t_by a_t_ways a_t_fewest a_t_heavy a_t_sums a_t_faces a_t_bestFaces a_t_text a_t_verbs a_t_many a_t_nums a_t_book t_typed t_at t_start t_token t_value t_items t_book x3 x2 r73 hC17) ([0, 1]) (by decide) rfl rfl (ws' := (wd_R_readsRow E a_t a_t_images a_t_kept a_t_aside a_t_limbs a_t_wide a_t_hears a_t_spies a_t_known a_t_by a_t_sums a_t_faces a_t_bestFaces a_t_text a_t_verbs a_t_many a_t_nums a_t_book a_t_ways a_t_fewest a_t_heavy t_typed t_at t_start t_token t_value t_items t_book t_ways'_6 t_fewest'_6 t_heavy'_6)) rfl 0 rfl rfl rfl (As := [.int x3, .int x2]) (rest := []) rfl rfl ⟨rfl, rfl, Nat.le_of_ble_eq_true rfl, Nat.le_of_ble_eq_true rfl⟩ (Nat.le_of_ble_eq_true rfl) (Nat.zero_le _) (Nat.zero_le _) dX12_readsRow_73 (fun H locs hW => ?_)
                    clear hC17
                    refine lv_if_eq (tgt := 186) hx hb dX12_readsRow_76 (by decide) (fun c18 => ?_) (fun c18 => ?_)
                    · have hF := if_y c18 hF
                      refine lv_iinc (v := (x3 + (1 : Int32))) (lv' := [(3, .int (x3 + (1 : Int32))), (2, .int x2), (1, .int c1), (0, .ref a_t)]) hx hb dX12_readsRow_186 hl (k := 0) rfl rfl (by decide) rfl (fun ls hl => ?_)
                      refine lv_goto (tgt := 55) hx hb dX12_readsRow_189 (by decide) ?_
                      exact ih14 (x3 + (1 : Int32)) t_ways'_6 t_fewest'_6 t_heavy'_6 t_ways'_7 t_fewest'_7 t_heavy'_7 _ _ _ hF hW (lv_sub hl [0, 1, 2, 3] rfl) hk13
                    · have hF := if_n c18 hF
                      refine lv_iload_n hx hb dX12_readsRow_79 rfl (lv_at hl 1 rfl) ?_
                      refine lv_aload_n hx hb dX12_readsRow_80 rfl (lv_at hl 3 rfl) ?_
                      refine lv_iload_n hx hb dX12_readsRow_81 rfl (lv_at hl 0 rfl) ?_
                      obtain ⟨r82, hC19, hF⟩ := bO_s1 hF
                      refine m_callV X hW hA hl.1 lkX12_196 (c_R_lengthOf l E _ N a_t a_t_images a_t_kept a_t_aside a_t_limbs a_t_wide a_t_hears a_t_spies a_t_known a_t_by a_t_ways a_t_fewest a_t_heavy a_t_sums a_t_faces a_t_bestFaces a_t_text a_t_verbs a_t_many a_t_nums a_t_book t_typed t_at t_start t_token t_value t_items t_book x3 r82 hC19) ([0, 1]) (by decide) rfl rfl (ws' := (wd_R_readsRow E a_t a_t_images a_t_kept a_t_aside a_t_limbs a_t_wide a_t_hears a_t_spies a_t_known a_t_by a_t_sums a_t_faces a_t_bestFaces a_t_text a_t_verbs a_t_many a_t_nums a_t_book a_t_ways a_t_fewest a_t_heavy t_typed t_at t_start t_token t_value t_items t_book t_ways'_6 t_fewest'_6 t_heavy'_6)) rfl 0 rfl rfl rfl (As := [.int x3]) (rest := [.int x2]) rfl rfl ⟨rfl, rfl, Nat.le_of_ble_eq_true rfl, Nat.le_of_ble_eq_true rfl⟩ (Nat.le_of_ble_eq_true rfl) (Nat.zero_le _) (Nat.zero_le _) dX12_readsRow_82 (fun H locs hW => ?_)
                      clear hC19
                      refine lv_iadd hx hb dX12_readsRow_85 ?_
                      refine lv_istore (lv' := [(4, .int (x2 + r82)), (3, .int x3), (2, .int x2), (1, .int c1), (0, .ref a_t)]) hx hb dX12_readsRow_86 hl (by decide) rfl (fun ls hl => ?_)
                      refine lv_aload_n hx hb dX12_readsRow_88 rfl (lv_at hl 4 rfl) ?_
                      refine m_get X hW fdX12_41 0 rfl rfl dX12_readsRow_89 ?_
                      refine lv_iload_n hx hb dX12_readsRow_92 rfl (lv_at hl 2 rfl) ?_
                      refine lv_aload_n hx hb dX12_readsRow_93 rfl (lv_at hl 4 rfl) ?_
                      refine m_get X hW fdX12_41 0 rfl rfl dX12_readsRow_94 ?_
                      refine lv_iload_n hx hb dX12_readsRow_97 rfl (lv_at hl 2 rfl) ?_
                      refine m_iald X hW 2 (k := x2.toNatClampNeg) rfl g8 rfl dX12_readsRow_98 ?_
                      refine lv_aload_n hx hb dX12_readsRow_99 rfl (lv_at hl 4 rfl) ?_
                      refine m_get X hW fdX12_41 0 rfl rfl dX12_readsRow_100 ?_
                      refine lv_iload hx hb dX12_readsRow_103 (lv_at hl 0 rfl) ?_
                      obtain ⟨g20, hF⟩ := gd_some hF
                      refine m_iald X hW 2 (k := (x2 + r82).toNatClampNeg) rfl g20 rfl dX12_readsRow_105 ?_
                      refine lv_iadd hx hb dX12_readsRow_106 ?_
                      refine lv_ldc (v := (1000000007 : Int32)) hx hb hown (hts _ wk_1405) dX12_readsRow_107 ?_
                      refine m_irem hx hb dX12_readsRow_109 (by decide) ?_
                      refine m_iast X hW 2 (k := x2.toNatClampNeg) rfl g8 rfl dX12_readsRow_110 (ws' := (wd_R_readsRow E a_t a_t_images a_t_kept a_t_aside a_t_limbs a_t_wide a_t_hears a_t_spies a_t_known a_t_by a_t_sums a_t_faces a_t_bestFaces a_t_text a_t_verbs a_t_many a_t_nums a_t_book a_t_ways a_t_fewest a_t_heavy t_typed t_at t_start t_token t_value t_items t_book (upd t_ways'_6 x2.toNatClampNeg (jrem ((t_ways'_6 x2.toNatClampNeg) + (t_ways'_6 (x2 + r82).toNatClampNeg)) (1000000007 : Int32))) t_fewest'_6 t_heavy'_6)) rfl (fun H locs hW => ?_)
                      refine lv_aload_n hx hb dX12_readsRow_111 rfl (lv_at hl 4 rfl) ?_
                      refine m_get X hW fdX12_44 0 rfl rfl dX12_readsRow_112 ?_
                      refine lv_iload hx hb dX12_readsRow_115 (lv_at hl 0 rfl) ?_
                      refine m_iald X hW 3 (k := (x2 + r82).toNatClampNeg) rfl g20 rfl dX12_readsRow_117 ?_
                      refine lv_iconst (v := (1 : Int32)) hx hb dX12_readsRow_118 (by decide) ?_
                      refine lv_iadd hx hb dX12_readsRow_119 ?_
                      refine lv_istore (lv' := [(5, .int ((t_fewest'_6 (x2 + r82).toNatClampNeg) + (1 : Int32))), (4, .int (x2 + r82)), (3, .int x3), (2, .int x2), (1, .int c1), (0, .ref a_t)]) hx hb dX12_readsRow_120 hl (by decide) rfl (fun ls hl => ?_)
                      refine lv_aload_n hx hb dX12_readsRow_122 rfl (lv_at hl 5 rfl) ?_
                      refine m_get X hW fdX12_47 0 rfl rfl dX12_readsRow_123 ?_
                      refine lv_iload hx hb dX12_readsRow_126 (lv_at hl 1 rfl) ?_
                      refine m_iald X hW 4 (k := (x2 + r82).toNatClampNeg) rfl g20 rfl dX12_readsRow_128 ?_
                      refine lv_aload_n hx hb dX12_readsRow_129 rfl (lv_at hl 5 rfl) ?_
                      refine lv_iload_n hx hb dX12_readsRow_130 rfl (lv_at hl 2 rfl) ?_
                      obtain ⟨r131, hC21, hF⟩ := bO_s1 hF
                      refine m_callV X hW hA hl.1 lkX12_215 (c_R_weightOf l E _ N a_t a_t_images a_t_kept a_t_aside a_t_limbs a_t_wide a_t_hears a_t_spies a_t_known a_t_by a_t_ways a_t_fewest a_t_heavy a_t_sums a_t_faces a_t_bestFaces a_t_text a_t_verbs a_t_many a_t_nums a_t_book t_typed t_at t_start t_token t_value t_items t_book x3 r131 hC21) ([0, 1]) (by decide) rfl rfl (ws' := (wd_R_readsRow E a_t a_t_images a_t_kept a_t_aside a_t_limbs a_t_wide a_t_hears a_t_spies a_t_known a_t_by a_t_sums a_t_faces a_t_bestFaces a_t_text a_t_verbs a_t_many a_t_nums a_t_book a_t_ways a_t_fewest a_t_heavy t_typed t_at t_start t_token t_value t_items t_book (upd t_ways'_6 x2.toNatClampNeg (jrem ((t_ways'_6 x2.toNatClampNeg) + (t_ways'_6 (x2 + r82).toNatClampNeg)) (1000000007 : Int32))) t_fewest'_6 t_heavy'_6)) rfl 0 rfl rfl rfl (As := [.int x3]) (rest := [.int (t_heavy'_6 (x2 + r82).toNatClampNeg)]) rfl rfl ⟨rfl, rfl, Nat.le_of_ble_eq_true rfl, Nat.le_of_ble_eq_true rfl⟩ (Nat.le_of_ble_eq_true rfl) (Nat.zero_le _) (Nat.zero_le _) dX12_readsRow_131 (fun H locs hW => ?_)
                      clear hC21
                      refine lv_iadd hx hb dX12_readsRow_134 ?_
                      refine lv_istore (lv' := [(6, .int ((t_heavy'_6 (x2 + r82).toNatClampNeg) + r131)), (5, .int ((t_fewest'_6 (x2 + r82).toNatClampNeg) + (1 : Int32))), (4, .int (x2 + r82)), (3, .int x3), (2, .int x2), (1, .int c1), (0, .ref a_t)]) hx hb dX12_readsRow_135 hl (by decide) rfl (fun ls hl => ?_)
                      refine lv_iload hx hb dX12_readsRow_137 (lv_at hl 1 rfl) ?_
                      refine lv_aload_n hx hb dX12_readsRow_139 rfl (lv_at hl 6 rfl) ?_
                      refine m_get X hW fdX12_44 0 rfl rfl dX12_readsRow_140 ?_
                      refine lv_iload_n hx hb dX12_readsRow_143 rfl (lv_at hl 4 rfl) ?_
                      refine m_iald X hW 3 (k := x2.toNatClampNeg) rfl g8 rfl dX12_readsRow_144 ?_
                      refine lv_icmp_lt (tgt := 170) hx hb dX12_readsRow_145 (by decide) (fun c22 => ?_) (fun c22 => ?_)
                      · have hF := if_y c22 hF
                        refine lv_aload_n hx hb dX12_readsRow_170 rfl (lv_at hl 6 rfl) ?_
                        refine m_get X hW fdX12_44 0 rfl rfl dX12_readsRow_171 ?_
                        refine lv_iload_n hx hb dX12_readsRow_174 rfl (lv_at hl 4 rfl) ?_
                        refine lv_iload hx hb dX12_readsRow_175 (lv_at hl 1 rfl) ?_
                        refine m_iast X hW 3 (k := x2.toNatClampNeg) rfl g8 rfl dX12_readsRow_177 (ws' := (wd_R_readsRow E a_t a_t_images a_t_kept a_t_aside a_t_limbs a_t_wide a_t_hears a_t_spies a_t_known a_t_by a_t_sums a_t_faces a_t_bestFaces a_t_text a_t_verbs a_t_many a_t_nums a_t_book a_t_ways a_t_fewest a_t_heavy t_typed t_at t_start t_token t_value t_items t_book (upd t_ways'_6 x2.toNatClampNeg (jrem ((t_ways'_6 x2.toNatClampNeg) + (t_ways'_6 (x2 + r82).toNatClampNeg)) (1000000007 : Int32))) (upd t_fewest'_6 x2.toNatClampNeg ((t_fewest'_6 (x2 + r82).toNatClampNeg) + (1 : Int32))) t_heavy'_6)) rfl (fun H locs hW => ?_)
                        refine lv_aload_n hx hb dX12_readsRow_178 rfl (lv_at hl 6 rfl) ?_
                        refine m_get X hW fdX12_47 0 rfl rfl dX12_readsRow_179 ?_
                        refine lv_iload_n hx hb dX12_readsRow_182 rfl (lv_at hl 4 rfl) ?_
                        refine lv_iload hx hb dX12_readsRow_183 (lv_at hl 0 rfl) ?_
                        refine m_iast X hW 4 (k := x2.toNatClampNeg) rfl g8 rfl dX12_readsRow_185 (ws' := (wd_R_readsRow E a_t a_t_images a_t_kept a_t_aside a_t_limbs a_t_wide a_t_hears a_t_spies a_t_known a_t_by a_t_sums a_t_faces a_t_bestFaces a_t_text a_t_verbs a_t_many a_t_nums a_t_book a_t_ways a_t_fewest a_t_heavy t_typed t_at t_start t_token t_value t_items t_book (upd t_ways'_6 x2.toNatClampNeg (jrem ((t_ways'_6 x2.toNatClampNeg) + (t_ways'_6 (x2 + r82).toNatClampNeg)) (1000000007 : Int32))) (upd t_fewest'_6 x2.toNatClampNeg ((t_fewest'_6 (x2 + r82).toNatClampNeg) + (1 : Int32))) (upd t_heavy'_6 x2.toNatClampNeg ((t_heavy'_6 (x2 + r82).toNatClampNeg) + r131)))) rfl (fun H locs hW => ?_)
                        refine lv_iinc (v := (x3 + (1 : Int32))) (lv' := [(3, .int (x3 + (1 : Int32))), (6, .int ((t_heavy'_6 (x2 + r82).toNatClampNeg) + r131)), (5, .int ((t_fewest'_6 (x2 + r82).toNatClampNeg) + (1 : Int32))), (4, .int (x2 + r82)), (2, .int x2), (1, .int c1), (0, .ref a_t)]) hx hb dX12_readsRow_186 hl (k := 3) rfl rfl (by decide) rfl (fun ls hl => ?_)
                        refine lv_goto (tgt := 55) hx hb dX12_readsRow_189 (by decide) ?_
                        exact ih14 (x3 + (1 : Int32)) (upd t_ways'_6 x2.toNatClampNeg (jrem ((t_ways'_6 x2.toNatClampNeg) + (t_ways'_6 (x2 + r82).toNatClampNeg)) (1000000007 : Int32))) (upd t_fewest'_6 x2.toNatClampNeg ((t_fewest'_6 (x2 + r82).toNatClampNeg) + (1 : Int32))) (upd t_heavy'_6 x2.toNatClampNeg ((t_heavy'_6 (x2 + r82).toNatClampNeg) + r131)) t_ways'_7 t_fewest'_7 t_heavy'_7 _ _ _ hF hW (lv_sub hl [0, 4, 5, 6] rfl) hk13
                      · have hF := if_n c22 hF
                        refine lv_iload hx hb dX12_readsRow_148 (lv_at hl 1 rfl) ?_
                        refine lv_aload_n hx hb dX12_readsRow_150 rfl (lv_at hl 6 rfl) ?_
                        refine m_get X hW fdX12_44 0 rfl rfl dX12_readsRow_151 ?_
                        refine lv_iload_n hx hb dX12_readsRow_154 rfl (lv_at hl 4 rfl) ?_
                        refine m_iald X hW 3 (k := x2.toNatClampNeg) rfl g8 rfl dX12_readsRow_155 ?_
                        refine lv_icmp_ne (tgt := 186) hx hb dX12_readsRow_156 (by decide) (fun c23 => ?_) (fun c23 => ?_)
                        · have hF := if_n c23 hF
                          refine lv_iinc (v := (x3 + (1 : Int32))) (lv' := [(3, .int (x3 + (1 : Int32))), (6, .int ((t_heavy'_6 (x2 + r82).toNatClampNeg) + r131)), (5, .int ((t_fewest'_6 (x2 + r82).toNatClampNeg) + (1 : Int32))), (4, .int (x2 + r82)), (2, .int x2), (1, .int c1), (0, .ref a_t)]) hx hb dX12_readsRow_186 hl (k := 3) rfl rfl (by decide) rfl (fun ls hl => ?_)
                          refine lv_goto (tgt := 55) hx hb dX12_readsRow_189 (by decide) ?_
                          exact ih14 (x3 + (1 : Int32)) (upd t_ways'_6 x2.toNatClampNeg (jrem ((t_ways'_6 x2.toNatClampNeg) + (t_ways'_6 (x2 + r82).toNatClampNeg)) (1000000007 : Int32))) t_fewest'_6 t_heavy'_6 t_ways'_7 t_fewest'_7 t_heavy'_7 _ _ _ hF hW (lv_sub hl [0, 4, 5, 6] rfl) hk13
                        · have hF := if_y c23 hF
                          refine lv_iload hx hb dX12_readsRow_159 (lv_at hl 0 rfl) ?_
                          refine lv_aload_n hx hb dX12_readsRow_161 rfl (lv_at hl 6 rfl) ?_
                          refine m_get X hW fdX12_47 0 rfl rfl dX12_readsRow_162 ?_
                          refine lv_iload_n hx hb dX12_readsRow_165 rfl (lv_at hl 4 rfl) ?_
                          refine m_iald X hW 4 (k := x2.toNatClampNeg) rfl g8 rfl dX12_readsRow_166 ?_
                          refine lv_icmp_le (tgt := 186) hx hb dX12_readsRow_167 (by decide) (fun c24 => ?_) (fun c24 => ?_)
                          · have hF := if_y c24 hF
                            refine lv_iinc (v := (x3 + (1 : Int32))) (lv' := [(3, .int (x3 + (1 : Int32))), (6, .int ((t_heavy'_6 (x2 + r82).toNatClampNeg) + r131)), (5, .int ((t_fewest'_6 (x2 + r82).toNatClampNeg) + (1 : Int32))), (4, .int (x2 + r82)), (2, .int x2), (1, .int c1), (0, .ref a_t)]) hx hb dX12_readsRow_186 hl (k := 3) rfl rfl (by decide) rfl (fun ls hl => ?_)
                            refine lv_goto (tgt := 55) hx hb dX12_readsRow_189 (by decide) ?_
                            exact ih14 (x3 + (1 : Int32)) (upd t_ways'_6 x2.toNatClampNeg (jrem ((t_ways'_6 x2.toNatClampNeg) + (t_ways'_6 (x2 + r82).toNatClampNeg)) (1000000007 : Int32))) t_fewest'_6 t_heavy'_6 t_ways'_7 t_fewest'_7 t_heavy'_7 _ _ _ hF hW (lv_sub hl [0, 4, 5, 6] rfl) hk13
                          · have hF := if_n c24 hF
                            refine lv_aload_n hx hb dX12_readsRow_170 rfl (lv_at hl 6 rfl) ?_
                            refine m_get X hW fdX12_44 0 rfl rfl dX12_readsRow_171 ?_
                            refine lv_iload_n hx hb dX12_readsRow_174 rfl (lv_at hl 4 rfl) ?_
                            refine lv_iload hx hb dX12_readsRow_175 (lv_at hl 1 rfl) ?_
                            refine m_iast X hW 3 (k := x2.toNatClampNeg) rfl g8 rfl dX12_readsRow_177 (ws' := (wd_R_readsRow E a_t a_t_images a_t_kept a_t_aside a_t_limbs a_t_wide a_t_hears a_t_spies a_t_known a_t_by a_t_sums a_t_faces a_t_bestFaces a_t_text a_t_verbs a_t_many a_t_nums a_t_book a_t_ways a_t_fewest a_t_heavy t_typed t_at t_start t_token t_value t_items t_book (upd t_ways'_6 x2.toNatClampNeg (jrem ((t_ways'_6 x2.toNatClampNeg) + (t_ways'_6 (x2 + r82).toNatClampNeg)) (1000000007 : Int32))) (upd t_fewest'_6 x2.toNatClampNeg ((t_fewest'_6 (x2 + r82).toNatClampNeg) + (1 : Int32))) t_heavy'_6)) rfl (fun H locs hW => ?_)
                            refine lv_aload_n hx hb dX12_readsRow_178 rfl (lv_at hl 6 rfl) ?_
                            refine m_get X hW fdX12_47 0 rfl rfl dX12_readsRow_179 ?_
                            refine lv_iload_n hx hb dX12_readsRow_182 rfl (lv_at hl 4 rfl) ?_
                            refine lv_iload hx hb dX12_readsRow_183 (lv_at hl 0 rfl) ?_
                            refine m_iast X hW 4 (k := x2.toNatClampNeg) rfl g8 rfl dX12_readsRow_185 (ws' := (wd_R_readsRow E a_t a_t_images a_t_kept a_t_aside a_t_limbs a_t_wide a_t_hears a_t_spies a_t_known a_t_by a_t_sums a_t_faces a_t_bestFaces a_t_text a_t_verbs a_t_many a_t_nums a_t_book a_t_ways a_t_fewest a_t_heavy t_typed t_at t_start t_token t_value t_items t_book (upd t_ways'_6 x2.toNatClampNeg (jrem ((t_ways'_6 x2.toNatClampNeg) + (t_ways'_6 (x2 + r82).toNatClampNeg)) (1000000007 : Int32))) (upd t_fewest'_6 x2.toNatClampNeg ((t_fewest'_6 (x2 + r82).toNatClampNeg) + (1 : Int32))) (upd t_heavy'_6 x2.toNatClampNeg ((t_heavy'_6 (x2 + r82).toNatClampNeg) + r131)))) rfl (fun H locs hW => ?_)
                            refine lv_iinc (v := (x3 + (1 : Int32))) (lv' := [(3, .int (x3 + (1 : Int32))), (6, .int ((t_heavy'_6 (x2 + r82).toNatClampNeg) + r131)), (5, .int ((t_fewest'_6 (x2 + r82).toNatClampNeg) + (1 : Int32))), (4, .int (x2 + r82)), (2, .int x2), (1, .int c1), (0, .ref a_t)]) hx hb dX12_readsRow_186 hl (k := 3) rfl rfl (by decide) rfl (fun ls hl => ?_)
                            refine lv_goto (tgt := 55) hx hb dX12_readsRow_189 (by decide) ?_
                            exact ih14 (x3 + (1 : Int32)) (upd t_ways'_6 x2.toNatClampNeg (jrem ((t_ways'_6 x2.toNatClampNeg) + (t_ways'_6 (x2 + r82).toNatClampNeg)) (1000000007 : Int32))) (upd t_fewest'_6 x2.toNatClampNeg ((t_fewest'_6 (x2 + r82).toNatClampNeg) + (1 : Int32))) (upd t_heavy'_6 x2.toNatClampNeg ((t_heavy'_6 (x2 + r82).toNatClampNeg) + r131)) t_ways'_7 t_fewest'_7 t_heavy'_7 _ _ _ hF hW (lv_sub hl [0, 4, 5, 6] rfl) hk13
            refine L11 N (0 : Int32) (upd t_ways'_5 x2.toNatClampNeg y2) (upd t_fewest'_5 x2.toNatClampNeg y2_2) (upd t_heavy'_5 x2.toNatClampNeg (0 : Int32)) t_ways'_7 t_fewest'_7 t_heavy'_7 _ _ _ hX12 hW (lv_sub hl [0, 1, 2, 3] rfl) ?_
            intro H locs ls hW hl
            clear L11
            refine lv_iinc (v := (x2 + (-1 : Int32))) (lv' := [(2, .int (x2 + (-1 : Int32))), (1, .int c1), (0, .ref a_t)]) hx hb dX12_readsRow_192 hl (k := 0) rfl rfl (by decide) rfl (fun ls hl => ?_)
            refine lv_goto (tgt := 9) hx hb dX12_readsRow_195 (by decide) ?_
            exact ih4 (x2 + (-1 : Int32)) t_ways'_7 t_fewest'_7 t_heavy'_7 t_ways'_8 t_fewest'_8 t_heavy'_8 _ _ _ hF hW (lv_sub hl [0, 1, 2] rfl) hk3
          clear hF
          have hF := hX10
          clear hX10
          refine lv_icmp_ne (tgt := 43) hx hb dX12_readsRow_36 (by decide) (fun c25 => ?_) (fun c25 => ?_)
          · have hF := if_n c25 hF
            refine lv_ldc (v := (1000000 : Int32)) hx hb hown (hts _ wk_1312) dX12_readsRow_43 ?_
            cases hF
            exact J9 _ _ _ hW (lv_sub hl [0, 1, 2] rfl)
          · have hF := if_y c25 hF
            refine lv_iconst (v := (0 : Int32)) hx hb dX12_readsRow_39 (by decide) ?_
            refine lv_goto (tgt := 45) hx hb dX12_readsRow_40 (by decide) ?_
            cases hF
            exact J9 _ _ _ hW (lv_sub hl [0, 1, 2] rfl)
        clear hF
        have hF := hX7
        clear hX7
        refine lv_icmp_ne (tgt := 27) hx hb dX12_readsRow_20 (by decide) (fun c26 => ?_) (fun c26 => ?_)
        · have hF := if_n c26 hF
          refine lv_iconst (v := (0 : Int32)) hx hb dX12_readsRow_27 (by decide) ?_
          cases hF
          exact J6 _ _ _ hW (lv_sub hl [0, 1, 2] rfl)
        · have hF := if_y c26 hF
          refine lv_iconst (v := (1 : Int32)) hx hb dX12_readsRow_23 (by decide) ?_
          refine lv_goto (tgt := 28) hx hb dX12_readsRow_24 (by decide) ?_
          cases hF
          exact J6 _ _ _ hW (lv_sub hl [0, 1, 2] rfl)
  subst ec1
  refine L1 N (t_book 4) t_ways t_fewest t_heavy t_ways'_8 t_fewest'_8 t_heavy'_8 _ _ _ hX2 hW (lv_sub hl [0, 1, 2] rfl) ?_
  intro H locs ls hW hl
  clear L1
  have hq := Option.some.inj hF
  subst hq
  exact hret _ _ _ _ hW dX12_readsRow_198
abbrev wd_R_reads (E : m_E) (a_t : Nat) (a_t_images : Nat) (a_t_kept : Nat) (a_t_aside : Nat) (a_t_limbs : Nat) (a_t_wide : Nat) (a_t_hears : Nat) (a_t_spies : Nat) (a_t_known : Nat) (a_t_by : Nat) (a_t_sums : Nat) (a_t_faces : Nat) (a_t_bestFaces : Nat) (a_t_text : Nat) (a_t_verbs : Nat) (a_t_many : Nat) (a_t_nums : Nat) (a_t_book : Nat) (a_t_ways : Nat) (a_t_fewest : Nat) (a_t_heavy : Nat) (t_typed : Int32) (t_at : Int32) (t_start : Int32) (t_token : Int32) (t_value : Int32) (t_items : Int32) (t_book : Nat → Int32) (t_ways : Nat → Int32) (t_fewest : Nat → Int32) (t_heavy : Nat → Int32) : va_W := [(a_t, .inr (12, [.ref a_t_book, .ref a_t_images, .ref a_t_kept, .ref a_t_aside, .ref a_t_limbs, .ref a_t_wide, .ref a_t_hears, .ref a_t_spies, .ref a_t_known, .ref a_t_by, .ref a_t_ways, .ref a_t_fewest, .ref a_t_heavy, .ref a_t_sums, .ref a_t_faces, .ref a_t_bestFaces, .ref a_t_text, .int t_typed, .int t_at, .int t_start, .int t_token, .int t_value, .ref a_t_verbs, .ref a_t_many, .ref a_t_nums, .int t_items])), (a_t_book, .inl (E.2.1 0, 240, .inl t_book)), (a_t_ways, .inl (E.2.1 0, 25, .inl t_ways)), (a_t_fewest, .inl (E.2.1 0, 25, .inl t_fewest)), (a_t_heavy, .inl (E.2.1 0, 25, .inl t_heavy))]
def rm_R_reads : Room := { frames := 4, cells := 0, slots := 0, locals := 94 }
set_option maxHeartbeats 4000000 in
set_option maxRecDepth 100000 in
theorem c_R_reads (l : Launch) (E : m_E) (sz N : Nat) (a_t : Nat) (a_t_images : Nat) (a_t_kept : Nat) (a_t_aside : Nat) (a_t_limbs : Nat) (a_t_wide : Nat) (a_t_hears : Nat) (a_t_spies : Nat) (a_t_known : Nat) (a_t_by : Nat) (a_t_sums : Nat) (a_t_faces : Nat) (a_t_bestFaces : Nat) (a_t_text : Nat) (a_t_verbs : Nat) (a_t_many : Nat) (a_t_nums : Nat) (a_t_book : Nat) (a_t_ways : Nat) (a_t_fewest : Nat) (a_t_heavy : Nat) (t_typed : Int32) (t_at : Int32) (t_start : Int32) (t_token : Int32) (t_value : Int32) (t_items : Int32) (t_book : Nat → Int32) (t_ways : Nat → Int32) (t_fewest : Nat → Int32) (t_heavy : Nat → Int32) (p1 : Int32) (ures : Int32 × (Nat → Int32) × (Nat → Int32) × (Nat → Int32)) (hF : F_R_reads N p1 t_book t_ways t_fewest t_heavy = some ures) : m_Met l yX12_reads cX12_reads 7 (some .int) rm_R_reads E (wd_R_reads E a_t a_t_images a_t_kept a_t_aside a_t_limbs a_t_wide a_t_hears a_t_spies a_t_known a_t_by a_t_sums a_t_faces a_t_bestFaces a_t_text a_t_verbs a_t_many a_t_nums a_t_book a_t_ways a_t_fewest a_t_heavy t_typed t_at t_start t_token t_value t_items t_book t_ways t_fewest t_heavy) (wd_R_reads E a_t a_t_images a_t_kept a_t_aside a_t_limbs a_t_wide a_t_hears a_t_spies a_t_known a_t_by a_t_sums a_t_faces a_t_bestFaces a_t_text a_t_verbs a_t_many a_t_nums a_t_book a_t_ways a_t_fewest a_t_heavy t_typed t_at t_start t_token t_value t_items t_book ures.2.1 ures.2.2.1 ures.2.2.2) sz [.ref a_t, .int p1] (some (.int ures.1)) := by
  refine m_ofI (by decide) (Nat.le_of_ble_eq_true rfl) ?_
  intro p e s m args below meth c A Q ls X hW hA hl hret
  obtain ⟨hx, hb, -, hown, hts, hK, -, hG⟩ := id X
  have hl : lv_has ls 7 [(0, .ref a_t), (1, .int p1)] := hl
  unfold F_R_reads at hF
  refine lv_iload_n hx hb dX12_reads_0 rfl (lv_at hl 1 rfl) ?_
  refine lv_i2l (v := p1.toInt64) hx hb dX12_reads_1 rfl ?_
  refine lv_ldc2 (v := (-1 : Int64)) hx hb hown (hts _ wk_1395) dX12_reads_2 ?_
  refine lv_ldc2 (v := (24 : Int64)) hx hb hown (hts _ wk_1396) dX12_reads_5 ?_
  refine m_callS X hW hA hl.1 lkX12_109 (c_R_in l E _ N   p1.toInt64 (-1 : Int64) (24 : Int64) (F_R_in p1.toInt64 (-1 : Int64) (24 : Int64)) rfl) ([]) (by decide) rfl rfl (ws' := (wd_R_reads E a_t a_t_images a_t_kept a_t_aside a_t_limbs a_t_wide a_t_hears a_t_spies a_t_known a_t_by a_t_sums a_t_faces a_t_bestFaces a_t_text a_t_verbs a_t_many a_t_nums a_t_book a_t_ways a_t_fewest a_t_heavy t_typed t_at t_start t_token t_value t_items t_book t_ways t_fewest t_heavy)) rfl (As := [.long p1.toInt64, .long (-1 : Int64), .long (24 : Int64)]) (rest := []) rfl rfl ⟨rfl, rfl, Nat.le_of_ble_eq_true rfl, Nat.le_of_ble_eq_true rfl⟩ (Nat.le_of_ble_eq_true rfl) (Nat.zero_le _) (Nat.zero_le _) dX12_reads_8 (fun H locs hW => ?_)
  refine lv_if_ne (tgt := 17) hx hb dX12_reads_11 (by decide) (fun c1 => ?_) (fun c1 => ?_)
  · have hF := if_n c1 hF
    refine lv_aload_n hx hb dX12_reads_17 rfl (lv_at hl 0 rfl) ?_
    obtain ⟨t_ways'_2, t_fewest'_2, t_heavy'_2, hC2, hF⟩ := bO_s3 hF
    refine m_callV X hW hA hl.1 lkX12_222 (c_R_readsRow l E _ N a_t a_t_images a_t_kept a_t_aside a_t_limbs a_t_wide a_t_hears a_t_spies a_t_known a_t_by a_t_sums a_t_faces a_t_bestFaces a_t_text a_t_verbs a_t_many a_t_nums a_t_book a_t_ways a_t_fewest a_t_heavy t_typed t_at t_start t_token t_value t_items t_book t_ways t_fewest t_heavy  (t_ways'_2, t_fewest'_2, t_heavy'_2) hC2) ([0, 1, 2, 3, 4]) (by decide) rfl rfl (ws' := (wd_R_reads E a_t a_t_images a_t_kept a_t_aside a_t_limbs a_t_wide a_t_hears a_t_spies a_t_known a_t_by a_t_sums a_t_faces a_t_bestFaces a_t_text a_t_verbs a_t_many a_t_nums a_t_book a_t_ways a_t_fewest a_t_heavy t_typed t_at t_start t_token t_value t_items t_book t_ways'_2 t_fewest'_2 t_heavy'_2)) rfl 0 rfl rfl rfl (As := []) (rest := []) rfl rfl ⟨rfl, rfl, Nat.le_of_ble_eq_true rfl, Nat.le_of_ble_eq_true rfl⟩ (Nat.le_of_ble_eq_true rfl) (Nat.zero_le _) (Nat.zero_le _) dX12_reads_18 (fun H locs hW => ?_)
    clear hC2
    refine lv_iload_n hx hb dX12_reads_21 rfl (lv_at hl 1 rfl) ?_
    refine lv_iconst (v := (-1 : Int32)) hx hb dX12_reads_22 (by decide) ?_
    refine lv_icmp_ne (tgt := 33) hx hb dX12_reads_23 (by decide) (fun c3 => ?_) (fun c3 => ?_)
    · have hF := if_n c3 hF
      refine lv_aload_n hx hb dX12_reads_33 rfl (lv_at hl 0 rfl) ?_
      refine m_get X hW fdX12_44 0 rfl rfl dX12_reads_34 ?_
      refine lv_iconst (v := (0 : Int32)) hx hb dX12_reads_37 (by decide) ?_
      refine m_iald X hW 3 (k := 0) rfl (by decide) rfl dX12_reads_38 ?_
      refine lv_ldc (v := (1000000 : Int32)) hx hb hown (hts _ wk_1312) dX12_reads_39 ?_
      refine lv_icmp_lt (tgt := 47) hx hb dX12_reads_41 (by decide) (fun c4 => ?_) (fun c4 => ?_)
      · have hF := if_y c4 hF
        refine lv_iload_n hx hb dX12_reads_47 rfl (lv_at hl 1 rfl) ?_
        refine lv_bipush (v := (24 : Int32)) hx hb dX12_reads_48 (by decide) ?_
        refine lv_icmp_ne (tgt := 60) hx hb dX12_reads_50 (by decide) (fun c5 => ?_) (fun c5 => ?_)
        · have hF := if_n c5 hF
          refine lv_iconst (v := (0 : Int32)) hx hb dX12_reads_60 (by decide) ?_
          refine lv_istore_n (lv' := [(2, .int (0 : Int32)), (0, .ref a_t), (1, .int p1)]) hx hb dX12_reads_61 rfl hl (by decide) rfl (fun ls hl => ?_)
          refine lv_bipush (v := (-5 : Int32)) hx hb dX12_reads_62 (by decide) ?_
          refine lv_istore_n (lv' := [(3, .int (-5 : Int32)), (2, .int (0 : Int32)), (0, .ref a_t), (1, .int p1)]) hx hb dX12_reads_64 rfl hl (by decide) rfl (fun ls hl => ?_)
          refine lv_iconst (v := (0 : Int32)) hx hb dX12_reads_65 (by decide) ?_
          refine lv_istore (lv' := [(4, .int (0 : Int32)), (3, .int (-5 : Int32)), (2, .int (0 : Int32)), (0, .ref a_t), (1, .int p1)]) hx hb dX12_reads_66 hl (by decide) rfl (fun ls hl => ?_)
          obtain ⟨out11, hX7, hr10, hF⟩ := bT_s1 hF
          have L6 : ∀ (k0 : Nat) (x2 : Int32) (x3 : Int32) (x4 : Int32) (out13 : (Int32 × (Nat → Int32) × (Nat → Int32) × (Nat → Int32)) ⊕ (Int32))  (H : Heap) (locs : List Loc) (ls : Array Slot), R_reads_L68 N p1 t_book t_fewest'_2 t_heavy'_2 t_ways'_2 k0 x2 x3 x4 = some out13 → m_H E A (wd_R_reads E a_t a_t_images a_t_kept a_t_aside a_t_limbs a_t_wide a_t_hears a_t_spies a_t_known a_t_by a_t_sums a_t_faces a_t_bestFaces a_t_text a_t_verbs a_t_many a_t_nums a_t_book a_t_ways a_t_fewest a_t_heavy t_typed t_at t_start t_token t_value t_items t_book t_ways'_2 t_fewest'_2 t_heavy'_2) s.heap H locs → lv_has ls 7 [(4, .int x4), (3, .int x3), (2, .int x2), (0, .ref a_t), (1, .int p1)] → (∀ a, out13 = .inl a → a = ures) → (∀ (x3_4 : Int32) (H : Heap) (locs : List Loc) (ls : Array Slot), out13 = .inr x3_4 → m_H E A (wd_R_reads E a_t a_t_images a_t_kept a_t_aside a_t_limbs a_t_wide a_t_hears a_t_spies a_t_known a_t_by a_t_sums a_t_faces a_t_bestFaces a_t_text a_t_verbs a_t_many a_t_nums a_t_book a_t_ways a_t_fewest a_t_heavy t_typed t_at t_start t_token t_value t_items t_book t_ways'_2 t_fewest'_2 t_heavy'_2) s.heap H locs → lv_has ls 7 [(3, .int x3_4)] → W p l e rm_R_reads s m args below meth c H locs 0 0 Q (F0 m 211 ls [])) → W p l e rm_R_reads s m args below meth c H locs 0 0 Q (F0 m 68 ls []) := by
            clear hF
            intro k0
            induction k0 with
            | zero =>
              intro x2 x3 x4 out13 H locs ls hF
              cases hF
            | succ k0 ih9 =>
              intro x2 x3 x4 out13 H locs ls hF hW hl hr12 hk8
              rw [R_reads_L68] at hF
              refine lv_iload hx hb dX12_reads_68 (lv_at hl 0 rfl) ?_
              refine lv_iload_n hx hb dX12_reads_70 rfl (lv_at hl 4 rfl) ?_
              refine lv_icmp_gt (tgt := 211) hx hb dX12_reads_71 (by decide) (fun c14 => ?_) (fun c14 => ?_)
              · have hF := if_y c14 hF
                exact hk8 x3 _ _ _ (Option.some.inj hF).symm hW (lv_sub hl [1] rfl)
              · have hF := if_n c14 hF
                refine lv_bipush (v := (-5 : Int32)) hx hb dX12_reads_74 (by decide) ?_
                refine lv_istore_n (lv' := [(3, .int (-5 : Int32)), (4, .int x4), (2, .int x2), (0, .ref a_t), (1, .int p1)]) hx hb dX12_reads_76 rfl hl (by decide) rfl (fun ls hl => ?_)
                refine lv_aload_n hx hb dX12_reads_77 rfl (lv_at hl 3 rfl) ?_
                refine m_get X hW fdX12_7 0 rfl rfl dX12_reads_78 ?_
                refine lv_iconst (v := (3 : Int32)) hx hb dX12_reads_81 (by decide) ?_
                refine m_iald X hW 1 (k := 3) rfl (by decide) rfl dX12_reads_82 ?_
                refine lv_iconst (v := (1 : Int32)) hx hb dX12_reads_83 (by decide) ?_
                refine lv_isub hx hb dX12_reads_84 ?_
                refine lv_istore (lv' := [(5, .int ((t_book 3) - (1 : Int32))), (3, .int (-5 : Int32)), (4, .int x4), (2, .int x2), (0, .ref a_t), (1, .int p1)]) hx hb dX12_reads_85 hl (by decide) rfl (fun ls hl => ?_)
                obtain ⟨x3_3, hX16, hF⟩ := bO_s1 hF
                have L15 : ∀ (k0 : Nat) (x3_2 : Int32) (x5 : Int32) (x3_3 : Int32) (H : Heap) (locs : List Loc) (ls : Array Slot), R_reads_L87 N t_book x2 t_fewest'_2 t_heavy'_2 k0 x3_2 x5 = some x3_3 → m_H E A (wd_R_reads E a_t a_t_images a_t_kept a_t_aside a_t_limbs a_t_wide a_t_hears a_t_spies a_t_known a_t_by a_t_sums a_t_faces a_t_bestFaces a_t_text a_t_verbs a_t_many a_t_nums a_t_book a_t_ways a_t_fewest a_t_heavy t_typed t_at t_start t_token t_value t_items t_book t_ways'_2 t_fewest'_2 t_heavy'_2) s.heap H locs → lv_has ls 7 [(5, .int x5), (3, .int x3_2), (4, .int x4), (2, .int x2), (0, .ref a_t), (1, .int p1)] → (∀ (H : Heap) (locs : List Loc) (ls : Array Slot), m_H E A (wd_R_reads E a_t a_t_images a_t_kept a_t_aside a_t_limbs a_t_wide a_t_hears a_t_spies a_t_known a_t_by a_t_sums a_t_faces a_t_bestFaces a_t_text a_t_verbs a_t_many a_t_nums a_t_book a_t_ways a_t_fewest a_t_heavy t_typed t_at t_start t_token t_value t_items t_book t_ways'_2 t_fewest'_2 t_heavy'_2) s.heap H locs → lv_has ls 7 [(3, .int x3_3), (4, .int x4), (2, .int x2), (0, .ref a_t), (1, .int p1)] → W p l e rm_R_reads s m args below meth c H locs 0 0 Q (F0 m 190 ls [])) → W p l e rm_R_reads s m args below meth c H locs 0 0 Q (F0 m 87 ls []) := by
                  clear hF
                  intro k0
                  induction k0 with
                  | zero =>
                    intro x3_2 x5 x3_3 H locs ls hF
                    cases hF
                  | succ k0 ih18 =>
                    intro x3_2 x5 x3_3 H locs ls hF hW hl hk17
                    rw [R_reads_L87] at hF
                    refine lv_iload hx hb dX12_reads_87 (lv_at hl 0 rfl) ?_
                    refine lv_if_lt (tgt := 190) hx hb dX12_reads_89 (by decide) (fun c19 => ?_) (fun c19 => ?_)
                    · have hF := if_y c19 hF
                      cases hF
                      exact hk17 _ _ _ hW (lv_sub hl [1, 2, 3, 4, 5] rfl)
                    · have hF := if_n c19 hF
                      refine lv_iload_n hx hb dX12_reads_92 rfl (lv_at hl 3 rfl) ?_
                      refine lv_aload_n hx hb dX12_reads_93 rfl (lv_at hl 4 rfl) ?_
                      refine m_get X hW fdX12_7 0 rfl rfl dX12_reads_94 ?_
                      refine lv_iconst (v := (4 : Int32)) hx hb dX12_reads_97 (by decide) ?_
                      refine m_iald X hW 1 (k := 4) rfl (by decide) rfl dX12_reads_98 ?_
                      refine lv_icmp_ge (tgt := 190) hx hb dX12_reads_99 (by decide) (fun c20 => ?_) (fun c20 => ?_)
                      · have hF := if_y c20 hF
                        cases hF
                        exact hk17 _ _ _ hW (lv_sub hl [1, 2, 3, 4, 5] rfl)
                      · have hF := if_n c20 hF
                        refine lv_aload_n hx hb dX12_reads_102 rfl (lv_at hl 4 rfl) ?_
                        refine lv_iload hx hb dX12_reads_103 (lv_at hl 0 rfl) ?_
                        refine lv_iload_n hx hb dX12_reads_105 rfl (lv_at hl 3 rfl) ?_
                        obtain ⟨r106, hC21, hF⟩ := bO_s1 hF
                        refine m_callV X hW hA hl.1 lkX12_211 (c_R_isAtRow l E _ N a_t a_t_images a_t_kept a_t_aside a_t_limbs a_t_wide a_t_hears a_t_spies a_t_known a_t_by a_t_ways a_t_fewest a_t_heavy a_t_sums a_t_faces a_t_bestFaces a_t_text a_t_verbs a_t_many a_t_nums a_t_book t_typed t_at t_start t_token t_value t_items t_book x5 x2 r106 hC21) ([0, 1]) (by decide) rfl rfl (ws' := (wd_R_reads E a_t a_t_images a_t_kept a_t_aside a_t_limbs a_t_wide a_t_hears a_t_spies a_t_known a_t_by a_t_sums a_t_faces a_t_bestFaces a_t_text a_t_verbs a_t_many a_t_nums a_t_book a_t_ways a_t_fewest a_t_heavy t_typed t_at t_start t_token t_value t_items t_book t_ways'_2 t_fewest'_2 t_heavy'_2)) rfl 0 rfl rfl rfl (As := [.int x5, .int x2]) (rest := []) rfl rfl ⟨rfl, rfl, Nat.le_of_ble_eq_true rfl, Nat.le_of_ble_eq_true rfl⟩ (Nat.le_of_ble_eq_true rfl) (Nat.zero_le _) (Nat.zero_le _) dX12_reads_106 (fun H locs hW => ?_)
                        clear hC21
                        obtain ⟨y0, hX23, hF⟩ := bO_s1 hF
                        have J22 : ∀ (H : Heap) (locs : List Loc) (ls : Array Slot), m_H E A (wd_R_reads E a_t a_t_images a_t_kept a_t_aside a_t_limbs a_t_wide a_t_hears a_t_spies a_t_known a_t_by a_t_sums a_t_faces a_t_bestFaces a_t_text a_t_verbs a_t_many a_t_nums a_t_book a_t_ways a_t_fewest a_t_heavy t_typed t_at t_start t_token t_value t_items t_book t_ways'_2 t_fewest'_2 t_heavy'_2) s.heap H locs → lv_has ls 7 [(5, .int x5), (3, .int x3_2), (4, .int x4), (2, .int x2), (0, .ref a_t), (1, .int p1)] → W p l e rm_R_reads s m args below meth c H locs 0 0 Q (F0 m 170 ls [.int y0]) := by
                          intro H locs ls hW hl
                          refine lv_istore (lv' := [(6, .int y0), (5, .int x5), (3, .int x3_2), (4, .int x4), (2, .int x2), (0, .ref a_t), (1, .int p1)]) hx hb dX12_reads_170 hl (by decide) rfl (fun ls hl => ?_)
                          refine lv_iload hx hb dX12_reads_172 (lv_at hl 0 rfl) ?_
                          refine lv_if_eq (tgt := 182) hx hb dX12_reads_174 (by decide) (fun c24 => ?_) (fun c24 => ?_)
                          · have hF := if_y c24 hF
                            refine lv_iload_n hx hb dX12_reads_182 rfl (lv_at hl 2 rfl) ?_
                            refine lv_istore_n (lv' := [(3, .int x3_2), (6, .int y0), (5, .int x5), (4, .int x4), (2, .int x2), (0, .ref a_t), (1, .int p1)]) hx hb dX12_reads_183 rfl hl (by decide) rfl (fun ls hl => ?_)
                            refine lv_iinc (v := (x5 + (-1 : Int32))) (lv' := [(5, .int (x5 + (-1 : Int32))), (3, .int x3_2), (6, .int y0), (4, .int x4), (2, .int x2), (0, .ref a_t), (1, .int p1)]) hx hb dX12_reads_184 hl (k := 2) rfl rfl (by decide) rfl (fun ls hl => ?_)
                            refine lv_goto (tgt := 87) hx hb dX12_reads_187 (by decide) ?_
                            exact ih18 x3_2 (x5 + (-1 : Int32)) x3_3 _ _ _ hF hW (lv_sub hl [0, 1, 3, 4, 5, 6] rfl) hk17
                          · have hF := if_n c24 hF
                            refine lv_iload hx hb dX12_reads_177 (lv_at hl 1 rfl) ?_
                            refine lv_goto (tgt := 183) hx hb dX12_reads_179 (by decide) ?_
                            refine lv_istore_n (lv' := [(3, .int x5), (6, .int y0), (5, .int x5), (4, .int x4), (2, .int x2), (0, .ref a_t), (1, .int p1)]) hx hb dX12_reads_183 rfl hl (by decide) rfl (fun ls hl => ?_)
                            refine lv_iinc (v := (x5 + (-1 : Int32))) (lv' := [(5, .int (x5 + (-1 : Int32))), (3, .int x5), (6, .int y0), (4, .int x4), (2, .int x2), (0, .ref a_t), (1, .int p1)]) hx hb dX12_reads_184 hl (k := 2) rfl rfl (by decide) rfl (fun ls hl => ?_)
                            refine lv_goto (tgt := 87) hx hb dX12_reads_187 (by decide) ?_
                            exact ih18 x5 (x5 + (-1 : Int32)) x3_3 _ _ _ hF hW (lv_sub hl [0, 1, 3, 4, 5, 6] rfl) hk17
                        clear hF
                        have hF := hX23
                        clear hX23
                        refine lv_if_eq (tgt := 169) hx hb dX12_reads_109 (by decide) (fun c25 => ?_) (fun c25 => ?_)
                        · have hF := if_y c25 hF
                          refine lv_iconst (v := (0 : Int32)) hx hb dX12_reads_169 (by decide) ?_
                          cases hF
                          exact J22 _ _ _ hW (lv_sub hl [0, 1, 2, 3, 4, 5] rfl)
                        · have hF := if_n c25 hF
                          refine lv_aload_n hx hb dX12_reads_112 rfl (lv_at hl 4 rfl) ?_
                          refine m_get X hW fdX12_44 0 rfl rfl dX12_reads_113 ?_
                          refine lv_iload_n hx hb dX12_reads_116 rfl (lv_at hl 3 rfl) ?_
                          refine lv_aload_n hx hb dX12_reads_117 rfl (lv_at hl 4 rfl) ?_
                          refine lv_iload hx hb dX12_reads_118 (lv_at hl 0 rfl) ?_
                          obtain ⟨r120, hC26, hF⟩ := bO_s1 hF
                          refine m_callV X hW hA hl.1 lkX12_196 (c_R_lengthOf l E _ N a_t a_t_images a_t_kept a_t_aside a_t_limbs a_t_wide a_t_hears a_t_spies a_t_known a_t_by a_t_ways a_t_fewest a_t_heavy a_t_sums a_t_faces a_t_bestFaces a_t_text a_t_verbs a_t_many a_t_nums a_t_book t_typed t_at t_start t_token t_value t_items t_book x5 r120 hC26) ([0, 1]) (by decide) rfl rfl (ws' := (wd_R_reads E a_t a_t_images a_t_kept a_t_aside a_t_limbs a_t_wide a_t_hears a_t_spies a_t_known a_t_by a_t_sums a_t_faces a_t_bestFaces a_t_text a_t_verbs a_t_many a_t_nums a_t_book a_t_ways a_t_fewest a_t_heavy t_typed t_at t_start t_token t_value t_items t_book t_ways'_2 t_fewest'_2 t_heavy'_2)) rfl 0 rfl rfl rfl (As := [.int x5]) (rest := [.int x2, .ref a_t_fewest]) rfl rfl ⟨rfl, rfl, Nat.le_of_ble_eq_true rfl, Nat.le_of_ble_eq_true rfl⟩ (Nat.le_of_ble_eq_true rfl) (Nat.zero_le _) (Nat.zero_le _) dX12_reads_120 (fun H locs hW => ?_)
                          clear hC26
                          refine lv_iadd hx hb dX12_reads_123 ?_
                          obtain ⟨g27, hF⟩ := gd_some hF
                          refine m_iald X hW 3 (k := (x2 + r120).toNatClampNeg) rfl g27 rfl dX12_reads_124 ?_
                          refine lv_iconst (v := (1 : Int32)) hx hb dX12_reads_125 (by decide) ?_
                          refine lv_iadd hx hb dX12_reads_126 ?_
                          refine lv_aload_n hx hb dX12_reads_127 rfl (lv_at hl 4 rfl) ?_
                          refine m_get X hW fdX12_44 0 rfl rfl dX12_reads_128 ?_
                          refine lv_iload_n hx hb dX12_reads_131 rfl (lv_at hl 3 rfl) ?_
                          obtain ⟨g28, hF⟩ := gd_some hF
                          refine m_iald X hW 3 (k := x2.toNatClampNeg) rfl g28 rfl dX12_reads_132 ?_
                          refine lv_icmp_ne (tgt := 169) hx hb dX12_reads_133 (by decide) (fun c29 => ?_) (fun c29 => ?_)
                          · have hF := if_n c29 hF
                            refine lv_iconst (v := (0 : Int32)) hx hb dX12_reads_169 (by decide) ?_
                            cases hF
                            exact J22 _ _ _ hW (lv_sub hl [0, 1, 2, 3, 4, 5] rfl)
                          · have hF := if_y c29 hF
                            refine lv_aload_n hx hb dX12_reads_136 rfl (lv_at hl 4 rfl) ?_
                            refine m_get X hW fdX12_47 0 rfl rfl dX12_reads_137 ?_
                            refine lv_iload_n hx hb dX12_reads_140 rfl (lv_at hl 3 rfl) ?_
                            refine lv_aload_n hx hb dX12_reads_141 rfl (lv_at hl 4 rfl) ?_
                            refine lv_iload hx hb dX12_reads_142 (lv_at hl 0 rfl) ?_
                            obtain ⟨r144, hC30, hF⟩ := bO_s1 hF
                            refine m_callV X hW hA hl.1 lkX12_196 (c_R_lengthOf l E _ N a_t a_t_images a_t_kept a_t_aside a_t_limbs a_t_wide a_t_hears a_t_spies a_t_known a_t_by a_t_ways a_t_fewest a_t_heavy a_t_sums a_t_faces a_t_bestFaces a_t_text a_t_verbs a_t_many a_t_nums a_t_book t_typed t_at t_start t_token t_value t_items t_book x5 r144 hC30) ([0, 1]) (by decide) rfl rfl (ws' := (wd_R_reads E a_t a_t_images a_t_kept a_t_aside a_t_limbs a_t_wide a_t_hears a_t_spies a_t_known a_t_by a_t_sums a_t_faces a_t_bestFaces a_t_text a_t_verbs a_t_many a_t_nums a_t_book a_t_ways a_t_fewest a_t_heavy t_typed t_at t_start t_token t_value t_items t_book t_ways'_2 t_fewest'_2 t_heavy'_2)) rfl 0 rfl rfl rfl (As := [.int x5]) (rest := [.int x2, .ref a_t_heavy]) rfl rfl ⟨rfl, rfl, Nat.le_of_ble_eq_true rfl, Nat.le_of_ble_eq_true rfl⟩ (Nat.le_of_ble_eq_true rfl) (Nat.zero_le _) (Nat.zero_le _) dX12_reads_144 (fun H locs hW => ?_)
                            clear hC30
                            refine lv_iadd hx hb dX12_reads_147 ?_
                            obtain ⟨g31, hF⟩ := gd_some hF
                            refine m_iald X hW 4 (k := (x2 + r144).toNatClampNeg) rfl g31 rfl dX12_reads_148 ?_
                            refine lv_aload_n hx hb dX12_reads_149 rfl (lv_at hl 4 rfl) ?_
                            refine lv_iload hx hb dX12_reads_150 (lv_at hl 0 rfl) ?_
                            obtain ⟨r152, hC32, hF⟩ := bO_s1 hF
                            refine m_callV X hW hA hl.1 lkX12_215 (c_R_weightOf l E _ N a_t a_t_images a_t_kept a_t_aside a_t_limbs a_t_wide a_t_hears a_t_spies a_t_known a_t_by a_t_ways a_t_fewest a_t_heavy a_t_sums a_t_faces a_t_bestFaces a_t_text a_t_verbs a_t_many a_t_nums a_t_book t_typed t_at t_start t_token t_value t_items t_book x5 r152 hC32) ([0, 1]) (by decide) rfl rfl (ws' := (wd_R_reads E a_t a_t_images a_t_kept a_t_aside a_t_limbs a_t_wide a_t_hears a_t_spies a_t_known a_t_by a_t_sums a_t_faces a_t_bestFaces a_t_text a_t_verbs a_t_many a_t_nums a_t_book a_t_ways a_t_fewest a_t_heavy t_typed t_at t_start t_token t_value t_items t_book t_ways'_2 t_fewest'_2 t_heavy'_2)) rfl 0 rfl rfl rfl (As := [.int x5]) (rest := [.int (t_heavy'_2 (x2 + r144).toNatClampNeg)]) rfl rfl ⟨rfl, rfl, Nat.le_of_ble_eq_true rfl, Nat.le_of_ble_eq_true rfl⟩ (Nat.le_of_ble_eq_true rfl) (Nat.zero_le _) (Nat.zero_le _) dX12_reads_152 (fun H locs hW => ?_)
                            clear hC32
                            refine lv_iadd hx hb dX12_reads_155 ?_
                            refine lv_aload_n hx hb dX12_reads_156 rfl (lv_at hl 4 rfl) ?_
                            refine m_get X hW fdX12_47 0 rfl rfl dX12_reads_157 ?_
                            refine lv_iload_n hx hb dX12_reads_160 rfl (lv_at hl 3 rfl) ?_
                            refine m_iald X hW 4 (k := x2.toNatClampNeg) rfl g28 rfl dX12_reads_161 ?_
                            refine lv_icmp_ne (tgt := 169) hx hb dX12_reads_162 (by decide) (fun c33 => ?_) (fun c33 => ?_)
                            · have hF := if_n c33 hF
                              refine lv_iconst (v := (0 : Int32)) hx hb dX12_reads_169 (by decide) ?_
                              cases hF
                              exact J22 _ _ _ hW (lv_sub hl [0, 1, 2, 3, 4, 5] rfl)
                            · have hF := if_y c33 hF
                              refine lv_iconst (v := (1 : Int32)) hx hb dX12_reads_165 (by decide) ?_
                              refine lv_goto (tgt := 170) hx hb dX12_reads_166 (by decide) ?_
                              cases hF
                              exact J22 _ _ _ hW (lv_sub hl [0, 1, 2, 3, 4, 5] rfl)
                refine L15 N (-5 : Int32) ((t_book 3) - (1 : Int32)) x3_3 _ _ _ hX16 hW (lv_sub hl [0, 1, 2, 3, 4, 5] rfl) ?_
                intro H locs ls hW hl
                clear L15
                refine lv_iload_n hx hb dX12_reads_190 rfl (lv_at hl 0 rfl) ?_
                refine lv_if_ge (tgt := 197) hx hb dX12_reads_191 (by decide) (fun c34 => ?_) (fun c34 => ?_)
                · have hF := if_y c34 hF
                  refine lv_iload_n hx hb dX12_reads_197 rfl (lv_at hl 2 rfl) ?_
                  refine lv_aload_n hx hb dX12_reads_198 rfl (lv_at hl 3 rfl) ?_
                  refine lv_iload_n hx hb dX12_reads_199 rfl (lv_at hl 0 rfl) ?_
                  obtain ⟨r200, hC35, hF⟩ := bO_s1 hF
                  refine m_callV X hW hA hl.1 lkX12_196 (c_R_lengthOf l E _ N a_t a_t_images a_t_kept a_t_aside a_t_limbs a_t_wide a_t_hears a_t_spies a_t_known a_t_by a_t_ways a_t_fewest a_t_heavy a_t_sums a_t_faces a_t_bestFaces a_t_text a_t_verbs a_t_many a_t_nums a_t_book t_typed t_at t_start t_token t_value t_items t_book x3_3 r200 hC35) ([0, 1]) (by decide) rfl rfl (ws' := (wd_R_reads E a_t a_t_images a_t_kept a_t_aside a_t_limbs a_t_wide a_t_hears a_t_spies a_t_known a_t_by a_t_sums a_t_faces a_t_bestFaces a_t_text a_t_verbs a_t_many a_t_nums a_t_book a_t_ways a_t_fewest a_t_heavy t_typed t_at t_start t_token t_value t_items t_book t_ways'_2 t_fewest'_2 t_heavy'_2)) rfl 0 rfl rfl rfl (As := [.int x3_3]) (rest := [.int x2]) rfl rfl ⟨rfl, rfl, Nat.le_of_ble_eq_true rfl, Nat.le_of_ble_eq_true rfl⟩ (Nat.le_of_ble_eq_true rfl) (Nat.zero_le _) (Nat.zero_le _) dX12_reads_200 (fun H locs hW => ?_)
                  clear hC35
                  refine lv_iadd hx hb dX12_reads_203 ?_
                  refine lv_istore_n (lv' := [(2, .int (x2 + r200)), (3, .int x3_3), (4, .int x4), (0, .ref a_t), (1, .int p1)]) hx hb dX12_reads_204 rfl hl (by decide) rfl (fun ls hl => ?_)
                  refine lv_iinc (v := (x4 + (1 : Int32))) (lv' := [(4, .int (x4 + (1 : Int32))), (2, .int (x2 + r200)), (3, .int x3_3), (0, .ref a_t), (1, .int p1)]) hx hb dX12_reads_205 hl (k := 2) rfl rfl (by decide) rfl (fun ls hl => ?_)
                  refine lv_goto (tgt := 68) hx hb dX12_reads_208 (by decide) ?_
                  exact ih9 (x2 + r200) x3_3 (x4 + (1 : Int32)) out13 _ _ _ hF hW (lv_sub hl [0, 2, 1, 3, 4] rfl) hr12 hk8
                · have hF := if_n c34 hF
                  refine lv_bipush (v := (-5 : Int32)) hx hb dX12_reads_194 (by decide) ?_
                  have hq := (Option.some.inj hF).symm
                  have hq := hr12 _ hq
                  subst hq
                  exact hret _ _ _ _ hW dX12_reads_196
          refine L6 N (0 : Int32) (-5 : Int32) (0 : Int32) out11 _ _ _ hX7 hW (lv_sub hl [0, 1, 2, 3, 4] rfl) hr10 ?_
          intro x3_4 H locs ls ho hW hl
          have hF := hF x3_4 ho
          clear L6
          refine lv_iload_n hx hb dX12_reads_211 rfl (lv_at hl 0 rfl) ?_
          have hq := Option.some.inj hF
          subst hq
          exact hret _ _ _ _ hW dX12_reads_212
        · have hF := if_y c5 hF
          refine lv_aload_n hx hb dX12_reads_53 rfl (lv_at hl 0 rfl) ?_
          refine m_get X hW fdX12_44 0 rfl rfl dX12_reads_54 ?_
          refine lv_iconst (v := (0 : Int32)) hx hb dX12_reads_57 (by decide) ?_
          refine m_iald X hW 3 (k := 0) rfl (by decide) rfl dX12_reads_58 ?_
          have hq := Option.some.inj hF
          subst hq
          exact hret _ _ _ _ hW dX12_reads_59
      · have hF := if_n c4 hF
        refine lv_bipush (v := (-5 : Int32)) hx hb dX12_reads_44 (by decide) ?_
        have hq := Option.some.inj hF
        subst hq
        exact hret _ _ _ _ hW dX12_reads_46
    · have hF := if_y c3 hF
      refine lv_aload_n hx hb dX12_reads_26 rfl (lv_at hl 0 rfl) ?_
      refine m_get X hW fdX12_41 0 rfl rfl dX12_reads_27 ?_
      refine lv_iconst (v := (0 : Int32)) hx hb dX12_reads_30 (by decide) ?_
      refine m_iald X hW 2 (k := 0) rfl (by decide) rfl dX12_reads_31 ?_
      have hq := Option.some.inj hF
      subst hq
      exact hret _ _ _ _ hW dX12_reads_32
  · have hF := if_y c1 hF
    refine lv_bipush (v := (-10 : Int32)) hx hb dX12_reads_14 (by decide) ?_
    have hq := Option.some.inj hF
    subst hq
    exact hret _ _ _ _ hW dX12_reads_16
abbrev wd_R_allWords (E : m_E) (a_t : Nat) (a_t_images : Nat) (a_t_kept : Nat) (a_t_aside : Nat) (a_t_limbs : Nat) (a_t_wide : Nat) (a_t_hears : Nat) (a_t_spies : Nat) (a_t_known : Nat) (a_t_by : Nat) (a_t_ways : Nat) (a_t_fewest : Nat) (a_t_heavy : Nat) (a_t_sums : Nat) (a_t_faces : Nat) (a_t_bestFaces : Nat) (a_t_text : Nat) (a_t_verbs : Nat) (a_t_many : Nat) (a_t_nums : Nat) (a_t_book : Nat) (t_typed : Int32) (t_at : Int32) (t_start : Int32) (t_token : Int32) (t_value : Int32) (t_items : Int32) (t_book : Nat → Int32) : va_W := [(a_t, .inr (12, [.ref a_t_book, .ref a_t_images, .ref a_t_kept, .ref a_t_aside, .ref a_t_limbs, .ref a_t_wide, .ref a_t_hears, .ref a_t_spies, .ref a_t_known, .ref a_t_by, .ref a_t_ways, .ref a_t_fewest, .ref a_t_heavy, .ref a_t_sums, .ref a_t_faces, .ref a_t_bestFaces, .ref a_t_text, .int t_typed, .int t_at, .int t_start, .int t_token, .int t_value, .ref a_t_verbs, .ref a_t_many, .ref a_t_nums, .int t_items])), (a_t_book, .inl (E.2.1 0, 240, .inl t_book))]
def rm_R_allWords : Room := { frames := 0, cells := 0, slots := 0, locals := 0 }
set_option maxHeartbeats 4000000 in
set_option maxRecDepth 100000 in
theorem c_R_allWords (l : Launch) (E : m_E) (sz N : Nat) (a_t : Nat) (a_t_images : Nat) (a_t_kept : Nat) (a_t_aside : Nat) (a_t_limbs : Nat) (a_t_wide : Nat) (a_t_hears : Nat) (a_t_spies : Nat) (a_t_known : Nat) (a_t_by : Nat) (a_t_ways : Nat) (a_t_fewest : Nat) (a_t_heavy : Nat) (a_t_sums : Nat) (a_t_faces : Nat) (a_t_bestFaces : Nat) (a_t_text : Nat) (a_t_verbs : Nat) (a_t_many : Nat) (a_t_nums : Nat) (a_t_book : Nat) (t_typed : Int32) (t_at : Int32) (t_start : Int32) (t_token : Int32) (t_value : Int32) (t_items : Int32) (t_book : Nat → Int32)  (ures : Int32) (hF : F_R_allWords t_book = ures) : m_Met l yX12_allWords cX12_allWords 1 (some .int) rm_R_allWords E (wd_R_allWords E a_t a_t_images a_t_kept a_t_aside a_t_limbs a_t_wide a_t_hears a_t_spies a_t_known a_t_by a_t_ways a_t_fewest a_t_heavy a_t_sums a_t_faces a_t_bestFaces a_t_text a_t_verbs a_t_many a_t_nums a_t_book t_typed t_at t_start t_token t_value t_items t_book) (wd_R_allWords E a_t a_t_images a_t_kept a_t_aside a_t_limbs a_t_wide a_t_hears a_t_spies a_t_known a_t_by a_t_ways a_t_fewest a_t_heavy a_t_sums a_t_faces a_t_bestFaces a_t_text a_t_verbs a_t_many a_t_nums a_t_book t_typed t_at t_start t_token t_value t_items t_book) sz [.ref a_t] (some (.int ures)) := by
  refine m_ofI (by decide) (Nat.le_of_ble_eq_true rfl) ?_
  intro p e s m args below meth c A Q ls X hW hA hl hret
  obtain ⟨hx, hb, -, hown, hts, hK, -, hG⟩ := id X
  have hl : lv_has ls 1 [(0, .ref a_t)] := hl
  unfold F_R_allWords at hF
  refine lv_iconst (v := (1 : Int32)) hx hb dX12_allWords_0 (by decide) ?_
  refine lv_aload_n hx hb dX12_allWords_1 rfl (lv_at hl 0 rfl) ?_
  refine m_get X hW fdX12_7 0 rfl rfl dX12_allWords_2 ?_
  refine lv_iconst (v := (3 : Int32)) hx hb dX12_allWords_5 (by decide) ?_
  refine m_iald X hW 1 (k := 3) rfl (by decide) rfl dX12_allWords_6 ?_
  refine m_ishl hx hb dX12_allWords_7 ?_
  refine lv_iconst (v := (1 : Int32)) hx hb dX12_allWords_8 (by decide) ?_
  refine lv_isub hx hb dX12_allWords_9 ?_
  have hq := hF
  subst hq
  exact hret _ _ _ _ hW dX12_allWords_10
abbrev wd_R_mistakes (E : m_E) (a_t : Nat) (a_t_images : Nat) (a_t_kept : Nat) (a_t_aside : Nat) (a_t_limbs : Nat) (a_t_wide : Nat) (a_t_hears : Nat) (a_t_spies : Nat) (a_t_known : Nat) (a_t_by : Nat) (a_t_ways : Nat) (a_t_fewest : Nat) (a_t_heavy : Nat) (a_t_sums : Nat) (a_t_faces : Nat) (a_t_bestFaces : Nat) (a_t_text : Nat) (a_t_verbs : Nat) (a_t_many : Nat) (a_t_nums : Nat) (a_t_book : Nat) (t_typed : Int32) (t_at : Int32) (t_start : Int32) (t_token : Int32) (t_value : Int32) (t_items : Int32) (t_book : Nat → Int32) : va_W := [(a_t, .inr (12, [.ref a_t_book, .ref a_t_images, .ref a_t_kept, .ref a_t_aside, .ref a_t_limbs, .ref a_t_wide, .ref a_t_hears, .ref a_t_spies, .ref a_t_known, .ref a_t_by, .ref a_t_ways, .ref a_t_fewest, .ref a_t_heavy, .ref a_t_sums, .ref a_t_faces, .ref a_t_bestFaces, .ref a_t_text, .int t_typed, .int t_at, .int t_start, .int t_token, .int t_value, .ref a_t_verbs, .ref a_t_many, .ref a_t_nums, .int t_items])), (a_t_book, .inl (E.2.1 0, 240, .inl t_book))]
def rm_R_mistakes : Room := { frames := 4, cells := 0, slots := 0, locals := 90 }
set_option maxHeartbeats 4000000 in
set_option maxRecDepth 100000 in
theorem c_R_mistakes (l : Launch) (E : m_E) (sz N : Nat) (a_t : Nat) (a_t_images : Nat) (a_t_kept : Nat) (a_t_aside : Nat) (a_t_limbs : Nat) (a_t_wide : Nat) (a_t_hears : Nat) (a_t_spies : Nat) (a_t_known : Nat) (a_t_by : Nat) (a_t_ways : Nat) (a_t_fewest : Nat) (a_t_heavy : Nat) (a_t_sums : Nat) (a_t_faces : Nat) (a_t_bestFaces : Nat) (a_t_text : Nat) (a_t_verbs : Nat) (a_t_many : Nat) (a_t_nums : Nat) (a_t_book : Nat) (t_typed : Int32) (t_at : Int32) (t_start : Int32) (t_token : Int32) (t_value : Int32) (t_items : Int32) (t_book : Nat → Int32) (p1 : Int32) (ures : Int32) (hF : F_R_mistakes N p1 t_book = some ures) : m_Met l yX12_mistakes cX12_mistakes 6 (some .int) rm_R_mistakes E (wd_R_mistakes E a_t a_t_images a_t_kept a_t_aside a_t_limbs a_t_wide a_t_hears a_t_spies a_t_known a_t_by a_t_ways a_t_fewest a_t_heavy a_t_sums a_t_faces a_t_bestFaces a_t_text a_t_verbs a_t_many a_t_nums a_t_book t_typed t_at t_start t_token t_value t_items t_book) (wd_R_mistakes E a_t a_t_images a_t_kept a_t_aside a_t_limbs a_t_wide a_t_hears a_t_spies a_t_known a_t_by a_t_ways a_t_fewest a_t_heavy a_t_sums a_t_faces a_t_bestFaces a_t_text a_t_verbs a_t_many a_t_nums a_t_book t_typed t_at t_start t_token t_value t_items t_book) sz [.ref a_t, .int p1] (some (.int ures)) := by
  refine m_ofI (by decide) (Nat.le_of_ble_eq_true rfl) ?_
  intro p e s m args below meth c A Q ls X hW hA hl hret
  obtain ⟨hx, hb, -, hown, hts, hK, -, hG⟩ := id X
  have hl : lv_has ls 6 [(0, .ref a_t), (1, .int p1)] := hl
  unfold F_R_mistakes at hF
  refine lv_iconst (v := (0 : Int32)) hx hb dX12_mistakes_0 (by decide) ?_
  refine lv_istore_n (lv' := [(2, .int (0 : Int32)), (0, .ref a_t), (1, .int p1)]) hx hb dX12_mistakes_1 rfl hl (by decide) rfl (fun ls hl => ?_)
  refine lv_iconst (v := (0 : Int32)) hx hb dX12_mistakes_2 (by decide) ?_
  refine lv_istore_n (lv' := [(3, .int (0 : Int32)), (2, .int (0 : Int32)), (0, .ref a_t), (1, .int p1)]) hx hb dX12_mistakes_3 rfl hl (by decide) rfl (fun ls hl => ?_)
  obtain ⟨x2_4, hX2, hF⟩ := bO_s1 hF
  have L1 : ∀ (k0 : Nat) (x2 : Int32) (x3 : Int32) (x2_4 : Int32) (H : Heap) (locs : List Loc) (ls : Array Slot), R_mistakes_L4 N t_book p1 k0 x2 x3 = some x2_4 → m_H E A (wd_R_mistakes E a_t a_t_images a_t_kept a_t_aside a_t_limbs a_t_wide a_t_hears a_t_spies a_t_known a_t_by a_t_ways a_t_fewest a_t_heavy a_t_sums a_t_faces a_t_bestFaces a_t_text a_t_verbs a_t_many a_t_nums a_t_book t_typed t_at t_start t_token t_value t_items t_book) s.heap H locs → lv_has ls 6 [(3, .int x3), (2, .int x2), (0, .ref a_t), (1, .int p1)] → (∀ (H : Heap) (locs : List Loc) (ls : Array Slot), m_H E A (wd_R_mistakes E a_t a_t_images a_t_kept a_t_aside a_t_limbs a_t_wide a_t_hears a_t_spies a_t_known a_t_by a_t_ways a_t_fewest a_t_heavy a_t_sums a_t_faces a_t_bestFaces a_t_text a_t_verbs a_t_many a_t_nums a_t_book t_typed t_at t_start t_token t_value t_items t_book) s.heap H locs → lv_has ls 6 [(2, .int x2_4)] → W p l e rm_R_mistakes s m args below meth c H locs 0 0 Q (F0 m 93 ls [])) → W p l e rm_R_mistakes s m args below meth c H locs 0 0 Q (F0 m 4 ls []) := by
    clear hF
    intro k0
    induction k0 with
    | zero =>
      intro x2 x3 x2_4 H locs ls hF
      cases hF
    | succ k0 ih4 =>
      intro x2 x3 x2_4 H locs ls hF hW hl hk3
      rw [R_mistakes_L4] at hF
      refine lv_iload_n hx hb dX12_mistakes_4 rfl (lv_at hl 0 rfl) ?_
      refine lv_aload_n hx hb dX12_mistakes_5 rfl (lv_at hl 2 rfl) ?_
      refine m_get X hW fdX12_7 0 rfl rfl dX12_mistakes_6 ?_
      refine lv_iconst (v := (3 : Int32)) hx hb dX12_mistakes_9 (by decide) ?_
      refine m_iald X hW 1 (k := 3) rfl (by decide) rfl dX12_mistakes_10 ?_
      refine lv_icmp_ge (tgt := 93) hx hb dX12_mistakes_11 (by decide) (fun c5 => ?_) (fun c5 => ?_)
      · have hF := if_y c5 hF
        cases hF
        exact hk3 _ _ _ hW (lv_sub hl [1] rfl)
      · have hF := if_n c5 hF
        refine lv_iconst (v := (0 : Int32)) hx hb dX12_mistakes_14 (by decide) ?_
        refine lv_istore (lv' := [(4, .int (0 : Int32)), (3, .int x3), (2, .int x2), (0, .ref a_t), (1, .int p1)]) hx hb dX12_mistakes_15 hl (by decide) rfl (fun ls hl => ?_)
        obtain ⟨x2_3, hX7, hF⟩ := bO_s1 hF
        have L6 : ∀ (k0 : Nat) (x2_2 : Int32) (x4 : Int32) (x2_3 : Int32) (H : Heap) (locs : List Loc) (ls : Array Slot), R_mistakes_L17 N x3 p1 t_book k0 x2_2 x4 = some x2_3 → m_H E A (wd_R_mistakes E a_t a_t_images a_t_kept a_t_aside a_t_limbs a_t_wide a_t_hears a_t_spies a_t_known a_t_by a_t_ways a_t_fewest a_t_heavy a_t_sums a_t_faces a_t_bestFaces a_t_text a_t_verbs a_t_many a_t_nums a_t_book t_typed t_at t_start t_token t_value t_items t_book) s.heap H locs → lv_has ls 6 [(4, .int x4), (3, .int x3), (2, .int x2_2), (0, .ref a_t), (1, .int p1)] → (∀ (H : Heap) (locs : List Loc) (ls : Array Slot), m_H E A (wd_R_mistakes E a_t a_t_images a_t_kept a_t_aside a_t_limbs a_t_wide a_t_hears a_t_spies a_t_known a_t_by a_t_ways a_t_fewest a_t_heavy a_t_sums a_t_faces a_t_bestFaces a_t_text a_t_verbs a_t_many a_t_nums a_t_book t_typed t_at t_start t_token t_value t_items t_book) s.heap H locs → lv_has ls 6 [(3, .int x3), (2, .int x2_3), (0, .ref a_t), (1, .int p1)] → W p l e rm_R_mistakes s m args below meth c H locs 0 0 Q (F0 m 87 ls [])) → W p l e rm_R_mistakes s m args below meth c H locs 0 0 Q (F0 m 17 ls []) := by
          clear hF
          intro k0
          induction k0 with
          | zero =>
            intro x2_2 x4 x2_3 H locs ls hF
            cases hF
          | succ k0 ih9 =>
            intro x2_2 x4 x2_3 H locs ls hF hW hl hk8
            rw [R_mistakes_L17] at hF
            refine lv_iload hx hb dX12_mistakes_17 (lv_at hl 0 rfl) ?_
            refine lv_iload_n hx hb dX12_mistakes_19 rfl (lv_at hl 1 rfl) ?_
            refine lv_icmp_ge (tgt := 87) hx hb dX12_mistakes_20 (by decide) (fun c10 => ?_) (fun c10 => ?_)
            · have hF := if_y c10 hF
              cases hF
              exact hk8 _ _ _ hW (lv_sub hl [1, 2, 3, 4] rfl)
            · have hF := if_n c10 hF
              refine lv_iload_n hx hb dX12_mistakes_23 rfl (lv_at hl 4 rfl) ?_
              refine lv_iload_n hx hb dX12_mistakes_24 rfl (lv_at hl 1 rfl) ?_
              refine m_ishr hx hb dX12_mistakes_25 ?_
              refine lv_iconst (v := (1 : Int32)) hx hb dX12_mistakes_26 (by decide) ?_
              refine lv_iand hx hb dX12_mistakes_27 ?_
              obtain ⟨y0, hX12, hF⟩ := bO_s1 hF
              have J11 : ∀ (H : Heap) (locs : List Loc) (ls : Array Slot), m_H E A (wd_R_mistakes E a_t a_t_images a_t_kept a_t_aside a_t_limbs a_t_wide a_t_hears a_t_spies a_t_known a_t_by a_t_ways a_t_fewest a_t_heavy a_t_sums a_t_faces a_t_bestFaces a_t_text a_t_verbs a_t_many a_t_nums a_t_book t_typed t_at t_start t_token t_value t_items t_book) s.heap H locs → lv_has ls 6 [(4, .int x4), (3, .int x3), (2, .int x2_2), (0, .ref a_t), (1, .int p1)] → W p l e rm_R_mistakes s m args below meth c H locs 0 0 Q (F0 m 45 ls [.int y0]) := by
                intro H locs ls hW hl
                refine lv_istore (lv' := [(5, .int y0), (4, .int x4), (3, .int x3), (2, .int x2_2), (0, .ref a_t), (1, .int p1)]) hx hb dX12_mistakes_45 hl (by decide) rfl (fun ls hl => ?_)
                refine lv_iload_n hx hb dX12_mistakes_47 rfl (lv_at hl 3 rfl) ?_
                refine lv_iload hx hb dX12_mistakes_48 (lv_at hl 0 rfl) ?_
                refine lv_if_eq (tgt := 78) hx hb dX12_mistakes_50 (by decide) (fun c13 => ?_) (fun c13 => ?_)
                · have hF := if_y c13 hF
                  refine lv_iconst (v := (0 : Int32)) hx hb dX12_mistakes_78 (by decide) ?_
                  refine lv_iadd hx hb dX12_mistakes_79 ?_
                  refine lv_istore_n (lv' := [(2, .int (x2_2 + (0 : Int32))), (5, .int y0), (4, .int x4), (3, .int x3), (0, .ref a_t), (1, .int p1)]) hx hb dX12_mistakes_80 rfl hl (by decide) rfl (fun ls hl => ?_)
                  refine lv_iinc (v := (x4 + (1 : Int32))) (lv' := [(4, .int (x4 + (1 : Int32))), (2, .int (x2_2 + (0 : Int32))), (5, .int y0), (3, .int x3), (0, .ref a_t), (1, .int p1)]) hx hb dX12_mistakes_81 hl (k := 2) rfl rfl (by decide) rfl (fun ls hl => ?_)
                  refine lv_goto (tgt := 17) hx hb dX12_mistakes_84 (by decide) ?_
                  exact ih9 (x2_2 + (0 : Int32)) (x4 + (1 : Int32)) x2_3 _ _ _ hF hW (lv_sub hl [0, 3, 1, 4, 5] rfl) hk8
                · have hF := if_n c13 hF
                  refine lv_aload_n hx hb dX12_mistakes_53 rfl (lv_at hl 4 rfl) ?_
                  refine lv_iload_n hx hb dX12_mistakes_54 rfl (lv_at hl 2 rfl) ?_
                  refine lv_iload hx hb dX12_mistakes_55 (lv_at hl 1 rfl) ?_
                  obtain ⟨r57, hC14, hF⟩ := bO_s1 hF
                  refine m_callV X hW hA hl.1 lkX12_208 (c_R_areAlike l E _ N a_t a_t_images a_t_kept a_t_aside a_t_limbs a_t_wide a_t_hears a_t_spies a_t_known a_t_by a_t_ways a_t_fewest a_t_heavy a_t_sums a_t_faces a_t_bestFaces a_t_text a_t_verbs a_t_many a_t_nums a_t_book t_typed t_at t_start t_token t_value t_items t_book x3 x4 r57 hC14) ([0, 1]) (by decide) rfl rfl (ws' := (wd_R_mistakes E a_t a_t_images a_t_kept a_t_aside a_t_limbs a_t_wide a_t_hears a_t_spies a_t_known a_t_by a_t_ways a_t_fewest a_t_heavy a_t_sums a_t_faces a_t_bestFaces a_t_text a_t_verbs a_t_many a_t_nums a_t_book t_typed t_at t_start t_token t_value t_items t_book)) rfl 0 rfl rfl rfl (As := [.int x3, .int x4]) (rest := [.int x2_2]) rfl rfl ⟨rfl, rfl, Nat.le_of_ble_eq_true rfl, Nat.le_of_ble_eq_true rfl⟩ (Nat.le_of_ble_eq_true rfl) (Nat.zero_le _) (Nat.zero_le _) dX12_mistakes_57 (fun H locs hW => ?_)
                  clear hC14
                  refine lv_if_eq (tgt := 78) hx hb dX12_mistakes_60 (by decide) (fun c15 => ?_) (fun c15 => ?_)
                  · have hF := if_y c15 hF
                    refine lv_iconst (v := (0 : Int32)) hx hb dX12_mistakes_78 (by decide) ?_
                    refine lv_iadd hx hb dX12_mistakes_79 ?_
                    refine lv_istore_n (lv' := [(2, .int (x2_2 + (0 : Int32))), (5, .int y0), (4, .int x4), (3, .int x3), (0, .ref a_t), (1, .int p1)]) hx hb dX12_mistakes_80 rfl hl (by decide) rfl (fun ls hl => ?_)
                    refine lv_iinc (v := (x4 + (1 : Int32))) (lv' := [(4, .int (x4 + (1 : Int32))), (2, .int (x2_2 + (0 : Int32))), (5, .int y0), (3, .int x3), (0, .ref a_t), (1, .int p1)]) hx hb dX12_mistakes_81 hl (k := 2) rfl rfl (by decide) rfl (fun ls hl => ?_)
                    refine lv_goto (tgt := 17) hx hb dX12_mistakes_84 (by decide) ?_
                    exact ih9 (x2_2 + (0 : Int32)) (x4 + (1 : Int32)) x2_3 _ _ _ hF hW (lv_sub hl [0, 3, 1, 4, 5] rfl) hk8
                  · have hF := if_n c15 hF
                    refine lv_aload_n hx hb dX12_mistakes_63 rfl (lv_at hl 4 rfl) ?_
                    refine lv_iload_n hx hb dX12_mistakes_64 rfl (lv_at hl 2 rfl) ?_
                    obtain ⟨r65, hC16, hF⟩ := bO_s1 hF
                    refine m_callV X hW hA hl.1 lkX12_215 (c_R_weightOf l E _ N a_t a_t_images a_t_kept a_t_aside a_t_limbs a_t_wide a_t_hears a_t_spies a_t_known a_t_by a_t_ways a_t_fewest a_t_heavy a_t_sums a_t_faces a_t_bestFaces a_t_text a_t_verbs a_t_many a_t_nums a_t_book t_typed t_at t_start t_token t_value t_items t_book x3 r65 hC16) ([0, 1]) (by decide) rfl rfl (ws' := (wd_R_mistakes E a_t a_t_images a_t_kept a_t_aside a_t_limbs a_t_wide a_t_hears a_t_spies a_t_known a_t_by a_t_ways a_t_fewest a_t_heavy a_t_sums a_t_faces a_t_bestFaces a_t_text a_t_verbs a_t_many a_t_nums a_t_book t_typed t_at t_start t_token t_value t_items t_book)) rfl 0 rfl rfl rfl (As := [.int x3]) (rest := [.int x2_2]) rfl rfl ⟨rfl, rfl, Nat.le_of_ble_eq_true rfl, Nat.le_of_ble_eq_true rfl⟩ (Nat.le_of_ble_eq_true rfl) (Nat.zero_le _) (Nat.zero_le _) dX12_mistakes_65 (fun H locs hW => ?_)
                    clear hC16
                    refine lv_aload_n hx hb dX12_mistakes_68 rfl (lv_at hl 4 rfl) ?_
                    refine lv_iload hx hb dX12_mistakes_69 (lv_at hl 1 rfl) ?_
                    obtain ⟨r71, hC17, hF⟩ := bO_s1 hF
                    refine m_callV X hW hA hl.1 lkX12_215 (c_R_weightOf l E _ N a_t a_t_images a_t_kept a_t_aside a_t_limbs a_t_wide a_t_hears a_t_spies a_t_known a_t_by a_t_ways a_t_fewest a_t_heavy a_t_sums a_t_faces a_t_bestFaces a_t_text a_t_verbs a_t_many a_t_nums a_t_book t_typed t_at t_start t_token t_value t_items t_book x4 r71 hC17) ([0, 1]) (by decide) rfl rfl (ws' := (wd_R_mistakes E a_t a_t_images a_t_kept a_t_aside a_t_limbs a_t_wide a_t_hears a_t_spies a_t_known a_t_by a_t_ways a_t_fewest a_t_heavy a_t_sums a_t_faces a_t_bestFaces a_t_text a_t_verbs a_t_many a_t_nums a_t_book t_typed t_at t_start t_token t_value t_items t_book)) rfl 0 rfl rfl rfl (As := [.int x4]) (rest := [.int r65, .int x2_2]) rfl rfl ⟨rfl, rfl, Nat.le_of_ble_eq_true rfl, Nat.le_of_ble_eq_true rfl⟩ (Nat.le_of_ble_eq_true rfl) (Nat.zero_le _) (Nat.zero_le _) dX12_mistakes_71 (fun H locs hW => ?_)
                    clear hC17
                    refine lv_imul hx hb dX12_mistakes_74 ?_
                    refine lv_goto (tgt := 79) hx hb dX12_mistakes_75 (by decide) ?_
                    refine lv_iadd hx hb dX12_mistakes_79 ?_
                    refine lv_istore_n (lv' := [(2, .int (x2_2 + (r65 * r71))), (5, .int y0), (4, .int x4), (3, .int x3), (0, .ref a_t), (1, .int p1)]) hx hb dX12_mistakes_80 rfl hl (by decide) rfl (fun ls hl => ?_)
                    refine lv_iinc (v := (x4 + (1 : Int32))) (lv' := [(4, .int (x4 + (1 : Int32))), (2, .int (x2_2 + (r65 * r71))), (5, .int y0), (3, .int x3), (0, .ref a_t), (1, .int p1)]) hx hb dX12_mistakes_81 hl (k := 2) rfl rfl (by decide) rfl (fun ls hl => ?_)
                    refine lv_goto (tgt := 17) hx hb dX12_mistakes_84 (by decide) ?_
                    exact ih9 (x2_2 + (r65 * r71)) (x4 + (1 : Int32)) x2_3 _ _ _ hF hW (lv_sub hl [0, 3, 1, 4, 5] rfl) hk8
              clear hF
              have hF := hX12
              clear hX12
              refine lv_if_ne (tgt := 44) hx hb dX12_mistakes_28 (by decide) (fun c18 => ?_) (fun c18 => ?_)
              · have hF := if_n c18 hF
                refine lv_iconst (v := (0 : Int32)) hx hb dX12_mistakes_44 (by decide) ?_
                cases hF
                exact J11 _ _ _ hW (lv_sub hl [0, 1, 2, 3, 4] rfl)
              · have hF := if_y c18 hF
                refine lv_iload_n hx hb dX12_mistakes_31 rfl (lv_at hl 4 rfl) ?_
                refine lv_iload hx hb dX12_mistakes_32 (lv_at hl 0 rfl) ?_
                refine m_ishr hx hb dX12_mistakes_34 ?_
                refine lv_iconst (v := (1 : Int32)) hx hb dX12_mistakes_35 (by decide) ?_
                refine lv_iand hx hb dX12_mistakes_36 ?_
                refine lv_if_ne (tgt := 44) hx hb dX12_mistakes_37 (by decide) (fun c19 => ?_) (fun c19 => ?_)
                · have hF := if_n c19 hF
                  refine lv_iconst (v := (0 : Int32)) hx hb dX12_mistakes_44 (by decide) ?_
                  cases hF
                  exact J11 _ _ _ hW (lv_sub hl [0, 1, 2, 3, 4] rfl)
                · have hF := if_y c19 hF
                  refine lv_iconst (v := (1 : Int32)) hx hb dX12_mistakes_40 (by decide) ?_
                  refine lv_goto (tgt := 45) hx hb dX12_mistakes_41 (by decide) ?_
                  cases hF
                  exact J11 _ _ _ hW (lv_sub hl [0, 1, 2, 3, 4] rfl)
        refine L6 N x2 (0 : Int32) x2_3 _ _ _ hX7 hW (lv_sub hl [0, 1, 2, 3, 4] rfl) ?_
        intro H locs ls hW hl
        clear L6
        refine lv_iinc (v := (x3 + (1 : Int32))) (lv' := [(3, .int (x3 + (1 : Int32))), (2, .int x2_3), (0, .ref a_t), (1, .int p1)]) hx hb dX12_mistakes_87 hl (k := 0) rfl rfl (by decide) rfl (fun ls hl => ?_)
        refine lv_goto (tgt := 4) hx hb dX12_mistakes_90 (by decide) ?_
        exact ih4 x2_3 (x3 + (1 : Int32)) x2_4 _ _ _ hF hW (lv_sub hl [0, 1, 2, 3] rfl) hk3
  refine L1 N (0 : Int32) (0 : Int32) x2_4 _ _ _ hX2 hW (lv_sub hl [0, 1, 2, 3] rfl) ?_
  intro H locs ls hW hl
  clear L1
  refine lv_iload_n hx hb dX12_mistakes_93 rfl (lv_at hl 0 rfl) ?_
  have hq := Option.some.inj hF
  subst hq
  exact hret _ _ _ _ hW dX12_mistakes_94
abbrev wd_R_mistaken (E : m_E) (a_t : Nat) (a_t_images : Nat) (a_t_kept : Nat) (a_t_aside : Nat) (a_t_limbs : Nat) (a_t_wide : Nat) (a_t_hears : Nat) (a_t_spies : Nat) (a_t_known : Nat) (a_t_by : Nat) (a_t_ways : Nat) (a_t_fewest : Nat) (a_t_heavy : Nat) (a_t_sums : Nat) (a_t_faces : Nat) (a_t_bestFaces : Nat) (a_t_text : Nat) (a_t_verbs : Nat) (a_t_many : Nat) (a_t_nums : Nat) (a_t_book : Nat) (t_typed : Int32) (t_at : Int32) (t_start : Int32) (t_token : Int32) (t_value : Int32) (t_items : Int32) (t_book : Nat → Int32) : va_W := [(a_t, .inr (12, [.ref a_t_book, .ref a_t_images, .ref a_t_kept, .ref a_t_aside, .ref a_t_limbs, .ref a_t_wide, .ref a_t_hears, .ref a_t_spies, .ref a_t_known, .ref a_t_by, .ref a_t_ways, .ref a_t_fewest, .ref a_t_heavy, .ref a_t_sums, .ref a_t_faces, .ref a_t_bestFaces, .ref a_t_text, .int t_typed, .int t_at, .int t_start, .int t_token, .int t_value, .ref a_t_verbs, .ref a_t_many, .ref a_t_nums, .int t_items])), (a_t_book, .inl (E.2.1 0, 240, .inl t_book))]
def rm_R_mistaken : Room := { frames := 5, cells := 0, slots := 0, locals := 115 }
set_option maxHeartbeats 4000000 in
set_option maxRecDepth 100000 in
theorem c_R_mistaken (l : Launch) (E : m_E) (sz N : Nat) (a_t : Nat) (a_t_images : Nat) (a_t_kept : Nat) (a_t_aside : Nat) (a_t_limbs : Nat) (a_t_wide : Nat) (a_t_hears : Nat) (a_t_spies : Nat) (a_t_known : Nat) (a_t_by : Nat) (a_t_ways : Nat) (a_t_fewest : Nat) (a_t_heavy : Nat) (a_t_sums : Nat) (a_t_faces : Nat) (a_t_bestFaces : Nat) (a_t_text : Nat) (a_t_verbs : Nat) (a_t_many : Nat) (a_t_nums : Nat) (a_t_book : Nat) (t_typed : Int32) (t_at : Int32) (t_start : Int32) (t_token : Int32) (t_value : Int32) (t_items : Int32) (t_book : Nat → Int32) (p1 : Int32) (ures : Int32) (hF : F_R_mistaken N p1 t_book = some ures) : m_Met l yX12_mistaken cX12_mistaken 2 (some .int) rm_R_mistaken E (wd_R_mistaken E a_t a_t_images a_t_kept a_t_aside a_t_limbs a_t_wide a_t_hears a_t_spies a_t_known a_t_by a_t_ways a_t_fewest a_t_heavy a_t_sums a_t_faces a_t_bestFaces a_t_text a_t_verbs a_t_many a_t_nums a_t_book t_typed t_at t_start t_token t_value t_items t_book) (wd_R_mistaken E a_t a_t_images a_t_kept a_t_aside a_t_limbs a_t_wide a_t_hears a_t_spies a_t_known a_t_by a_t_ways a_t_fewest a_t_heavy a_t_sums a_t_faces a_t_bestFaces a_t_text a_t_verbs a_t_many a_t_nums a_t_book t_typed t_at t_start t_token t_value t_items t_book) sz [.ref a_t, .int p1] (some (.int ures)) := by
  refine m_ofI (by decide) (Nat.le_of_ble_eq_true rfl) ?_
  intro p e s m args below meth c A Q ls X hW hA hl hret
  obtain ⟨hx, hb, -, hown, hts, hK, -, hG⟩ := id X
  have hl : lv_has ls 2 [(0, .ref a_t), (1, .int p1)] := hl
  unfold F_R_mistaken at hF
  refine lv_iload_n hx hb dX12_mistaken_0 rfl (lv_at hl 1 rfl) ?_
  refine lv_i2l (v := p1.toInt64) hx hb dX12_mistaken_1 rfl ?_
  refine lv_lconst (v := (0 : Int64)) hx hb dX12_mistaken_2 (by decide) ?_
  refine lv_aload_n hx hb dX12_mistaken_3 rfl (lv_at hl 0 rfl) ?_
  refine m_callV X hW hA hl.1 lkX12_225 (c_R_allWords l E _ N a_t a_t_images a_t_kept a_t_aside a_t_limbs a_t_wide a_t_hears a_t_spies a_t_known a_t_by a_t_ways a_t_fewest a_t_heavy a_t_sums a_t_faces a_t_bestFaces a_t_text a_t_verbs a_t_many a_t_nums a_t_book t_typed t_at t_start t_token t_value t_items t_book  (F_R_allWords t_book) rfl) ([0, 1]) (by decide) rfl rfl (ws' := (wd_R_mistaken E a_t a_t_images a_t_kept a_t_aside a_t_limbs a_t_wide a_t_hears a_t_spies a_t_known a_t_by a_t_ways a_t_fewest a_t_heavy a_t_sums a_t_faces a_t_bestFaces a_t_text a_t_verbs a_t_many a_t_nums a_t_book t_typed t_at t_start t_token t_value t_items t_book)) rfl 0 rfl rfl rfl (As := []) (rest := [.long (0 : Int64), .long p1.toInt64]) rfl rfl ⟨rfl, rfl, Nat.le_of_ble_eq_true rfl, Nat.le_of_ble_eq_true rfl⟩ (Nat.le_of_ble_eq_true rfl) (Nat.zero_le _) (Nat.zero_le _) dX12_mistaken_4 (fun H locs hW => ?_)
  refine lv_i2l (v := (F_R_allWords t_book).toInt64) hx hb dX12_mistaken_7 rfl ?_
  refine m_callS X hW hA hl.1 lkX12_109 (c_R_in l E _ N   p1.toInt64 (0 : Int64) (F_R_allWords t_book).toInt64 (F_R_in p1.toInt64 (0 : Int64) (F_R_allWords t_book).toInt64) rfl) ([]) (by decide) rfl rfl (ws' := (wd_R_mistaken E a_t a_t_images a_t_kept a_t_aside a_t_limbs a_t_wide a_t_hears a_t_spies a_t_known a_t_by a_t_ways a_t_fewest a_t_heavy a_t_sums a_t_faces a_t_bestFaces a_t_text a_t_verbs a_t_many a_t_nums a_t_book t_typed t_at t_start t_token t_value t_items t_book)) rfl (As := [.long p1.toInt64, .long (0 : Int64), .long (F_R_allWords t_book).toInt64]) (rest := []) rfl rfl ⟨rfl, rfl, Nat.le_of_ble_eq_true rfl, Nat.le_of_ble_eq_true rfl⟩ (Nat.le_of_ble_eq_true rfl) (Nat.zero_le _) (Nat.zero_le _) dX12_mistaken_8 (fun H locs hW => ?_)
  refine lv_if_eq (tgt := 22) hx hb dX12_mistaken_11 (by decide) (fun c1 => ?_) (fun c1 => ?_)
  · have hF := if_y c1 hF
    refine lv_bipush (v := (-2 : Int32)) hx hb dX12_mistaken_22 (by decide) ?_
    have hq := Option.some.inj hF
    subst hq
    exact hret _ _ _ _ hW dX12_mistaken_24
  · have hF := if_n c1 hF
    refine lv_aload_n hx hb dX12_mistaken_14 rfl (lv_at hl 0 rfl) ?_
    refine lv_iload_n hx hb dX12_mistaken_15 rfl (lv_at hl 1 rfl) ?_
    obtain ⟨r16, hC2, hF⟩ := bO_s1 hF
    refine m_callV X hW hA hl.1 lkX12_229 (c_R_mistakes l E _ N a_t a_t_images a_t_kept a_t_aside a_t_limbs a_t_wide a_t_hears a_t_spies a_t_known a_t_by a_t_ways a_t_fewest a_t_heavy a_t_sums a_t_faces a_t_bestFaces a_t_text a_t_verbs a_t_many a_t_nums a_t_book t_typed t_at t_start t_token t_value t_items t_book p1 r16 hC2) ([0, 1]) (by decide) rfl rfl (ws' := (wd_R_mistaken E a_t a_t_images a_t_kept a_t_aside a_t_limbs a_t_wide a_t_hears a_t_spies a_t_known a_t_by a_t_ways a_t_fewest a_t_heavy a_t_sums a_t_faces a_t_bestFaces a_t_text a_t_verbs a_t_many a_t_nums a_t_book t_typed t_at t_start t_token t_value t_items t_book)) rfl 0 rfl rfl rfl (As := [.int p1]) (rest := []) rfl rfl ⟨rfl, rfl, Nat.le_of_ble_eq_true rfl, Nat.le_of_ble_eq_true rfl⟩ (Nat.le_of_ble_eq_true rfl) (Nat.zero_le _) (Nat.zero_le _) dX12_mistaken_16 (fun H locs hW => ?_)
    clear hC2
    refine lv_goto (tgt := 24) hx hb dX12_mistaken_19 (by decide) ?_
    have hq := Option.some.inj hF
    subst hq
    exact hret _ _ _ _ hW dX12_mistaken_24
abbrev wd_R_signs (E : m_E) (a_t : Nat) (a_t_images : Nat) (a_t_kept : Nat) (a_t_aside : Nat) (a_t_limbs : Nat) (a_t_wide : Nat) (a_t_hears : Nat) (a_t_spies : Nat) (a_t_known : Nat) (a_t_by : Nat) (a_t_ways : Nat) (a_t_fewest : Nat) (a_t_heavy : Nat) (a_t_sums : Nat) (a_t_faces : Nat) (a_t_bestFaces : Nat) (a_t_text : Nat) (a_t_verbs : Nat) (a_t_many : Nat) (a_t_nums : Nat) (a_t_book : Nat) (t_typed : Int32) (t_at : Int32) (t_start : Int32) (t_token : Int32) (t_value : Int32) (t_items : Int32) (t_book : Nat → Int32) : va_W := [(a_t, .inr (12, [.ref a_t_book, .ref a_t_images, .ref a_t_kept, .ref a_t_aside, .ref a_t_limbs, .ref a_t_wide, .ref a_t_hears, .ref a_t_spies, .ref a_t_known, .ref a_t_by, .ref a_t_ways, .ref a_t_fewest, .ref a_t_heavy, .ref a_t_sums, .ref a_t_faces, .ref a_t_bestFaces, .ref a_t_text, .int t_typed, .int t_at, .int t_start, .int t_token, .int t_value, .ref a_t_verbs, .ref a_t_many, .ref a_t_nums, .int t_items])), (a_t_book, .inl (E.2.1 0, 240, .inl t_book))]
def rm_R_signs : Room := { frames := 5, cells := 0, slots := 0, locals := 115 }
set_option maxHeartbeats 4000000 in
set_option maxRecDepth 100000 in
theorem c_R_signs (l : Launch) (E : m_E) (sz N : Nat) (a_t : Nat) (a_t_images : Nat) (a_t_kept : Nat) (a_t_aside : Nat) (a_t_limbs : Nat) (a_t_wide : Nat) (a_t_hears : Nat) (a_t_spies : Nat) (a_t_known : Nat) (a_t_by : Nat) (a_t_ways : Nat) (a_t_fewest : Nat) (a_t_heavy : Nat) (a_t_sums : Nat) (a_t_faces : Nat) (a_t_bestFaces : Nat) (a_t_text : Nat) (a_t_verbs : Nat) (a_t_many : Nat) (a_t_nums : Nat) (a_t_book : Nat) (t_typed : Int32) (t_at : Int32) (t_start : Int32) (t_token : Int32) (t_value : Int32) (t_items : Int32) (t_book : Nat → Int32) (p1 : Int32) (ures : Int32) (hF : F_R_signs N p1 t_book = some ures) : m_Met l yX12_signs cX12_signs 5 (some .int) rm_R_signs E (wd_R_signs E a_t a_t_images a_t_kept a_t_aside a_t_limbs a_t_wide a_t_hears a_t_spies a_t_known a_t_by a_t_ways a_t_fewest a_t_heavy a_t_sums a_t_faces a_t_bestFaces a_t_text a_t_verbs a_t_many a_t_nums a_t_book t_typed t_at t_start t_token t_value t_items t_book) (wd_R_signs E a_t a_t_images a_t_kept a_t_aside a_t_limbs a_t_wide a_t_hears a_t_spies a_t_known a_t_by a_t_ways a_t_fewest a_t_heavy a_t_sums a_t_faces a_t_bestFaces a_t_text a_t_verbs a_t_many a_t_nums a_t_book t_typed t_at t_start t_token t_value t_items t_book) sz [.ref a_t, .int p1] (some (.int ures)) := by
  refine m_ofI (by decide) (Nat.le_of_ble_eq_true rfl) ?_
  intro p e s m args below meth c A Q ls X hW hA hl hret
  obtain ⟨hx, hb, -, hown, hts, hK, -, hG⟩ := id X
  have hl : lv_has ls 5 [(0, .ref a_t), (1, .int p1)] := hl
  unfold F_R_signs at hF
  refine lv_iload_n hx hb dX12_signs_0 rfl (lv_at hl 1 rfl) ?_
  refine lv_i2l (v := p1.toInt64) hx hb dX12_signs_1 rfl ?_
  refine lv_lconst (v := (0 : Int64)) hx hb dX12_signs_2 (by decide) ?_
  refine lv_aload_n hx hb dX12_signs_3 rfl (lv_at hl 0 rfl) ?_
  refine m_get X hW fdX12_7 0 rfl rfl dX12_signs_4 ?_
  refine lv_iconst (v := (3 : Int32)) hx hb dX12_signs_7 (by decide) ?_
  refine m_iald X hW 1 (k := 3) rfl (by decide) rfl dX12_signs_8 ?_
  refine lv_i2l (v := (t_book 3).toInt64) hx hb dX12_signs_9 rfl ?_
  refine m_callS X hW hA hl.1 lkX12_109 (c_R_in l E _ N   p1.toInt64 (0 : Int64) (t_book 3).toInt64 (F_R_in p1.toInt64 (0 : Int64) (t_book 3).toInt64) rfl) ([]) (by decide) rfl rfl (ws' := (wd_R_signs E a_t a_t_images a_t_kept a_t_aside a_t_limbs a_t_wide a_t_hears a_t_spies a_t_known a_t_by a_t_ways a_t_fewest a_t_heavy a_t_sums a_t_faces a_t_bestFaces a_t_text a_t_verbs a_t_many a_t_nums a_t_book t_typed t_at t_start t_token t_value t_items t_book)) rfl (As := [.long p1.toInt64, .long (0 : Int64), .long (t_book 3).toInt64]) (rest := []) rfl rfl ⟨rfl, rfl, Nat.le_of_ble_eq_true rfl, Nat.le_of_ble_eq_true rfl⟩ (Nat.le_of_ble_eq_true rfl) (Nat.zero_le _) (Nat.zero_le _) dX12_signs_10 (fun H locs hW => ?_)
  refine lv_if_ne (tgt := 19) hx hb dX12_signs_13 (by decide) (fun c1 => ?_) (fun c1 => ?_)
  · have hF := if_n c1 hF
    refine lv_iconst (v := (-1 : Int32)) hx hb dX12_signs_19 (by decide) ?_
    refine lv_istore_n (lv' := [(2, .int (-1 : Int32)), (0, .ref a_t), (1, .int p1)]) hx hb dX12_signs_20 rfl hl (by decide) rfl (fun ls hl => ?_)
    refine lv_ldc (v := (1000000 : Int32)) hx hb hown (hts _ wk_1312) dX12_signs_21 ?_
    refine lv_istore_n (lv' := [(3, .int (1000000 : Int32)), (2, .int (-1 : Int32)), (0, .ref a_t), (1, .int p1)]) hx hb dX12_signs_23 rfl hl (by decide) rfl (fun ls hl => ?_)
    refine lv_iconst (v := (0 : Int32)) hx hb dX12_signs_24 (by decide) ?_
    refine lv_istore (lv' := [(4, .int (0 : Int32)), (3, .int (1000000 : Int32)), (2, .int (-1 : Int32)), (0, .ref a_t), (1, .int p1)]) hx hb dX12_signs_25 hl (by decide) rfl (fun ls hl => ?_)
    obtain ⟨x2_2, hX3, hF⟩ := bO_s1 hF
    have L2 : ∀ (k0 : Nat) (x2 : Int32) (x3 : Int32) (x4 : Int32) (x2_2 : Int32) (H : Heap) (locs : List Loc) (ls : Array Slot), R_signs_L27 N t_book p1 k0 x2 x3 x4 = some x2_2 → m_H E A (wd_R_signs E a_t a_t_images a_t_kept a_t_aside a_t_limbs a_t_wide a_t_hears a_t_spies a_t_known a_t_by a_t_ways a_t_fewest a_t_heavy a_t_sums a_t_faces a_t_bestFaces a_t_text a_t_verbs a_t_many a_t_nums a_t_book t_typed t_at t_start t_token t_value t_items t_book) s.heap H locs → lv_has ls 5 [(4, .int x4), (3, .int x3), (2, .int x2), (0, .ref a_t), (1, .int p1)] → (∀ (H : Heap) (locs : List Loc) (ls : Array Slot), m_H E A (wd_R_signs E a_t a_t_images a_t_kept a_t_aside a_t_limbs a_t_wide a_t_hears a_t_spies a_t_known a_t_by a_t_ways a_t_fewest a_t_heavy a_t_sums a_t_faces a_t_bestFaces a_t_text a_t_verbs a_t_many a_t_nums a_t_book t_typed t_at t_start t_token t_value t_items t_book) s.heap H locs → lv_has ls 5 [(2, .int x2_2)] → W p l e rm_R_signs s m args below meth c H locs 0 0 Q (F0 m 71 ls [])) → W p l e rm_R_signs s m args below meth c H locs 0 0 Q (F0 m 27 ls []) := by
      clear hF
      intro k0
      induction k0 with
      | zero =>
        intro x2 x3 x4 x2_2 H locs ls hF
        cases hF
      | succ k0 ih5 =>
        intro x2 x3 x4 x2_2 H locs ls hF hW hl hk4
        rw [R_signs_L27] at hF
        refine lv_iload hx hb dX12_signs_27 (lv_at hl 0 rfl) ?_
        refine lv_aload_n hx hb dX12_signs_29 rfl (lv_at hl 3 rfl) ?_
        refine m_callV X hW hA hl.1 lkX12_225 (c_R_allWords l E _ N a_t a_t_images a_t_kept a_t_aside a_t_limbs a_t_wide a_t_hears a_t_spies a_t_known a_t_by a_t_ways a_t_fewest a_t_heavy a_t_sums a_t_faces a_t_bestFaces a_t_text a_t_verbs a_t_many a_t_nums a_t_book t_typed t_at t_start t_token t_value t_items t_book  (F_R_allWords t_book) rfl) ([0, 1]) (by decide) rfl rfl (ws' := (wd_R_signs E a_t a_t_images a_t_kept a_t_aside a_t_limbs a_t_wide a_t_hears a_t_spies a_t_known a_t_by a_t_ways a_t_fewest a_t_heavy a_t_sums a_t_faces a_t_bestFaces a_t_text a_t_verbs a_t_many a_t_nums a_t_book t_typed t_at t_start t_token t_value t_items t_book)) rfl 0 rfl rfl rfl (As := []) (rest := [.int x4]) rfl rfl ⟨rfl, rfl, Nat.le_of_ble_eq_true rfl, Nat.le_of_ble_eq_true rfl⟩ (Nat.le_of_ble_eq_true rfl) (Nat.zero_le _) (Nat.zero_le _) dX12_signs_30 (fun H locs hW => ?_)
        refine lv_icmp_gt (tgt := 71) hx hb dX12_signs_33 (by decide) (fun c6 => ?_) (fun c6 => ?_)
        · have hF := if_y c6 hF
          cases hF
          exact hk4 _ _ _ hW (lv_sub hl [2] rfl)
        · have hF := if_n c6 hF
          refine lv_iload hx hb dX12_signs_36 (lv_at hl 0 rfl) ?_
          obtain ⟨r38, hC7, hF⟩ := bO_s1 hF
          refine m_callS X hW hA hl.1 lkX12_181 (c_R_sizeOf l E _ N   x4 r38 hC7) ([]) (by decide) rfl rfl (ws' := (wd_R_signs E a_t a_t_images a_t_kept a_t_aside a_t_limbs a_t_wide a_t_hears a_t_spies a_t_known a_t_by a_t_ways a_t_fewest a_t_heavy a_t_sums a_t_faces a_t_bestFaces a_t_text a_t_verbs a_t_many a_t_nums a_t_book t_typed t_at t_start t_token t_value t_items t_book)) rfl (As := [.int x4]) (rest := []) rfl rfl ⟨rfl, rfl, Nat.le_of_ble_eq_true rfl, Nat.le_of_ble_eq_true rfl⟩ (Nat.le_of_ble_eq_true rfl) (Nat.zero_le _) (Nat.zero_le _) dX12_signs_38 (fun H locs hW => ?_)
          clear hC7
          refine lv_iload_n hx hb dX12_signs_41 rfl (lv_at hl 4 rfl) ?_
          refine lv_icmp_ne (tgt := 65) hx hb dX12_signs_42 (by decide) (fun c8 => ?_) (fun c8 => ?_)
          · have hF := if_n c8 hF
            refine lv_iinc (v := (x4 + (1 : Int32))) (lv' := [(4, .int (x4 + (1 : Int32))), (3, .int x3), (2, .int x2), (0, .ref a_t), (1, .int p1)]) hx hb dX12_signs_65 hl (k := 0) rfl rfl (by decide) rfl (fun ls hl => ?_)
            refine lv_goto (tgt := 27) hx hb dX12_signs_68 (by decide) ?_
            exact ih5 x2 x3 (x4 + (1 : Int32)) x2_2 _ _ _ hF hW (lv_sub hl [0, 1, 2, 3, 4] rfl) hk4
          · have hF := if_y c8 hF
            refine lv_aload_n hx hb dX12_signs_45 rfl (lv_at hl 3 rfl) ?_
            refine lv_iload hx hb dX12_signs_46 (lv_at hl 0 rfl) ?_
            obtain ⟨r48, hC9, hF⟩ := bO_s1 hF
            refine m_callV X hW hA hl.1 lkX12_229 (c_R_mistakes l E _ N a_t a_t_images a_t_kept a_t_aside a_t_limbs a_t_wide a_t_hears a_t_spies a_t_known a_t_by a_t_ways a_t_fewest a_t_heavy a_t_sums a_t_faces a_t_bestFaces a_t_text a_t_verbs a_t_many a_t_nums a_t_book t_typed t_at t_start t_token t_value t_items t_book x4 r48 hC9) ([0, 1]) (by decide) rfl rfl (ws' := (wd_R_signs E a_t a_t_images a_t_kept a_t_aside a_t_limbs a_t_wide a_t_hears a_t_spies a_t_known a_t_by a_t_ways a_t_fewest a_t_heavy a_t_sums a_t_faces a_t_bestFaces a_t_text a_t_verbs a_t_many a_t_nums a_t_book t_typed t_at t_start t_token t_value t_items t_book)) rfl 0 rfl rfl rfl (As := [.int x4]) (rest := []) rfl rfl ⟨rfl, rfl, Nat.le_of_ble_eq_true rfl, Nat.le_of_ble_eq_true rfl⟩ (Nat.le_of_ble_eq_true rfl) (Nat.zero_le _) (Nat.zero_le _) dX12_signs_48 (fun H locs hW => ?_)
            clear hC9
            refine lv_iload_n hx hb dX12_signs_51 rfl (lv_at hl 1 rfl) ?_
            refine lv_icmp_ge (tgt := 65) hx hb dX12_signs_52 (by decide) (fun c10 => ?_) (fun c10 => ?_)
            · have hF := if_y c10 hF
              refine lv_iinc (v := (x4 + (1 : Int32))) (lv' := [(4, .int (x4 + (1 : Int32))), (3, .int x3), (2, .int x2), (0, .ref a_t), (1, .int p1)]) hx hb dX12_signs_65 hl (k := 0) rfl rfl (by decide) rfl (fun ls hl => ?_)
              refine lv_goto (tgt := 27) hx hb dX12_signs_68 (by decide) ?_
              exact ih5 x2 x3 (x4 + (1 : Int32)) x2_2 _ _ _ hF hW (lv_sub hl [0, 1, 2, 3, 4] rfl) hk4
            · have hF := if_n c10 hF
              refine lv_iload hx hb dX12_signs_55 (lv_at hl 0 rfl) ?_
              refine lv_istore_n (lv' := [(2, .int x4), (4, .int x4), (3, .int x3), (0, .ref a_t), (1, .int p1)]) hx hb dX12_signs_57 rfl hl (by decide) rfl (fun ls hl => ?_)
              refine lv_aload_n hx hb dX12_signs_58 rfl (lv_at hl 3 rfl) ?_
              refine lv_iload hx hb dX12_signs_59 (lv_at hl 1 rfl) ?_
              obtain ⟨r61, hC11, hF⟩ := bO_s1 hF
              refine m_callV X hW hA hl.1 lkX12_229 (c_R_mistakes l E _ N a_t a_t_images a_t_kept a_t_aside a_t_limbs a_t_wide a_t_hears a_t_spies a_t_known a_t_by a_t_ways a_t_fewest a_t_heavy a_t_sums a_t_faces a_t_bestFaces a_t_text a_t_verbs a_t_many a_t_nums a_t_book t_typed t_at t_start t_token t_value t_items t_book x4 r61 hC11) ([0, 1]) (by decide) rfl rfl (ws' := (wd_R_signs E a_t a_t_images a_t_kept a_t_aside a_t_limbs a_t_wide a_t_hears a_t_spies a_t_known a_t_by a_t_ways a_t_fewest a_t_heavy a_t_sums a_t_faces a_t_bestFaces a_t_text a_t_verbs a_t_many a_t_nums a_t_book t_typed t_at t_start t_token t_value t_items t_book)) rfl 0 rfl rfl rfl (As := [.int x4]) (rest := []) rfl rfl ⟨rfl, rfl, Nat.le_of_ble_eq_true rfl, Nat.le_of_ble_eq_true rfl⟩ (Nat.le_of_ble_eq_true rfl) (Nat.zero_le _) (Nat.zero_le _) dX12_signs_61 (fun H locs hW => ?_)
              clear hC11
              refine lv_istore_n (lv' := [(3, .int r61), (2, .int x4), (4, .int x4), (0, .ref a_t), (1, .int p1)]) hx hb dX12_signs_64 rfl hl (by decide) rfl (fun ls hl => ?_)
              refine lv_iinc (v := (x4 + (1 : Int32))) (lv' := [(4, .int (x4 + (1 : Int32))), (3, .int r61), (2, .int x4), (0, .ref a_t), (1, .int p1)]) hx hb dX12_signs_65 hl (k := 2) rfl rfl (by decide) rfl (fun ls hl => ?_)
              refine lv_goto (tgt := 27) hx hb dX12_signs_68 (by decide) ?_
              exact ih5 x4 r61 (x4 + (1 : Int32)) x2_2 _ _ _ hF hW (lv_sub hl [0, 1, 2, 3, 4] rfl) hk4
    refine L2 N (-1 : Int32) (1000000 : Int32) (0 : Int32) x2_2 _ _ _ hX3 hW (lv_sub hl [0, 1, 2, 3, 4] rfl) ?_
    intro H locs ls hW hl
    clear L2
    refine lv_iload_n hx hb dX12_signs_71 rfl (lv_at hl 0 rfl) ?_
    have hq := Option.some.inj hF
    subst hq
    exact hret _ _ _ _ hW dX12_signs_72
  · have hF := if_y c1 hF
    refine lv_bipush (v := (-2 : Int32)) hx hb dX12_signs_16 (by decide) ?_
    have hq := Option.some.inj hF
    subst hq
    exact hret _ _ _ _ hW dX12_signs_18
abbrev wd_R_plain (E : m_E) (a_t : Nat) (a_t_images : Nat) (a_t_kept : Nat) (a_t_aside : Nat) (a_t_limbs : Nat) (a_t_wide : Nat) (a_t_hears : Nat) (a_t_spies : Nat) (a_t_known : Nat) (a_t_by : Nat) (a_t_ways : Nat) (a_t_fewest : Nat) (a_t_heavy : Nat) (a_t_sums : Nat) (a_t_faces : Nat) (a_t_bestFaces : Nat) (a_t_text : Nat) (a_t_verbs : Nat) (a_t_many : Nat) (a_t_nums : Nat) (a_t_book : Nat) (t_typed : Int32) (t_at : Int32) (t_start : Int32) (t_token : Int32) (t_value : Int32) (t_items : Int32) (t_book : Nat → Int32) : va_W := [(a_t, .inr (12, [.ref a_t_book, .ref a_t_images, .ref a_t_kept, .ref a_t_aside, .ref a_t_limbs, .ref a_t_wide, .ref a_t_hears, .ref a_t_spies, .ref a_t_known, .ref a_t_by, .ref a_t_ways, .ref a_t_fewest, .ref a_t_heavy, .ref a_t_sums, .ref a_t_faces, .ref a_t_bestFaces, .ref a_t_text, .int t_typed, .int t_at, .int t_start, .int t_token, .int t_value, .ref a_t_verbs, .ref a_t_many, .ref a_t_nums, .int t_items])), (a_t_book, .inl (E.2.1 0, 240, .inl t_book))]
def rm_R_plain : Room := { frames := 1, cells := 0, slots := 0, locals := 25 }
set_option maxHeartbeats 4000000 in
set_option maxRecDepth 100000 in
theorem c_R_plain (l : Launch) (E : m_E) (sz N : Nat) (a_t : Nat) (a_t_images : Nat) (a_t_kept : Nat) (a_t_aside : Nat) (a_t_limbs : Nat) (a_t_wide : Nat) (a_t_hears : Nat) (a_t_spies : Nat) (a_t_known : Nat) (a_t_by : Nat) (a_t_ways : Nat) (a_t_fewest : Nat) (a_t_heavy : Nat) (a_t_sums : Nat) (a_t_faces : Nat) (a_t_bestFaces : Nat) (a_t_text : Nat) (a_t_verbs : Nat) (a_t_many : Nat) (a_t_nums : Nat) (a_t_book : Nat) (t_typed : Int32) (t_at : Int32) (t_start : Int32) (t_token : Int32) (t_value : Int32) (t_items : Int32) (t_book : Nat → Int32) (p1 : Int32) (ures : Int32 × (Nat → Int32)) (hF : F_R_plain p1 t_book = some ures) : m_Met l yX12_plain cX12_plain 2 (some .int) rm_R_plain E (wd_R_plain E a_t a_t_images a_t_kept a_t_aside a_t_limbs a_t_wide a_t_hears a_t_spies a_t_known a_t_by a_t_ways a_t_fewest a_t_heavy a_t_sums a_t_faces a_t_bestFaces a_t_text a_t_verbs a_t_many a_t_nums a_t_book t_typed t_at t_start t_token t_value t_items t_book) (wd_R_plain E a_t a_t_images a_t_kept a_t_aside a_t_limbs a_t_wide a_t_hears a_t_spies a_t_known a_t_by a_t_ways a_t_fewest a_t_heavy a_t_sums a_t_faces a_t_bestFaces a_t_text a_t_verbs a_t_many a_t_nums a_t_book t_typed t_at t_start t_token t_value t_items ures.2) sz [.ref a_t, .int p1] (some (.int ures.1)) := by
  refine m_ofI (by decide) (Nat.le_of_ble_eq_true rfl) ?_
  intro p e s m args below meth c A Q ls X hW hA hl hret
  obtain ⟨hx, hb, -, hown, hts, hK, -, hG⟩ := id X
  have hl : lv_has ls 2 [(0, .ref a_t), (1, .int p1)] := hl
  unfold F_R_plain at hF
  refine lv_iload_n hx hb dX12_plain_0 rfl (lv_at hl 1 rfl) ?_
  refine lv_i2l (v := p1.toInt64) hx hb dX12_plain_1 rfl ?_
  refine lv_lconst (v := (1 : Int64)) hx hb dX12_plain_2 (by decide) ?_
  refine lv_ldc2 (v := (99 : Int64)) hx hb hown (hts _ wk_1430) dX12_plain_3 ?_
  refine m_callS X hW hA hl.1 lkX12_109 (c_R_in l E _ N   p1.toInt64 (1 : Int64) (99 : Int64) (F_R_in p1.toInt64 (1 : Int64) (99 : Int64)) rfl) ([]) (by decide) rfl rfl (ws' := (wd_R_plain E a_t a_t_images a_t_kept a_t_aside a_t_limbs a_t_wide a_t_hears a_t_spies a_t_known a_t_by a_t_ways a_t_fewest a_t_heavy a_t_sums a_t_faces a_t_bestFaces a_t_text a_t_verbs a_t_many a_t_nums a_t_book t_typed t_at t_start t_token t_value t_items t_book)) rfl (As := [.long p1.toInt64, .long (1 : Int64), .long (99 : Int64)]) (rest := []) rfl rfl ⟨rfl, rfl, Nat.le_of_ble_eq_true rfl, Nat.le_of_ble_eq_true rfl⟩ (Nat.le_of_ble_eq_true rfl) (Nat.zero_le _) (Nat.zero_le _) dX12_plain_6 (fun H locs hW => ?_)
  refine lv_if_eq (tgt := 22) hx hb dX12_plain_9 (by decide) (fun c1 => ?_) (fun c1 => ?_)
  · have hF := if_y c1 hF
    refine lv_bipush (v := (-2 : Int32)) hx hb dX12_plain_22 (by decide) ?_
    have hq := Option.some.inj hF
    subst hq
    exact hret _ _ _ _ hW dX12_plain_24
  · have hF := if_n c1 hF
    refine lv_aload_n hx hb dX12_plain_12 rfl (lv_at hl 0 rfl) ?_
    refine lv_bipush (v := (8 : Int32)) hx hb dX12_plain_13 (by decide) ?_
    refine lv_iload_n hx hb dX12_plain_15 rfl (lv_at hl 1 rfl) ?_
    obtain ⟨r16, t_book'_2, hC2, hF⟩ := bO_s2 hF
    refine m_callV X hW hA hl.1 lkX12_130 (c_R_puts l E _ N a_t a_t_images a_t_kept a_t_aside a_t_limbs a_t_wide a_t_hears a_t_spies a_t_known a_t_by a_t_ways a_t_fewest a_t_heavy a_t_sums a_t_faces a_t_bestFaces a_t_text a_t_verbs a_t_many a_t_nums a_t_book t_typed t_at t_start t_token t_value t_items t_book (8 : Int32) p1 (r16, t_book'_2) hC2) ([0, 1]) (by decide) rfl rfl (ws' := (wd_R_plain E a_t a_t_images a_t_kept a_t_aside a_t_limbs a_t_wide a_t_hears a_t_spies a_t_known a_t_by a_t_ways a_t_fewest a_t_heavy a_t_sums a_t_faces a_t_bestFaces a_t_text a_t_verbs a_t_many a_t_nums a_t_book t_typed t_at t_start t_token t_value t_items t_book'_2)) rfl 0 rfl rfl rfl (As := [.int (8 : Int32), .int p1]) (rest := []) rfl rfl ⟨rfl, rfl, Nat.le_of_ble_eq_true rfl, Nat.le_of_ble_eq_true rfl⟩ (Nat.le_of_ble_eq_true rfl) (Nat.zero_le _) (Nat.zero_le _) dX12_plain_16 (fun H locs hW => ?_)
    clear hC2
    refine lv_goto (tgt := 24) hx hb dX12_plain_19 (by decide) ?_
    have hq := Option.some.inj hF
    subst hq
    exact hret _ _ _ _ hW dX12_plain_24
abbrev wd_R_hearing (E : m_E) (a_t : Nat) (a_t_images : Nat) (a_t_kept : Nat) (a_t_aside : Nat) (a_t_limbs : Nat) (a_t_wide : Nat) (a_t_hears : Nat) (a_t_spies : Nat) (a_t_known : Nat) (a_t_by : Nat) (a_t_ways : Nat) (a_t_fewest : Nat) (a_t_heavy : Nat) (a_t_sums : Nat) (a_t_faces : Nat) (a_t_bestFaces : Nat) (a_t_text : Nat) (a_t_verbs : Nat) (a_t_many : Nat) (a_t_nums : Nat) (a_t_book : Nat) (t_typed : Int32) (t_at : Int32) (t_start : Int32) (t_token : Int32) (t_value : Int32) (t_items : Int32) (t_book : Nat → Int32) : va_W := [(a_t, .inr (12, [.ref a_t_book, .ref a_t_images, .ref a_t_kept, .ref a_t_aside, .ref a_t_limbs, .ref a_t_wide, .ref a_t_hears, .ref a_t_spies, .ref a_t_known, .ref a_t_by, .ref a_t_ways, .ref a_t_fewest, .ref a_t_heavy, .ref a_t_sums, .ref a_t_faces, .ref a_t_bestFaces, .ref a_t_text, .int t_typed, .int t_at, .int t_start, .int t_token, .int t_value, .ref a_t_verbs, .ref a_t_many, .ref a_t_nums, .int t_items])), (a_t_book, .inl (E.2.1 0, 240, .inl t_book))]
def rm_R_hearing : Room := { frames := 3, cells := 0, slots := 0, locals := 68 }
set_option maxHeartbeats 4000000 in
set_option maxRecDepth 100000 in
theorem c_R_hearing (l : Launch) (E : m_E) (sz N : Nat) (a_t : Nat) (a_t_images : Nat) (a_t_kept : Nat) (a_t_aside : Nat) (a_t_limbs : Nat) (a_t_wide : Nat) (a_t_hears : Nat) (a_t_spies : Nat) (a_t_known : Nat) (a_t_by : Nat) (a_t_ways : Nat) (a_t_fewest : Nat) (a_t_heavy : Nat) (a_t_sums : Nat) (a_t_faces : Nat) (a_t_bestFaces : Nat) (a_t_text : Nat) (a_t_verbs : Nat) (a_t_many : Nat) (a_t_nums : Nat) (a_t_book : Nat) (t_typed : Int32) (t_at : Int32) (t_start : Int32) (t_token : Int32) (t_value : Int32) (t_items : Int32) (t_book : Nat → Int32) (p1 : Int32) (p2 : Int32) (ures : Int32) (hF : F_R_hearing N p1 p2 t_book = some ures) : m_Met l yX12_hearing cX12_hearing 3 (some .int) rm_R_hearing E (wd_R_hearing E a_t a_t_images a_t_kept a_t_aside a_t_limbs a_t_wide a_t_hears a_t_spies a_t_known a_t_by a_t_ways a_t_fewest a_t_heavy a_t_sums a_t_faces a_t_bestFaces a_t_text a_t_verbs a_t_many a_t_nums a_t_book t_typed t_at t_start t_token t_value t_items t_book) (wd_R_hearing E a_t a_t_images a_t_kept a_t_aside a_t_limbs a_t_wide a_t_hears a_t_spies a_t_known a_t_by a_t_ways a_t_fewest a_t_heavy a_t_sums a_t_faces a_t_bestFaces a_t_text a_t_verbs a_t_many a_t_nums a_t_book t_typed t_at t_start t_token t_value t_items t_book) sz [.ref a_t, .int p1, .int p2] (some (.int ures)) := by
  refine m_ofI (by decide) (Nat.le_of_ble_eq_true rfl) ?_
  intro p e s m args below meth c A Q ls X hW hA hl hret
  obtain ⟨hx, hb, -, hown, hts, hK, -, hG⟩ := id X
  have hl : lv_has ls 3 [(0, .ref a_t), (1, .int p1), (2, .int p2)] := hl
  unfold F_R_hearing at hF
  refine lv_aload_n hx hb dX12_hearing_0 rfl (lv_at hl 0 rfl) ?_
  refine lv_iload_n hx hb dX12_hearing_1 rfl (lv_at hl 1 rfl) ?_
  obtain ⟨r2, hC1, hF⟩ := bO_s1 hF
  refine m_callV X hW hA hl.1 lkX12_196 (c_R_lengthOf l E _ N a_t a_t_images a_t_kept a_t_aside a_t_limbs a_t_wide a_t_hears a_t_spies a_t_known a_t_by a_t_ways a_t_fewest a_t_heavy a_t_sums a_t_faces a_t_bestFaces a_t_text a_t_verbs a_t_many a_t_nums a_t_book t_typed t_at t_start t_token t_value t_items t_book p1 r2 hC1) ([0, 1]) (by decide) rfl rfl (ws' := (wd_R_hearing E a_t a_t_images a_t_kept a_t_aside a_t_limbs a_t_wide a_t_hears a_t_spies a_t_known a_t_by a_t_ways a_t_fewest a_t_heavy a_t_sums a_t_faces a_t_bestFaces a_t_text a_t_verbs a_t_many a_t_nums a_t_book t_typed t_at t_start t_token t_value t_items t_book)) rfl 0 rfl rfl rfl (As := [.int p1]) (rest := []) rfl rfl ⟨rfl, rfl, Nat.le_of_ble_eq_true rfl, Nat.le_of_ble_eq_true rfl⟩ (Nat.le_of_ble_eq_true rfl) (Nat.zero_le _) (Nat.zero_le _) dX12_hearing_2 (fun H locs hW => ?_)
  clear hC1
  refine lv_aload_n hx hb dX12_hearing_5 rfl (lv_at hl 0 rfl) ?_
  refine lv_iload_n hx hb dX12_hearing_6 rfl (lv_at hl 2 rfl) ?_
  obtain ⟨r7, hC2, hF⟩ := bO_s1 hF
  refine m_callV X hW hA hl.1 lkX12_196 (c_R_lengthOf l E _ N a_t a_t_images a_t_kept a_t_aside a_t_limbs a_t_wide a_t_hears a_t_spies a_t_known a_t_by a_t_ways a_t_fewest a_t_heavy a_t_sums a_t_faces a_t_bestFaces a_t_text a_t_verbs a_t_many a_t_nums a_t_book t_typed t_at t_start t_token t_value t_items t_book p2 r7 hC2) ([0, 1]) (by decide) rfl rfl (ws' := (wd_R_hearing E a_t a_t_images a_t_kept a_t_aside a_t_limbs a_t_wide a_t_hears a_t_spies a_t_known a_t_by a_t_ways a_t_fewest a_t_heavy a_t_sums a_t_faces a_t_bestFaces a_t_text a_t_verbs a_t_many a_t_nums a_t_book t_typed t_at t_start t_token t_value t_items t_book)) rfl 0 rfl rfl rfl (As := [.int p2]) (rest := [.int r2]) rfl rfl ⟨rfl, rfl, Nat.le_of_ble_eq_true rfl, Nat.le_of_ble_eq_true rfl⟩ (Nat.le_of_ble_eq_true rfl) (Nat.zero_le _) (Nat.zero_le _) dX12_hearing_7 (fun H locs hW => ?_)
  clear hC2
  refine lv_icmp_eq (tgt := 15) hx hb dX12_hearing_10 (by decide) (fun c3 => ?_) (fun c3 => ?_)
  · have hF := if_y c3 hF
    refine lv_iload_n hx hb dX12_hearing_15 rfl (lv_at hl 1 rfl) ?_
    refine lv_iload_n hx hb dX12_hearing_16 rfl (lv_at hl 2 rfl) ?_
    refine lv_icmp_ne (tgt := 30) hx hb dX12_hearing_17 (by decide) (fun c4 => ?_) (fun c4 => ?_)
    · have hF := if_n c4 hF
      refine lv_aload_n hx hb dX12_hearing_30 rfl (lv_at hl 0 rfl) ?_
      refine lv_iload_n hx hb dX12_hearing_31 rfl (lv_at hl 2 rfl) ?_
      obtain ⟨r32, hC5, hF⟩ := bO_s1 hF
      refine m_callV X hW hA hl.1 lkX12_215 (c_R_weightOf l E _ N a_t a_t_images a_t_kept a_t_aside a_t_limbs a_t_wide a_t_hears a_t_spies a_t_known a_t_by a_t_ways a_t_fewest a_t_heavy a_t_sums a_t_faces a_t_bestFaces a_t_text a_t_verbs a_t_many a_t_nums a_t_book t_typed t_at t_start t_token t_value t_items t_book p2 r32 hC5) ([0, 1]) (by decide) rfl rfl (ws' := (wd_R_hearing E a_t a_t_images a_t_kept a_t_aside a_t_limbs a_t_wide a_t_hears a_t_spies a_t_known a_t_by a_t_ways a_t_fewest a_t_heavy a_t_sums a_t_faces a_t_bestFaces a_t_text a_t_verbs a_t_many a_t_nums a_t_book t_typed t_at t_start t_token t_value t_items t_book)) rfl 0 rfl rfl rfl (As := [.int p2]) (rest := []) rfl rfl ⟨rfl, rfl, Nat.le_of_ble_eq_true rfl, Nat.le_of_ble_eq_true rfl⟩ (Nat.le_of_ble_eq_true rfl) (Nat.zero_le _) (Nat.zero_le _) dX12_hearing_32 (fun H locs hW => ?_)
      clear hC5
      refine lv_aload_n hx hb dX12_hearing_35 rfl (lv_at hl 0 rfl) ?_
      refine lv_iload_n hx hb dX12_hearing_36 rfl (lv_at hl 1 rfl) ?_
      refine lv_iload_n hx hb dX12_hearing_37 rfl (lv_at hl 2 rfl) ?_
      obtain ⟨r38, hC6, hF⟩ := bO_s1 hF
      refine m_callV X hW hA hl.1 lkX12_202 (c_R_unlike l E _ N a_t a_t_images a_t_kept a_t_aside a_t_limbs a_t_wide a_t_hears a_t_spies a_t_known a_t_by a_t_ways a_t_fewest a_t_heavy a_t_sums a_t_faces a_t_bestFaces a_t_text a_t_verbs a_t_many a_t_nums a_t_book t_typed t_at t_start t_token t_value t_items t_book p1 p2 r38 hC6) ([0, 1]) (by decide) rfl rfl (ws' := (wd_R_hearing E a_t a_t_images a_t_kept a_t_aside a_t_limbs a_t_wide a_t_hears a_t_spies a_t_known a_t_by a_t_ways a_t_fewest a_t_heavy a_t_sums a_t_faces a_t_bestFaces a_t_text a_t_verbs a_t_many a_t_nums a_t_book t_typed t_at t_start t_token t_value t_items t_book)) rfl 0 rfl rfl rfl (As := [.int p1, .int p2]) (rest := [.int r32]) rfl rfl ⟨rfl, rfl, Nat.le_of_ble_eq_true rfl, Nat.le_of_ble_eq_true rfl⟩ (Nat.le_of_ble_eq_true rfl) (Nat.zero_le _) (Nat.zero_le _) dX12_hearing_38 (fun H locs hW => ?_)
      clear hC6
      refine m_ishr hx hb dX12_hearing_41 ?_
      have hq := Option.some.inj hF
      subst hq
      exact hret _ _ _ _ hW dX12_hearing_42
    · have hF := if_y c4 hF
      refine lv_aload_n hx hb dX12_hearing_20 rfl (lv_at hl 0 rfl) ?_
      refine m_get X hW fdX12_7 0 rfl rfl dX12_hearing_21 ?_
      refine lv_bipush (v := (8 : Int32)) hx hb dX12_hearing_24 (by decide) ?_
      refine m_iald X hW 1 (k := 8) rfl (by decide) rfl dX12_hearing_26 ?_
      refine lv_goto (tgt := 42) hx hb dX12_hearing_27 (by decide) ?_
      have hq := Option.some.inj hF
      subst hq
      exact hret _ _ _ _ hW dX12_hearing_42
  · have hF := if_n c3 hF
    refine lv_iconst (v := (0 : Int32)) hx hb dX12_hearing_13 (by decide) ?_
    have hq := Option.some.inj hF
    subst hq
    exact hret _ _ _ _ hW dX12_hearing_14
abbrev wd_R_beginHearing (E : m_E) (a_t : Nat) (a_t_images : Nat) (a_t_kept : Nat) (a_t_aside : Nat) (a_t_hears : Nat) (a_t_spies : Nat) (a_t_known : Nat) (a_t_by : Nat) (a_t_ways : Nat) (a_t_fewest : Nat) (a_t_heavy : Nat) (a_t_faces : Nat) (a_t_bestFaces : Nat) (a_t_text : Nat) (a_t_verbs : Nat) (a_t_many : Nat) (a_t_nums : Nat) (a_t_book : Nat) (a_t_limbs : Nat) (a_t_wide : Nat) (a_t_sums : Nat) (t_typed : Int32) (t_at : Int32) (t_start : Int32) (t_token : Int32) (t_value : Int32) (t_items : Int32) (t_book : Nat → Int32) (t_limbs : Nat → Int32) (t_wide : Nat → Int32) (t_sums : Nat → Int32) : va_W := [(a_t, .inr (12, [.ref a_t_book, .ref a_t_images, .ref a_t_kept, .ref a_t_aside, .ref a_t_limbs, .ref a_t_wide, .ref a_t_hears, .ref a_t_spies, .ref a_t_known, .ref a_t_by, .ref a_t_ways, .ref a_t_fewest, .ref a_t_heavy, .ref a_t_sums, .ref a_t_faces, .ref a_t_bestFaces, .ref a_t_text, .int t_typed, .int t_at, .int t_start, .int t_token, .int t_value, .ref a_t_verbs, .ref a_t_many, .ref a_t_nums, .int t_items])), (a_t_book, .inl (E.2.1 0, 240, .inl t_book)), (a_t_limbs, .inl (E.2.1 0, 1680, .inl t_limbs)), (a_t_wide, .inl (E.2.1 0, 28, .inl t_wide)), (a_t_sums, .inl (E.2.1 0, 10, .inl t_sums))]
def rm_R_beginHearing : Room := { frames := 4, cells := 0, slots := 0, locals := 90 }
set_option maxHeartbeats 4000000 in
set_option maxRecDepth 100000 in
theorem c_R_beginHearing (l : Launch) (E : m_E) (sz N : Nat) (a_t : Nat) (a_t_images : Nat) (a_t_kept : Nat) (a_t_aside : Nat) (a_t_hears : Nat) (a_t_spies : Nat) (a_t_known : Nat) (a_t_by : Nat) (a_t_ways : Nat) (a_t_fewest : Nat) (a_t_heavy : Nat) (a_t_faces : Nat) (a_t_bestFaces : Nat) (a_t_text : Nat) (a_t_verbs : Nat) (a_t_many : Nat) (a_t_nums : Nat) (a_t_book : Nat) (a_t_limbs : Nat) (a_t_wide : Nat) (a_t_sums : Nat) (t_typed : Int32) (t_at : Int32) (t_start : Int32) (t_token : Int32) (t_value : Int32) (t_items : Int32) (t_book : Nat → Int32) (t_limbs : Nat → Int32) (t_wide : Nat → Int32) (t_sums : Nat → Int32) (p1 : Int32) (ures : (Nat → Int32) × (Nat → Int32) × (Nat → Int32)) (hF : F_R_beginHearing N p1 t_book t_limbs t_wide t_sums = some ures) : m_Met l yX12_beginHearing cX12_beginHearing 4 none rm_R_beginHearing E (wd_R_beginHearing E a_t a_t_images a_t_kept a_t_aside a_t_hears a_t_spies a_t_known a_t_by a_t_ways a_t_fewest a_t_heavy a_t_faces a_t_bestFaces a_t_text a_t_verbs a_t_many a_t_nums a_t_book a_t_limbs a_t_wide a_t_sums t_typed t_at t_start t_token t_value t_items t_book t_limbs t_wide t_sums) (wd_R_beginHearing E a_t a_t_images a_t_kept a_t_aside a_t_hears a_t_spies a_t_known a_t_by a_t_ways a_t_fewest a_t_heavy a_t_faces a_t_bestFaces a_t_text a_t_verbs a_t_many a_t_nums a_t_book a_t_limbs a_t_wide a_t_sums t_typed t_at t_start t_token t_value t_items t_book ures.1 ures.2.1 ures.2.2) sz [.ref a_t, .int p1] none := by
  refine m_ofV (by decide) (Nat.le_of_ble_eq_true rfl) ?_
  intro p e s m args below meth c A Q ls X hW hA hl hret
  obtain ⟨hx, hb, -, hown, hts, hK, -, hG⟩ := id X
  have hl : lv_has ls 4 [(0, .ref a_t), (1, .int p1)] := hl
  unfold F_R_beginHearing at hF
  refine lv_iconst (v := (0 : Int32)) hx hb dX12_beginHearing_0 (by decide) ?_
  refine lv_istore_n (lv' := [(2, .int (0 : Int32)), (0, .ref a_t), (1, .int p1)]) hx hb dX12_beginHearing_1 rfl hl (by decide) rfl (fun ls hl => ?_)
  obtain ⟨t_sums'_8, t_limbs'_7, t_wide'_7, hX2, hF⟩ := bO_s3 hF
  have L1 : ∀ (k0 : Nat) (x2 : Int32) (t_sums'_5 : Nat → Int32) (t_limbs'_5 : Nat → Int32) (t_wide'_5 : Nat → Int32) (t_sums'_8 : Nat → Int32) (t_limbs'_7 : Nat → Int32) (t_wide'_7 : Nat → Int32) (H : Heap) (locs : List Loc) (ls : Array Slot), R_beginHearing_L2 N t_book p1 k0 x2 t_sums'_5 t_limbs'_5 t_wide'_5 = some (t_sums'_8, t_limbs'_7, t_wide'_7) → m_H E A (wd_R_beginHearing E a_t a_t_images a_t_kept a_t_aside a_t_hears a_t_spies a_t_known a_t_by a_t_ways a_t_fewest a_t_heavy a_t_faces a_t_bestFaces a_t_text a_t_verbs a_t_many a_t_nums a_t_book a_t_limbs a_t_wide a_t_sums t_typed t_at t_start t_token t_value t_items t_book t_limbs'_5 t_wide'_5 t_sums'_5) s.heap H locs → lv_has ls 4 [(2, .int x2), (0, .ref a_t), (1, .int p1)] → (∀ (H : Heap) (locs : List Loc) (ls : Array Slot), m_H E A (wd_R_beginHearing E a_t a_t_images a_t_kept a_t_aside a_t_hears a_t_spies a_t_known a_t_by a_t_ways a_t_fewest a_t_heavy a_t_faces a_t_bestFaces a_t_text a_t_verbs a_t_many a_t_nums a_t_book a_t_limbs a_t_wide a_t_sums t_typed t_at t_start t_token t_value t_items t_book t_limbs'_7 t_wide'_7 t_sums'_8) s.heap H locs → lv_has ls 4 [(0, .ref a_t)] → W p l e rm_R_beginHearing s m args below meth c H locs 0 0 Q (F0 m 76 ls [])) → W p l e rm_R_beginHearing s m args below meth c H locs 0 0 Q (F0 m 2 ls []) := by
    clear hF
    intro k0
    induction k0 with
    | zero =>
      intro x2 t_sums'_5 t_limbs'_5 t_wide'_5 t_sums'_8 t_limbs'_7 t_wide'_7 H locs ls hF
      cases hF
    | succ k0 ih4 =>
      intro x2 t_sums'_5 t_limbs'_5 t_wide'_5 t_sums'_8 t_limbs'_7 t_wide'_7 H locs ls hF hW hl hk3
      rw [R_beginHearing_L2] at hF
      refine lv_iload_n hx hb dX12_beginHearing_2 rfl (lv_at hl 0 rfl) ?_
      refine lv_aload_n hx hb dX12_beginHearing_3 rfl (lv_at hl 1 rfl) ?_
      refine m_get X hW fdX12_7 0 rfl rfl dX12_beginHearing_4 ?_
      refine lv_iconst (v := (3 : Int32)) hx hb dX12_beginHearing_7 (by decide) ?_
      refine m_iald X hW 1 (k := 3) rfl (by decide) rfl dX12_beginHearing_8 ?_
      refine lv_icmp_ge (tgt := 76) hx hb dX12_beginHearing_9 (by decide) (fun c5 => ?_) (fun c5 => ?_)
      · have hF := if_y c5 hF
        cases hF
        exact hk3 _ _ _ hW (lv_sub hl [1] rfl)
      · have hF := if_n c5 hF
        refine lv_aload_n hx hb dX12_beginHearing_12 rfl (lv_at hl 1 rfl) ?_
        refine m_get X hW fdX12_50 0 rfl rfl dX12_beginHearing_13 ?_
        refine lv_iload_n hx hb dX12_beginHearing_16 rfl (lv_at hl 0 rfl) ?_
        refine lv_iconst (v := (0 : Int32)) hx hb dX12_beginHearing_17 (by decide) ?_
        obtain ⟨g6, hF⟩ := gd_some hF
        refine m_iast X hW 4 (k := x2.toNatClampNeg) rfl g6 rfl dX12_beginHearing_18 (ws' := (wd_R_beginHearing E a_t a_t_images a_t_kept a_t_aside a_t_hears a_t_spies a_t_known a_t_by a_t_ways a_t_fewest a_t_heavy a_t_faces a_t_bestFaces a_t_text a_t_verbs a_t_many a_t_nums a_t_book a_t_limbs a_t_wide a_t_sums t_typed t_at t_start t_token t_value t_items t_book t_limbs'_5 t_wide'_5 (upd t_sums'_5 x2.toNatClampNeg (0 : Int32)))) rfl (fun H locs hW => ?_)
        refine lv_iconst (v := (0 : Int32)) hx hb dX12_beginHearing_19 (by decide) ?_
        refine lv_istore_n (lv' := [(3, .int (0 : Int32)), (2, .int x2), (0, .ref a_t), (1, .int p1)]) hx hb dX12_beginHearing_20 rfl hl (by decide) rfl (fun ls hl => ?_)
        obtain ⟨t_sums'_7, hX8, hF⟩ := bO_s1 hF
        have L7 : ∀ (k0 : Nat) (x3 : Int32) (t_sums'_6 : Nat → Int32) (t_sums'_7 : Nat → Int32) (H : Heap) (locs : List Loc) (ls : Array Slot), R_beginHearing_L21 N t_book x2 k0 x3 t_sums'_6 = some t_sums'_7 → m_H E A (wd_R_beginHearing E a_t a_t_images a_t_kept a_t_aside a_t_hears a_t_spies a_t_known a_t_by a_t_ways a_t_fewest a_t_heavy a_t_faces a_t_bestFaces a_t_text a_t_verbs a_t_many a_t_nums a_t_book a_t_limbs a_t_wide a_t_sums t_typed t_at t_start t_token t_value t_items t_book t_limbs'_5 t_wide'_5 t_sums'_6) s.heap H locs → lv_has ls 4 [(3, .int x3), (2, .int x2), (0, .ref a_t), (1, .int p1)] → (∀ (H : Heap) (locs : List Loc) (ls : Array Slot), m_H E A (wd_R_beginHearing E a_t a_t_images a_t_kept a_t_aside a_t_hears a_t_spies a_t_known a_t_by a_t_ways a_t_fewest a_t_heavy a_t_faces a_t_bestFaces a_t_text a_t_verbs a_t_many a_t_nums a_t_book a_t_limbs a_t_wide a_t_sums t_typed t_at t_start t_token t_value t_items t_book t_limbs'_5 t_wide'_5 t_sums'_7) s.heap H locs → lv_has ls 4 [(2, .int x2), (0, .ref a_t), (1, .int p1)] → W p l e rm_R_beginHearing s m args below meth c H locs 0 0 Q (F0 m 52 ls [])) → W p l e rm_R_beginHearing s m args below meth c H locs 0 0 Q (F0 m 21 ls []) := by
          clear hF
          intro k0
          induction k0 with
          | zero =>
            intro x3 t_sums'_6 t_sums'_7 H locs ls hF
            cases hF
          | succ k0 ih10 =>
            intro x3 t_sums'_6 t_sums'_7 H locs ls hF hW hl hk9
            rw [R_beginHearing_L21] at hF
            refine lv_iload_n hx hb dX12_beginHearing_21 rfl (lv_at hl 0 rfl) ?_
            refine lv_aload_n hx hb dX12_beginHearing_22 rfl (lv_at hl 2 rfl) ?_
            refine m_get X hW fdX12_7 0 rfl rfl dX12_beginHearing_23 ?_
            refine lv_iconst (v := (3 : Int32)) hx hb dX12_beginHearing_26 (by decide) ?_
            refine m_iald X hW 1 (k := 3) rfl (by decide) rfl dX12_beginHearing_27 ?_
            refine lv_icmp_ge (tgt := 52) hx hb dX12_beginHearing_28 (by decide) (fun c11 => ?_) (fun c11 => ?_)
            · have hF := if_y c11 hF
              cases hF
              exact hk9 _ _ _ hW (lv_sub hl [1, 2, 3] rfl)
            · have hF := if_n c11 hF
              refine lv_aload_n hx hb dX12_beginHearing_31 rfl (lv_at hl 2 rfl) ?_
              refine m_get X hW fdX12_50 0 rfl rfl dX12_beginHearing_32 ?_
              refine lv_iload_n hx hb dX12_beginHearing_35 rfl (lv_at hl 1 rfl) ?_
              refine lv_dup2_11 hx hb dX12_beginHearing_36 rfl rfl ?_
              refine m_iald X hW 4 (k := x2.toNatClampNeg) rfl g6 rfl dX12_beginHearing_37 ?_
              refine lv_aload_n hx hb dX12_beginHearing_38 rfl (lv_at hl 2 rfl) ?_
              refine lv_iload_n hx hb dX12_beginHearing_39 rfl (lv_at hl 1 rfl) ?_
              refine lv_iload_n hx hb dX12_beginHearing_40 rfl (lv_at hl 0 rfl) ?_
              obtain ⟨r41, hC12, hF⟩ := bO_s1 hF
              refine m_callV X hW hA hl.1 lkX12_234 (c_R_hearing l E _ N a_t a_t_images a_t_kept a_t_aside a_t_limbs a_t_wide a_t_hears a_t_spies a_t_known a_t_by a_t_ways a_t_fewest a_t_heavy a_t_sums a_t_faces a_t_bestFaces a_t_text a_t_verbs a_t_many a_t_nums a_t_book t_typed t_at t_start t_token t_value t_items t_book x2 x3 r41 hC12) ([0, 1]) (by decide) rfl rfl (ws' := (wd_R_beginHearing E a_t a_t_images a_t_kept a_t_aside a_t_hears a_t_spies a_t_known a_t_by a_t_ways a_t_fewest a_t_heavy a_t_faces a_t_bestFaces a_t_text a_t_verbs a_t_many a_t_nums a_t_book a_t_limbs a_t_wide a_t_sums t_typed t_at t_start t_token t_value t_items t_book t_limbs'_5 t_wide'_5 t_sums'_6)) rfl 0 rfl rfl rfl (As := [.int x2, .int x3]) (rest := [.int (t_sums'_6 x2.toNatClampNeg), .int x2, .ref a_t_sums]) rfl rfl ⟨rfl, rfl, Nat.le_of_ble_eq_true rfl, Nat.le_of_ble_eq_true rfl⟩ (Nat.le_of_ble_eq_true rfl) (Nat.zero_le _) (Nat.zero_le _) dX12_beginHearing_41 (fun H locs hW => ?_)
              clear hC12
              refine lv_iadd hx hb dX12_beginHearing_44 ?_
              refine m_iast X hW 4 (k := x2.toNatClampNeg) rfl g6 rfl dX12_beginHearing_45 (ws' := (wd_R_beginHearing E a_t a_t_images a_t_kept a_t_aside a_t_hears a_t_spies a_t_known a_t_by a_t_ways a_t_fewest a_t_heavy a_t_faces a_t_bestFaces a_t_text a_t_verbs a_t_many a_t_nums a_t_book a_t_limbs a_t_wide a_t_sums t_typed t_at t_start t_token t_value t_items t_book t_limbs'_5 t_wide'_5 (upd t_sums'_6 x2.toNatClampNeg ((t_sums'_6 x2.toNatClampNeg) + r41)))) rfl (fun H locs hW => ?_)
              refine lv_iinc (v := (x3 + (1 : Int32))) (lv' := [(3, .int (x3 + (1 : Int32))), (2, .int x2), (0, .ref a_t), (1, .int p1)]) hx hb dX12_beginHearing_46 hl (k := 0) rfl rfl (by decide) rfl (fun ls hl => ?_)
              refine lv_goto (tgt := 21) hx hb dX12_beginHearing_49 (by decide) ?_
              exact ih10 (x3 + (1 : Int32)) (upd t_sums'_6 x2.toNatClampNeg ((t_sums'_6 x2.toNatClampNeg) + r41)) t_sums'_7 _ _ _ hF hW (lv_sub hl [0, 1, 2, 3] rfl) hk9
        refine L7 N (0 : Int32) (upd t_sums'_5 x2.toNatClampNeg (0 : Int32)) t_sums'_7 _ _ _ hX8 hW (lv_sub hl [0, 1, 2, 3] rfl) ?_
        intro H locs ls hW hl
        clear L7
        refine lv_aload_n hx hb dX12_beginHearing_52 rfl (lv_at hl 1 rfl) ?_
        refine lv_bipush (v := (7 : Int32)) hx hb dX12_beginHearing_53 (by decide) ?_
        refine lv_iload_n hx hb dX12_beginHearing_55 rfl (lv_at hl 0 rfl) ?_
        refine lv_iadd hx hb dX12_beginHearing_56 ?_
        refine lv_iload_n hx hb dX12_beginHearing_57 rfl (lv_at hl 0 rfl) ?_
        refine lv_iload_n hx hb dX12_beginHearing_58 rfl (lv_at hl 2 rfl) ?_
        obtain ⟨y2, hX14, hF⟩ := bO_s1 hF
        have J13 : ∀ (H : Heap) (locs : List Loc) (ls : Array Slot), m_H E A (wd_R_beginHearing E a_t a_t_images a_t_kept a_t_aside a_t_hears a_t_spies a_t_known a_t_by a_t_ways a_t_fewest a_t_heavy a_t_faces a_t_bestFaces a_t_text a_t_verbs a_t_many a_t_nums a_t_book a_t_limbs a_t_wide a_t_sums t_typed t_at t_start t_token t_value t_items t_book t_limbs'_5 t_wide'_5 t_sums'_7) s.heap H locs → lv_has ls 4 [(2, .int x2), (0, .ref a_t), (1, .int p1)] → W p l e rm_R_beginHearing s m args below meth c H locs 0 0 Q (F0 m 67 ls [.long y2, .int ((7 : Int32) + x2), .ref a_t]) := by
          intro H locs ls hW hl
          obtain ⟨t_limbs'_6, t_wide'_6, hC15, hF⟩ := bO_s2 hF
          refine m_callV X hW hA hl.1 lkX12_74 (c_R_sets l E _ N a_t a_t_book a_t_images a_t_kept a_t_aside a_t_hears a_t_spies a_t_known a_t_by a_t_ways a_t_fewest a_t_heavy a_t_sums a_t_faces a_t_bestFaces a_t_text a_t_verbs a_t_many a_t_nums a_t_limbs a_t_wide t_typed t_at t_start t_token t_value t_items t_limbs'_5 t_wide'_5 ((7 : Int32) + x2) y2 (t_limbs'_6, t_wide'_6) hC15) ([0, 2, 3]) (by decide) rfl rfl (ws' := (wd_R_beginHearing E a_t a_t_images a_t_kept a_t_aside a_t_hears a_t_spies a_t_known a_t_by a_t_ways a_t_fewest a_t_heavy a_t_faces a_t_bestFaces a_t_text a_t_verbs a_t_many a_t_nums a_t_book a_t_limbs a_t_wide a_t_sums t_typed t_at t_start t_token t_value t_items t_book t_limbs'_6 t_wide'_6 t_sums'_7)) rfl 0 rfl rfl rfl (As := [.int ((7 : Int32) + x2), .long y2]) (rest := []) rfl rfl ⟨rfl, rfl, Nat.le_of_ble_eq_true rfl, Nat.le_of_ble_eq_true rfl⟩ (Nat.le_of_ble_eq_true rfl) (Nat.zero_le _) (Nat.zero_le _) dX12_beginHearing_67 (fun H locs hW => ?_)
          clear hC15
          refine lv_iinc (v := (x2 + (1 : Int32))) (lv' := [(2, .int (x2 + (1 : Int32))), (0, .ref a_t), (1, .int p1)]) hx hb dX12_beginHearing_70 hl (k := 0) rfl rfl (by decide) rfl (fun ls hl => ?_)
          refine lv_goto (tgt := 2) hx hb dX12_beginHearing_73 (by decide) ?_
          exact ih4 (x2 + (1 : Int32)) t_sums'_7 t_limbs'_6 t_wide'_6 t_sums'_8 t_limbs'_7 t_wide'_7 _ _ _ hF hW (lv_sub hl [0, 1, 2] rfl) hk3
        clear hF
        have hF := hX14
        clear hX14
        refine lv_icmp_ne (tgt := 66) hx hb dX12_beginHearing_59 (by decide) (fun c16 => ?_) (fun c16 => ?_)
        · have hF := if_n c16 hF
          refine lv_lconst (v := (0 : Int64)) hx hb dX12_beginHearing_66 (by decide) ?_
          cases hF
          exact J13 _ _ _ hW (lv_sub hl [0, 1, 2] rfl)
        · have hF := if_y c16 hF
          refine lv_lconst (v := (1 : Int64)) hx hb dX12_beginHearing_62 (by decide) ?_
          refine lv_goto (tgt := 67) hx hb dX12_beginHearing_63 (by decide) ?_
          cases hF
          exact J13 _ _ _ hW (lv_sub hl [0, 1, 2] rfl)
  refine L1 N (0 : Int32) t_sums t_limbs t_wide t_sums'_8 t_limbs'_7 t_wide'_7 _ _ _ hX2 hW (lv_sub hl [0, 1, 2] rfl) ?_
  intro H locs ls hW hl
  clear L1
  refine lv_aload_n hx hb dX12_beginHearing_76 rfl (lv_at hl 0 rfl) ?_
  refine lv_bipush (v := (6 : Int32)) hx hb dX12_beginHearing_77 (by decide) ?_
  refine lv_lconst (v := (1 : Int64)) hx hb dX12_beginHearing_79 (by decide) ?_
  obtain ⟨t_limbs'_8, t_wide'_8, hC17, hF⟩ := bO_s2 hF
  refine m_callV X hW hA hl.1 lkX12_74 (c_R_sets l E _ N a_t a_t_book a_t_images a_t_kept a_t_aside a_t_hears a_t_spies a_t_known a_t_by a_t_ways a_t_fewest a_t_heavy a_t_sums a_t_faces a_t_bestFaces a_t_text a_t_verbs a_t_many a_t_nums a_t_limbs a_t_wide t_typed t_at t_start t_token t_value t_items t_limbs'_7 t_wide'_7 (6 : Int32) (1 : Int64) (t_limbs'_8, t_wide'_8) hC17) ([0, 2, 3]) (by decide) rfl rfl (ws' := (wd_R_beginHearing E a_t a_t_images a_t_kept a_t_aside a_t_hears a_t_spies a_t_known a_t_by a_t_ways a_t_fewest a_t_heavy a_t_faces a_t_bestFaces a_t_text a_t_verbs a_t_many a_t_nums a_t_book a_t_limbs a_t_wide a_t_sums t_typed t_at t_start t_token t_value t_items t_book t_limbs'_8 t_wide'_8 t_sums'_8)) rfl 0 rfl rfl rfl (As := [.int (6 : Int32), .long (1 : Int64)]) (rest := []) rfl rfl ⟨rfl, rfl, Nat.le_of_ble_eq_true rfl, Nat.le_of_ble_eq_true rfl⟩ (Nat.le_of_ble_eq_true rfl) (Nat.zero_le _) (Nat.zero_le _) dX12_beginHearing_80 (fun H locs hW => ?_)
  clear hC17
  have hq := Option.some.inj hF
  subst hq
  exact hret _ _ _ _ hW dX12_beginHearing_83
abbrev wd_R_hearsOn (E : m_E) (a_t : Nat) (a_t_images : Nat) (a_t_kept : Nat) (a_t_aside : Nat) (a_t_hears : Nat) (a_t_spies : Nat) (a_t_known : Nat) (a_t_by : Nat) (a_t_ways : Nat) (a_t_fewest : Nat) (a_t_heavy : Nat) (a_t_faces : Nat) (a_t_bestFaces : Nat) (a_t_text : Nat) (a_t_verbs : Nat) (a_t_many : Nat) (a_t_nums : Nat) (a_t_book : Nat) (a_t_limbs : Nat) (a_t_wide : Nat) (a_t_sums : Nat) (t_typed : Int32) (t_at : Int32) (t_start : Int32) (t_token : Int32) (t_value : Int32) (t_items : Int32) (t_book : Nat → Int32) (t_limbs : Nat → Int32) (t_wide : Nat → Int32) (t_sums : Nat → Int32) : va_W := [(a_t, .inr (12, [.ref a_t_book, .ref a_t_images, .ref a_t_kept, .ref a_t_aside, .ref a_t_limbs, .ref a_t_wide, .ref a_t_hears, .ref a_t_spies, .ref a_t_known, .ref a_t_by, .ref a_t_ways, .ref a_t_fewest, .ref a_t_heavy, .ref a_t_sums, .ref a_t_faces, .ref a_t_bestFaces, .ref a_t_text, .int t_typed, .int t_at, .int t_start, .int t_token, .int t_value, .ref a_t_verbs, .ref a_t_many, .ref a_t_nums, .int t_items])), (a_t_book, .inl (E.2.1 0, 240, .inl t_book)), (a_t_limbs, .inl (E.2.1 0, 1680, .inl t_limbs)), (a_t_wide, .inl (E.2.1 0, 28, .inl t_wide)), (a_t_sums, .inl (E.2.1 0, 10, .inl t_sums))]
def rm_R_hearsOn : Room := { frames := 4, cells := 0, slots := 0, locals := 90 }
set_option maxHeartbeats 4000000 in
set_option maxRecDepth 100000 in
theorem c_R_hearsOn (l : Launch) (E : m_E) (sz N : Nat) (a_t : Nat) (a_t_images : Nat) (a_t_kept : Nat) (a_t_aside : Nat) (a_t_hears : Nat) (a_t_spies : Nat) (a_t_known : Nat) (a_t_by : Nat) (a_t_ways : Nat) (a_t_fewest : Nat) (a_t_heavy : Nat) (a_t_faces : Nat) (a_t_bestFaces : Nat) (a_t_text : Nat) (a_t_verbs : Nat) (a_t_many : Nat) (a_t_nums : Nat) (a_t_book : Nat) (a_t_limbs : Nat) (a_t_wide : Nat) (a_t_sums : Nat) (t_typed : Int32) (t_at : Int32) (t_start : Int32) (t_token : Int32) (t_value : Int32) (t_items : Int32) (t_book : Nat → Int32) (t_limbs : Nat → Int32) (t_wide : Nat → Int32) (t_sums : Nat → Int32) (p1 : Int32) (ures : (Nat → Int32) × (Nat → Int32)) (hF : F_R_hearsOn N p1 t_book t_limbs t_wide t_sums = some ures) : m_Met l yX12_hearsOn cX12_hearsOn 5 none rm_R_hearsOn E (wd_R_hearsOn E a_t a_t_images a_t_kept a_t_aside a_t_hears a_t_spies a_t_known a_t_by a_t_ways a_t_fewest a_t_heavy a_t_faces a_t_bestFaces a_t_text a_t_verbs a_t_many a_t_nums a_t_book a_t_limbs a_t_wide a_t_sums t_typed t_at t_start t_token t_value t_items t_book t_limbs t_wide t_sums) (wd_R_hearsOn E a_t a_t_images a_t_kept a_t_aside a_t_hears a_t_spies a_t_known a_t_by a_t_ways a_t_fewest a_t_heavy a_t_faces a_t_bestFaces a_t_text a_t_verbs a_t_many a_t_nums a_t_book a_t_limbs a_t_wide a_t_sums t_typed t_at t_start t_token t_value t_items t_book ures.1 ures.2 t_sums) sz [.ref a_t, .int p1] none := by
  refine m_ofV (by decide) (Nat.le_of_ble_eq_true rfl) ?_
  intro p e s m args below meth c A Q ls X hW hA hl hret
  obtain ⟨hx, hb, -, hown, hts, hK, -, hG⟩ := id X
  have hl : lv_has ls 5 [(0, .ref a_t), (1, .int p1)] := hl
  unfold F_R_hearsOn at hF
  refine lv_iconst (v := (0 : Int32)) hx hb dX12_hearsOn_0 (by decide) ?_
  refine lv_istore_n (lv' := [(2, .int (0 : Int32)), (0, .ref a_t), (1, .int p1)]) hx hb dX12_hearsOn_1 rfl hl (by decide) rfl (fun ls hl => ?_)
  obtain ⟨t_limbs'_26, t_wide'_26, hX2, hF⟩ := bO_s2 hF
  have L1 : ∀ (k0 : Nat) (x2 : Int32) (t_limbs'_16 : Nat → Int32) (t_wide'_16 : Nat → Int32) (t_limbs'_26 : Nat → Int32) (t_wide'_26 : Nat → Int32) (H : Heap) (locs : List Loc) (ls : Array Slot), R_hearsOn_L2 N t_book p1 t_sums k0 x2 t_limbs'_16 t_wide'_16 = some (t_limbs'_26, t_wide'_26) → m_H E A (wd_R_hearsOn E a_t a_t_images a_t_kept a_t_aside a_t_hears a_t_spies a_t_known a_t_by a_t_ways a_t_fewest a_t_heavy a_t_faces a_t_bestFaces a_t_text a_t_verbs a_t_many a_t_nums a_t_book a_t_limbs a_t_wide a_t_sums t_typed t_at t_start t_token t_value t_items t_book t_limbs'_16 t_wide'_16 t_sums) s.heap H locs → lv_has ls 5 [(2, .int x2), (0, .ref a_t), (1, .int p1)] → (∀ (H : Heap) (locs : List Loc) (ls : Array Slot), m_H E A (wd_R_hearsOn E a_t a_t_images a_t_kept a_t_aside a_t_hears a_t_spies a_t_known a_t_by a_t_ways a_t_fewest a_t_heavy a_t_faces a_t_bestFaces a_t_text a_t_verbs a_t_many a_t_nums a_t_book a_t_limbs a_t_wide a_t_sums t_typed t_at t_start t_token t_value t_items t_book t_limbs'_26 t_wide'_26 t_sums) s.heap H locs → lv_has ls 5 [(0, .ref a_t), (1, .int p1)] → W p l e rm_R_hearsOn s m args below meth c H locs 0 0 Q (F0 m 147 ls [])) → W p l e rm_R_hearsOn s m args below meth c H locs 0 0 Q (F0 m 2 ls []) := by
    clear hF
    intro k0
    induction k0 with
    | zero =>
      intro x2 t_limbs'_16 t_wide'_16 t_limbs'_26 t_wide'_26 H locs ls hF
      cases hF
    | succ k0 ih4 =>
      intro x2 t_limbs'_16 t_wide'_16 t_limbs'_26 t_wide'_26 H locs ls hF hW hl hk3
      rw [R_hearsOn_L2] at hF
      refine lv_iload_n hx hb dX12_hearsOn_2 rfl (lv_at hl 0 rfl) ?_
      refine lv_aload_n hx hb dX12_hearsOn_3 rfl (lv_at hl 1 rfl) ?_
      refine m_get X hW fdX12_7 0 rfl rfl dX12_hearsOn_4 ?_
      refine lv_iconst (v := (3 : Int32)) hx hb dX12_hearsOn_7 (by decide) ?_
      refine m_iald X hW 1 (k := 3) rfl (by decide) rfl dX12_hearsOn_8 ?_
      refine lv_icmp_ge (tgt := 147) hx hb dX12_hearsOn_9 (by decide) (fun c5 => ?_) (fun c5 => ?_)
      · have hF := if_y c5 hF
        cases hF
        exact hk3 _ _ _ hW (lv_sub hl [1, 2] rfl)
      · have hF := if_n c5 hF
        refine lv_aload_n hx hb dX12_hearsOn_12 rfl (lv_at hl 1 rfl) ?_
        refine lv_bipush (v := (17 : Int32)) hx hb dX12_hearsOn_13 (by decide) ?_
        refine lv_iload_n hx hb dX12_hearsOn_15 rfl (lv_at hl 0 rfl) ?_
        refine lv_iadd hx hb dX12_hearsOn_16 ?_
        refine lv_lconst (v := (0 : Int64)) hx hb dX12_hearsOn_17 (by decide) ?_
        obtain ⟨t_limbs'_17, t_wide'_17, hC6, hF⟩ := bO_s2 hF
        refine m_callV X hW hA hl.1 lkX12_74 (c_R_sets l E _ N a_t a_t_book a_t_images a_t_kept a_t_aside a_t_hears a_t_spies a_t_known a_t_by a_t_ways a_t_fewest a_t_heavy a_t_sums a_t_faces a_t_bestFaces a_t_text a_t_verbs a_t_many a_t_nums a_t_limbs a_t_wide t_typed t_at t_start t_token t_value t_items t_limbs'_16 t_wide'_16 ((17 : Int32) + x2) (0 : Int64) (t_limbs'_17, t_wide'_17) hC6) ([0, 2, 3]) (by decide) rfl rfl (ws' := (wd_R_hearsOn E a_t a_t_images a_t_kept a_t_aside a_t_hears a_t_spies a_t_known a_t_by a_t_ways a_t_fewest a_t_heavy a_t_faces a_t_bestFaces a_t_text a_t_verbs a_t_many a_t_nums a_t_book a_t_limbs a_t_wide a_t_sums t_typed t_at t_start t_token t_value t_items t_book t_limbs'_17 t_wide'_17 t_sums)) rfl 0 rfl rfl rfl (As := [.int ((17 : Int32) + x2), .long (0 : Int64)]) (rest := []) rfl rfl ⟨rfl, rfl, Nat.le_of_ble_eq_true rfl, Nat.le_of_ble_eq_true rfl⟩ (Nat.le_of_ble_eq_true rfl) (Nat.zero_le _) (Nat.zero_le _) dX12_hearsOn_18 (fun H locs hW => ?_)
        clear hC6
        refine lv_iconst (v := (0 : Int32)) hx hb dX12_hearsOn_21 (by decide) ?_
        refine lv_istore_n (lv' := [(3, .int (0 : Int32)), (2, .int x2), (0, .ref a_t), (1, .int p1)]) hx hb dX12_hearsOn_22 rfl hl (by decide) rfl (fun ls hl => ?_)
        obtain ⟨t_limbs'_25, t_wide'_25, hX8, hF⟩ := bO_s2 hF
        have L7 : ∀ (k0 : Nat) (x3 : Int32) (t_limbs'_18 : Nat → Int32) (t_wide'_18 : Nat → Int32) (t_limbs'_25 : Nat → Int32) (t_wide'_25 : Nat → Int32) (H : Heap) (locs : List Loc) (ls : Array Slot), R_hearsOn_L23 N t_book x2 p1 t_sums k0 x3 t_limbs'_18 t_wide'_18 = some (t_limbs'_25, t_wide'_25) → m_H E A (wd_R_hearsOn E a_t a_t_images a_t_kept a_t_aside a_t_hears a_t_spies a_t_known a_t_by a_t_ways a_t_fewest a_t_heavy a_t_faces a_t_bestFaces a_t_text a_t_verbs a_t_many a_t_nums a_t_book a_t_limbs a_t_wide a_t_sums t_typed t_at t_start t_token t_value t_items t_book t_limbs'_18 t_wide'_18 t_sums) s.heap H locs → lv_has ls 5 [(3, .int x3), (2, .int x2), (0, .ref a_t), (1, .int p1)] → (∀ (H : Heap) (locs : List Loc) (ls : Array Slot), m_H E A (wd_R_hearsOn E a_t a_t_images a_t_kept a_t_aside a_t_hears a_t_spies a_t_known a_t_by a_t_ways a_t_fewest a_t_heavy a_t_faces a_t_bestFaces a_t_text a_t_verbs a_t_many a_t_nums a_t_book a_t_limbs a_t_wide a_t_sums t_typed t_at t_start t_token t_value t_items t_book t_limbs'_25 t_wide'_25 t_sums) s.heap H locs → lv_has ls 5 [(2, .int x2), (0, .ref a_t), (1, .int p1)] → W p l e rm_R_hearsOn s m args below meth c H locs 0 0 Q (F0 m 141 ls [])) → W p l e rm_R_hearsOn s m args below meth c H locs 0 0 Q (F0 m 23 ls []) := by
          clear hF
          intro k0
          induction k0 with
          | zero =>
            intro x3 t_limbs'_18 t_wide'_18 t_limbs'_25 t_wide'_25 H locs ls hF
            cases hF
          | succ k0 ih10 =>
            intro x3 t_limbs'_18 t_wide'_18 t_limbs'_25 t_wide'_25 H locs ls hF hW hl hk9
            rw [R_hearsOn_L23] at hF
            refine lv_iload_n hx hb dX12_hearsOn_23 rfl (lv_at hl 0 rfl) ?_
            refine lv_aload_n hx hb dX12_hearsOn_24 rfl (lv_at hl 2 rfl) ?_
            refine m_get X hW fdX12_7 0 rfl rfl dX12_hearsOn_25 ?_
            refine lv_iconst (v := (3 : Int32)) hx hb dX12_hearsOn_28 (by decide) ?_
            refine m_iald X hW 1 (k := 3) rfl (by decide) rfl dX12_hearsOn_29 ?_
            refine lv_icmp_ge (tgt := 141) hx hb dX12_hearsOn_30 (by decide) (fun c11 => ?_) (fun c11 => ?_)
            · have hF := if_y c11 hF
              cases hF
              exact hk9 _ _ _ hW (lv_sub hl [1, 2, 3] rfl)
            · have hF := if_n c11 hF
              refine lv_aload_n hx hb dX12_hearsOn_33 rfl (lv_at hl 2 rfl) ?_
              refine m_get X hW fdX12_26 0 rfl rfl dX12_hearsOn_34 ?_
              refine lv_bipush (v := (7 : Int32)) hx hb dX12_hearsOn_37 (by decide) ?_
              refine lv_iload_n hx hb dX12_hearsOn_39 rfl (lv_at hl 0 rfl) ?_
              refine lv_iadd hx hb dX12_hearsOn_40 ?_
              obtain ⟨g12, hF⟩ := gd_some hF
              refine m_iald X hW 3 (k := ((7 : Int32) + x3).toNatClampNeg) rfl g12 rfl dX12_hearsOn_41 ?_
              refine lv_if_le (tgt := 135) hx hb dX12_hearsOn_42 (by decide) (fun c13 => ?_) (fun c13 => ?_)
              · have hF := if_y c13 hF
                refine lv_iinc (v := (x3 + (1 : Int32))) (lv' := [(3, .int (x3 + (1 : Int32))), (2, .int x2), (0, .ref a_t), (1, .int p1)]) hx hb dX12_hearsOn_135 hl (k := 0) rfl rfl (by decide) rfl (fun ls hl => ?_)
                refine lv_goto (tgt := 23) hx hb dX12_hearsOn_138 (by decide) ?_
                exact ih10 (x3 + (1 : Int32)) t_limbs'_18 t_wide'_18 t_limbs'_25 t_wide'_25 _ _ _ hF hW (lv_sub hl [0, 1, 2, 3] rfl) hk9
              · have hF := if_n c13 hF
                refine lv_aload_n hx hb dX12_hearsOn_45 rfl (lv_at hl 2 rfl) ?_
                refine lv_iload_n hx hb dX12_hearsOn_46 rfl (lv_at hl 0 rfl) ?_
                refine lv_iload_n hx hb dX12_hearsOn_47 rfl (lv_at hl 1 rfl) ?_
                obtain ⟨r48, hC14, hF⟩ := bO_s1 hF
                refine m_callV X hW hA hl.1 lkX12_234 (c_R_hearing l E _ N a_t a_t_images a_t_kept a_t_aside a_t_limbs a_t_wide a_t_hears a_t_spies a_t_known a_t_by a_t_ways a_t_fewest a_t_heavy a_t_sums a_t_faces a_t_bestFaces a_t_text a_t_verbs a_t_many a_t_nums a_t_book t_typed t_at t_start t_token t_value t_items t_book x3 x2 r48 hC14) ([0, 1]) (by decide) rfl rfl (ws' := (wd_R_hearsOn E a_t a_t_images a_t_kept a_t_aside a_t_hears a_t_spies a_t_known a_t_by a_t_ways a_t_fewest a_t_heavy a_t_faces a_t_bestFaces a_t_text a_t_verbs a_t_many a_t_nums a_t_book a_t_limbs a_t_wide a_t_sums t_typed t_at t_start t_token t_value t_items t_book t_limbs'_18 t_wide'_18 t_sums)) rfl 0 rfl rfl rfl (As := [.int x3, .int x2]) (rest := []) rfl rfl ⟨rfl, rfl, Nat.le_of_ble_eq_true rfl, Nat.le_of_ble_eq_true rfl⟩ (Nat.le_of_ble_eq_true rfl) (Nat.zero_le _) (Nat.zero_le _) dX12_hearsOn_48 (fun H locs hW => ?_)
                clear hC14
                refine lv_if_le (tgt := 135) hx hb dX12_hearsOn_51 (by decide) (fun c15 => ?_) (fun c15 => ?_)
                · have hF := if_y c15 hF
                  refine lv_iinc (v := (x3 + (1 : Int32))) (lv' := [(3, .int (x3 + (1 : Int32))), (2, .int x2), (0, .ref a_t), (1, .int p1)]) hx hb dX12_hearsOn_135 hl (k := 0) rfl rfl (by decide) rfl (fun ls hl => ?_)
                  refine lv_goto (tgt := 23) hx hb dX12_hearsOn_138 (by decide) ?_
                  exact ih10 (x3 + (1 : Int32)) t_limbs'_18 t_wide'_18 t_limbs'_25 t_wide'_25 _ _ _ hF hW (lv_sub hl [0, 1, 2, 3] rfl) hk9
                · have hF := if_n c15 hF
                  refine lv_aload_n hx hb dX12_hearsOn_54 rfl (lv_at hl 2 rfl) ?_
                  refine lv_iconst (v := (5 : Int32)) hx hb dX12_hearsOn_55 (by decide) ?_
                  refine lv_bipush (v := (7 : Int32)) hx hb dX12_hearsOn_56 (by decide) ?_
                  refine lv_iload_n hx hb dX12_hearsOn_58 rfl (lv_at hl 0 rfl) ?_
                  refine lv_iadd hx hb dX12_hearsOn_59 ?_
                  obtain ⟨t_limbs'_19, t_wide'_19, hC16, hF⟩ := bO_s2 hF
                  refine m_callV X hW hA hl.1 lkX12_84 (c_R_takes l E _ N a_t a_t_book a_t_images a_t_kept a_t_aside a_t_hears a_t_spies a_t_known a_t_by a_t_ways a_t_fewest a_t_heavy a_t_sums a_t_faces a_t_bestFaces a_t_text a_t_verbs a_t_many a_t_nums a_t_limbs a_t_wide t_typed t_at t_start t_token t_value t_items t_limbs'_18 t_wide'_18 (5 : Int32) ((7 : Int32) + x3) (t_limbs'_19, t_wide'_19) hC16) ([0, 2, 3]) (by decide) rfl rfl (ws' := (wd_R_hearsOn E a_t a_t_images a_t_kept a_t_aside a_t_hears a_t_spies a_t_known a_t_by a_t_ways a_t_fewest a_t_heavy a_t_faces a_t_bestFaces a_t_text a_t_verbs a_t_many a_t_nums a_t_book a_t_limbs a_t_wide a_t_sums t_typed t_at t_start t_token t_value t_items t_book t_limbs'_19 t_wide'_19 t_sums)) rfl 0 rfl rfl rfl (As := [.int (5 : Int32), .int ((7 : Int32) + x3)]) (rest := []) rfl rfl ⟨rfl, rfl, Nat.le_of_ble_eq_true rfl, Nat.le_of_ble_eq_true rfl⟩ (Nat.le_of_ble_eq_true rfl) (Nat.zero_le _) (Nat.zero_le _) dX12_hearsOn_60 (fun H locs hW => ?_)
                  clear hC16
                  refine lv_aload_n hx hb dX12_hearsOn_63 rfl (lv_at hl 2 rfl) ?_
                  refine lv_iconst (v := (5 : Int32)) hx hb dX12_hearsOn_64 (by decide) ?_
                  refine lv_aload_n hx hb dX12_hearsOn_65 rfl (lv_at hl 2 rfl) ?_
                  refine lv_iload_n hx hb dX12_hearsOn_66 rfl (lv_at hl 0 rfl) ?_
                  refine lv_iload_n hx hb dX12_hearsOn_67 rfl (lv_at hl 1 rfl) ?_
                  obtain ⟨r68, hC17, hF⟩ := bO_s1 hF
                  refine m_callV X hW hA hl.1 lkX12_234 (c_R_hearing l E _ N a_t a_t_images a_t_kept a_t_aside a_t_limbs a_t_wide a_t_hears a_t_spies a_t_known a_t_by a_t_ways a_t_fewest a_t_heavy a_t_sums a_t_faces a_t_bestFaces a_t_text a_t_verbs a_t_many a_t_nums a_t_book t_typed t_at t_start t_token t_value t_items t_book x3 x2 r68 hC17) ([0, 1]) (by decide) rfl rfl (ws' := (wd_R_hearsOn E a_t a_t_images a_t_kept a_t_aside a_t_hears a_t_spies a_t_known a_t_by a_t_ways a_t_fewest a_t_heavy a_t_faces a_t_bestFaces a_t_text a_t_verbs a_t_many a_t_nums a_t_book a_t_limbs a_t_wide a_t_sums t_typed t_at t_start t_token t_value t_items t_book t_limbs'_19 t_wide'_19 t_sums)) rfl 0 rfl rfl rfl (As := [.int x3, .int x2]) (rest := [.int (5 : Int32), .ref a_t]) rfl rfl ⟨rfl, rfl, Nat.le_of_ble_eq_true rfl, Nat.le_of_ble_eq_true rfl⟩ (Nat.le_of_ble_eq_true rfl) (Nat.zero_le _) (Nat.zero_le _) dX12_hearsOn_68 (fun H locs hW => ?_)
                  clear hC17
                  obtain ⟨t_limbs'_20, t_wide'_20, hC18, hF⟩ := bO_s2 hF
                  refine m_callV X hW hA hl.1 lkX12_237 (c_R_times l E _ N a_t a_t_book a_t_images a_t_kept a_t_aside a_t_hears a_t_spies a_t_known a_t_by a_t_ways a_t_fewest a_t_heavy a_t_sums a_t_faces a_t_bestFaces a_t_text a_t_verbs a_t_many a_t_nums a_t_limbs a_t_wide t_typed t_at t_start t_token t_value t_items t_limbs'_19 t_wide'_19 (5 : Int32) r68 (t_limbs'_20, t_wide'_20) hC18) ([0, 2, 3]) (by decide) rfl rfl (ws' := (wd_R_hearsOn E a_t a_t_images a_t_kept a_t_aside a_t_hears a_t_spies a_t_known a_t_by a_t_ways a_t_fewest a_t_heavy a_t_faces a_t_bestFaces a_t_text a_t_verbs a_t_many a_t_nums a_t_book a_t_limbs a_t_wide a_t_sums t_typed t_at t_start t_token t_value t_items t_book t_limbs'_20 t_wide'_20 t_sums)) rfl 0 rfl rfl rfl (As := [.int (5 : Int32), .int r68]) (rest := []) rfl rfl ⟨rfl, rfl, Nat.le_of_ble_eq_true rfl, Nat.le_of_ble_eq_true rfl⟩ (Nat.le_of_ble_eq_true rfl) (Nat.zero_le _) (Nat.zero_le _) dX12_hearsOn_71 (fun H locs hW => ?_)
                  clear hC18
                  refine lv_iconst (v := (0 : Int32)) hx hb dX12_hearsOn_74 (by decide) ?_
                  refine lv_istore (lv' := [(4, .int (0 : Int32)), (3, .int x3), (2, .int x2), (0, .ref a_t), (1, .int p1)]) hx hb dX12_hearsOn_75 hl (by decide) rfl (fun ls hl => ?_)
                  obtain ⟨t_limbs'_23, t_wide'_23, hX20, hF⟩ := bO_s2 hF
                  have L19 : ∀ (k0 : Nat) (x4 : Int32) (t_limbs'_21 : Nat → Int32) (t_wide'_21 : Nat → Int32) (t_limbs'_23 : Nat → Int32) (t_wide'_23 : Nat → Int32) (H : Heap) (locs : List Loc) (ls : Array Slot), R_hearsOn_L77 N t_book x3 p1 t_sums k0 x4 t_limbs'_21 t_wide'_21 = some (t_limbs'_23, t_wide'_23) → m_H E A (wd_R_hearsOn E a_t a_t_images a_t_kept a_t_aside a_t_hears a_t_spies a_t_known a_t_by a_t_ways a_t_fewest a_t_heavy a_t_faces a_t_bestFaces a_t_text a_t_verbs a_t_many a_t_nums a_t_book a_t_limbs a_t_wide a_t_sums t_typed t_at t_start t_token t_value t_items t_book t_limbs'_21 t_wide'_21 t_sums) s.heap H locs → lv_has ls 5 [(4, .int x4), (3, .int x3), (2, .int x2), (0, .ref a_t), (1, .int p1)] → (∀ (H : Heap) (locs : List Loc) (ls : Array Slot), m_H E A (wd_R_hearsOn E a_t a_t_images a_t_kept a_t_aside a_t_hears a_t_spies a_t_known a_t_by a_t_ways a_t_fewest a_t_heavy a_t_faces a_t_bestFaces a_t_text a_t_verbs a_t_many a_t_nums a_t_book a_t_limbs a_t_wide a_t_sums t_typed t_at t_start t_token t_value t_items t_book t_limbs'_23 t_wide'_23 t_sums) s.heap H locs → lv_has ls 5 [(3, .int x3), (2, .int x2), (0, .ref a_t), (1, .int p1)] → W p l e rm_R_hearsOn s m args below meth c H locs 0 0 Q (F0 m 126 ls [])) → W p l e rm_R_hearsOn s m args below meth c H locs 0 0 Q (F0 m 77 ls []) := by
                    clear hF
                    intro k0
                    induction k0 with
                    | zero =>
                      intro x4 t_limbs'_21 t_wide'_21 t_limbs'_23 t_wide'_23 H locs ls hF
                      cases hF
                    | succ k0 ih22 =>
                      intro x4 t_limbs'_21 t_wide'_21 t_limbs'_23 t_wide'_23 H locs ls hF hW hl hk21
                      rw [R_hearsOn_L77] at hF
                      refine lv_iload hx hb dX12_hearsOn_77 (lv_at hl 0 rfl) ?_
                      refine lv_aload_n hx hb dX12_hearsOn_79 rfl (lv_at hl 3 rfl) ?_
                      refine m_get X hW fdX12_7 0 rfl rfl dX12_hearsOn_80 ?_
                      refine lv_iconst (v := (3 : Int32)) hx hb dX12_hearsOn_83 (by decide) ?_
                      refine m_iald X hW 1 (k := 3) rfl (by decide) rfl dX12_hearsOn_84 ?_
                      refine lv_icmp_ge (tgt := 126) hx hb dX12_hearsOn_85 (by decide) (fun c23 => ?_) (fun c23 => ?_)
                      · have hF := if_y c23 hF
                        cases hF
                        exact hk21 _ _ _ hW (lv_sub hl [1, 2, 3, 4] rfl)
                      · have hF := if_n c23 hF
                        refine lv_iload hx hb dX12_hearsOn_88 (lv_at hl 0 rfl) ?_
                        refine lv_iload_n hx hb dX12_hearsOn_90 rfl (lv_at hl 1 rfl) ?_
                        refine lv_icmp_eq (tgt := 120) hx hb dX12_hearsOn_91 (by decide) (fun c24 => ?_) (fun c24 => ?_)
                        · have hF := if_y c24 hF
                          refine lv_iinc (v := (x4 + (1 : Int32))) (lv' := [(4, .int (x4 + (1 : Int32))), (3, .int x3), (2, .int x2), (0, .ref a_t), (1, .int p1)]) hx hb dX12_hearsOn_120 hl (k := 0) rfl rfl (by decide) rfl (fun ls hl => ?_)
                          refine lv_goto (tgt := 77) hx hb dX12_hearsOn_123 (by decide) ?_
                          exact ih22 (x4 + (1 : Int32)) t_limbs'_21 t_wide'_21 t_limbs'_23 t_wide'_23 _ _ _ hF hW (lv_sub hl [0, 1, 2, 3, 4] rfl) hk21
                        · have hF := if_n c24 hF
                          refine lv_aload_n hx hb dX12_hearsOn_94 rfl (lv_at hl 3 rfl) ?_
                          refine lv_iload hx hb dX12_hearsOn_95 (lv_at hl 0 rfl) ?_
                          obtain ⟨r97, hC25, hF⟩ := bO_s1 hF
                          refine m_callV X hW hA hl.1 lkX12_196 (c_R_lengthOf l E _ N a_t a_t_images a_t_kept a_t_aside a_t_limbs a_t_wide a_t_hears a_t_spies a_t_known a_t_by a_t_ways a_t_fewest a_t_heavy a_t_sums a_t_faces a_t_bestFaces a_t_text a_t_verbs a_t_many a_t_nums a_t_book t_typed t_at t_start t_token t_value t_items t_book x4 r97 hC25) ([0, 1]) (by decide) rfl rfl (ws' := (wd_R_hearsOn E a_t a_t_images a_t_kept a_t_aside a_t_hears a_t_spies a_t_known a_t_by a_t_ways a_t_fewest a_t_heavy a_t_faces a_t_bestFaces a_t_text a_t_verbs a_t_many a_t_nums a_t_book a_t_limbs a_t_wide a_t_sums t_typed t_at t_start t_token t_value t_items t_book t_limbs'_21 t_wide'_21 t_sums)) rfl 0 rfl rfl rfl (As := [.int x4]) (rest := []) rfl rfl ⟨rfl, rfl, Nat.le_of_ble_eq_true rfl, Nat.le_of_ble_eq_true rfl⟩ (Nat.le_of_ble_eq_true rfl) (Nat.zero_le _) (Nat.zero_le _) dX12_hearsOn_97 (fun H locs hW => ?_)
                          clear hC25
                          refine lv_aload_n hx hb dX12_hearsOn_100 rfl (lv_at hl 3 rfl) ?_
                          refine lv_iload_n hx hb dX12_hearsOn_101 rfl (lv_at hl 4 rfl) ?_
                          obtain ⟨r102, hC26, hF⟩ := bO_s1 hF
                          refine m_callV X hW hA hl.1 lkX12_196 (c_R_lengthOf l E _ N a_t a_t_images a_t_kept a_t_aside a_t_limbs a_t_wide a_t_hears a_t_spies a_t_known a_t_by a_t_ways a_t_fewest a_t_heavy a_t_sums a_t_faces a_t_bestFaces a_t_text a_t_verbs a_t_many a_t_nums a_t_book t_typed t_at t_start t_token t_value t_items t_book p1 r102 hC26) ([0, 1]) (by decide) rfl rfl (ws' := (wd_R_hearsOn E a_t a_t_images a_t_kept a_t_aside a_t_hears a_t_spies a_t_known a_t_by a_t_ways a_t_fewest a_t_heavy a_t_faces a_t_bestFaces a_t_text a_t_verbs a_t_many a_t_nums a_t_book a_t_limbs a_t_wide a_t_sums t_typed t_at t_start t_token t_value t_items t_book t_limbs'_21 t_wide'_21 t_sums)) rfl 0 rfl rfl rfl (As := [.int p1]) (rest := [.int r97]) rfl rfl ⟨rfl, rfl, Nat.le_of_ble_eq_true rfl, Nat.le_of_ble_eq_true rfl⟩ (Nat.le_of_ble_eq_true rfl) (Nat.zero_le _) (Nat.zero_le _) dX12_hearsOn_102 (fun H locs hW => ?_)
                          clear hC26
                          refine lv_icmp_ne (tgt := 120) hx hb dX12_hearsOn_105 (by decide) (fun c27 => ?_) (fun c27 => ?_)
                          · have hF := if_n c27 hF
                            refine lv_iinc (v := (x4 + (1 : Int32))) (lv' := [(4, .int (x4 + (1 : Int32))), (3, .int x3), (2, .int x2), (0, .ref a_t), (1, .int p1)]) hx hb dX12_hearsOn_120 hl (k := 0) rfl rfl (by decide) rfl (fun ls hl => ?_)
                            refine lv_goto (tgt := 77) hx hb dX12_hearsOn_123 (by decide) ?_
                            exact ih22 (x4 + (1 : Int32)) t_limbs'_21 t_wide'_21 t_limbs'_23 t_wide'_23 _ _ _ hF hW (lv_sub hl [0, 1, 2, 3, 4] rfl) hk21
                          · have hF := if_y c27 hF
                            refine lv_aload_n hx hb dX12_hearsOn_108 rfl (lv_at hl 3 rfl) ?_
                            refine lv_iconst (v := (5 : Int32)) hx hb dX12_hearsOn_109 (by decide) ?_
                            refine lv_aload_n hx hb dX12_hearsOn_110 rfl (lv_at hl 3 rfl) ?_
                            refine m_get X hW fdX12_50 0 rfl rfl dX12_hearsOn_111 ?_
                            refine lv_iload hx hb dX12_hearsOn_114 (lv_at hl 0 rfl) ?_
                            obtain ⟨g28, hF⟩ := gd_some hF
                            refine m_iald X hW 4 (k := x4.toNatClampNeg) rfl g28 rfl dX12_hearsOn_116 ?_
                            obtain ⟨t_limbs'_22, t_wide'_22, hC29, hF⟩ := bO_s2 hF
                            refine m_callV X hW hA hl.1 lkX12_237 (c_R_times l E _ N a_t a_t_book a_t_images a_t_kept a_t_aside a_t_hears a_t_spies a_t_known a_t_by a_t_ways a_t_fewest a_t_heavy a_t_sums a_t_faces a_t_bestFaces a_t_text a_t_verbs a_t_many a_t_nums a_t_limbs a_t_wide t_typed t_at t_start t_token t_value t_items t_limbs'_21 t_wide'_21 (5 : Int32) (t_sums x4.toNatClampNeg) (t_limbs'_22, t_wide'_22) hC29) ([0, 2, 3]) (by decide) rfl rfl (ws' := (wd_R_hearsOn E a_t a_t_images a_t_kept a_t_aside a_t_hears a_t_spies a_t_known a_t_by a_t_ways a_t_fewest a_t_heavy a_t_faces a_t_bestFaces a_t_text a_t_verbs a_t_many a_t_nums a_t_book a_t_limbs a_t_wide a_t_sums t_typed t_at t_start t_token t_value t_items t_book t_limbs'_22 t_wide'_22 t_sums)) rfl 0 rfl rfl rfl (As := [.int (5 : Int32), .int (t_sums x4.toNatClampNeg)]) (rest := []) rfl rfl ⟨rfl, rfl, Nat.le_of_ble_eq_true rfl, Nat.le_of_ble_eq_true rfl⟩ (Nat.le_of_ble_eq_true rfl) (Nat.zero_le _) (Nat.zero_le _) dX12_hearsOn_117 (fun H locs hW => ?_)
                            clear hC29
                            refine lv_iinc (v := (x4 + (1 : Int32))) (lv' := [(4, .int (x4 + (1 : Int32))), (3, .int x3), (2, .int x2), (0, .ref a_t), (1, .int p1)]) hx hb dX12_hearsOn_120 hl (k := 0) rfl rfl (by decide) rfl (fun ls hl => ?_)
                            refine lv_goto (tgt := 77) hx hb dX12_hearsOn_123 (by decide) ?_
                            exact ih22 (x4 + (1 : Int32)) t_limbs'_22 t_wide'_22 t_limbs'_23 t_wide'_23 _ _ _ hF hW (lv_sub hl [0, 1, 2, 3, 4] rfl) hk21
                  refine L19 N (0 : Int32) t_limbs'_20 t_wide'_20 t_limbs'_23 t_wide'_23 _ _ _ hX20 hW (lv_sub hl [0, 1, 2, 3, 4] rfl) ?_
                  intro H locs ls hW hl
                  clear L19
                  refine lv_aload_n hx hb dX12_hearsOn_126 rfl (lv_at hl 2 rfl) ?_
                  refine lv_bipush (v := (17 : Int32)) hx hb dX12_hearsOn_127 (by decide) ?_
                  refine lv_iload_n hx hb dX12_hearsOn_129 rfl (lv_at hl 1 rfl) ?_
                  refine lv_iadd hx hb dX12_hearsOn_130 ?_
                  refine lv_iconst (v := (5 : Int32)) hx hb dX12_hearsOn_131 (by decide) ?_
                  obtain ⟨t_limbs'_24, t_wide'_24, hC30, hF⟩ := bO_s2 hF
                  refine m_callV X hW hA hl.1 lkX12_240 (c_R_adds l E _ N a_t a_t_book a_t_images a_t_kept a_t_aside a_t_hears a_t_spies a_t_known a_t_by a_t_ways a_t_fewest a_t_heavy a_t_sums a_t_faces a_t_bestFaces a_t_text a_t_verbs a_t_many a_t_nums a_t_limbs a_t_wide t_typed t_at t_start t_token t_value t_items t_limbs'_23 t_wide'_23 ((17 : Int32) + x2) (5 : Int32) (t_limbs'_24, t_wide'_24) hC30) ([0, 2, 3]) (by decide) rfl rfl (ws' := (wd_R_hearsOn E a_t a_t_images a_t_kept a_t_aside a_t_hears a_t_spies a_t_known a_t_by a_t_ways a_t_fewest a_t_heavy a_t_faces a_t_bestFaces a_t_text a_t_verbs a_t_many a_t_nums a_t_book a_t_limbs a_t_wide a_t_sums t_typed t_at t_start t_token t_value t_items t_book t_limbs'_24 t_wide'_24 t_sums)) rfl 0 rfl rfl rfl (As := [.int ((17 : Int32) + x2), .int (5 : Int32)]) (rest := []) rfl rfl ⟨rfl, rfl, Nat.le_of_ble_eq_true rfl, Nat.le_of_ble_eq_true rfl⟩ (Nat.le_of_ble_eq_true rfl) (Nat.zero_le _) (Nat.zero_le _) dX12_hearsOn_132 (fun H locs hW => ?_)
                  clear hC30
                  refine lv_iinc (v := (x3 + (1 : Int32))) (lv' := [(3, .int (x3 + (1 : Int32))), (2, .int x2), (0, .ref a_t), (1, .int p1)]) hx hb dX12_hearsOn_135 hl (k := 0) rfl rfl (by decide) rfl (fun ls hl => ?_)
                  refine lv_goto (tgt := 23) hx hb dX12_hearsOn_138 (by decide) ?_
                  exact ih10 (x3 + (1 : Int32)) t_limbs'_24 t_wide'_24 t_limbs'_25 t_wide'_25 _ _ _ hF hW (lv_sub hl [0, 1, 2, 3] rfl) hk9
        refine L7 N (0 : Int32) t_limbs'_17 t_wide'_17 t_limbs'_25 t_wide'_25 _ _ _ hX8 hW (lv_sub hl [0, 1, 2, 3] rfl) ?_
        intro H locs ls hW hl
        clear L7
        refine lv_iinc (v := (x2 + (1 : Int32))) (lv' := [(2, .int (x2 + (1 : Int32))), (0, .ref a_t), (1, .int p1)]) hx hb dX12_hearsOn_141 hl (k := 0) rfl rfl (by decide) rfl (fun ls hl => ?_)
        refine lv_goto (tgt := 2) hx hb dX12_hearsOn_144 (by decide) ?_
        exact ih4 (x2 + (1 : Int32)) t_limbs'_25 t_wide'_25 t_limbs'_26 t_wide'_26 _ _ _ hF hW (lv_sub hl [0, 1, 2] rfl) hk3
  refine L1 N (0 : Int32) t_limbs t_wide t_limbs'_26 t_wide'_26 _ _ _ hX2 hW (lv_sub hl [0, 1, 2] rfl) ?_
  intro H locs ls hW hl
  clear L1
  refine lv_iconst (v := (0 : Int32)) hx hb dX12_hearsOn_147 (by decide) ?_
  refine lv_istore_n (lv' := [(2, .int (0 : Int32)), (0, .ref a_t), (1, .int p1)]) hx hb dX12_hearsOn_148 rfl hl (by decide) rfl (fun ls hl => ?_)
  obtain ⟨t_limbs'_30, t_wide'_30, hX32, hF⟩ := bO_s2 hF
  have L31 : ∀ (k0 : Nat) (x2_2 : Int32) (t_limbs'_27 : Nat → Int32) (t_wide'_27 : Nat → Int32) (t_limbs'_30 : Nat → Int32) (t_wide'_30 : Nat → Int32) (H : Heap) (locs : List Loc) (ls : Array Slot), R_hearsOn_L149 N t_book p1 t_sums k0 x2_2 t_limbs'_27 t_wide'_27 = some (t_limbs'_30, t_wide'_30) → m_H E A (wd_R_hearsOn E a_t a_t_images a_t_kept a_t_aside a_t_hears a_t_spies a_t_known a_t_by a_t_ways a_t_fewest a_t_heavy a_t_faces a_t_bestFaces a_t_text a_t_verbs a_t_many a_t_nums a_t_book a_t_limbs a_t_wide a_t_sums t_typed t_at t_start t_token t_value t_items t_book t_limbs'_27 t_wide'_27 t_sums) s.heap H locs → lv_has ls 5 [(2, .int x2_2), (0, .ref a_t), (1, .int p1)] → (∀ (H : Heap) (locs : List Loc) (ls : Array Slot), m_H E A (wd_R_hearsOn E a_t a_t_images a_t_kept a_t_aside a_t_hears a_t_spies a_t_known a_t_by a_t_ways a_t_fewest a_t_heavy a_t_faces a_t_bestFaces a_t_text a_t_verbs a_t_many a_t_nums a_t_book a_t_limbs a_t_wide a_t_sums t_typed t_at t_start t_token t_value t_items t_book t_limbs'_30 t_wide'_30 t_sums) s.heap H locs → lv_has ls 5 [] → W p l e rm_R_hearsOn s m args below meth c H locs 0 0 Q (F0 m 202 ls [])) → W p l e rm_R_hearsOn s m args below meth c H locs 0 0 Q (F0 m 149 ls []) := by
    clear hF
    intro k0
    induction k0 with
    | zero =>
      intro x2_2 t_limbs'_27 t_wide'_27 t_limbs'_30 t_wide'_30 H locs ls hF
      cases hF
    | succ k0 ih34 =>
      intro x2_2 t_limbs'_27 t_wide'_27 t_limbs'_30 t_wide'_30 H locs ls hF hW hl hk33
      rw [R_hearsOn_L149] at hF
      refine lv_iload_n hx hb dX12_hearsOn_149 rfl (lv_at hl 0 rfl) ?_
      refine lv_aload_n hx hb dX12_hearsOn_150 rfl (lv_at hl 1 rfl) ?_
      refine m_get X hW fdX12_7 0 rfl rfl dX12_hearsOn_151 ?_
      refine lv_iconst (v := (3 : Int32)) hx hb dX12_hearsOn_154 (by decide) ?_
      refine m_iald X hW 1 (k := 3) rfl (by decide) rfl dX12_hearsOn_155 ?_
      refine lv_icmp_ge (tgt := 202) hx hb dX12_hearsOn_156 (by decide) (fun c35 => ?_) (fun c35 => ?_)
      · have hF := if_y c35 hF
        cases hF
        exact hk33 _ _ _ hW (lv_sub hl [] rfl)
      · have hF := if_n c35 hF
        refine lv_aload_n hx hb dX12_hearsOn_159 rfl (lv_at hl 1 rfl) ?_
        refine lv_bipush (v := (7 : Int32)) hx hb dX12_hearsOn_160 (by decide) ?_
        refine lv_iload_n hx hb dX12_hearsOn_162 rfl (lv_at hl 0 rfl) ?_
        refine lv_iadd hx hb dX12_hearsOn_163 ?_
        refine lv_bipush (v := (17 : Int32)) hx hb dX12_hearsOn_164 (by decide) ?_
        refine lv_iload_n hx hb dX12_hearsOn_166 rfl (lv_at hl 0 rfl) ?_
        refine lv_iadd hx hb dX12_hearsOn_167 ?_
        obtain ⟨t_limbs'_28, t_wide'_28, hC36, hF⟩ := bO_s2 hF
        refine m_callV X hW hA hl.1 lkX12_84 (c_R_takes l E _ N a_t a_t_book a_t_images a_t_kept a_t_aside a_t_hears a_t_spies a_t_known a_t_by a_t_ways a_t_fewest a_t_heavy a_t_sums a_t_faces a_t_bestFaces a_t_text a_t_verbs a_t_many a_t_nums a_t_limbs a_t_wide t_typed t_at t_start t_token t_value t_items t_limbs'_27 t_wide'_27 ((7 : Int32) + x2_2) ((17 : Int32) + x2_2) (t_limbs'_28, t_wide'_28) hC36) ([0, 2, 3]) (by decide) rfl rfl (ws' := (wd_R_hearsOn E a_t a_t_images a_t_kept a_t_aside a_t_hears a_t_spies a_t_known a_t_by a_t_ways a_t_fewest a_t_heavy a_t_faces a_t_bestFaces a_t_text a_t_verbs a_t_many a_t_nums a_t_book a_t_limbs a_t_wide a_t_sums t_typed t_at t_start t_token t_value t_items t_book t_limbs'_28 t_wide'_28 t_sums)) rfl 0 rfl rfl rfl (As := [.int ((7 : Int32) + x2_2), .int ((17 : Int32) + x2_2)]) (rest := []) rfl rfl ⟨rfl, rfl, Nat.le_of_ble_eq_true rfl, Nat.le_of_ble_eq_true rfl⟩ (Nat.le_of_ble_eq_true rfl) (Nat.zero_le _) (Nat.zero_le _) dX12_hearsOn_168 (fun H locs hW => ?_)
        clear hC36
        refine lv_aload_n hx hb dX12_hearsOn_171 rfl (lv_at hl 1 rfl) ?_
        refine lv_iload_n hx hb dX12_hearsOn_172 rfl (lv_at hl 0 rfl) ?_
        obtain ⟨r173, hC37, hF⟩ := bO_s1 hF
        refine m_callV X hW hA hl.1 lkX12_196 (c_R_lengthOf l E _ N a_t a_t_images a_t_kept a_t_aside a_t_limbs a_t_wide a_t_hears a_t_spies a_t_known a_t_by a_t_ways a_t_fewest a_t_heavy a_t_sums a_t_faces a_t_bestFaces a_t_text a_t_verbs a_t_many a_t_nums a_t_book t_typed t_at t_start t_token t_value t_items t_book x2_2 r173 hC37) ([0, 1]) (by decide) rfl rfl (ws' := (wd_R_hearsOn E a_t a_t_images a_t_kept a_t_aside a_t_hears a_t_spies a_t_known a_t_by a_t_ways a_t_fewest a_t_heavy a_t_faces a_t_bestFaces a_t_text a_t_verbs a_t_many a_t_nums a_t_book a_t_limbs a_t_wide a_t_sums t_typed t_at t_start t_token t_value t_items t_book t_limbs'_28 t_wide'_28 t_sums)) rfl 0 rfl rfl rfl (As := [.int x2_2]) (rest := []) rfl rfl ⟨rfl, rfl, Nat.le_of_ble_eq_true rfl, Nat.le_of_ble_eq_true rfl⟩ (Nat.le_of_ble_eq_true rfl) (Nat.zero_le _) (Nat.zero_le _) dX12_hearsOn_173 (fun H locs hW => ?_)
        clear hC37
        refine lv_aload_n hx hb dX12_hearsOn_176 rfl (lv_at hl 1 rfl) ?_
        refine lv_iload_n hx hb dX12_hearsOn_177 rfl (lv_at hl 2 rfl) ?_
        obtain ⟨r178, hC38, hF⟩ := bO_s1 hF
        refine m_callV X hW hA hl.1 lkX12_196 (c_R_lengthOf l E _ N a_t a_t_images a_t_kept a_t_aside a_t_limbs a_t_wide a_t_hears a_t_spies a_t_known a_t_by a_t_ways a_t_fewest a_t_heavy a_t_sums a_t_faces a_t_bestFaces a_t_text a_t_verbs a_t_many a_t_nums a_t_book t_typed t_at t_start t_token t_value t_items t_book p1 r178 hC38) ([0, 1]) (by decide) rfl rfl (ws' := (wd_R_hearsOn E a_t a_t_images a_t_kept a_t_aside a_t_hears a_t_spies a_t_known a_t_by a_t_ways a_t_fewest a_t_heavy a_t_faces a_t_bestFaces a_t_text a_t_verbs a_t_many a_t_nums a_t_book a_t_limbs a_t_wide a_t_sums t_typed t_at t_start t_token t_value t_items t_book t_limbs'_28 t_wide'_28 t_sums)) rfl 0 rfl rfl rfl (As := [.int p1]) (rest := [.int r173]) rfl rfl ⟨rfl, rfl, Nat.le_of_ble_eq_true rfl, Nat.le_of_ble_eq_true rfl⟩ (Nat.le_of_ble_eq_true rfl) (Nat.zero_le _) (Nat.zero_le _) dX12_hearsOn_178 (fun H locs hW => ?_)
        clear hC38
        refine lv_icmp_ne (tgt := 196) hx hb dX12_hearsOn_181 (by decide) (fun c39 => ?_) (fun c39 => ?_)
        · have hF := if_n c39 hF
          refine lv_iinc (v := (x2_2 + (1 : Int32))) (lv' := [(2, .int (x2_2 + (1 : Int32))), (0, .ref a_t), (1, .int p1)]) hx hb dX12_hearsOn_196 hl (k := 0) rfl rfl (by decide) rfl (fun ls hl => ?_)
          refine lv_goto (tgt := 149) hx hb dX12_hearsOn_199 (by decide) ?_
          exact ih34 (x2_2 + (1 : Int32)) t_limbs'_28 t_wide'_28 t_limbs'_30 t_wide'_30 _ _ _ hF hW (lv_sub hl [0, 1, 2] rfl) hk33
        · have hF := if_y c39 hF
          refine lv_aload_n hx hb dX12_hearsOn_184 rfl (lv_at hl 1 rfl) ?_
          refine lv_bipush (v := (6 : Int32)) hx hb dX12_hearsOn_185 (by decide) ?_
          refine lv_aload_n hx hb dX12_hearsOn_187 rfl (lv_at hl 1 rfl) ?_
          refine m_get X hW fdX12_50 0 rfl rfl dX12_hearsOn_188 ?_
          refine lv_iload_n hx hb dX12_hearsOn_191 rfl (lv_at hl 0 rfl) ?_
          obtain ⟨g40, hF⟩ := gd_some hF
          refine m_iald X hW 4 (k := x2_2.toNatClampNeg) rfl g40 rfl dX12_hearsOn_192 ?_
          obtain ⟨t_limbs'_29, t_wide'_29, hC41, hF⟩ := bO_s2 hF
          refine m_callV X hW hA hl.1 lkX12_237 (c_R_times l E _ N a_t a_t_book a_t_images a_t_kept a_t_aside a_t_hears a_t_spies a_t_known a_t_by a_t_ways a_t_fewest a_t_heavy a_t_sums a_t_faces a_t_bestFaces a_t_text a_t_verbs a_t_many a_t_nums a_t_limbs a_t_wide t_typed t_at t_start t_token t_value t_items t_limbs'_28 t_wide'_28 (6 : Int32) (t_sums x2_2.toNatClampNeg) (t_limbs'_29, t_wide'_29) hC41) ([0, 2, 3]) (by decide) rfl rfl (ws' := (wd_R_hearsOn E a_t a_t_images a_t_kept a_t_aside a_t_hears a_t_spies a_t_known a_t_by a_t_ways a_t_fewest a_t_heavy a_t_faces a_t_bestFaces a_t_text a_t_verbs a_t_many a_t_nums a_t_book a_t_limbs a_t_wide a_t_sums t_typed t_at t_start t_token t_value t_items t_book t_limbs'_29 t_wide'_29 t_sums)) rfl 0 rfl rfl rfl (As := [.int (6 : Int32), .int (t_sums x2_2.toNatClampNeg)]) (rest := []) rfl rfl ⟨rfl, rfl, Nat.le_of_ble_eq_true rfl, Nat.le_of_ble_eq_true rfl⟩ (Nat.le_of_ble_eq_true rfl) (Nat.zero_le _) (Nat.zero_le _) dX12_hearsOn_193 (fun H locs hW => ?_)
          clear hC41
          refine lv_iinc (v := (x2_2 + (1 : Int32))) (lv' := [(2, .int (x2_2 + (1 : Int32))), (0, .ref a_t), (1, .int p1)]) hx hb dX12_hearsOn_196 hl (k := 0) rfl rfl (by decide) rfl (fun ls hl => ?_)
          refine lv_goto (tgt := 149) hx hb dX12_hearsOn_199 (by decide) ?_
          exact ih34 (x2_2 + (1 : Int32)) t_limbs'_29 t_wide'_29 t_limbs'_30 t_wide'_30 _ _ _ hF hW (lv_sub hl [0, 1, 2] rfl) hk33
  refine L31 N (0 : Int32) t_limbs'_26 t_wide'_26 t_limbs'_30 t_wide'_30 _ _ _ hX32 hW (lv_sub hl [0, 1, 2] rfl) ?_
  intro H locs ls hW hl
  clear L31
  have hq := Option.some.inj hF
  subst hq
  exact hret _ _ _ _ hW dX12_hearsOn_202
abbrev wd_R_arrives (E : m_E) (a_t : Nat) (a_t_images : Nat) (a_t_kept : Nat) (a_t_aside : Nat) (a_t_hears : Nat) (a_t_spies : Nat) (a_t_known : Nat) (a_t_by : Nat) (a_t_ways : Nat) (a_t_fewest : Nat) (a_t_heavy : Nat) (a_t_faces : Nat) (a_t_bestFaces : Nat) (a_t_text : Nat) (a_t_verbs : Nat) (a_t_many : Nat) (a_t_nums : Nat) (a_t_book : Nat) (a_t_limbs : Nat) (a_t_wide : Nat) (a_t_sums : Nat) (t_typed : Int32) (t_at : Int32) (t_start : Int32) (t_token : Int32) (t_value : Int32) (t_items : Int32) (t_book : Nat → Int32) (t_limbs : Nat → Int32) (t_wide : Nat → Int32) (t_sums : Nat → Int32) : va_W := [(a_t, .inr (12, [.ref a_t_book, .ref a_t_images, .ref a_t_kept, .ref a_t_aside, .ref a_t_limbs, .ref a_t_wide, .ref a_t_hears, .ref a_t_spies, .ref a_t_known, .ref a_t_by, .ref a_t_ways, .ref a_t_fewest, .ref a_t_heavy, .ref a_t_sums, .ref a_t_faces, .ref a_t_bestFaces, .ref a_t_text, .int t_typed, .int t_at, .int t_start, .int t_token, .int t_value, .ref a_t_verbs, .ref a_t_many, .ref a_t_nums, .int t_items])), (a_t_book, .inl (E.2.1 0, 240, .inl t_book)), (a_t_limbs, .inl (E.2.1 0, 1680, .inl t_limbs)), (a_t_wide, .inl (E.2.1 0, 28, .inl t_wide)), (a_t_sums, .inl (E.2.1 0, 10, .inl t_sums))]
def rm_R_arrives : Room := { frames := 5, cells := 0, slots := 0, locals := 114 }
set_option maxHeartbeats 4000000 in
set_option maxRecDepth 100000 in
theorem c_R_arrives (l : Launch) (E : m_E) (sz N : Nat) (a_t : Nat) (a_t_images : Nat) (a_t_kept : Nat) (a_t_aside : Nat) (a_t_hears : Nat) (a_t_spies : Nat) (a_t_known : Nat) (a_t_by : Nat) (a_t_ways : Nat) (a_t_fewest : Nat) (a_t_heavy : Nat) (a_t_faces : Nat) (a_t_bestFaces : Nat) (a_t_text : Nat) (a_t_verbs : Nat) (a_t_many : Nat) (a_t_nums : Nat) (a_t_book : Nat) (a_t_limbs : Nat) (a_t_wide : Nat) (a_t_sums : Nat) (t_typed : Int32) (t_at : Int32) (t_start : Int32) (t_token : Int32) (t_value : Int32) (t_items : Int32) (t_book : Nat → Int32) (t_limbs : Nat → Int32) (t_wide : Nat → Int32) (t_sums : Nat → Int32) (p1 : Int32) (p2 : Int32) (p3 : Int32) (ures : Int32 × (Nat → Int32) × (Nat → Int32) × (Nat → Int32)) (hF : F_R_arrives N p1 p2 p3 t_book t_limbs t_wide t_sums = some ures) : m_Met l yX12_arrives cX12_arrives 5 (some .int) rm_R_arrives E (wd_R_arrives E a_t a_t_images a_t_kept a_t_aside a_t_hears a_t_spies a_t_known a_t_by a_t_ways a_t_fewest a_t_heavy a_t_faces a_t_bestFaces a_t_text a_t_verbs a_t_many a_t_nums a_t_book a_t_limbs a_t_wide a_t_sums t_typed t_at t_start t_token t_value t_items t_book t_limbs t_wide t_sums) (wd_R_arrives E a_t a_t_images a_t_kept a_t_aside a_t_hears a_t_spies a_t_known a_t_by a_t_ways a_t_fewest a_t_heavy a_t_faces a_t_bestFaces a_t_text a_t_verbs a_t_many a_t_nums a_t_book a_t_limbs a_t_wide a_t_sums t_typed t_at t_start t_token t_value t_items t_book ures.2.1 ures.2.2.1 ures.2.2.2) sz [.ref a_t, .int p1, .int p2, .int p3] (some (.int ures.1)) := by
  refine m_ofI (by decide) (Nat.le_of_ble_eq_true rfl) ?_
  intro p e s m args below meth c A Q ls X hW hA hl hret
  obtain ⟨hx, hb, -, hown, hts, hK, -, hG⟩ := id X
  have hl : lv_has ls 5 [(0, .ref a_t), (1, .int p1), (2, .int p2), (3, .int p3)] := hl
  unfold F_R_arrives at hF
  refine lv_aload_n hx hb dX12_arrives_0 rfl (lv_at hl 0 rfl) ?_
  refine lv_iload_n hx hb dX12_arrives_1 rfl (lv_at hl 1 rfl) ?_
  refine m_callV X hW hA hl.1 lkX12_205 (c_R_isWord l E _ N a_t a_t_images a_t_kept a_t_aside a_t_limbs a_t_wide a_t_hears a_t_spies a_t_known a_t_by a_t_ways a_t_fewest a_t_heavy a_t_sums a_t_faces a_t_bestFaces a_t_text a_t_verbs a_t_many a_t_nums a_t_book t_typed t_at t_start t_token t_value t_items t_book p1 (F_R_isWord p1 t_book) rfl) ([0, 1]) (by decide) rfl rfl (ws' := (wd_R_arrives E a_t a_t_images a_t_kept a_t_aside a_t_hears a_t_spies a_t_known a_t_by a_t_ways a_t_fewest a_t_heavy a_t_faces a_t_bestFaces a_t_text a_t_verbs a_t_many a_t_nums a_t_book a_t_limbs a_t_wide a_t_sums t_typed t_at t_start t_token t_value t_items t_book t_limbs t_wide t_sums)) rfl 0 rfl rfl rfl (As := [.int p1]) (rest := []) rfl rfl ⟨rfl, rfl, Nat.le_of_ble_eq_true rfl, Nat.le_of_ble_eq_true rfl⟩ (Nat.le_of_ble_eq_true rfl) (Nat.zero_le _) (Nat.zero_le _) dX12_arrives_2 (fun H locs hW => ?_)
  refine lv_if_eq (tgt := 28) hx hb dX12_arrives_5 (by decide) (fun c1 => ?_) (fun c1 => ?_)
  · have hF := if_y c1 hF
    refine lv_bipush (v := (-2 : Int32)) hx hb dX12_arrives_28 (by decide) ?_
    have hq := Option.some.inj hF
    subst hq
    exact hret _ _ _ _ hW dX12_arrives_30
  · have hF := if_n c1 hF
    refine lv_aload_n hx hb dX12_arrives_8 rfl (lv_at hl 0 rfl) ?_
    refine lv_iload_n hx hb dX12_arrives_9 rfl (lv_at hl 2 rfl) ?_
    refine m_callV X hW hA hl.1 lkX12_205 (c_R_isWord l E _ N a_t a_t_images a_t_kept a_t_aside a_t_limbs a_t_wide a_t_hears a_t_spies a_t_known a_t_by a_t_ways a_t_fewest a_t_heavy a_t_sums a_t_faces a_t_bestFaces a_t_text a_t_verbs a_t_many a_t_nums a_t_book t_typed t_at t_start t_token t_value t_items t_book p2 (F_R_isWord p2 t_book) rfl) ([0, 1]) (by decide) rfl rfl (ws' := (wd_R_arrives E a_t a_t_images a_t_kept a_t_aside a_t_hears a_t_spies a_t_known a_t_by a_t_ways a_t_fewest a_t_heavy a_t_faces a_t_bestFaces a_t_text a_t_verbs a_t_many a_t_nums a_t_book a_t_limbs a_t_wide a_t_sums t_typed t_at t_start t_token t_value t_items t_book t_limbs t_wide t_sums)) rfl 0 rfl rfl rfl (As := [.int p2]) (rest := []) rfl rfl ⟨rfl, rfl, Nat.le_of_ble_eq_true rfl, Nat.le_of_ble_eq_true rfl⟩ (Nat.le_of_ble_eq_true rfl) (Nat.zero_le _) (Nat.zero_le _) dX12_arrives_10 (fun H locs hW => ?_)
    refine lv_if_eq (tgt := 28) hx hb dX12_arrives_13 (by decide) (fun c2 => ?_) (fun c2 => ?_)
    · have hF := if_y c2 hF
      refine lv_bipush (v := (-2 : Int32)) hx hb dX12_arrives_28 (by decide) ?_
      have hq := Option.some.inj hF
      subst hq
      exact hret _ _ _ _ hW dX12_arrives_30
    · have hF := if_n c2 hF
      refine lv_iload_n hx hb dX12_arrives_16 rfl (lv_at hl 3 rfl) ?_
      refine lv_i2l (v := p3.toInt64) hx hb dX12_arrives_17 rfl ?_
      refine lv_lconst (v := (1 : Int64)) hx hb dX12_arrives_18 (by decide) ?_
      refine lv_ldc2 (v := (12 : Int64)) hx hb hown (hts _ wk_1435) dX12_arrives_19 ?_
      refine m_callS X hW hA hl.1 lkX12_109 (c_R_in l E _ N   p3.toInt64 (1 : Int64) (12 : Int64) (F_R_in p3.toInt64 (1 : Int64) (12 : Int64)) rfl) ([]) (by decide) rfl rfl (ws' := (wd_R_arrives E a_t a_t_images a_t_kept a_t_aside a_t_hears a_t_spies a_t_known a_t_by a_t_ways a_t_fewest a_t_heavy a_t_faces a_t_bestFaces a_t_text a_t_verbs a_t_many a_t_nums a_t_book a_t_limbs a_t_wide a_t_sums t_typed t_at t_start t_token t_value t_items t_book t_limbs t_wide t_sums)) rfl (As := [.long p3.toInt64, .long (1 : Int64), .long (12 : Int64)]) (rest := []) rfl rfl ⟨rfl, rfl, Nat.le_of_ble_eq_true rfl, Nat.le_of_ble_eq_true rfl⟩ (Nat.le_of_ble_eq_true rfl) (Nat.zero_le _) (Nat.zero_le _) dX12_arrives_22 (fun H locs hW => ?_)
      refine lv_if_ne (tgt := 31) hx hb dX12_arrives_25 (by decide) (fun c3 => ?_) (fun c3 => ?_)
      · have hF := if_n c3 hF
        refine lv_aload_n hx hb dX12_arrives_31 rfl (lv_at hl 0 rfl) ?_
        refine lv_iload_n hx hb dX12_arrives_32 rfl (lv_at hl 1 rfl) ?_
        obtain ⟨t_limbs'_8, t_wide'_8, t_sums'_2, hC4, hF⟩ := bO_s3 hF
        refine m_callV X hW hA hl.1 lkX12_245 (c_R_beginHearing l E _ N a_t a_t_images a_t_kept a_t_aside a_t_hears a_t_spies a_t_known a_t_by a_t_ways a_t_fewest a_t_heavy a_t_faces a_t_bestFaces a_t_text a_t_verbs a_t_many a_t_nums a_t_book a_t_limbs a_t_wide a_t_sums t_typed t_at t_start t_token t_value t_items t_book t_limbs t_wide t_sums p1 (t_limbs'_8, t_wide'_8, t_sums'_2) hC4) ([0, 1, 2, 3, 4]) (by decide) rfl rfl (ws' := (wd_R_arrives E a_t a_t_images a_t_kept a_t_aside a_t_hears a_t_spies a_t_known a_t_by a_t_ways a_t_fewest a_t_heavy a_t_faces a_t_bestFaces a_t_text a_t_verbs a_t_many a_t_nums a_t_book a_t_limbs a_t_wide a_t_sums t_typed t_at t_start t_token t_value t_items t_book t_limbs'_8 t_wide'_8 t_sums'_2)) rfl 0 rfl rfl rfl (As := [.int p1]) (rest := []) rfl rfl ⟨rfl, rfl, Nat.le_of_ble_eq_true rfl, Nat.le_of_ble_eq_true rfl⟩ (Nat.le_of_ble_eq_true rfl) (Nat.zero_le _) (Nat.zero_le _) dX12_arrives_33 (fun H locs hW => ?_)
        clear hC4
        refine lv_iconst (v := (0 : Int32)) hx hb dX12_arrives_36 (by decide) ?_
        refine lv_istore (lv' := [(4, .int (0 : Int32)), (0, .ref a_t), (1, .int p1), (2, .int p2), (3, .int p3)]) hx hb dX12_arrives_37 hl (by decide) rfl (fun ls hl => ?_)
        obtain ⟨t_limbs'_11, t_wide'_11, hX6, hF⟩ := bO_s2 hF
        have L5 : ∀ (k0 : Nat) (x4 : Int32) (t_limbs'_9 : Nat → Int32) (t_wide'_9 : Nat → Int32) (t_limbs'_11 : Nat → Int32) (t_wide'_11 : Nat → Int32) (H : Heap) (locs : List Loc) (ls : Array Slot), R_arrives_L39 N p3 p1 t_book t_sums'_2 k0 x4 t_limbs'_9 t_wide'_9 = some (t_limbs'_11, t_wide'_11) → m_H E A (wd_R_arrives E a_t a_t_images a_t_kept a_t_aside a_t_hears a_t_spies a_t_known a_t_by a_t_ways a_t_fewest a_t_heavy a_t_faces a_t_bestFaces a_t_text a_t_verbs a_t_many a_t_nums a_t_book a_t_limbs a_t_wide a_t_sums t_typed t_at t_start t_token t_value t_items t_book t_limbs'_9 t_wide'_9 t_sums'_2) s.heap H locs → lv_has ls 5 [(4, .int x4), (0, .ref a_t), (1, .int p1), (2, .int p2), (3, .int p3)] → (∀ (H : Heap) (locs : List Loc) (ls : Array Slot), m_H E A (wd_R_arrives E a_t a_t_images a_t_kept a_t_aside a_t_hears a_t_spies a_t_known a_t_by a_t_ways a_t_fewest a_t_heavy a_t_faces a_t_bestFaces a_t_text a_t_verbs a_t_many a_t_nums a_t_book a_t_limbs a_t_wide a_t_sums t_typed t_at t_start t_token t_value t_items t_book t_limbs'_11 t_wide'_11 t_sums'_2) s.heap H locs → lv_has ls 5 [(0, .ref a_t), (2, .int p2)] → W p l e rm_R_arrives s m args below meth c H locs 0 0 Q (F0 m 56 ls [])) → W p l e rm_R_arrives s m args below meth c H locs 0 0 Q (F0 m 39 ls []) := by
          clear hF
          intro k0
          induction k0 with
          | zero =>
            intro x4 t_limbs'_9 t_wide'_9 t_limbs'_11 t_wide'_11 H locs ls hF
            cases hF
          | succ k0 ih8 =>
            intro x4 t_limbs'_9 t_wide'_9 t_limbs'_11 t_wide'_11 H locs ls hF hW hl hk7
            rw [R_arrives_L39] at hF
            refine lv_iload hx hb dX12_arrives_39 (lv_at hl 0 rfl) ?_
            refine lv_iload_n hx hb dX12_arrives_41 rfl (lv_at hl 4 rfl) ?_
            refine lv_icmp_ge (tgt := 56) hx hb dX12_arrives_42 (by decide) (fun c9 => ?_) (fun c9 => ?_)
            · have hF := if_y c9 hF
              cases hF
              exact hk7 _ _ _ hW (lv_sub hl [1, 3] rfl)
            · have hF := if_n c9 hF
              refine lv_aload_n hx hb dX12_arrives_45 rfl (lv_at hl 1 rfl) ?_
              refine lv_iload_n hx hb dX12_arrives_46 rfl (lv_at hl 2 rfl) ?_
              obtain ⟨t_limbs'_10, t_wide'_10, hC10, hF⟩ := bO_s2 hF
              refine m_callV X hW hA hl.1 lkX12_248 (c_R_hearsOn l E _ N a_t a_t_images a_t_kept a_t_aside a_t_hears a_t_spies a_t_known a_t_by a_t_ways a_t_fewest a_t_heavy a_t_faces a_t_bestFaces a_t_text a_t_verbs a_t_many a_t_nums a_t_book a_t_limbs a_t_wide a_t_sums t_typed t_at t_start t_token t_value t_items t_book t_limbs'_9 t_wide'_9 t_sums'_2 p1 (t_limbs'_10, t_wide'_10) hC10) ([0, 1, 2, 3, 4]) (by decide) rfl rfl (ws' := (wd_R_arrives E a_t a_t_images a_t_kept a_t_aside a_t_hears a_t_spies a_t_known a_t_by a_t_ways a_t_fewest a_t_heavy a_t_faces a_t_bestFaces a_t_text a_t_verbs a_t_many a_t_nums a_t_book a_t_limbs a_t_wide a_t_sums t_typed t_at t_start t_token t_value t_items t_book t_limbs'_10 t_wide'_10 t_sums'_2)) rfl 0 rfl rfl rfl (As := [.int p1]) (rest := []) rfl rfl ⟨rfl, rfl, Nat.le_of_ble_eq_true rfl, Nat.le_of_ble_eq_true rfl⟩ (Nat.le_of_ble_eq_true rfl) (Nat.zero_le _) (Nat.zero_le _) dX12_arrives_47 (fun H locs hW => ?_)
              clear hC10
              refine lv_iinc (v := (x4 + (1 : Int32))) (lv' := [(4, .int (x4 + (1 : Int32))), (0, .ref a_t), (1, .int p1), (2, .int p2), (3, .int p3)]) hx hb dX12_arrives_50 hl (k := 0) rfl rfl (by decide) rfl (fun ls hl => ?_)
              refine lv_goto (tgt := 39) hx hb dX12_arrives_53 (by decide) ?_
              exact ih8 (x4 + (1 : Int32)) t_limbs'_10 t_wide'_10 t_limbs'_11 t_wide'_11 _ _ _ hF hW (lv_sub hl [0, 1, 2, 3, 4] rfl) hk7
        refine L5 N (0 : Int32) t_limbs'_8 t_wide'_8 t_limbs'_11 t_wide'_11 _ _ _ hX6 hW (lv_sub hl [0, 1, 2, 3, 4] rfl) ?_
        intro H locs ls hW hl
        clear L5
        refine lv_aload_n hx hb dX12_arrives_56 rfl (lv_at hl 0 rfl) ?_
        refine lv_iconst (v := (0 : Int32)) hx hb dX12_arrives_57 (by decide) ?_
        refine lv_bipush (v := (7 : Int32)) hx hb dX12_arrives_58 (by decide) ?_
        refine lv_iload_n hx hb dX12_arrives_60 rfl (lv_at hl 1 rfl) ?_
        refine lv_iadd hx hb dX12_arrives_61 ?_
        obtain ⟨t_limbs'_12, t_wide'_12, hC11, hF⟩ := bO_s2 hF
        refine m_callV X hW hA hl.1 lkX12_84 (c_R_takes l E _ N a_t a_t_book a_t_images a_t_kept a_t_aside a_t_hears a_t_spies a_t_known a_t_by a_t_ways a_t_fewest a_t_heavy a_t_sums a_t_faces a_t_bestFaces a_t_text a_t_verbs a_t_many a_t_nums a_t_limbs a_t_wide t_typed t_at t_start t_token t_value t_items t_limbs'_11 t_wide'_11 (0 : Int32) ((7 : Int32) + p2) (t_limbs'_12, t_wide'_12) hC11) ([0, 2, 3]) (by decide) rfl rfl (ws' := (wd_R_arrives E a_t a_t_images a_t_kept a_t_aside a_t_hears a_t_spies a_t_known a_t_by a_t_ways a_t_fewest a_t_heavy a_t_faces a_t_bestFaces a_t_text a_t_verbs a_t_many a_t_nums a_t_book a_t_limbs a_t_wide a_t_sums t_typed t_at t_start t_token t_value t_items t_book t_limbs'_12 t_wide'_12 t_sums'_2)) rfl 0 rfl rfl rfl (As := [.int (0 : Int32), .int ((7 : Int32) + p2)]) (rest := []) rfl rfl ⟨rfl, rfl, Nat.le_of_ble_eq_true rfl, Nat.le_of_ble_eq_true rfl⟩ (Nat.le_of_ble_eq_true rfl) (Nat.zero_le _) (Nat.zero_le _) dX12_arrives_62 (fun H locs hW => ?_)
        clear hC11
        refine lv_aload_n hx hb dX12_arrives_65 rfl (lv_at hl 0 rfl) ?_
        refine lv_iconst (v := (1 : Int32)) hx hb dX12_arrives_66 (by decide) ?_
        refine lv_bipush (v := (6 : Int32)) hx hb dX12_arrives_67 (by decide) ?_
        obtain ⟨t_limbs'_13, t_wide'_13, hC12, hF⟩ := bO_s2 hF
        refine m_callV X hW hA hl.1 lkX12_84 (c_R_takes l E _ N a_t a_t_book a_t_images a_t_kept a_t_aside a_t_hears a_t_spies a_t_known a_t_by a_t_ways a_t_fewest a_t_heavy a_t_sums a_t_faces a_t_bestFaces a_t_text a_t_verbs a_t_many a_t_nums a_t_limbs a_t_wide t_typed t_at t_start t_token t_value t_items t_limbs'_12 t_wide'_12 (1 : Int32) (6 : Int32) (t_limbs'_13, t_wide'_13) hC12) ([0, 2, 3]) (by decide) rfl rfl (ws' := (wd_R_arrives E a_t a_t_images a_t_kept a_t_aside a_t_hears a_t_spies a_t_known a_t_by a_t_ways a_t_fewest a_t_heavy a_t_faces a_t_bestFaces a_t_text a_t_verbs a_t_many a_t_nums a_t_book a_t_limbs a_t_wide a_t_sums t_typed t_at t_start t_token t_value t_items t_book t_limbs'_13 t_wide'_13 t_sums'_2)) rfl 0 rfl rfl rfl (As := [.int (1 : Int32), .int (6 : Int32)]) (rest := []) rfl rfl ⟨rfl, rfl, Nat.le_of_ble_eq_true rfl, Nat.le_of_ble_eq_true rfl⟩ (Nat.le_of_ble_eq_true rfl) (Nat.zero_le _) (Nat.zero_le _) dX12_arrives_69 (fun H locs hW => ?_)
        clear hC12
        refine lv_aload_n hx hb dX12_arrives_72 rfl (lv_at hl 0 rfl) ?_
        obtain ⟨t_limbs'_14, t_wide'_14, hC13, hF⟩ := bO_s2 hF
        refine m_callV X hW hA hl.1 lkX12_106 (c_R_lowers l E _ N a_t a_t_book a_t_images a_t_kept a_t_aside a_t_hears a_t_spies a_t_known a_t_by a_t_ways a_t_fewest a_t_heavy a_t_sums a_t_faces a_t_bestFaces a_t_text a_t_verbs a_t_many a_t_nums a_t_limbs a_t_wide t_typed t_at t_start t_token t_value t_items t_limbs'_13 t_wide'_13  (t_limbs'_14, t_wide'_14) hC13) ([0, 2, 3]) (by decide) rfl rfl (ws' := (wd_R_arrives E a_t a_t_images a_t_kept a_t_aside a_t_hears a_t_spies a_t_known a_t_by a_t_ways a_t_fewest a_t_heavy a_t_faces a_t_bestFaces a_t_text a_t_verbs a_t_many a_t_nums a_t_book a_t_limbs a_t_wide a_t_sums t_typed t_at t_start t_token t_value t_items t_book t_limbs'_14 t_wide'_14 t_sums'_2)) rfl 0 rfl rfl rfl (As := []) (rest := []) rfl rfl ⟨rfl, rfl, Nat.le_of_ble_eq_true rfl, Nat.le_of_ble_eq_true rfl⟩ (Nat.le_of_ble_eq_true rfl) (Nat.zero_le _) (Nat.zero_le _) dX12_arrives_73 (fun H locs hW => ?_)
        clear hC13
        refine lv_iconst (v := (1 : Int32)) hx hb dX12_arrives_76 (by decide) ?_
        have hq := Option.some.inj hF
        subst hq
        exact hret _ _ _ _ hW dX12_arrives_77
      · have hF := if_y c3 hF
        refine lv_bipush (v := (-2 : Int32)) hx hb dX12_arrives_28 (by decide) ?_
        have hq := Option.some.inj hF
        subst hq
        exact hret _ _ _ _ hW dX12_arrives_30
abbrev wd_R_turns (E : m_E) (a_t : Nat) (a_t_images : Nat) (a_t_kept : Nat) (a_t_aside : Nat) (a_t_hears : Nat) (a_t_spies : Nat) (a_t_known : Nat) (a_t_by : Nat) (a_t_ways : Nat) (a_t_fewest : Nat) (a_t_heavy : Nat) (a_t_faces : Nat) (a_t_bestFaces : Nat) (a_t_text : Nat) (a_t_verbs : Nat) (a_t_many : Nat) (a_t_nums : Nat) (a_t_book : Nat) (a_t_limbs : Nat) (a_t_wide : Nat) (a_t_sums : Nat) (t_typed : Int32) (t_at : Int32) (t_start : Int32) (t_token : Int32) (t_value : Int32) (t_items : Int32) (t_book : Nat → Int32) (t_limbs : Nat → Int32) (t_wide : Nat → Int32) (t_sums : Nat → Int32) : va_W := [(a_t, .inr (12, [.ref a_t_book, .ref a_t_images, .ref a_t_kept, .ref a_t_aside, .ref a_t_limbs, .ref a_t_wide, .ref a_t_hears, .ref a_t_spies, .ref a_t_known, .ref a_t_by, .ref a_t_ways, .ref a_t_fewest, .ref a_t_heavy, .ref a_t_sums, .ref a_t_faces, .ref a_t_bestFaces, .ref a_t_text, .int t_typed, .int t_at, .int t_start, .int t_token, .int t_value, .ref a_t_verbs, .ref a_t_many, .ref a_t_nums, .int t_items])), (a_t_book, .inl (E.2.1 0, 240, .inl t_book)), (a_t_limbs, .inl (E.2.1 0, 1680, .inl t_limbs)), (a_t_wide, .inl (E.2.1 0, 28, .inl t_wide)), (a_t_sums, .inl (E.2.1 0, 10, .inl t_sums))]
def rm_R_turns : Room := { frames := 5, cells := 0, slots := 0, locals := 114 }
set_option maxHeartbeats 4000000 in
set_option maxRecDepth 100000 in
theorem c_R_turns (l : Launch) (E : m_E) (sz N : Nat) (a_t : Nat) (a_t_images : Nat) (a_t_kept : Nat) (a_t_aside : Nat) (a_t_hears : Nat) (a_t_spies : Nat) (a_t_known : Nat) (a_t_by : Nat) (a_t_ways : Nat) (a_t_fewest : Nat) (a_t_heavy : Nat) (a_t_faces : Nat) (a_t_bestFaces : Nat) (a_t_text : Nat) (a_t_verbs : Nat) (a_t_many : Nat) (a_t_nums : Nat) (a_t_book : Nat) (a_t_limbs : Nat) (a_t_wide : Nat) (a_t_sums : Nat) (t_typed : Int32) (t_at : Int32) (t_start : Int32) (t_token : Int32) (t_value : Int32) (t_items : Int32) (t_book : Nat → Int32) (t_limbs : Nat → Int32) (t_wide : Nat → Int32) (t_sums : Nat → Int32) (p1 : Int32) (p2 : Int32) (p3 : Int32) (ures : Int32 × (Nat → Int32) × (Nat → Int32) × (Nat → Int32)) (hF : F_R_turns N p1 p2 p3 t_book t_limbs t_wide t_sums = some ures) : m_Met l yX12_turns cX12_turns 5 (some .int) rm_R_turns E (wd_R_turns E a_t a_t_images a_t_kept a_t_aside a_t_hears a_t_spies a_t_known a_t_by a_t_ways a_t_fewest a_t_heavy a_t_faces a_t_bestFaces a_t_text a_t_verbs a_t_many a_t_nums a_t_book a_t_limbs a_t_wide a_t_sums t_typed t_at t_start t_token t_value t_items t_book t_limbs t_wide t_sums) (wd_R_turns E a_t a_t_images a_t_kept a_t_aside a_t_hears a_t_spies a_t_known a_t_by a_t_ways a_t_fewest a_t_heavy a_t_faces a_t_bestFaces a_t_text a_t_verbs a_t_many a_t_nums a_t_book a_t_limbs a_t_wide a_t_sums t_typed t_at t_start t_token t_value t_items t_book ures.2.1 ures.2.2.1 ures.2.2.2) sz [.ref a_t, .int p1, .int p2, .int p3] (some (.int ures.1)) := by
  refine m_ofI (by decide) (Nat.le_of_ble_eq_true rfl) ?_
  intro p e s m args below meth c A Q ls X hW hA hl hret
  obtain ⟨hx, hb, -, hown, hts, hK, -, hG⟩ := id X
  have hl : lv_has ls 5 [(0, .ref a_t), (1, .int p1), (2, .int p2), (3, .int p3)] := hl
  unfold F_R_turns at hF
  refine lv_aload_n hx hb dX12_turns_0 rfl (lv_at hl 0 rfl) ?_
  refine lv_iload_n hx hb dX12_turns_1 rfl (lv_at hl 1 rfl) ?_
  refine m_callV X hW hA hl.1 lkX12_205 (c_R_isWord l E _ N a_t a_t_images a_t_kept a_t_aside a_t_limbs a_t_wide a_t_hears a_t_spies a_t_known a_t_by a_t_ways a_t_fewest a_t_heavy a_t_sums a_t_faces a_t_bestFaces a_t_text a_t_verbs a_t_many a_t_nums a_t_book t_typed t_at t_start t_token t_value t_items t_book p1 (F_R_isWord p1 t_book) rfl) ([0, 1]) (by decide) rfl rfl (ws' := (wd_R_turns E a_t a_t_images a_t_kept a_t_aside a_t_hears a_t_spies a_t_known a_t_by a_t_ways a_t_fewest a_t_heavy a_t_faces a_t_bestFaces a_t_text a_t_verbs a_t_many a_t_nums a_t_book a_t_limbs a_t_wide a_t_sums t_typed t_at t_start t_token t_value t_items t_book t_limbs t_wide t_sums)) rfl 0 rfl rfl rfl (As := [.int p1]) (rest := []) rfl rfl ⟨rfl, rfl, Nat.le_of_ble_eq_true rfl, Nat.le_of_ble_eq_true rfl⟩ (Nat.le_of_ble_eq_true rfl) (Nat.zero_le _) (Nat.zero_le _) dX12_turns_2 (fun H locs hW => ?_)
  refine lv_if_eq (tgt := 32) hx hb dX12_turns_5 (by decide) (fun c1 => ?_) (fun c1 => ?_)
  · have hF := if_y c1 hF
    refine lv_bipush (v := (-10 : Int32)) hx hb dX12_turns_32 (by decide) ?_
    have hq := Option.some.inj hF
    subst hq
    exact hret _ _ _ _ hW dX12_turns_34
  · have hF := if_n c1 hF
    refine lv_iload_n hx hb dX12_turns_8 rfl (lv_at hl 2 rfl) ?_
    refine lv_i2l (v := p2.toInt64) hx hb dX12_turns_9 rfl ?_
    refine lv_lconst (v := (0 : Int64)) hx hb dX12_turns_10 (by decide) ?_
    refine lv_ldc2 (v := (99 : Int64)) hx hb hown (hts _ wk_1430) dX12_turns_11 ?_
    refine m_callS X hW hA hl.1 lkX12_109 (c_R_in l E _ N   p2.toInt64 (0 : Int64) (99 : Int64) (F_R_in p2.toInt64 (0 : Int64) (99 : Int64)) rfl) ([]) (by decide) rfl rfl (ws' := (wd_R_turns E a_t a_t_images a_t_kept a_t_aside a_t_hears a_t_spies a_t_known a_t_by a_t_ways a_t_fewest a_t_heavy a_t_faces a_t_bestFaces a_t_text a_t_verbs a_t_many a_t_nums a_t_book a_t_limbs a_t_wide a_t_sums t_typed t_at t_start t_token t_value t_items t_book t_limbs t_wide t_sums)) rfl (As := [.long p2.toInt64, .long (0 : Int64), .long (99 : Int64)]) (rest := []) rfl rfl ⟨rfl, rfl, Nat.le_of_ble_eq_true rfl, Nat.le_of_ble_eq_true rfl⟩ (Nat.le_of_ble_eq_true rfl) (Nat.zero_le _) (Nat.zero_le _) dX12_turns_14 (fun H locs hW => ?_)
    refine lv_if_eq (tgt := 32) hx hb dX12_turns_17 (by decide) (fun c2 => ?_) (fun c2 => ?_)
    · have hF := if_y c2 hF
      refine lv_bipush (v := (-10 : Int32)) hx hb dX12_turns_32 (by decide) ?_
      have hq := Option.some.inj hF
      subst hq
      exact hret _ _ _ _ hW dX12_turns_34
    · have hF := if_n c2 hF
      refine lv_iload_n hx hb dX12_turns_20 rfl (lv_at hl 3 rfl) ?_
      refine lv_i2l (v := p3.toInt64) hx hb dX12_turns_21 rfl ?_
      refine lv_lconst (v := (1 : Int64)) hx hb dX12_turns_22 (by decide) ?_
      refine lv_ldc2 (v := (99 : Int64)) hx hb hown (hts _ wk_1430) dX12_turns_23 ?_
      refine m_callS X hW hA hl.1 lkX12_109 (c_R_in l E _ N   p3.toInt64 (1 : Int64) (99 : Int64) (F_R_in p3.toInt64 (1 : Int64) (99 : Int64)) rfl) ([]) (by decide) rfl rfl (ws' := (wd_R_turns E a_t a_t_images a_t_kept a_t_aside a_t_hears a_t_spies a_t_known a_t_by a_t_ways a_t_fewest a_t_heavy a_t_faces a_t_bestFaces a_t_text a_t_verbs a_t_many a_t_nums a_t_book a_t_limbs a_t_wide a_t_sums t_typed t_at t_start t_token t_value t_items t_book t_limbs t_wide t_sums)) rfl (As := [.long p3.toInt64, .long (1 : Int64), .long (99 : Int64)]) (rest := []) rfl rfl ⟨rfl, rfl, Nat.le_of_ble_eq_true rfl, Nat.le_of_ble_eq_true rfl⟩ (Nat.le_of_ble_eq_true rfl) (Nat.zero_le _) (Nat.zero_le _) dX12_turns_26 (fun H locs hW => ?_)
      refine lv_if_ne (tgt := 35) hx hb dX12_turns_29 (by decide) (fun c3 => ?_) (fun c3 => ?_)
      · have hF := if_n c3 hF
        refine lv_aload_n hx hb dX12_turns_35 rfl (lv_at hl 0 rfl) ?_
        refine lv_iload_n hx hb dX12_turns_36 rfl (lv_at hl 1 rfl) ?_
        obtain ⟨t_limbs'_9, t_wide'_9, t_sums'_2, hC4, hF⟩ := bO_s3 hF
        refine m_callV X hW hA hl.1 lkX12_245 (c_R_beginHearing l E _ N a_t a_t_images a_t_kept a_t_aside a_t_hears a_t_spies a_t_known a_t_by a_t_ways a_t_fewest a_t_heavy a_t_faces a_t_bestFaces a_t_text a_t_verbs a_t_many a_t_nums a_t_book a_t_limbs a_t_wide a_t_sums t_typed t_at t_start t_token t_value t_items t_book t_limbs t_wide t_sums p1 (t_limbs'_9, t_wide'_9, t_sums'_2) hC4) ([0, 1, 2, 3, 4]) (by decide) rfl rfl (ws' := (wd_R_turns E a_t a_t_images a_t_kept a_t_aside a_t_hears a_t_spies a_t_known a_t_by a_t_ways a_t_fewest a_t_heavy a_t_faces a_t_bestFaces a_t_text a_t_verbs a_t_many a_t_nums a_t_book a_t_limbs a_t_wide a_t_sums t_typed t_at t_start t_token t_value t_items t_book t_limbs'_9 t_wide'_9 t_sums'_2)) rfl 0 rfl rfl rfl (As := [.int p1]) (rest := []) rfl rfl ⟨rfl, rfl, Nat.le_of_ble_eq_true rfl, Nat.le_of_ble_eq_true rfl⟩ (Nat.le_of_ble_eq_true rfl) (Nat.zero_le _) (Nat.zero_le _) dX12_turns_37 (fun H locs hW => ?_)
        clear hC4
        refine lv_iconst (v := (1 : Int32)) hx hb dX12_turns_40 (by decide) ?_
        refine lv_istore (lv' := [(4, .int (1 : Int32)), (0, .ref a_t), (1, .int p1), (2, .int p2), (3, .int p3)]) hx hb dX12_turns_41 hl (by decide) rfl (fun ls hl => ?_)
        obtain ⟨out10, hX6, hr9, hF⟩ := bT_s2 hF
        have L5 : ∀ (k0 : Nat) (x4 : Int32) (t_limbs'_10 : Nat → Int32) (t_wide'_10 : Nat → Int32) (out12 : (Int32 × (Nat → Int32) × (Nat → Int32) × (Nat → Int32)) ⊕ ((Nat → Int32) × (Nat → Int32)))  (H : Heap) (locs : List Loc) (ls : Array Slot), R_turns_L43 N p1 t_book t_sums'_2 p3 p2 k0 x4 t_limbs'_10 t_wide'_10 = some out12 → m_H E A (wd_R_turns E a_t a_t_images a_t_kept a_t_aside a_t_hears a_t_spies a_t_known a_t_by a_t_ways a_t_fewest a_t_heavy a_t_faces a_t_bestFaces a_t_text a_t_verbs a_t_many a_t_nums a_t_book a_t_limbs a_t_wide a_t_sums t_typed t_at t_start t_token t_value t_items t_book t_limbs'_10 t_wide'_10 t_sums'_2) s.heap H locs → lv_has ls 5 [(4, .int x4), (0, .ref a_t), (1, .int p1), (2, .int p2), (3, .int p3)] → (∀ a, out12 = .inl a → a = ures) → (∀ (t_limbs'_16 : Nat → Int32) (t_wide'_16 : Nat → Int32) (H : Heap) (locs : List Loc) (ls : Array Slot), out12 = .inr (t_limbs'_16, t_wide'_16) → m_H E A (wd_R_turns E a_t a_t_images a_t_kept a_t_aside a_t_hears a_t_spies a_t_known a_t_by a_t_ways a_t_fewest a_t_heavy a_t_faces a_t_bestFaces a_t_text a_t_verbs a_t_many a_t_nums a_t_book a_t_limbs a_t_wide a_t_sums t_typed t_at t_start t_token t_value t_items t_book t_limbs'_16 t_wide'_16 t_sums'_2) s.heap H locs → lv_has ls 5 [] → W p l e rm_R_turns s m args below meth c H locs 0 0 Q (F0 m 101 ls [])) → W p l e rm_R_turns s m args below meth c H locs 0 0 Q (F0 m 43 ls []) := by
          clear hF
          intro k0
          induction k0 with
          | zero =>
            intro x4 t_limbs'_10 t_wide'_10 out12 H locs ls hF
            cases hF
          | succ k0 ih8 =>
            intro x4 t_limbs'_10 t_wide'_10 out12 H locs ls hF hW hl hr11 hk7
            rw [R_turns_L43] at hF
            refine lv_iload hx hb dX12_turns_43 (lv_at hl 0 rfl) ?_
            refine lv_bipush (v := (13 : Int32)) hx hb dX12_turns_45 (by decide) ?_
            refine lv_icmp_ge (tgt := 101) hx hb dX12_turns_47 (by decide) (fun c13 => ?_) (fun c13 => ?_)
            · have hF := if_y c13 hF
              exact hk7 t_limbs'_10 t_wide'_10 _ _ _ (Option.some.inj hF).symm hW (lv_sub hl [] rfl)
            · have hF := if_n c13 hF
              refine lv_aload_n hx hb dX12_turns_50 rfl (lv_at hl 1 rfl) ?_
              refine lv_iload_n hx hb dX12_turns_51 rfl (lv_at hl 2 rfl) ?_
              obtain ⟨t_limbs'_11, t_wide'_11, hC14, hF⟩ := bO_s2 hF
              refine m_callV X hW hA hl.1 lkX12_248 (c_R_hearsOn l E _ N a_t a_t_images a_t_kept a_t_aside a_t_hears a_t_spies a_t_known a_t_by a_t_ways a_t_fewest a_t_heavy a_t_faces a_t_bestFaces a_t_text a_t_verbs a_t_many a_t_nums a_t_book a_t_limbs a_t_wide a_t_sums t_typed t_at t_start t_token t_value t_items t_book t_limbs'_10 t_wide'_10 t_sums'_2 p1 (t_limbs'_11, t_wide'_11) hC14) ([0, 1, 2, 3, 4]) (by decide) rfl rfl (ws' := (wd_R_turns E a_t a_t_images a_t_kept a_t_aside a_t_hears a_t_spies a_t_known a_t_by a_t_ways a_t_fewest a_t_heavy a_t_faces a_t_bestFaces a_t_text a_t_verbs a_t_many a_t_nums a_t_book a_t_limbs a_t_wide a_t_sums t_typed t_at t_start t_token t_value t_items t_book t_limbs'_11 t_wide'_11 t_sums'_2)) rfl 0 rfl rfl rfl (As := [.int p1]) (rest := []) rfl rfl ⟨rfl, rfl, Nat.le_of_ble_eq_true rfl, Nat.le_of_ble_eq_true rfl⟩ (Nat.le_of_ble_eq_true rfl) (Nat.zero_le _) (Nat.zero_le _) dX12_turns_52 (fun H locs hW => ?_)
              clear hC14
              refine lv_aload_n hx hb dX12_turns_55 rfl (lv_at hl 1 rfl) ?_
              refine lv_iconst (v := (2 : Int32)) hx hb dX12_turns_56 (by decide) ?_
              refine lv_bipush (v := (7 : Int32)) hx hb dX12_turns_57 (by decide) ?_
              refine lv_iload_n hx hb dX12_turns_59 rfl (lv_at hl 2 rfl) ?_
              refine lv_iadd hx hb dX12_turns_60 ?_
              obtain ⟨t_limbs'_12, t_wide'_12, hC15, hF⟩ := bO_s2 hF
              refine m_callV X hW hA hl.1 lkX12_84 (c_R_takes l E _ N a_t a_t_book a_t_images a_t_kept a_t_aside a_t_hears a_t_spies a_t_known a_t_by a_t_ways a_t_fewest a_t_heavy a_t_sums a_t_faces a_t_bestFaces a_t_text a_t_verbs a_t_many a_t_nums a_t_limbs a_t_wide t_typed t_at t_start t_token t_value t_items t_limbs'_11 t_wide'_11 (2 : Int32) ((7 : Int32) + p1) (t_limbs'_12, t_wide'_12) hC15) ([0, 2, 3]) (by decide) rfl rfl (ws' := (wd_R_turns E a_t a_t_images a_t_kept a_t_aside a_t_hears a_t_spies a_t_known a_t_by a_t_ways a_t_fewest a_t_heavy a_t_faces a_t_bestFaces a_t_text a_t_verbs a_t_many a_t_nums a_t_book a_t_limbs a_t_wide a_t_sums t_typed t_at t_start t_token t_value t_items t_book t_limbs'_12 t_wide'_12 t_sums'_2)) rfl 0 rfl rfl rfl (As := [.int (2 : Int32), .int ((7 : Int32) + p1)]) (rest := []) rfl rfl ⟨rfl, rfl, Nat.le_of_ble_eq_true rfl, Nat.le_of_ble_eq_true rfl⟩ (Nat.le_of_ble_eq_true rfl) (Nat.zero_le _) (Nat.zero_le _) dX12_turns_61 (fun H locs hW => ?_)
              clear hC15
              refine lv_aload_n hx hb dX12_turns_64 rfl (lv_at hl 1 rfl) ?_
              refine lv_iconst (v := (2 : Int32)) hx hb dX12_turns_65 (by decide) ?_
              refine lv_iload_n hx hb dX12_turns_66 rfl (lv_at hl 4 rfl) ?_
              obtain ⟨t_limbs'_13, t_wide'_13, hC16, hF⟩ := bO_s2 hF
              refine m_callV X hW hA hl.1 lkX12_237 (c_R_times l E _ N a_t a_t_book a_t_images a_t_kept a_t_aside a_t_hears a_t_spies a_t_known a_t_by a_t_ways a_t_fewest a_t_heavy a_t_sums a_t_faces a_t_bestFaces a_t_text a_t_verbs a_t_many a_t_nums a_t_limbs a_t_wide t_typed t_at t_start t_token t_value t_items t_limbs'_12 t_wide'_12 (2 : Int32) p3 (t_limbs'_13, t_wide'_13) hC16) ([0, 2, 3]) (by decide) rfl rfl (ws' := (wd_R_turns E a_t a_t_images a_t_kept a_t_aside a_t_hears a_t_spies a_t_known a_t_by a_t_ways a_t_fewest a_t_heavy a_t_faces a_t_bestFaces a_t_text a_t_verbs a_t_many a_t_nums a_t_book a_t_limbs a_t_wide a_t_sums t_typed t_at t_start t_token t_value t_items t_book t_limbs'_13 t_wide'_13 t_sums'_2)) rfl 0 rfl rfl rfl (As := [.int (2 : Int32), .int p3]) (rest := []) rfl rfl ⟨rfl, rfl, Nat.le_of_ble_eq_true rfl, Nat.le_of_ble_eq_true rfl⟩ (Nat.le_of_ble_eq_true rfl) (Nat.zero_le _) (Nat.zero_le _) dX12_turns_67 (fun H locs hW => ?_)
              clear hC16
              refine lv_aload_n hx hb dX12_turns_70 rfl (lv_at hl 1 rfl) ?_
              refine lv_iconst (v := (3 : Int32)) hx hb dX12_turns_71 (by decide) ?_
              refine lv_bipush (v := (6 : Int32)) hx hb dX12_turns_72 (by decide) ?_
              obtain ⟨t_limbs'_14, t_wide'_14, hC17, hF⟩ := bO_s2 hF
              refine m_callV X hW hA hl.1 lkX12_84 (c_R_takes l E _ N a_t a_t_book a_t_images a_t_kept a_t_aside a_t_hears a_t_spies a_t_known a_t_by a_t_ways a_t_fewest a_t_heavy a_t_sums a_t_faces a_t_bestFaces a_t_text a_t_verbs a_t_many a_t_nums a_t_limbs a_t_wide t_typed t_at t_start t_token t_value t_items t_limbs'_13 t_wide'_13 (3 : Int32) (6 : Int32) (t_limbs'_14, t_wide'_14) hC17) ([0, 2, 3]) (by decide) rfl rfl (ws' := (wd_R_turns E a_t a_t_images a_t_kept a_t_aside a_t_hears a_t_spies a_t_known a_t_by a_t_ways a_t_fewest a_t_heavy a_t_faces a_t_bestFaces a_t_text a_t_verbs a_t_many a_t_nums a_t_book a_t_limbs a_t_wide a_t_sums t_typed t_at t_start t_token t_value t_items t_book t_limbs'_14 t_wide'_14 t_sums'_2)) rfl 0 rfl rfl rfl (As := [.int (3 : Int32), .int (6 : Int32)]) (rest := []) rfl rfl ⟨rfl, rfl, Nat.le_of_ble_eq_true rfl, Nat.le_of_ble_eq_true rfl⟩ (Nat.le_of_ble_eq_true rfl) (Nat.zero_le _) (Nat.zero_le _) dX12_turns_74 (fun H locs hW => ?_)
              clear hC17
              refine lv_aload_n hx hb dX12_turns_77 rfl (lv_at hl 1 rfl) ?_
              refine lv_iconst (v := (3 : Int32)) hx hb dX12_turns_78 (by decide) ?_
              refine lv_iload_n hx hb dX12_turns_79 rfl (lv_at hl 3 rfl) ?_
              obtain ⟨t_limbs'_15, t_wide'_15, hC18, hF⟩ := bO_s2 hF
              refine m_callV X hW hA hl.1 lkX12_237 (c_R_times l E _ N a_t a_t_book a_t_images a_t_kept a_t_aside a_t_hears a_t_spies a_t_known a_t_by a_t_ways a_t_fewest a_t_heavy a_t_sums a_t_faces a_t_bestFaces a_t_text a_t_verbs a_t_many a_t_nums a_t_limbs a_t_wide t_typed t_at t_start t_token t_value t_items t_limbs'_14 t_wide'_14 (3 : Int32) p2 (t_limbs'_15, t_wide'_15) hC18) ([0, 2, 3]) (by decide) rfl rfl (ws' := (wd_R_turns E a_t a_t_images a_t_kept a_t_aside a_t_hears a_t_spies a_t_known a_t_by a_t_ways a_t_fewest a_t_heavy a_t_faces a_t_bestFaces a_t_text a_t_verbs a_t_many a_t_nums a_t_book a_t_limbs a_t_wide a_t_sums t_typed t_at t_start t_token t_value t_items t_book t_limbs'_15 t_wide'_15 t_sums'_2)) rfl 0 rfl rfl rfl (As := [.int (3 : Int32), .int p2]) (rest := []) rfl rfl ⟨rfl, rfl, Nat.le_of_ble_eq_true rfl, Nat.le_of_ble_eq_true rfl⟩ (Nat.le_of_ble_eq_true rfl) (Nat.zero_le _) (Nat.zero_le _) dX12_turns_80 (fun H locs hW => ?_)
              clear hC18
              refine lv_aload_n hx hb dX12_turns_83 rfl (lv_at hl 1 rfl) ?_
              refine lv_iconst (v := (2 : Int32)) hx hb dX12_turns_84 (by decide) ?_
              refine lv_iconst (v := (3 : Int32)) hx hb dX12_turns_85 (by decide) ?_
              obtain ⟨r86, hC19, hF⟩ := bO_s1 hF
              refine m_callV X hW hA hl.1 lkX12_96 (c_R_against l E _ N a_t a_t_book a_t_images a_t_kept a_t_aside a_t_hears a_t_spies a_t_known a_t_by a_t_ways a_t_fewest a_t_heavy a_t_sums a_t_faces a_t_bestFaces a_t_text a_t_verbs a_t_many a_t_nums a_t_limbs a_t_wide t_typed t_at t_start t_token t_value t_items t_limbs'_15 t_wide'_15 (2 : Int32) (3 : Int32) r86 hC19) ([0, 2, 3]) (by decide) rfl rfl (ws' := (wd_R_turns E a_t a_t_images a_t_kept a_t_aside a_t_hears a_t_spies a_t_known a_t_by a_t_ways a_t_fewest a_t_heavy a_t_faces a_t_bestFaces a_t_text a_t_verbs a_t_many a_t_nums a_t_book a_t_limbs a_t_wide a_t_sums t_typed t_at t_start t_token t_value t_items t_book t_limbs'_15 t_wide'_15 t_sums'_2)) rfl 0 rfl rfl rfl (As := [.int (2 : Int32), .int (3 : Int32)]) (rest := []) rfl rfl ⟨rfl, rfl, Nat.le_of_ble_eq_true rfl, Nat.le_of_ble_eq_true rfl⟩ (Nat.le_of_ble_eq_true rfl) (Nat.zero_le _) (Nat.zero_le _) dX12_turns_86 (fun H locs hW => ?_)
              clear hC19
              refine lv_if_ge (tgt := 95) hx hb dX12_turns_89 (by decide) (fun c20 => ?_) (fun c20 => ?_)
              · have hF := if_y c20 hF
                refine lv_iinc (v := (x4 + (1 : Int32))) (lv' := [(4, .int (x4 + (1 : Int32))), (0, .ref a_t), (1, .int p1), (2, .int p2), (3, .int p3)]) hx hb dX12_turns_95 hl (k := 0) rfl rfl (by decide) rfl (fun ls hl => ?_)
                refine lv_goto (tgt := 43) hx hb dX12_turns_98 (by decide) ?_
                exact ih8 (x4 + (1 : Int32)) t_limbs'_15 t_wide'_15 out12 _ _ _ hF hW (lv_sub hl [0, 1, 2, 3, 4] rfl) hr11 hk7
              · have hF := if_n c20 hF
                refine lv_iload hx hb dX12_turns_92 (lv_at hl 0 rfl) ?_
                have hq := (Option.some.inj hF).symm
                have hq := hr11 _ hq
                subst hq
                exact hret _ _ _ _ hW dX12_turns_94
        refine L5 N (1 : Int32) t_limbs'_9 t_wide'_9 out10 _ _ _ hX6 hW (lv_sub hl [0, 1, 2, 3, 4] rfl) hr9 ?_
        intro t_limbs'_16 t_wide'_16 H locs ls ho hW hl
        have hF := hF t_limbs'_16 t_wide'_16 ho
        clear L5
        refine lv_iconst (v := (-1 : Int32)) hx hb dX12_turns_101 (by decide) ?_
        have hq := Option.some.inj hF
        subst hq
        exact hret _ _ _ _ hW dX12_turns_102
      · have hF := if_y c3 hF
        refine lv_bipush (v := (-10 : Int32)) hx hb dX12_turns_32 (by decide) ?_
        have hq := Option.some.inj hF
        subst hq
        exact hret _ _ _ _ hW dX12_turns_34
