abbrev wd_R_adds (E : m_E) (a_t : Nat) (a_t_book : Nat) (a_t_images : Nat) (a_t_kept : Nat) (a_t_aside : Nat) (a_t_hears : Nat) (a_t_spies : Nat) (a_t_known : Nat) (a_t_by : Nat) (a_t_ways : Nat) (a_t_fewest : Nat) (a_t_heavy : Nat) (a_t_sums : Nat) (a_t_faces : Nat) (a_t_bestFaces : Nat) (a_t_text : Nat) (a_t_verbs : Nat) (a_t_many : Nat) (a_t_nums : Nat) (a_t_limbs : Nat) (a_t_wide : Nat) (t_typed : Int32) (t_at : Int32) (t_start : Int32) (t_token : Int32) (t_value : Int32) (t_items : Int32) (t_limbs : Nat → Int32) (t_wide : Nat → Int32) : va_W := [(a_t, .inr (12, [.ref a_t_book, .ref a_t_images, .ref a_t_kept, .ref a_t_aside, .ref a_t_limbs, .ref a_t_wide, .ref a_t_hears, .ref a_t_spies, .ref a_t_known, .ref a_t_by, .ref a_t_ways, .ref a_t_fewest, .ref a_t_heavy, .ref a_t_sums, .ref a_t_faces, .ref a_t_bestFaces, .ref a_t_text, .int t_typed, .int t_at, .int t_start, .int t_token, .int t_value, .ref a_t_verbs, .ref a_t_many, .ref a_t_nums, .int t_items])), (a_t_limbs, .inl (E.2.1 0, 1680, .inl t_limbs)), (a_t_wide, .inl (E.2.1 0, 28, .inl t_wide))]
def rm_R_adds : Room := { frames := 1, cells := 0, slots := 0, locals := 21 }
set_option maxHeartbeats 4000000 in
set_option maxRecDepth 100000 in
theorem c_R_adds (l : Launch) (E : m_E) (sz N : Nat) (a_t : Nat) (a_t_book : Nat) (a_t_images : Nat) (a_t_kept : Nat) (a_t_aside : Nat) (a_t_hears : Nat) (a_t_spies : Nat) (a_t_known : Nat) (a_t_by : Nat) (a_t_ways : Nat) (a_t_fewest : Nat) (a_t_heavy : Nat) (a_t_sums : Nat) (a_t_faces : Nat) (a_t_bestFaces : Nat) (a_t_text : Nat) (a_t_verbs : Nat) (a_t_many : Nat) (a_t_nums : Nat) (a_t_limbs : Nat) (a_t_wide : Nat) (t_typed : Int32) (t_at : Int32) (t_start : Int32) (t_token : Int32) (t_value : Int32) (t_items : Int32) (t_limbs : Nat → Int32) (t_wide : Nat → Int32) (p1 : Int32) (p2 : Int32) (ures : (Nat → Int32) × (Nat → Int32)) (hF : F_R_adds N p1 p2 t_limbs t_wide = some ures) : m_Met l yX12_adds cX12_adds 7 none rm_R_adds E (wd_R_adds E a_t a_t_book a_t_images a_t_kept a_t_aside a_t_hears a_t_spies a_t_known a_t_by a_t_ways a_t_fewest a_t_heavy a_t_sums a_t_faces a_t_bestFaces a_t_text a_t_verbs a_t_many a_t_nums a_t_limbs a_t_wide t_typed t_at t_start t_token t_value t_items t_limbs t_wide) (wd_R_adds E a_t a_t_book a_t_images a_t_kept a_t_aside a_t_hears a_t_spies a_t_known a_t_by a_t_ways a_t_fewest a_t_heavy a_t_sums a_t_faces a_t_bestFaces a_t_text a_t_verbs a_t_many a_t_nums a_t_limbs a_t_wide t_typed t_at t_start t_token t_value t_items ures.1 ures.2) sz [.ref a_t, .int p1, .int p2] none := by
  refine m_ofV (by decide) (Nat.le_of_ble_eq_true rfl) ?_
  intro p e s m args below meth c A Q ls X hW hA hl hret
  obtain ⟨hx, hb, -, hown, hts, hK, -, hG⟩ := id X
  have hl : lv_has ls 7 [(0, .ref a_t), (1, .int p1), (2, .int p2)] := hl
  unfold F_R_adds at hF
  refine lv_iconst (v := (0 : Int32)) hx hb dX12_adds_0 (by decide) ?_
  refine lv_istore_n (lv' := [(3, .int (0 : Int32)), (0, .ref a_t), (1, .int p1), (2, .int p2)]) hx hb dX12_adds_1 rfl hl (by decide) rfl (fun ls hl => ?_)
  refine lv_aload_n hx hb dX12_adds_2 rfl (lv_at hl 1 rfl) ?_
  refine m_get X hW fdX12_26 0 rfl rfl dX12_adds_3 ?_
  refine lv_iload_n hx hb dX12_adds_6 rfl (lv_at hl 2 rfl) ?_
  obtain ⟨g1, hF⟩ := gd_some hF
  refine m_iald X hW 2 (k := p1.toNatClampNeg) rfl g1 rfl dX12_adds_7 ?_
  refine lv_aload_n hx hb dX12_adds_8 rfl (lv_at hl 1 rfl) ?_
  refine m_get X hW fdX12_26 0 rfl rfl dX12_adds_9 ?_
  refine lv_iload_n hx hb dX12_adds_12 rfl (lv_at hl 3 rfl) ?_
  obtain ⟨g2, hF⟩ := gd_some hF
  refine m_iald X hW 2 (k := p2.toNatClampNeg) rfl g2 rfl dX12_adds_13 ?_
  obtain ⟨y0, hX4, hF⟩ := bO_s1 hF
  have J3 : ∀ (H : Heap) (locs : List Loc) (ls : Array Slot), m_H E A (wd_R_adds E a_t a_t_book a_t_images a_t_kept a_t_aside a_t_hears a_t_spies a_t_known a_t_by a_t_ways a_t_fewest a_t_heavy a_t_sums a_t_faces a_t_bestFaces a_t_text a_t_verbs a_t_many a_t_nums a_t_limbs a_t_wide t_typed t_at t_start t_token t_value t_items t_limbs t_wide) s.heap H locs → lv_has ls 7 [(3, .int (0 : Int32)), (0, .ref a_t), (1, .int p1), (2, .int p2)] → W p l e rm_R_adds s m args below meth c H locs 0 0 Q (F0 m 32 ls [.int y0]) := by
    intro H locs ls hW hl
    refine lv_istore (lv' := [(4, .int y0), (3, .int (0 : Int32)), (0, .ref a_t), (1, .int p1), (2, .int p2)]) hx hb dX12_adds_32 hl (by decide) rfl (fun ls hl => ?_)
    refine lv_iconst (v := (0 : Int32)) hx hb dX12_adds_34 (by decide) ?_
    refine lv_istore (lv' := [(5, .int (0 : Int32)), (4, .int y0), (3, .int (0 : Int32)), (0, .ref a_t), (1, .int p1), (2, .int p2)]) hx hb dX12_adds_35 hl (by decide) rfl (fun ls hl => ?_)
    obtain ⟨x3_2, t_limbs'_4, hX6, hF⟩ := bO_s2 hF
    have L5 : ∀ (k0 : Nat) (x3 : Int32) (x5 : Int32) (t_limbs'_3 : Nat → Int32) (x3_2 : Int32) (t_limbs'_4 : Nat → Int32) (H : Heap) (locs : List Loc) (ls : Array Slot), R_adds_L37 y0 p1 p2 k0 x3 x5 t_limbs'_3 = some (x3_2, t_limbs'_4) → m_H E A (wd_R_adds E a_t a_t_book a_t_images a_t_kept a_t_aside a_t_hears a_t_spies a_t_known a_t_by a_t_ways a_t_fewest a_t_heavy a_t_sums a_t_faces a_t_bestFaces a_t_text a_t_verbs a_t_many a_t_nums a_t_limbs a_t_wide t_typed t_at t_start t_token t_value t_items t_limbs'_3 t_wide) s.heap H locs → lv_has ls 7 [(5, .int x5), (4, .int y0), (3, .int x3), (0, .ref a_t), (1, .int p1), (2, .int p2)] → (∀ (H : Heap) (locs : List Loc) (ls : Array Slot), m_H E A (wd_R_adds E a_t a_t_book a_t_images a_t_kept a_t_aside a_t_hears a_t_spies a_t_known a_t_by a_t_ways a_t_fewest a_t_heavy a_t_sums a_t_faces a_t_bestFaces a_t_text a_t_verbs a_t_many a_t_nums a_t_limbs a_t_wide t_typed t_at t_start t_token t_value t_items t_limbs'_4 t_wide) s.heap H locs → lv_has ls 7 [(4, .int y0), (3, .int x3_2), (0, .ref a_t), (1, .int p1)] → W p l e rm_R_adds s m args below meth c H locs 0 0 Q (F0 m 102 ls [])) → W p l e rm_R_adds s m args below meth c H locs 0 0 Q (F0 m 37 ls []) := by
      clear hF
      intro k0
      induction k0 with
      | zero =>
        intro x3 x5 t_limbs'_3 x3_2 t_limbs'_4 H locs ls hF
        cases hF
      | succ k0 ih8 =>
        intro x3 x5 t_limbs'_3 x3_2 t_limbs'_4 H locs ls hF hW hl hk7
        rw [R_adds_L37] at hF
        refine lv_iload hx hb dX12_adds_37 (lv_at hl 0 rfl) ?_
        refine lv_iload hx hb dX12_adds_39 (lv_at hl 1 rfl) ?_
        refine lv_icmp_ge (tgt := 102) hx hb dX12_adds_41 (by decide) (fun c9 => ?_) (fun c9 => ?_)
        · have hF := if_y c9 hF
          cases hF
          exact hk7 _ _ _ hW (lv_sub hl [1, 2, 3, 4] rfl)
        · have hF := if_n c9 hF
          refine lv_aload_n hx hb dX12_adds_44 rfl (lv_at hl 3 rfl) ?_
          refine m_get X hW fdX12_23 0 rfl rfl dX12_adds_45 ?_
          refine lv_bipush (v := (60 : Int32)) hx hb dX12_adds_48 (by decide) ?_
          refine lv_iload_n hx hb dX12_adds_50 rfl (lv_at hl 4 rfl) ?_
          refine lv_imul hx hb dX12_adds_51 ?_
          refine lv_iload hx hb dX12_adds_52 (lv_at hl 0 rfl) ?_
          refine lv_iadd hx hb dX12_adds_54 ?_
          obtain ⟨g10, hF⟩ := gd_some hF
          refine m_iald X hW 1 (k := (((60 : Int32) * p1) + x5).toNatClampNeg) rfl g10 rfl dX12_adds_55 ?_
          refine lv_aload_n hx hb dX12_adds_56 rfl (lv_at hl 3 rfl) ?_
          refine m_get X hW fdX12_23 0 rfl rfl dX12_adds_57 ?_
          refine lv_bipush (v := (60 : Int32)) hx hb dX12_adds_60 (by decide) ?_
          refine lv_iload_n hx hb dX12_adds_62 rfl (lv_at hl 5 rfl) ?_
          refine lv_imul hx hb dX12_adds_63 ?_
          refine lv_iload hx hb dX12_adds_64 (lv_at hl 0 rfl) ?_
          refine lv_iadd hx hb dX12_adds_66 ?_
          obtain ⟨g11, hF⟩ := gd_some hF
          refine m_iald X hW 1 (k := (((60 : Int32) * p2) + x5).toNatClampNeg) rfl g11 rfl dX12_adds_67 ?_
          refine lv_iadd hx hb dX12_adds_68 ?_
          refine lv_iload_n hx hb dX12_adds_69 rfl (lv_at hl 2 rfl) ?_
          refine lv_iadd hx hb dX12_adds_70 ?_
          refine lv_istore (lv' := [(6, .int (((t_limbs'_3 (((60 : Int32) * p1) + x5).toNatClampNeg) + (t_limbs'_3 (((60 : Int32) * p2) + x5).toNatClampNeg)) + x3)), (5, .int x5), (4, .int y0), (3, .int x3), (0, .ref a_t), (1, .int p1), (2, .int p2)]) hx hb dX12_adds_71 hl (by decide) rfl (fun ls hl => ?_)
          refine lv_aload_n hx hb dX12_adds_73 rfl (lv_at hl 4 rfl) ?_
          refine m_get X hW fdX12_23 0 rfl rfl dX12_adds_74 ?_
          refine lv_bipush (v := (60 : Int32)) hx hb dX12_adds_77 (by decide) ?_
          refine lv_iload_n hx hb dX12_adds_79 rfl (lv_at hl 5 rfl) ?_
          refine lv_imul hx hb dX12_adds_80 ?_
          refine lv_iload hx hb dX12_adds_81 (lv_at hl 1 rfl) ?_
          refine lv_iadd hx hb dX12_adds_83 ?_
          refine lv_iload hx hb dX12_adds_84 (lv_at hl 0 rfl) ?_
          refine lv_ldc (v := (1073741823 : Int32)) hx hb hown (hts _ wk_1460) dX12_adds_86 ?_
          refine lv_iand hx hb dX12_adds_88 ?_
          refine m_iast X hW 1 (k := (((60 : Int32) * p1) + x5).toNatClampNeg) rfl g10 rfl dX12_adds_89 (ws' := (wd_R_adds E a_t a_t_book a_t_images a_t_kept a_t_aside a_t_hears a_t_spies a_t_known a_t_by a_t_ways a_t_fewest a_t_heavy a_t_sums a_t_faces a_t_bestFaces a_t_text a_t_verbs a_t_many a_t_nums a_t_limbs a_t_wide t_typed t_at t_start t_token t_value t_items (upd t_limbs'_3 (((60 : Int32) * p1) + x5).toNatClampNeg ((((t_limbs'_3 (((60 : Int32) * p1) + x5).toNatClampNeg) + (t_limbs'_3 (((60 : Int32) * p2) + x5).toNatClampNeg)) + x3) &&& (1073741823 : Int32))) t_wide)) rfl (fun H locs hW => ?_)
          refine lv_iload hx hb dX12_adds_90 (lv_at hl 0 rfl) ?_
          refine lv_bipush (v := (30 : Int32)) hx hb dX12_adds_92 (by decide) ?_
          refine m_iushr hx hb dX12_adds_94 ?_
          refine lv_istore_n (lv' := [(3, .int (jushr (((t_limbs'_3 (((60 : Int32) * p1) + x5).toNatClampNeg) + (t_limbs'_3 (((60 : Int32) * p2) + x5).toNatClampNeg)) + x3) (30 : Int32))), (6, .int (((t_limbs'_3 (((60 : Int32) * p1) + x5).toNatClampNeg) + (t_limbs'_3 (((60 : Int32) * p2) + x5).toNatClampNeg)) + x3)), (5, .int x5), (4, .int y0), (0, .ref a_t), (1, .int p1), (2, .int p2)]) hx hb dX12_adds_95 rfl hl (by decide) rfl (fun ls hl => ?_)
          refine lv_iinc (v := (x5 + (1 : Int32))) (lv' := [(5, .int (x5 + (1 : Int32))), (3, .int (jushr (((t_limbs'_3 (((60 : Int32) * p1) + x5).toNatClampNeg) + (t_limbs'_3 (((60 : Int32) * p2) + x5).toNatClampNeg)) + x3) (30 : Int32))), (6, .int (((t_limbs'_3 (((60 : Int32) * p1) + x5).toNatClampNeg) + (t_limbs'_3 (((60 : Int32) * p2) + x5).toNatClampNeg)) + x3)), (4, .int y0), (0, .ref a_t), (1, .int p1), (2, .int p2)]) hx hb dX12_adds_96 hl (k := 2) rfl rfl (by decide) rfl (fun ls hl => ?_)
          refine lv_goto (tgt := 37) hx hb dX12_adds_99 (by decide) ?_
          exact ih8 (jushr (((t_limbs'_3 (((60 : Int32) * p1) + x5).toNatClampNeg) + (t_limbs'_3 (((60 : Int32) * p2) + x5).toNatClampNeg)) + x3) (30 : Int32)) (x5 + (1 : Int32)) (upd t_limbs'_3 (((60 : Int32) * p1) + x5).toNatClampNeg ((((t_limbs'_3 (((60 : Int32) * p1) + x5).toNatClampNeg) + (t_limbs'_3 (((60 : Int32) * p2) + x5).toNatClampNeg)) + x3) &&& (1073741823 : Int32))) x3_2 t_limbs'_4 _ _ _ hF hW (lv_sub hl [0, 3, 1, 4, 5, 6] rfl) hk7
    refine L5 N (0 : Int32) (0 : Int32) t_limbs x3_2 t_limbs'_4 _ _ _ hX6 hW (lv_sub hl [0, 1, 2, 3, 4, 5] rfl) ?_
    intro H locs ls hW hl
    clear L5
    refine lv_aload_n hx hb dX12_adds_102 rfl (lv_at hl 2 rfl) ?_
    refine m_get X hW fdX12_23 0 rfl rfl dX12_adds_103 ?_
    refine lv_bipush (v := (60 : Int32)) hx hb dX12_adds_106 (by decide) ?_
    refine lv_iload_n hx hb dX12_adds_108 rfl (lv_at hl 3 rfl) ?_
    refine lv_imul hx hb dX12_adds_109 ?_
    refine lv_iload hx hb dX12_adds_110 (lv_at hl 0 rfl) ?_
    refine lv_iadd hx hb dX12_adds_112 ?_
    refine lv_iload_n hx hb dX12_adds_113 rfl (lv_at hl 1 rfl) ?_
    obtain ⟨g12, hF⟩ := gd_some hF
    refine m_iast X hW 1 (k := (((60 : Int32) * p1) + y0).toNatClampNeg) rfl g12 rfl dX12_adds_114 (ws' := (wd_R_adds E a_t a_t_book a_t_images a_t_kept a_t_aside a_t_hears a_t_spies a_t_known a_t_by a_t_ways a_t_fewest a_t_heavy a_t_sums a_t_faces a_t_bestFaces a_t_text a_t_verbs a_t_many a_t_nums a_t_limbs a_t_wide t_typed t_at t_start t_token t_value t_items (upd t_limbs'_4 (((60 : Int32) * p1) + y0).toNatClampNeg x3_2) t_wide)) rfl (fun H locs hW => ?_)
    refine lv_aload_n hx hb dX12_adds_115 rfl (lv_at hl 2 rfl) ?_
    refine m_get X hW fdX12_26 0 rfl rfl dX12_adds_116 ?_
    refine lv_iload_n hx hb dX12_adds_119 rfl (lv_at hl 3 rfl) ?_
    refine lv_iload hx hb dX12_adds_120 (lv_at hl 0 rfl) ?_
    refine lv_iload_n hx hb dX12_adds_122 rfl (lv_at hl 1 rfl) ?_
    refine lv_iadd hx hb dX12_adds_123 ?_
    refine m_iast X hW 2 (k := p1.toNatClampNeg) rfl g1 rfl dX12_adds_124 (ws' := (wd_R_adds E a_t a_t_book a_t_images a_t_kept a_t_aside a_t_hears a_t_spies a_t_known a_t_by a_t_ways a_t_fewest a_t_heavy a_t_sums a_t_faces a_t_bestFaces a_t_text a_t_verbs a_t_many a_t_nums a_t_limbs a_t_wide t_typed t_at t_start t_token t_value t_items (upd t_limbs'_4 (((60 : Int32) * p1) + y0).toNatClampNeg x3_2) (upd t_wide p1.toNatClampNeg (y0 + x3_2)))) rfl (fun H locs hW => ?_)
    refine lv_aload_n hx hb dX12_adds_125 rfl (lv_at hl 2 rfl) ?_
    refine lv_iload_n hx hb dX12_adds_126 rfl (lv_at hl 3 rfl) ?_
    obtain ⟨t_wide'_2, hC13, hF⟩ := bO_s1 hF
    refine m_callV X hW hA hl.1 lkX12_80 (c_R_trims l E _ N a_t a_t_book a_t_images a_t_kept a_t_aside a_t_hears a_t_spies a_t_known a_t_by a_t_ways a_t_fewest a_t_heavy a_t_sums a_t_faces a_t_bestFaces a_t_text a_t_verbs a_t_many a_t_nums a_t_limbs a_t_wide t_typed t_at t_start t_token t_value t_items (upd t_limbs'_4 (((60 : Int32) * p1) + y0).toNatClampNeg x3_2) (upd t_wide p1.toNatClampNeg (y0 + x3_2)) p1 t_wide'_2 hC13) ([0, 1, 2]) (by decide) rfl rfl (ws' := (wd_R_adds E a_t a_t_book a_t_images a_t_kept a_t_aside a_t_hears a_t_spies a_t_known a_t_by a_t_ways a_t_fewest a_t_heavy a_t_sums a_t_faces a_t_bestFaces a_t_text a_t_verbs a_t_many a_t_nums a_t_limbs a_t_wide t_typed t_at t_start t_token t_value t_items (upd t_limbs'_4 (((60 : Int32) * p1) + y0).toNatClampNeg x3_2) t_wide'_2)) rfl 0 rfl rfl rfl (As := [.int p1]) (rest := []) rfl rfl ⟨rfl, rfl, Nat.le_of_ble_eq_true rfl, Nat.le_of_ble_eq_true rfl⟩ (Nat.le_of_ble_eq_true rfl) (Nat.zero_le _) (Nat.zero_le _) dX12_adds_127 (fun H locs hW => ?_)
    clear hC13
    have hq := Option.some.inj hF
    subst hq
    exact hret _ _ _ _ hW dX12_adds_130
  clear hF
  have hF := hX4
  clear hX4
  refine lv_icmp_le (tgt := 26) hx hb dX12_adds_14 (by decide) (fun c14 => ?_) (fun c14 => ?_)
  · have hF := if_y c14 hF
    refine lv_aload_n hx hb dX12_adds_26 rfl (lv_at hl 1 rfl) ?_
    refine m_get X hW fdX12_26 0 rfl rfl dX12_adds_27 ?_
    refine lv_iload_n hx hb dX12_adds_30 rfl (lv_at hl 3 rfl) ?_
    refine m_iald X hW 2 (k := p2.toNatClampNeg) rfl g2 rfl dX12_adds_31 ?_
    cases hF
    exact J3 _ _ _ hW (lv_sub hl [0, 1, 2, 3] rfl)
  · have hF := if_n c14 hF
    refine lv_aload_n hx hb dX12_adds_17 rfl (lv_at hl 1 rfl) ?_
    refine m_get X hW fdX12_26 0 rfl rfl dX12_adds_18 ?_
    refine lv_iload_n hx hb dX12_adds_21 rfl (lv_at hl 2 rfl) ?_
    refine m_iald X hW 2 (k := p1.toNatClampNeg) rfl g1 rfl dX12_adds_22 ?_
    refine lv_goto (tgt := 32) hx hb dX12_adds_23 (by decide) ?_
    cases hF
    exact J3 _ _ _ hW (lv_sub hl [0, 1, 2, 3] rfl)
abbrev wd_R_lessens (E : m_E) (a_t : Nat) (a_t_book : Nat) (a_t_images : Nat) (a_t_kept : Nat) (a_t_aside : Nat) (a_t_hears : Nat) (a_t_spies : Nat) (a_t_known : Nat) (a_t_by : Nat) (a_t_ways : Nat) (a_t_fewest : Nat) (a_t_heavy : Nat) (a_t_sums : Nat) (a_t_faces : Nat) (a_t_bestFaces : Nat) (a_t_text : Nat) (a_t_verbs : Nat) (a_t_many : Nat) (a_t_nums : Nat) (a_t_limbs : Nat) (a_t_wide : Nat) (t_typed : Int32) (t_at : Int32) (t_start : Int32) (t_token : Int32) (t_value : Int32) (t_items : Int32) (t_limbs : Nat → Int32) (t_wide : Nat → Int32) : va_W := [(a_t, .inr (12, [.ref a_t_book, .ref a_t_images, .ref a_t_kept, .ref a_t_aside, .ref a_t_limbs, .ref a_t_wide, .ref a_t_hears, .ref a_t_spies, .ref a_t_known, .ref a_t_by, .ref a_t_ways, .ref a_t_fewest, .ref a_t_heavy, .ref a_t_sums, .ref a_t_faces, .ref a_t_bestFaces, .ref a_t_text, .int t_typed, .int t_at, .int t_start, .int t_token, .int t_value, .ref a_t_verbs, .ref a_t_many, .ref a_t_nums, .int t_items])), (a_t_limbs, .inl (E.2.1 0, 1680, .inl t_limbs)), (a_t_wide, .inl (E.2.1 0, 28, .inl t_wide))]
def rm_R_lessens : Room := { frames := 1, cells := 0, slots := 0, locals := 21 }
set_option maxHeartbeats 4000000 in
set_option maxRecDepth 100000 in
theorem c_R_lessens (l : Launch) (E : m_E) (sz N : Nat) (a_t : Nat) (a_t_book : Nat) (a_t_images : Nat) (a_t_kept : Nat) (a_t_aside : Nat) (a_t_hears : Nat) (a_t_spies : Nat) (a_t_known : Nat) (a_t_by : Nat) (a_t_ways : Nat) (a_t_fewest : Nat) (a_t_heavy : Nat) (a_t_sums : Nat) (a_t_faces : Nat) (a_t_bestFaces : Nat) (a_t_text : Nat) (a_t_verbs : Nat) (a_t_many : Nat) (a_t_nums : Nat) (a_t_limbs : Nat) (a_t_wide : Nat) (t_typed : Int32) (t_at : Int32) (t_start : Int32) (t_token : Int32) (t_value : Int32) (t_items : Int32) (t_limbs : Nat → Int32) (t_wide : Nat → Int32) (p1 : Int32) (p2 : Int32) (ures : (Nat → Int32) × (Nat → Int32)) (hF : F_R_lessens N p1 p2 t_limbs t_wide = some ures) : m_Met l yX12_lessens cX12_lessens 6 none rm_R_lessens E (wd_R_lessens E a_t a_t_book a_t_images a_t_kept a_t_aside a_t_hears a_t_spies a_t_known a_t_by a_t_ways a_t_fewest a_t_heavy a_t_sums a_t_faces a_t_bestFaces a_t_text a_t_verbs a_t_many a_t_nums a_t_limbs a_t_wide t_typed t_at t_start t_token t_value t_items t_limbs t_wide) (wd_R_lessens E a_t a_t_book a_t_images a_t_kept a_t_aside a_t_hears a_t_spies a_t_known a_t_by a_t_ways a_t_fewest a_t_heavy a_t_sums a_t_faces a_t_bestFaces a_t_text a_t_verbs a_t_many a_t_nums a_t_limbs a_t_wide t_typed t_at t_start t_token t_value t_items ures.1 ures.2) sz [.ref a_t, .int p1, .int p2] none := by
  refine m_ofV (by decide) (Nat.le_of_ble_eq_true rfl) ?_
  intro p e s m args below meth c A Q ls X hW hA hl hret
  obtain ⟨hx, hb, -, hown, hts, hK, -, hG⟩ := id X
  have hl : lv_has ls 6 [(0, .ref a_t), (1, .int p1), (2, .int p2)] := hl
  unfold F_R_lessens at hF
  refine lv_iconst (v := (0 : Int32)) hx hb dX12_lessens_0 (by decide) ?_
  refine lv_istore_n (lv' := [(3, .int (0 : Int32)), (0, .ref a_t), (1, .int p1), (2, .int p2)]) hx hb dX12_lessens_1 rfl hl (by decide) rfl (fun ls hl => ?_)
  refine lv_iconst (v := (0 : Int32)) hx hb dX12_lessens_2 (by decide) ?_
  refine lv_istore (lv' := [(4, .int (0 : Int32)), (3, .int (0 : Int32)), (0, .ref a_t), (1, .int p1), (2, .int p2)]) hx hb dX12_lessens_3 hl (by decide) rfl (fun ls hl => ?_)
  obtain ⟨t_limbs'_4, hX2, hF⟩ := bO_s1 hF
  have L1 : ∀ (k0 : Nat) (x3 : Int32) (x4 : Int32) (t_limbs'_3 : Nat → Int32) (t_limbs'_4 : Nat → Int32) (H : Heap) (locs : List Loc) (ls : Array Slot), R_lessens_L5 p1 t_wide p2 k0 x3 x4 t_limbs'_3 = some t_limbs'_4 → m_H E A (wd_R_lessens E a_t a_t_book a_t_images a_t_kept a_t_aside a_t_hears a_t_spies a_t_known a_t_by a_t_ways a_t_fewest a_t_heavy a_t_sums a_t_faces a_t_bestFaces a_t_text a_t_verbs a_t_many a_t_nums a_t_limbs a_t_wide t_typed t_at t_start t_token t_value t_items t_limbs'_3 t_wide) s.heap H locs → lv_has ls 6 [(4, .int x4), (3, .int x3), (0, .ref a_t), (1, .int p1), (2, .int p2)] → (∀ (H : Heap) (locs : List Loc) (ls : Array Slot), m_H E A (wd_R_lessens E a_t a_t_book a_t_images a_t_kept a_t_aside a_t_hears a_t_spies a_t_known a_t_by a_t_ways a_t_fewest a_t_heavy a_t_sums a_t_faces a_t_bestFaces a_t_text a_t_verbs a_t_many a_t_nums a_t_limbs a_t_wide t_typed t_at t_start t_token t_value t_items t_limbs'_4 t_wide) s.heap H locs → lv_has ls 6 [(0, .ref a_t), (1, .int p1)] → W p l e rm_R_lessens s m args below meth c H locs 0 0 Q (F0 m 79 ls [])) → W p l e rm_R_lessens s m args below meth c H locs 0 0 Q (F0 m 5 ls []) := by
    clear hF
    intro k0
    induction k0 with
    | zero =>
      intro x3 x4 t_limbs'_3 t_limbs'_4 H locs ls hF
      cases hF
    | succ k0 ih4 =>
      intro x3 x4 t_limbs'_3 t_limbs'_4 H locs ls hF hW hl hk3
      rw [R_lessens_L5] at hF
      refine lv_iload hx hb dX12_lessens_5 (lv_at hl 0 rfl) ?_
      refine lv_aload_n hx hb dX12_lessens_7 rfl (lv_at hl 2 rfl) ?_
      refine m_get X hW fdX12_26 0 rfl rfl dX12_lessens_8 ?_
      refine lv_iload_n hx hb dX12_lessens_11 rfl (lv_at hl 3 rfl) ?_
      obtain ⟨g5, hF⟩ := gd_some hF
      refine m_iald X hW 2 (k := p1.toNatClampNeg) rfl g5 rfl dX12_lessens_12 ?_
      refine lv_icmp_ge (tgt := 79) hx hb dX12_lessens_13 (by decide) (fun c6 => ?_) (fun c6 => ?_)
      · have hF := if_y c6 hF
        cases hF
        exact hk3 _ _ _ hW (lv_sub hl [2, 3] rfl)
      · have hF := if_n c6 hF
        refine lv_aload_n hx hb dX12_lessens_16 rfl (lv_at hl 2 rfl) ?_
        refine m_get X hW fdX12_23 0 rfl rfl dX12_lessens_17 ?_
        refine lv_bipush (v := (60 : Int32)) hx hb dX12_lessens_20 (by decide) ?_
        refine lv_iload_n hx hb dX12_lessens_22 rfl (lv_at hl 3 rfl) ?_
        refine lv_imul hx hb dX12_lessens_23 ?_
        refine lv_iload hx hb dX12_lessens_24 (lv_at hl 0 rfl) ?_
        refine lv_iadd hx hb dX12_lessens_26 ?_
        obtain ⟨g7, hF⟩ := gd_some hF
        refine m_iald X hW 1 (k := (((60 : Int32) * p1) + x4).toNatClampNeg) rfl g7 rfl dX12_lessens_27 ?_
        refine lv_aload_n hx hb dX12_lessens_28 rfl (lv_at hl 2 rfl) ?_
        refine m_get X hW fdX12_23 0 rfl rfl dX12_lessens_29 ?_
        refine lv_bipush (v := (60 : Int32)) hx hb dX12_lessens_32 (by decide) ?_
        refine lv_iload_n hx hb dX12_lessens_34 rfl (lv_at hl 4 rfl) ?_
        refine lv_imul hx hb dX12_lessens_35 ?_
        refine lv_iload hx hb dX12_lessens_36 (lv_at hl 0 rfl) ?_
        refine lv_iadd hx hb dX12_lessens_38 ?_
        obtain ⟨g8, hF⟩ := gd_some hF
        refine m_iald X hW 1 (k := (((60 : Int32) * p2) + x4).toNatClampNeg) rfl g8 rfl dX12_lessens_39 ?_
        refine lv_isub hx hb dX12_lessens_40 ?_
        refine lv_iload_n hx hb dX12_lessens_41 rfl (lv_at hl 1 rfl) ?_
        refine lv_isub hx hb dX12_lessens_42 ?_
        refine lv_istore (lv' := [(5, .int (((t_limbs'_3 (((60 : Int32) * p1) + x4).toNatClampNeg) - (t_limbs'_3 (((60 : Int32) * p2) + x4).toNatClampNeg)) - x3)), (4, .int x4), (3, .int x3), (0, .ref a_t), (1, .int p1), (2, .int p2)]) hx hb dX12_lessens_43 hl (by decide) rfl (fun ls hl => ?_)
        refine lv_aload_n hx hb dX12_lessens_45 rfl (lv_at hl 3 rfl) ?_
        refine m_get X hW fdX12_23 0 rfl rfl dX12_lessens_46 ?_
        refine lv_bipush (v := (60 : Int32)) hx hb dX12_lessens_49 (by decide) ?_
        refine lv_iload_n hx hb dX12_lessens_51 rfl (lv_at hl 4 rfl) ?_
        refine lv_imul hx hb dX12_lessens_52 ?_
        refine lv_iload hx hb dX12_lessens_53 (lv_at hl 1 rfl) ?_
        refine lv_iadd hx hb dX12_lessens_55 ?_
        refine lv_iload hx hb dX12_lessens_56 (lv_at hl 0 rfl) ?_
        refine lv_ldc (v := (1073741823 : Int32)) hx hb hown (hts _ wk_1460) dX12_lessens_58 ?_
        refine lv_iand hx hb dX12_lessens_60 ?_
        refine m_iast X hW 1 (k := (((60 : Int32) * p1) + x4).toNatClampNeg) rfl g7 rfl dX12_lessens_61 (ws' := (wd_R_lessens E a_t a_t_book a_t_images a_t_kept a_t_aside a_t_hears a_t_spies a_t_known a_t_by a_t_ways a_t_fewest a_t_heavy a_t_sums a_t_faces a_t_bestFaces a_t_text a_t_verbs a_t_many a_t_nums a_t_limbs a_t_wide t_typed t_at t_start t_token t_value t_items (upd t_limbs'_3 (((60 : Int32) * p1) + x4).toNatClampNeg ((((t_limbs'_3 (((60 : Int32) * p1) + x4).toNatClampNeg) - (t_limbs'_3 (((60 : Int32) * p2) + x4).toNatClampNeg)) - x3) &&& (1073741823 : Int32))) t_wide)) rfl (fun H locs hW => ?_)
        refine lv_iload hx hb dX12_lessens_62 (lv_at hl 0 rfl) ?_
        refine lv_if_ge (tgt := 71) hx hb dX12_lessens_64 (by decide) (fun c9 => ?_) (fun c9 => ?_)
        · have hF := if_y c9 hF
          refine lv_iconst (v := (0 : Int32)) hx hb dX12_lessens_71 (by decide) ?_
          refine lv_istore_n (lv' := [(3, .int (0 : Int32)), (5, .int (((t_limbs'_3 (((60 : Int32) * p1) + x4).toNatClampNeg) - (t_limbs'_3 (((60 : Int32) * p2) + x4).toNatClampNeg)) - x3)), (4, .int x4), (0, .ref a_t), (1, .int p1), (2, .int p2)]) hx hb dX12_lessens_72 rfl hl (by decide) rfl (fun ls hl => ?_)
          refine lv_iinc (v := (x4 + (1 : Int32))) (lv' := [(4, .int (x4 + (1 : Int32))), (3, .int (0 : Int32)), (5, .int (((t_limbs'_3 (((60 : Int32) * p1) + x4).toNatClampNeg) - (t_limbs'_3 (((60 : Int32) * p2) + x4).toNatClampNeg)) - x3)), (0, .ref a_t), (1, .int p1), (2, .int p2)]) hx hb dX12_lessens_73 hl (k := 2) rfl rfl (by decide) rfl (fun ls hl => ?_)
          refine lv_goto (tgt := 5) hx hb dX12_lessens_76 (by decide) ?_
          exact ih4 (0 : Int32) (x4 + (1 : Int32)) (upd t_limbs'_3 (((60 : Int32) * p1) + x4).toNatClampNeg ((((t_limbs'_3 (((60 : Int32) * p1) + x4).toNatClampNeg) - (t_limbs'_3 (((60 : Int32) * p2) + x4).toNatClampNeg)) - x3) &&& (1073741823 : Int32))) t_limbs'_4 _ _ _ hF hW (lv_sub hl [0, 1, 3, 4, 5] rfl) hk3
        · have hF := if_n c9 hF
          refine lv_iconst (v := (1 : Int32)) hx hb dX12_lessens_67 (by decide) ?_
          refine lv_goto (tgt := 72) hx hb dX12_lessens_68 (by decide) ?_
          refine lv_istore_n (lv' := [(3, .int (1 : Int32)), (5, .int (((t_limbs'_3 (((60 : Int32) * p1) + x4).toNatClampNeg) - (t_limbs'_3 (((60 : Int32) * p2) + x4).toNatClampNeg)) - x3)), (4, .int x4), (0, .ref a_t), (1, .int p1), (2, .int p2)]) hx hb dX12_lessens_72 rfl hl (by decide) rfl (fun ls hl => ?_)
          refine lv_iinc (v := (x4 + (1 : Int32))) (lv' := [(4, .int (x4 + (1 : Int32))), (3, .int (1 : Int32)), (5, .int (((t_limbs'_3 (((60 : Int32) * p1) + x4).toNatClampNeg) - (t_limbs'_3 (((60 : Int32) * p2) + x4).toNatClampNeg)) - x3)), (0, .ref a_t), (1, .int p1), (2, .int p2)]) hx hb dX12_lessens_73 hl (k := 2) rfl rfl (by decide) rfl (fun ls hl => ?_)
          refine lv_goto (tgt := 5) hx hb dX12_lessens_76 (by decide) ?_
          exact ih4 (1 : Int32) (x4 + (1 : Int32)) (upd t_limbs'_3 (((60 : Int32) * p1) + x4).toNatClampNeg ((((t_limbs'_3 (((60 : Int32) * p1) + x4).toNatClampNeg) - (t_limbs'_3 (((60 : Int32) * p2) + x4).toNatClampNeg)) - x3) &&& (1073741823 : Int32))) t_limbs'_4 _ _ _ hF hW (lv_sub hl [0, 1, 3, 4, 5] rfl) hk3
  refine L1 N (0 : Int32) (0 : Int32) t_limbs t_limbs'_4 _ _ _ hX2 hW (lv_sub hl [0, 1, 2, 3, 4] rfl) ?_
  intro H locs ls hW hl
  clear L1
  refine lv_aload_n hx hb dX12_lessens_79 rfl (lv_at hl 0 rfl) ?_
  refine lv_iload_n hx hb dX12_lessens_80 rfl (lv_at hl 1 rfl) ?_
  obtain ⟨t_wide'_2, hC10, hF⟩ := bO_s1 hF
  refine m_callV X hW hA hl.1 lkX12_80 (c_R_trims l E _ N a_t a_t_book a_t_images a_t_kept a_t_aside a_t_hears a_t_spies a_t_known a_t_by a_t_ways a_t_fewest a_t_heavy a_t_sums a_t_faces a_t_bestFaces a_t_text a_t_verbs a_t_many a_t_nums a_t_limbs a_t_wide t_typed t_at t_start t_token t_value t_items t_limbs'_4 t_wide p1 t_wide'_2 hC10) ([0, 1, 2]) (by decide) rfl rfl (ws' := (wd_R_lessens E a_t a_t_book a_t_images a_t_kept a_t_aside a_t_hears a_t_spies a_t_known a_t_by a_t_ways a_t_fewest a_t_heavy a_t_sums a_t_faces a_t_bestFaces a_t_text a_t_verbs a_t_many a_t_nums a_t_limbs a_t_wide t_typed t_at t_start t_token t_value t_items t_limbs'_4 t_wide'_2)) rfl 0 rfl rfl rfl (As := [.int p1]) (rest := []) rfl rfl ⟨rfl, rfl, Nat.le_of_ble_eq_true rfl, Nat.le_of_ble_eq_true rfl⟩ (Nat.le_of_ble_eq_true rfl) (Nat.zero_le _) (Nat.zero_le _) dX12_lessens_81 (fun H locs hW => ?_)
  clear hC10
  have hq := Option.some.inj hF
  subst hq
  exact hret _ _ _ _ hW dX12_lessens_84
abbrev wd_R_against (E : m_E) (a_t : Nat) (a_t_book : Nat) (a_t_images : Nat) (a_t_kept : Nat) (a_t_aside : Nat) (a_t_hears : Nat) (a_t_spies : Nat) (a_t_known : Nat) (a_t_by : Nat) (a_t_ways : Nat) (a_t_fewest : Nat) (a_t_heavy : Nat) (a_t_sums : Nat) (a_t_faces : Nat) (a_t_bestFaces : Nat) (a_t_text : Nat) (a_t_verbs : Nat) (a_t_many : Nat) (a_t_nums : Nat) (a_t_limbs : Nat) (a_t_wide : Nat) (t_typed : Int32) (t_at : Int32) (t_start : Int32) (t_token : Int32) (t_value : Int32) (t_items : Int32) (t_limbs : Nat → Int32) (t_wide : Nat → Int32) : va_W := [(a_t, .inr (12, [.ref a_t_book, .ref a_t_images, .ref a_t_kept, .ref a_t_aside, .ref a_t_limbs, .ref a_t_wide, .ref a_t_hears, .ref a_t_spies, .ref a_t_known, .ref a_t_by, .ref a_t_ways, .ref a_t_fewest, .ref a_t_heavy, .ref a_t_sums, .ref a_t_faces, .ref a_t_bestFaces, .ref a_t_text, .int t_typed, .int t_at, .int t_start, .int t_token, .int t_value, .ref a_t_verbs, .ref a_t_many, .ref a_t_nums, .int t_items])), (a_t_limbs, .inl (E.2.1 0, 1680, .inl t_limbs)), (a_t_wide, .inl (E.2.1 0, 28, .inl t_wide))]
def rm_R_against : Room := { frames := 0, cells := 0, slots := 0, locals := 0 }
set_option maxHeartbeats 4000000 in
set_option maxRecDepth 100000 in
theorem c_R_against (l : Launch) (E : m_E) (sz N : Nat) (a_t : Nat) (a_t_book : Nat) (a_t_images : Nat) (a_t_kept : Nat) (a_t_aside : Nat) (a_t_hears : Nat) (a_t_spies : Nat) (a_t_known : Nat) (a_t_by : Nat) (a_t_ways : Nat) (a_t_fewest : Nat) (a_t_heavy : Nat) (a_t_sums : Nat) (a_t_faces : Nat) (a_t_bestFaces : Nat) (a_t_text : Nat) (a_t_verbs : Nat) (a_t_many : Nat) (a_t_nums : Nat) (a_t_limbs : Nat) (a_t_wide : Nat) (t_typed : Int32) (t_at : Int32) (t_start : Int32) (t_token : Int32) (t_value : Int32) (t_items : Int32) (t_limbs : Nat → Int32) (t_wide : Nat → Int32) (p1 : Int32) (p2 : Int32) (ures : Int32) (hF : F_R_against N p1 p2 t_limbs t_wide = some ures) : m_Met l yX12_against cX12_against 4 (some .int) rm_R_against E (wd_R_against E a_t a_t_book a_t_images a_t_kept a_t_aside a_t_hears a_t_spies a_t_known a_t_by a_t_ways a_t_fewest a_t_heavy a_t_sums a_t_faces a_t_bestFaces a_t_text a_t_verbs a_t_many a_t_nums a_t_limbs a_t_wide t_typed t_at t_start t_token t_value t_items t_limbs t_wide) (wd_R_against E a_t a_t_book a_t_images a_t_kept a_t_aside a_t_hears a_t_spies a_t_known a_t_by a_t_ways a_t_fewest a_t_heavy a_t_sums a_t_faces a_t_bestFaces a_t_text a_t_verbs a_t_many a_t_nums a_t_limbs a_t_wide t_typed t_at t_start t_token t_value t_items t_limbs t_wide) sz [.ref a_t, .int p1, .int p2] (some (.int ures)) := by
  refine m_ofI (by decide) (Nat.le_of_ble_eq_true rfl) ?_
  intro p e s m args below meth c A Q ls X hW hA hl hret
  obtain ⟨hx, hb, -, hown, hts, hK, -, hG⟩ := id X
  have hl : lv_has ls 4 [(0, .ref a_t), (1, .int p1), (2, .int p2)] := hl
  unfold F_R_against at hF
  refine lv_aload_n hx hb dX12_against_0 rfl (lv_at hl 0 rfl) ?_
  refine m_get X hW fdX12_26 0 rfl rfl dX12_against_1 ?_
  refine lv_iload_n hx hb dX12_against_4 rfl (lv_at hl 1 rfl) ?_
  obtain ⟨g1, hF⟩ := gd_some hF
  refine m_iald X hW 2 (k := p1.toNatClampNeg) rfl g1 rfl dX12_against_5 ?_
  refine lv_aload_n hx hb dX12_against_6 rfl (lv_at hl 0 rfl) ?_
  refine m_get X hW fdX12_26 0 rfl rfl dX12_against_7 ?_
  refine lv_iload_n hx hb dX12_against_10 rfl (lv_at hl 2 rfl) ?_
  obtain ⟨g2, hF⟩ := gd_some hF
  refine m_iald X hW 2 (k := p2.toNatClampNeg) rfl g2 rfl dX12_against_11 ?_
  refine lv_icmp_eq (tgt := 36) hx hb dX12_against_12 (by decide) (fun c3 => ?_) (fun c3 => ?_)
  · have hF := if_y c3 hF
    refine lv_aload_n hx hb dX12_against_36 rfl (lv_at hl 0 rfl) ?_
    refine m_get X hW fdX12_26 0 rfl rfl dX12_against_37 ?_
    refine lv_iload_n hx hb dX12_against_40 rfl (lv_at hl 1 rfl) ?_
    refine m_iald X hW 2 (k := p1.toNatClampNeg) rfl g1 rfl dX12_against_41 ?_
    refine lv_iconst (v := (1 : Int32)) hx hb dX12_against_42 (by decide) ?_
    refine lv_isub hx hb dX12_against_43 ?_
    refine lv_istore_n (lv' := [(3, .int ((t_wide p1.toNatClampNeg) - (1 : Int32))), (0, .ref a_t), (1, .int p1), (2, .int p2)]) hx hb dX12_against_44 rfl hl (by decide) rfl (fun ls hl => ?_)
    obtain ⟨out9, hX5, hr8, hF⟩ := bT_s0 hF
    have L4 : ∀ (k0 : Nat) (x3 : Int32) (out11 : (Int32) ⊕ Unit)  (H : Heap) (locs : List Loc) (ls : Array Slot), R_against_L45 p1 p2 t_limbs k0 x3 = some out11 → m_H E A (wd_R_against E a_t a_t_book a_t_images a_t_kept a_t_aside a_t_hears a_t_spies a_t_known a_t_by a_t_ways a_t_fewest a_t_heavy a_t_sums a_t_faces a_t_bestFaces a_t_text a_t_verbs a_t_many a_t_nums a_t_limbs a_t_wide t_typed t_at t_start t_token t_value t_items t_limbs t_wide) s.heap H locs → lv_has ls 4 [(3, .int x3), (0, .ref a_t), (1, .int p1), (2, .int p2)] → (∀ a, out11 = .inl a → a = ures) → (∀  (H : Heap) (locs : List Loc) (ls : Array Slot), out11 = .inr () → m_H E A (wd_R_against E a_t a_t_book a_t_images a_t_kept a_t_aside a_t_hears a_t_spies a_t_known a_t_by a_t_ways a_t_fewest a_t_heavy a_t_sums a_t_faces a_t_bestFaces a_t_text a_t_verbs a_t_many a_t_nums a_t_limbs a_t_wide t_typed t_at t_start t_token t_value t_items t_limbs t_wide) s.heap H locs → lv_has ls 4 [] → W p l e rm_R_against s m args below meth c H locs 0 0 Q (F0 m 111 ls [])) → W p l e rm_R_against s m args below meth c H locs 0 0 Q (F0 m 45 ls []) := by
      clear hF
      intro k0
      induction k0 with
      | zero =>
        intro x3 out11 H locs ls hF
        cases hF
      | succ k0 ih7 =>
        intro x3 out11 H locs ls hF hW hl hr10 hk6
        rw [R_against_L45] at hF
        refine lv_iload_n hx hb dX12_against_45 rfl (lv_at hl 0 rfl) ?_
        refine lv_if_lt (tgt := 111) hx hb dX12_against_46 (by decide) (fun c12 => ?_) (fun c12 => ?_)
        · have hF := if_y c12 hF
          exact hk6  _ _ _ (Option.some.inj hF).symm hW (lv_sub hl [] rfl)
        · have hF := if_n c12 hF
          refine lv_aload_n hx hb dX12_against_49 rfl (lv_at hl 1 rfl) ?_
          refine m_get X hW fdX12_23 0 rfl rfl dX12_against_50 ?_
          refine lv_bipush (v := (60 : Int32)) hx hb dX12_against_53 (by decide) ?_
          refine lv_iload_n hx hb dX12_against_55 rfl (lv_at hl 2 rfl) ?_
          refine lv_imul hx hb dX12_against_56 ?_
          refine lv_iload_n hx hb dX12_against_57 rfl (lv_at hl 0 rfl) ?_
          refine lv_iadd hx hb dX12_against_58 ?_
          obtain ⟨g13, hF⟩ := gd_some hF
          refine m_iald X hW 1 (k := (((60 : Int32) * p1) + x3).toNatClampNeg) rfl g13 rfl dX12_against_59 ?_
          refine lv_aload_n hx hb dX12_against_60 rfl (lv_at hl 1 rfl) ?_
          refine m_get X hW fdX12_23 0 rfl rfl dX12_against_61 ?_
          refine lv_bipush (v := (60 : Int32)) hx hb dX12_against_64 (by decide) ?_
          refine lv_iload_n hx hb dX12_against_66 rfl (lv_at hl 3 rfl) ?_
          refine lv_imul hx hb dX12_against_67 ?_
          refine lv_iload_n hx hb dX12_against_68 rfl (lv_at hl 0 rfl) ?_
          refine lv_iadd hx hb dX12_against_69 ?_
          obtain ⟨g14, hF⟩ := gd_some hF
          refine m_iald X hW 1 (k := (((60 : Int32) * p2) + x3).toNatClampNeg) rfl g14 rfl dX12_against_70 ?_
          refine lv_icmp_eq (tgt := 105) hx hb dX12_against_71 (by decide) (fun c15 => ?_) (fun c15 => ?_)
          · have hF := if_y c15 hF
            refine lv_iinc (v := (x3 + (-1 : Int32))) (lv' := [(3, .int (x3 + (-1 : Int32))), (0, .ref a_t), (1, .int p1), (2, .int p2)]) hx hb dX12_against_105 hl (k := 0) rfl rfl (by decide) rfl (fun ls hl => ?_)
            refine lv_goto (tgt := 45) hx hb dX12_against_108 (by decide) ?_
            exact ih7 (x3 + (-1 : Int32)) out11 _ _ _ hF hW (lv_sub hl [0, 1, 2, 3] rfl) hr10 hk6
          · have hF := if_n c15 hF
            refine lv_aload_n hx hb dX12_against_74 rfl (lv_at hl 1 rfl) ?_
            refine m_get X hW fdX12_23 0 rfl rfl dX12_against_75 ?_
            refine lv_bipush (v := (60 : Int32)) hx hb dX12_against_78 (by decide) ?_
            refine lv_iload_n hx hb dX12_against_80 rfl (lv_at hl 2 rfl) ?_
            refine lv_imul hx hb dX12_against_81 ?_
            refine lv_iload_n hx hb dX12_against_82 rfl (lv_at hl 0 rfl) ?_
            refine lv_iadd hx hb dX12_against_83 ?_
            refine m_iald X hW 1 (k := (((60 : Int32) * p1) + x3).toNatClampNeg) rfl g13 rfl dX12_against_84 ?_
            refine lv_aload_n hx hb dX12_against_85 rfl (lv_at hl 1 rfl) ?_
            refine m_get X hW fdX12_23 0 rfl rfl dX12_against_86 ?_
            refine lv_bipush (v := (60 : Int32)) hx hb dX12_against_89 (by decide) ?_
            refine lv_iload_n hx hb dX12_against_91 rfl (lv_at hl 3 rfl) ?_
            refine lv_imul hx hb dX12_against_92 ?_
            refine lv_iload_n hx hb dX12_against_93 rfl (lv_at hl 0 rfl) ?_
            refine lv_iadd hx hb dX12_against_94 ?_
            refine m_iald X hW 1 (k := (((60 : Int32) * p2) + x3).toNatClampNeg) rfl g14 rfl dX12_against_95 ?_
            refine lv_icmp_ge (tgt := 103) hx hb dX12_against_96 (by decide) (fun c16 => ?_) (fun c16 => ?_)
            · have hF := if_y c16 hF
              refine lv_iconst (v := (1 : Int32)) hx hb dX12_against_103 (by decide) ?_
              have hq := (Option.some.inj hF).symm
              have hq := hr10 _ hq
              subst hq
              exact hret _ _ _ _ hW dX12_against_104
            · have hF := if_n c16 hF
              refine lv_iconst (v := (-1 : Int32)) hx hb dX12_against_99 (by decide) ?_
              refine lv_goto (tgt := 104) hx hb dX12_against_100 (by decide) ?_
              have hq := (Option.some.inj hF).symm
              have hq := hr10 _ hq
              subst hq
              exact hret _ _ _ _ hW dX12_against_104
    refine L4 N ((t_wide p1.toNatClampNeg) - (1 : Int32)) out9 _ _ _ hX5 hW (lv_sub hl [0, 1, 2, 3] rfl) hr8 ?_
    intro  H locs ls ho hW hl
    have hF := hF  ho
    clear L4
    refine lv_iconst (v := (0 : Int32)) hx hb dX12_against_111 (by decide) ?_
    have hq := Option.some.inj hF
    subst hq
    exact hret _ _ _ _ hW dX12_against_112
  · have hF := if_n c3 hF
    refine lv_aload_n hx hb dX12_against_15 rfl (lv_at hl 0 rfl) ?_
    refine m_get X hW fdX12_26 0 rfl rfl dX12_against_16 ?_
    refine lv_iload_n hx hb dX12_against_19 rfl (lv_at hl 1 rfl) ?_
    refine m_iald X hW 2 (k := p1.toNatClampNeg) rfl g1 rfl dX12_against_20 ?_
    refine lv_aload_n hx hb dX12_against_21 rfl (lv_at hl 0 rfl) ?_
    refine m_get X hW fdX12_26 0 rfl rfl dX12_against_22 ?_
    refine lv_iload_n hx hb dX12_against_25 rfl (lv_at hl 2 rfl) ?_
    refine m_iald X hW 2 (k := p2.toNatClampNeg) rfl g2 rfl dX12_against_26 ?_
    refine lv_icmp_ge (tgt := 34) hx hb dX12_against_27 (by decide) (fun c17 => ?_) (fun c17 => ?_)
    · have hF := if_y c17 hF
      refine lv_iconst (v := (1 : Int32)) hx hb dX12_against_34 (by decide) ?_
      have hq := Option.some.inj hF
      subst hq
      exact hret _ _ _ _ hW dX12_against_35
    · have hF := if_n c17 hF
      refine lv_iconst (v := (-1 : Int32)) hx hb dX12_against_30 (by decide) ?_
      refine lv_goto (tgt := 35) hx hb dX12_against_31 (by decide) ?_
      have hq := Option.some.inj hF
      subst hq
      exact hret _ _ _ _ hW dX12_against_35
abbrev wd_R_isEven (E : m_E) (a_t : Nat) (a_t_book : Nat) (a_t_images : Nat) (a_t_kept : Nat) (a_t_aside : Nat) (a_t_wide : Nat) (a_t_hears : Nat) (a_t_spies : Nat) (a_t_known : Nat) (a_t_by : Nat) (a_t_ways : Nat) (a_t_fewest : Nat) (a_t_heavy : Nat) (a_t_sums : Nat) (a_t_faces : Nat) (a_t_bestFaces : Nat) (a_t_text : Nat) (a_t_verbs : Nat) (a_t_many : Nat) (a_t_nums : Nat) (a_t_limbs : Nat) (t_typed : Int32) (t_at : Int32) (t_start : Int32) (t_token : Int32) (t_value : Int32) (t_items : Int32) (t_limbs : Nat → Int32) : va_W := [(a_t, .inr (12, [.ref a_t_book, .ref a_t_images, .ref a_t_kept, .ref a_t_aside, .ref a_t_limbs, .ref a_t_wide, .ref a_t_hears, .ref a_t_spies, .ref a_t_known, .ref a_t_by, .ref a_t_ways, .ref a_t_fewest, .ref a_t_heavy, .ref a_t_sums, .ref a_t_faces, .ref a_t_bestFaces, .ref a_t_text, .int t_typed, .int t_at, .int t_start, .int t_token, .int t_value, .ref a_t_verbs, .ref a_t_many, .ref a_t_nums, .int t_items])), (a_t_limbs, .inl (E.2.1 0, 1680, .inl t_limbs))]
def rm_R_isEven : Room := { frames := 0, cells := 0, slots := 0, locals := 0 }
set_option maxHeartbeats 4000000 in
set_option maxRecDepth 100000 in
theorem c_R_isEven (l : Launch) (E : m_E) (sz N : Nat) (a_t : Nat) (a_t_book : Nat) (a_t_images : Nat) (a_t_kept : Nat) (a_t_aside : Nat) (a_t_wide : Nat) (a_t_hears : Nat) (a_t_spies : Nat) (a_t_known : Nat) (a_t_by : Nat) (a_t_ways : Nat) (a_t_fewest : Nat) (a_t_heavy : Nat) (a_t_sums : Nat) (a_t_faces : Nat) (a_t_bestFaces : Nat) (a_t_text : Nat) (a_t_verbs : Nat) (a_t_many : Nat) (a_t_nums : Nat) (a_t_limbs : Nat) (t_typed : Int32) (t_at : Int32) (t_start : Int32) (t_token : Int32) (t_value : Int32) (t_items : Int32) (t_limbs : Nat → Int32) (p1 : Int32) (ures : Int32) (hF : F_R_isEven p1 t_limbs = some ures) : m_Met l yX12_isEven cX12_isEven 2 (some .boolean) rm_R_isEven E (wd_R_isEven E a_t a_t_book a_t_images a_t_kept a_t_aside a_t_wide a_t_hears a_t_spies a_t_known a_t_by a_t_ways a_t_fewest a_t_heavy a_t_sums a_t_faces a_t_bestFaces a_t_text a_t_verbs a_t_many a_t_nums a_t_limbs t_typed t_at t_start t_token t_value t_items t_limbs) (wd_R_isEven E a_t a_t_book a_t_images a_t_kept a_t_aside a_t_wide a_t_hears a_t_spies a_t_known a_t_by a_t_ways a_t_fewest a_t_heavy a_t_sums a_t_faces a_t_bestFaces a_t_text a_t_verbs a_t_many a_t_nums a_t_limbs t_typed t_at t_start t_token t_value t_items t_limbs) sz [.ref a_t, .int p1] (some (.int ures)) := by
  refine m_ofZ (by decide) (Nat.le_of_ble_eq_true rfl) ?_
  intro p e s m args below meth c A Q ls X hW hA hl hret
  obtain ⟨hx, hb, -, hown, hts, hK, -, hG⟩ := id X
  have hl : lv_has ls 2 [(0, .ref a_t), (1, .int p1)] := hl
  unfold F_R_isEven at hF
  refine lv_aload_n hx hb dX12_isEven_0 rfl (lv_at hl 0 rfl) ?_
  refine m_get X hW fdX12_23 0 rfl rfl dX12_isEven_1 ?_
  refine lv_bipush (v := (60 : Int32)) hx hb dX12_isEven_4 (by decide) ?_
  refine lv_iload_n hx hb dX12_isEven_6 rfl (lv_at hl 1 rfl) ?_
  refine lv_imul hx hb dX12_isEven_7 ?_
  obtain ⟨g1, hF⟩ := gd_some hF
  refine m_iald X hW 1 (k := ((60 : Int32) * p1).toNatClampNeg) rfl g1 rfl dX12_isEven_8 ?_
  refine lv_iconst (v := (1 : Int32)) hx hb dX12_isEven_9 (by decide) ?_
  refine lv_iand hx hb dX12_isEven_10 ?_
  refine lv_if_ne (tgt := 18) hx hb dX12_isEven_11 (by decide) (fun c2 => ?_) (fun c2 => ?_)
  · have hF := if_n c2 hF
    refine lv_iconst (v := (0 : Int32)) hx hb dX12_isEven_18 (by decide) ?_
    have hq := Option.some.inj hF
    subst hq
    exact hret _ _ _ _ _ rfl hW dX12_isEven_19
  · have hF := if_y c2 hF
    refine lv_iconst (v := (1 : Int32)) hx hb dX12_isEven_14 (by decide) ?_
    refine lv_goto (tgt := 19) hx hb dX12_isEven_15 (by decide) ?_
    have hq := Option.some.inj hF
    subst hq
    exact hret _ _ _ _ _ rfl hW dX12_isEven_19
abbrev wd_R_halves (E : m_E) (a_t : Nat) (a_t_book : Nat) (a_t_images : Nat) (a_t_kept : Nat) (a_t_aside : Nat) (a_t_hears : Nat) (a_t_spies : Nat) (a_t_known : Nat) (a_t_by : Nat) (a_t_ways : Nat) (a_t_fewest : Nat) (a_t_heavy : Nat) (a_t_sums : Nat) (a_t_faces : Nat) (a_t_bestFaces : Nat) (a_t_text : Nat) (a_t_verbs : Nat) (a_t_many : Nat) (a_t_nums : Nat) (a_t_limbs : Nat) (a_t_wide : Nat) (t_typed : Int32) (t_at : Int32) (t_start : Int32) (t_token : Int32) (t_value : Int32) (t_items : Int32) (t_limbs : Nat → Int32) (t_wide : Nat → Int32) : va_W := [(a_t, .inr (12, [.ref a_t_book, .ref a_t_images, .ref a_t_kept, .ref a_t_aside, .ref a_t_limbs, .ref a_t_wide, .ref a_t_hears, .ref a_t_spies, .ref a_t_known, .ref a_t_by, .ref a_t_ways, .ref a_t_fewest, .ref a_t_heavy, .ref a_t_sums, .ref a_t_faces, .ref a_t_bestFaces, .ref a_t_text, .int t_typed, .int t_at, .int t_start, .int t_token, .int t_value, .ref a_t_verbs, .ref a_t_many, .ref a_t_nums, .int t_items])), (a_t_limbs, .inl (E.2.1 0, 1680, .inl t_limbs)), (a_t_wide, .inl (E.2.1 0, 28, .inl t_wide))]
def rm_R_halves : Room := { frames := 1, cells := 0, slots := 0, locals := 21 }
set_option maxHeartbeats 4000000 in
set_option maxRecDepth 100000 in
theorem c_R_halves (l : Launch) (E : m_E) (sz N : Nat) (a_t : Nat) (a_t_book : Nat) (a_t_images : Nat) (a_t_kept : Nat) (a_t_aside : Nat) (a_t_hears : Nat) (a_t_spies : Nat) (a_t_known : Nat) (a_t_by : Nat) (a_t_ways : Nat) (a_t_fewest : Nat) (a_t_heavy : Nat) (a_t_sums : Nat) (a_t_faces : Nat) (a_t_bestFaces : Nat) (a_t_text : Nat) (a_t_verbs : Nat) (a_t_many : Nat) (a_t_nums : Nat) (a_t_limbs : Nat) (a_t_wide : Nat) (t_typed : Int32) (t_at : Int32) (t_start : Int32) (t_token : Int32) (t_value : Int32) (t_items : Int32) (t_limbs : Nat → Int32) (t_wide : Nat → Int32) (p1 : Int32) (ures : (Nat → Int32) × (Nat → Int32)) (hF : F_R_halves N p1 t_limbs t_wide = some ures) : m_Met l yX12_halves cX12_halves 4 none rm_R_halves E (wd_R_halves E a_t a_t_book a_t_images a_t_kept a_t_aside a_t_hears a_t_spies a_t_known a_t_by a_t_ways a_t_fewest a_t_heavy a_t_sums a_t_faces a_t_bestFaces a_t_text a_t_verbs a_t_many a_t_nums a_t_limbs a_t_wide t_typed t_at t_start t_token t_value t_items t_limbs t_wide) (wd_R_halves E a_t a_t_book a_t_images a_t_kept a_t_aside a_t_hears a_t_spies a_t_known a_t_by a_t_ways a_t_fewest a_t_heavy a_t_sums a_t_faces a_t_bestFaces a_t_text a_t_verbs a_t_many a_t_nums a_t_limbs a_t_wide t_typed t_at t_start t_token t_value t_items ures.1 ures.2) sz [.ref a_t, .int p1] none := by
  refine m_ofV (by decide) (Nat.le_of_ble_eq_true rfl) ?_
  intro p e s m args below meth c A Q ls X hW hA hl hret
  obtain ⟨hx, hb, -, hown, hts, hK, -, hG⟩ := id X
  have hl : lv_has ls 4 [(0, .ref a_t), (1, .int p1)] := hl
  unfold F_R_halves at hF
  refine lv_iconst (v := (0 : Int32)) hx hb dX12_halves_0 (by decide) ?_
  refine lv_istore_n (lv' := [(2, .int (0 : Int32)), (0, .ref a_t), (1, .int p1)]) hx hb dX12_halves_1 rfl hl (by decide) rfl (fun ls hl => ?_)
  obtain ⟨t_limbs'_4, hX2, hF⟩ := bO_s1 hF
  have L1 : ∀ (k0 : Nat) (x2 : Int32) (t_limbs'_3 : Nat → Int32) (t_limbs'_4 : Nat → Int32) (H : Heap) (locs : List Loc) (ls : Array Slot), R_halves_L2 p1 t_wide k0 x2 t_limbs'_3 = some t_limbs'_4 → m_H E A (wd_R_halves E a_t a_t_book a_t_images a_t_kept a_t_aside a_t_hears a_t_spies a_t_known a_t_by a_t_ways a_t_fewest a_t_heavy a_t_sums a_t_faces a_t_bestFaces a_t_text a_t_verbs a_t_many a_t_nums a_t_limbs a_t_wide t_typed t_at t_start t_token t_value t_items t_limbs'_3 t_wide) s.heap H locs → lv_has ls 4 [(2, .int x2), (0, .ref a_t), (1, .int p1)] → (∀ (H : Heap) (locs : List Loc) (ls : Array Slot), m_H E A (wd_R_halves E a_t a_t_book a_t_images a_t_kept a_t_aside a_t_hears a_t_spies a_t_known a_t_by a_t_ways a_t_fewest a_t_heavy a_t_sums a_t_faces a_t_bestFaces a_t_text a_t_verbs a_t_many a_t_nums a_t_limbs a_t_wide t_typed t_at t_start t_token t_value t_items t_limbs'_4 t_wide) s.heap H locs → lv_has ls 4 [(0, .ref a_t), (1, .int p1)] → W p l e rm_R_halves s m args below meth c H locs 0 0 Q (F0 m 79 ls [])) → W p l e rm_R_halves s m args below meth c H locs 0 0 Q (F0 m 2 ls []) := by
    clear hF
    intro k0
    induction k0 with
    | zero =>
      intro x2 t_limbs'_3 t_limbs'_4 H locs ls hF
      cases hF
    | succ k0 ih4 =>
      intro x2 t_limbs'_3 t_limbs'_4 H locs ls hF hW hl hk3
      rw [R_halves_L2] at hF
      refine lv_iload_n hx hb dX12_halves_2 rfl (lv_at hl 0 rfl) ?_
      refine lv_aload_n hx hb dX12_halves_3 rfl (lv_at hl 1 rfl) ?_
      refine m_get X hW fdX12_26 0 rfl rfl dX12_halves_4 ?_
      refine lv_iload_n hx hb dX12_halves_7 rfl (lv_at hl 2 rfl) ?_
      obtain ⟨g5, hF⟩ := gd_some hF
      refine m_iald X hW 2 (k := p1.toNatClampNeg) rfl g5 rfl dX12_halves_8 ?_
      refine lv_icmp_ge (tgt := 79) hx hb dX12_halves_9 (by decide) (fun c6 => ?_) (fun c6 => ?_)
      · have hF := if_y c6 hF
        cases hF
        exact hk3 _ _ _ hW (lv_sub hl [1, 2] rfl)
      · have hF := if_n c6 hF
        refine lv_iload_n hx hb dX12_halves_12 rfl (lv_at hl 0 rfl) ?_
        refine lv_iconst (v := (1 : Int32)) hx hb dX12_halves_13 (by decide) ?_
        refine lv_iadd hx hb dX12_halves_14 ?_
        refine lv_aload_n hx hb dX12_halves_15 rfl (lv_at hl 1 rfl) ?_
        refine m_get X hW fdX12_26 0 rfl rfl dX12_halves_16 ?_
        refine lv_iload_n hx hb dX12_halves_19 rfl (lv_at hl 2 rfl) ?_
        refine m_iald X hW 2 (k := p1.toNatClampNeg) rfl g5 rfl dX12_halves_20 ?_
        obtain ⟨y0, hX8, hF⟩ := bO_s1 hF
        have J7 : ∀ (H : Heap) (locs : List Loc) (ls : Array Slot), m_H E A (wd_R_halves E a_t a_t_book a_t_images a_t_kept a_t_aside a_t_hears a_t_spies a_t_known a_t_by a_t_ways a_t_fewest a_t_heavy a_t_sums a_t_faces a_t_bestFaces a_t_text a_t_verbs a_t_many a_t_nums a_t_limbs a_t_wide t_typed t_at t_start t_token t_value t_items t_limbs'_3 t_wide) s.heap H locs → lv_has ls 4 [(2, .int x2), (0, .ref a_t), (1, .int p1)] → W p l e rm_R_halves s m args below meth c H locs 0 0 Q (F0 m 43 ls [.int y0]) := by
          intro H locs ls hW hl
          refine lv_istore_n (lv' := [(3, .int y0), (2, .int x2), (0, .ref a_t), (1, .int p1)]) hx hb dX12_halves_43 rfl hl (by decide) rfl (fun ls hl => ?_)
          refine lv_aload_n hx hb dX12_halves_44 rfl (lv_at hl 2 rfl) ?_
          refine m_get X hW fdX12_23 0 rfl rfl dX12_halves_45 ?_
          refine lv_bipush (v := (60 : Int32)) hx hb dX12_halves_48 (by decide) ?_
          refine lv_iload_n hx hb dX12_halves_50 rfl (lv_at hl 3 rfl) ?_
          refine lv_imul hx hb dX12_halves_51 ?_
          refine lv_iload_n hx hb dX12_halves_52 rfl (lv_at hl 1 rfl) ?_
          refine lv_iadd hx hb dX12_halves_53 ?_
          refine lv_aload_n hx hb dX12_halves_54 rfl (lv_at hl 2 rfl) ?_
          refine m_get X hW fdX12_23 0 rfl rfl dX12_halves_55 ?_
          refine lv_bipush (v := (60 : Int32)) hx hb dX12_halves_58 (by decide) ?_
          refine lv_iload_n hx hb dX12_halves_60 rfl (lv_at hl 3 rfl) ?_
          refine lv_imul hx hb dX12_halves_61 ?_
          refine lv_iload_n hx hb dX12_halves_62 rfl (lv_at hl 1 rfl) ?_
          refine lv_iadd hx hb dX12_halves_63 ?_
          obtain ⟨g9, hF⟩ := gd_some hF
          refine m_iald X hW 1 (k := (((60 : Int32) * p1) + x2).toNatClampNeg) rfl g9 rfl dX12_halves_64 ?_
          refine lv_iconst (v := (1 : Int32)) hx hb dX12_halves_65 (by decide) ?_
          refine m_ishr hx hb dX12_halves_66 ?_
          refine lv_iload_n hx hb dX12_halves_67 rfl (lv_at hl 0 rfl) ?_
          refine lv_bipush (v := (29 : Int32)) hx hb dX12_halves_68 (by decide) ?_
          refine m_ishl hx hb dX12_halves_70 ?_
          refine lv_ior hx hb dX12_halves_71 ?_
          refine m_iast X hW 1 (k := (((60 : Int32) * p1) + x2).toNatClampNeg) rfl g9 rfl dX12_halves_72 (ws' := (wd_R_halves E a_t a_t_book a_t_images a_t_kept a_t_aside a_t_hears a_t_spies a_t_known a_t_by a_t_ways a_t_fewest a_t_heavy a_t_sums a_t_faces a_t_bestFaces a_t_text a_t_verbs a_t_many a_t_nums a_t_limbs a_t_wide t_typed t_at t_start t_token t_value t_items (upd t_limbs'_3 (((60 : Int32) * p1) + x2).toNatClampNeg ((jshr (t_limbs'_3 (((60 : Int32) * p1) + x2).toNatClampNeg) (1 : Int32)) ||| (jshl y0 (29 : Int32)))) t_wide)) rfl (fun H locs hW => ?_)
          refine lv_iinc (v := (x2 + (1 : Int32))) (lv' := [(2, .int (x2 + (1 : Int32))), (3, .int y0), (0, .ref a_t), (1, .int p1)]) hx hb dX12_halves_73 hl (k := 1) rfl rfl (by decide) rfl (fun ls hl => ?_)
          refine lv_goto (tgt := 2) hx hb dX12_halves_76 (by decide) ?_
          exact ih4 (x2 + (1 : Int32)) (upd t_limbs'_3 (((60 : Int32) * p1) + x2).toNatClampNeg ((jshr (t_limbs'_3 (((60 : Int32) * p1) + x2).toNatClampNeg) (1 : Int32)) ||| (jshl y0 (29 : Int32)))) t_limbs'_4 _ _ _ hF hW (lv_sub hl [0, 2, 3] rfl) hk3
        clear hF
        have hF := hX8
        clear hX8
        refine lv_icmp_ge (tgt := 42) hx hb dX12_halves_21 (by decide) (fun c10 => ?_) (fun c10 => ?_)
        · have hF := if_y c10 hF
          refine lv_iconst (v := (0 : Int32)) hx hb dX12_halves_42 (by decide) ?_
          cases hF
          exact J7 _ _ _ hW (lv_sub hl [0, 1, 2] rfl)
        · have hF := if_n c10 hF
          refine lv_aload_n hx hb dX12_halves_24 rfl (lv_at hl 1 rfl) ?_
          refine m_get X hW fdX12_23 0 rfl rfl dX12_halves_25 ?_
          refine lv_bipush (v := (60 : Int32)) hx hb dX12_halves_28 (by decide) ?_
          refine lv_iload_n hx hb dX12_halves_30 rfl (lv_at hl 2 rfl) ?_
          refine lv_imul hx hb dX12_halves_31 ?_
          refine lv_iload_n hx hb dX12_halves_32 rfl (lv_at hl 0 rfl) ?_
          refine lv_iadd hx hb dX12_halves_33 ?_
          refine lv_iconst (v := (1 : Int32)) hx hb dX12_halves_34 (by decide) ?_
          refine lv_iadd hx hb dX12_halves_35 ?_
          obtain ⟨g11, hF⟩ := gd_some hF
          refine m_iald X hW 1 (k := ((((60 : Int32) * p1) + x2) + (1 : Int32)).toNatClampNeg) rfl g11 rfl dX12_halves_36 ?_
          refine lv_iconst (v := (1 : Int32)) hx hb dX12_halves_37 (by decide) ?_
          refine lv_iand hx hb dX12_halves_38 ?_
          refine lv_goto (tgt := 43) hx hb dX12_halves_39 (by decide) ?_
          cases hF
          exact J7 _ _ _ hW (lv_sub hl [0, 1, 2] rfl)
  refine L1 N (0 : Int32) t_limbs t_limbs'_4 _ _ _ hX2 hW (lv_sub hl [0, 1, 2] rfl) ?_
  intro H locs ls hW hl
  clear L1
  refine lv_aload_n hx hb dX12_halves_79 rfl (lv_at hl 0 rfl) ?_
  refine lv_iload_n hx hb dX12_halves_80 rfl (lv_at hl 1 rfl) ?_
  obtain ⟨t_wide'_2, hC12, hF⟩ := bO_s1 hF
  refine m_callV X hW hA hl.1 lkX12_80 (c_R_trims l E _ N a_t a_t_book a_t_images a_t_kept a_t_aside a_t_hears a_t_spies a_t_known a_t_by a_t_ways a_t_fewest a_t_heavy a_t_sums a_t_faces a_t_bestFaces a_t_text a_t_verbs a_t_many a_t_nums a_t_limbs a_t_wide t_typed t_at t_start t_token t_value t_items t_limbs'_4 t_wide p1 t_wide'_2 hC12) ([0, 1, 2]) (by decide) rfl rfl (ws' := (wd_R_halves E a_t a_t_book a_t_images a_t_kept a_t_aside a_t_hears a_t_spies a_t_known a_t_by a_t_ways a_t_fewest a_t_heavy a_t_sums a_t_faces a_t_bestFaces a_t_text a_t_verbs a_t_many a_t_nums a_t_limbs a_t_wide t_typed t_at t_start t_token t_value t_items t_limbs'_4 t_wide'_2)) rfl 0 rfl rfl rfl (As := [.int p1]) (rest := []) rfl rfl ⟨rfl, rfl, Nat.le_of_ble_eq_true rfl, Nat.le_of_ble_eq_true rfl⟩ (Nat.le_of_ble_eq_true rfl) (Nat.zero_le _) (Nat.zero_le _) dX12_halves_81 (fun H locs hW => ?_)
  clear hC12
  have hq := Option.some.inj hF
  subst hq
  exact hret _ _ _ _ hW dX12_halves_84
abbrev wd_R_parts (E : m_E) (a_t : Nat) (a_t_book : Nat) (a_t_images : Nat) (a_t_kept : Nat) (a_t_aside : Nat) (a_t_hears : Nat) (a_t_spies : Nat) (a_t_known : Nat) (a_t_by : Nat) (a_t_ways : Nat) (a_t_fewest : Nat) (a_t_heavy : Nat) (a_t_sums : Nat) (a_t_faces : Nat) (a_t_bestFaces : Nat) (a_t_text : Nat) (a_t_verbs : Nat) (a_t_many : Nat) (a_t_nums : Nat) (a_t_limbs : Nat) (a_t_wide : Nat) (t_typed : Int32) (t_at : Int32) (t_start : Int32) (t_token : Int32) (t_value : Int32) (t_items : Int32) (t_limbs : Nat → Int32) (t_wide : Nat → Int32) : va_W := [(a_t, .inr (12, [.ref a_t_book, .ref a_t_images, .ref a_t_kept, .ref a_t_aside, .ref a_t_limbs, .ref a_t_wide, .ref a_t_hears, .ref a_t_spies, .ref a_t_known, .ref a_t_by, .ref a_t_ways, .ref a_t_fewest, .ref a_t_heavy, .ref a_t_sums, .ref a_t_faces, .ref a_t_bestFaces, .ref a_t_text, .int t_typed, .int t_at, .int t_start, .int t_token, .int t_value, .ref a_t_verbs, .ref a_t_many, .ref a_t_nums, .int t_items])), (a_t_limbs, .inl (E.2.1 0, 1680, .inl t_limbs)), (a_t_wide, .inl (E.2.1 0, 28, .inl t_wide))]
def rm_R_parts : Room := { frames := 1, cells := 0, slots := 0, locals := 21 }
set_option maxHeartbeats 4000000 in
set_option maxRecDepth 100000 in
theorem c_R_parts (l : Launch) (E : m_E) (sz N : Nat) (a_t : Nat) (a_t_book : Nat) (a_t_images : Nat) (a_t_kept : Nat) (a_t_aside : Nat) (a_t_hears : Nat) (a_t_spies : Nat) (a_t_known : Nat) (a_t_by : Nat) (a_t_ways : Nat) (a_t_fewest : Nat) (a_t_heavy : Nat) (a_t_sums : Nat) (a_t_faces : Nat) (a_t_bestFaces : Nat) (a_t_text : Nat) (a_t_verbs : Nat) (a_t_many : Nat) (a_t_nums : Nat) (a_t_limbs : Nat) (a_t_wide : Nat) (t_typed : Int32) (t_at : Int32) (t_start : Int32) (t_token : Int32) (t_value : Int32) (t_items : Int32) (t_limbs : Nat → Int32) (t_wide : Nat → Int32) (p1 : Int32) (ures : (Nat → Int32) × (Nat → Int32)) (hF : F_R_parts N p1 t_limbs t_wide = some ures) : m_Met l yX12_parts cX12_parts 13 none rm_R_parts E (wd_R_parts E a_t a_t_book a_t_images a_t_kept a_t_aside a_t_hears a_t_spies a_t_known a_t_by a_t_ways a_t_fewest a_t_heavy a_t_sums a_t_faces a_t_bestFaces a_t_text a_t_verbs a_t_many a_t_nums a_t_limbs a_t_wide t_typed t_at t_start t_token t_value t_items t_limbs t_wide) (wd_R_parts E a_t a_t_book a_t_images a_t_kept a_t_aside a_t_hears a_t_spies a_t_known a_t_by a_t_ways a_t_fewest a_t_heavy a_t_sums a_t_faces a_t_bestFaces a_t_text a_t_verbs a_t_many a_t_nums a_t_limbs a_t_wide t_typed t_at t_start t_token t_value t_items ures.1 ures.2) sz [.ref a_t, .int p1] none := by
  refine m_ofV (by decide) (Nat.le_of_ble_eq_true rfl) ?_
  intro p e s m args below meth c A Q ls X hW hA hl hret
  obtain ⟨hx, hb, -, hown, hts, hK, -, hG⟩ := id X
  have hl : lv_has ls 13 [(0, .ref a_t), (1, .int p1)] := hl
  unfold F_R_parts at hF
  refine lv_iconst (v := (1 : Int32)) hx hb dX12_parts_0 (by decide) ?_
  refine lv_istore_n (lv' := [(2, .int (1 : Int32)), (0, .ref a_t), (1, .int p1)]) hx hb dX12_parts_1 rfl hl (by decide) rfl (fun ls hl => ?_)
  refine lv_iconst (v := (0 : Int32)) hx hb dX12_parts_2 (by decide) ?_
  refine lv_istore_n (lv' := [(3, .int (0 : Int32)), (2, .int (1 : Int32)), (0, .ref a_t), (1, .int p1)]) hx hb dX12_parts_3 rfl hl (by decide) rfl (fun ls hl => ?_)
  obtain ⟨x2_2, hX2, hF⟩ := bO_s1 hF
  have L1 : ∀ (k0 : Nat) (x2 : Int32) (x3 : Int32) (x2_2 : Int32) (H : Heap) (locs : List Loc) (ls : Array Slot), R_parts_L4 t_limbs k0 x2 x3 = some x2_2 → m_H E A (wd_R_parts E a_t a_t_book a_t_images a_t_kept a_t_aside a_t_hears a_t_spies a_t_known a_t_by a_t_ways a_t_fewest a_t_heavy a_t_sums a_t_faces a_t_bestFaces a_t_text a_t_verbs a_t_many a_t_nums a_t_limbs a_t_wide t_typed t_at t_start t_token t_value t_items t_limbs t_wide) s.heap H locs → lv_has ls 13 [(3, .int x3), (2, .int x2), (0, .ref a_t), (1, .int p1)] → (∀ (H : Heap) (locs : List Loc) (ls : Array Slot), m_H E A (wd_R_parts E a_t a_t_book a_t_images a_t_kept a_t_aside a_t_hears a_t_spies a_t_known a_t_by a_t_ways a_t_fewest a_t_heavy a_t_sums a_t_faces a_t_bestFaces a_t_text a_t_verbs a_t_many a_t_nums a_t_limbs a_t_wide t_typed t_at t_start t_token t_value t_items t_limbs t_wide) s.heap H locs → lv_has ls 13 [(2, .int x2_2), (0, .ref a_t), (1, .int p1)] → W p l e rm_R_parts s m args below meth c H locs 0 0 Q (F0 m 30 ls [])) → W p l e rm_R_parts s m args below meth c H locs 0 0 Q (F0 m 4 ls []) := by
    clear hF
    intro k0
    induction k0 with
    | zero =>
      intro x2 x3 x2_2 H locs ls hF
      cases hF
    | succ k0 ih4 =>
      intro x2 x3 x2_2 H locs ls hF hW hl hk3
      rw [R_parts_L4] at hF
      refine lv_iload_n hx hb dX12_parts_4 rfl (lv_at hl 0 rfl) ?_
      refine lv_iconst (v := (5 : Int32)) hx hb dX12_parts_5 (by decide) ?_
      refine lv_icmp_ge (tgt := 30) hx hb dX12_parts_6 (by decide) (fun c5 => ?_) (fun c5 => ?_)
      · have hF := if_y c5 hF
        cases hF
        exact hk3 _ _ _ hW (lv_sub hl [1, 2, 3] rfl)
      · have hF := if_n c5 hF
        refine lv_iload_n hx hb dX12_parts_9 rfl (lv_at hl 1 rfl) ?_
        refine lv_iconst (v := (2 : Int32)) hx hb dX12_parts_10 (by decide) ?_
        refine lv_aload_n hx hb dX12_parts_11 rfl (lv_at hl 2 rfl) ?_
        refine m_get X hW fdX12_23 0 rfl rfl dX12_parts_12 ?_
        refine lv_sipush (v := (180 : Int32)) hx hb dX12_parts_15 (by decide) ?_
        refine m_iald X hW 1 (k := 180) rfl (by decide) rfl dX12_parts_18 ?_
        refine lv_iload_n hx hb dX12_parts_19 rfl (lv_at hl 1 rfl) ?_
        refine lv_imul hx hb dX12_parts_20 ?_
        refine lv_isub hx hb dX12_parts_21 ?_
        refine lv_imul hx hb dX12_parts_22 ?_
        refine lv_istore_n (lv' := [(2, .int (x2 * ((2 : Int32) - ((t_limbs 180) * x2)))), (3, .int x3), (0, .ref a_t), (1, .int p1)]) hx hb dX12_parts_23 rfl hl (by decide) rfl (fun ls hl => ?_)
        refine lv_iinc (v := (x3 + (1 : Int32))) (lv' := [(3, .int (x3 + (1 : Int32))), (2, .int (x2 * ((2 : Int32) - ((t_limbs 180) * x2)))), (0, .ref a_t), (1, .int p1)]) hx hb dX12_parts_24 hl (k := 1) rfl rfl (by decide) rfl (fun ls hl => ?_)
        refine lv_goto (tgt := 4) hx hb dX12_parts_27 (by decide) ?_
        exact ih4 (x2 * ((2 : Int32) - ((t_limbs 180) * x2))) (x3 + (1 : Int32)) x2_2 _ _ _ hF hW (lv_sub hl [0, 1, 2, 3] rfl) hk3
  refine L1 N (1 : Int32) (0 : Int32) x2_2 _ _ _ hX2 hW (lv_sub hl [0, 1, 2, 3] rfl) ?_
  intro H locs ls hW hl
  clear L1
  refine lv_aload_n hx hb dX12_parts_30 rfl (lv_at hl 1 rfl) ?_
  refine m_get X hW fdX12_26 0 rfl rfl dX12_parts_31 ?_
  refine lv_iload_n hx hb dX12_parts_34 rfl (lv_at hl 2 rfl) ?_
  obtain ⟨g6, hF⟩ := gd_some hF
  refine m_iald X hW 2 (k := p1.toNatClampNeg) rfl g6 rfl dX12_parts_35 ?_
  refine lv_istore_n (lv' := [(3, .int (t_wide p1.toNatClampNeg)), (2, .int x2_2), (0, .ref a_t), (1, .int p1)]) hx hb dX12_parts_36 rfl hl (by decide) rfl (fun ls hl => ?_)
  refine lv_iconst (v := (0 : Int32)) hx hb dX12_parts_37 (by decide) ?_
  refine lv_istore (lv' := [(4, .int (0 : Int32)), (3, .int (t_wide p1.toNatClampNeg)), (2, .int x2_2), (0, .ref a_t), (1, .int p1)]) hx hb dX12_parts_38 hl (by decide) rfl (fun ls hl => ?_)
  obtain ⟨t_limbs'_10, hX8, hF⟩ := bO_s1 hF
  obtain ⟨c3, ec3⟩ : ∃ z : Int32, z = (t_wide p1.toNatClampNeg) := ⟨_, rfl⟩
  have L7 : ∀ (k0 : Nat) (x4 : Int32) (t_limbs'_7 : Nat → Int32) (t_limbs'_10 : Nat → Int32) (H : Heap) (locs : List Loc) (ls : Array Slot), R_parts_L40 N c3 p1 t_wide x2_2 k0 x4 t_limbs'_7 = some t_limbs'_10 → m_H E A (wd_R_parts E a_t a_t_book a_t_images a_t_kept a_t_aside a_t_hears a_t_spies a_t_known a_t_by a_t_ways a_t_fewest a_t_heavy a_t_sums a_t_faces a_t_bestFaces a_t_text a_t_verbs a_t_many a_t_nums a_t_limbs a_t_wide t_typed t_at t_start t_token t_value t_items t_limbs'_7 t_wide) s.heap H locs → lv_has ls 13 [(4, .int x4), (3, .int c3), (2, .int x2_2), (0, .ref a_t), (1, .int p1)] → (∀ (H : Heap) (locs : List Loc) (ls : Array Slot), m_H E A (wd_R_parts E a_t a_t_book a_t_images a_t_kept a_t_aside a_t_hears a_t_spies a_t_known a_t_by a_t_ways a_t_fewest a_t_heavy a_t_sums a_t_faces a_t_bestFaces a_t_text a_t_verbs a_t_many a_t_nums a_t_limbs a_t_wide t_typed t_at t_start t_token t_value t_items t_limbs'_10 t_wide) s.heap H locs → lv_has ls 13 [(3, .int c3), (0, .ref a_t), (1, .int p1)] → W p l e rm_R_parts s m args below meth c H locs 0 0 Q (F0 m 192 ls [])) → W p l e rm_R_parts s m args below meth c H locs 0 0 Q (F0 m 40 ls []) := by
    clear hF
    intro k0
    induction k0 with
    | zero =>
      intro x4 t_limbs'_7 t_limbs'_10 H locs ls hF
      cases hF
    | succ k0 ih10 =>
      intro x4 t_limbs'_7 t_limbs'_10 H locs ls hF hW hl hk9
      rw [R_parts_L40] at hF
      refine lv_iload hx hb dX12_parts_40 (lv_at hl 0 rfl) ?_
      refine lv_iload_n hx hb dX12_parts_42 rfl (lv_at hl 1 rfl) ?_
      refine lv_icmp_ge (tgt := 192) hx hb dX12_parts_43 (by decide) (fun c11 => ?_) (fun c11 => ?_)
      · have hF := if_y c11 hF
        cases hF
        exact hk9 _ _ _ hW (lv_sub hl [1, 3, 4] rfl)
      · have hF := if_n c11 hF
        refine lv_aload_n hx hb dX12_parts_46 rfl (lv_at hl 3 rfl) ?_
        refine m_get X hW fdX12_23 0 rfl rfl dX12_parts_47 ?_
        refine lv_bipush (v := (60 : Int32)) hx hb dX12_parts_50 (by decide) ?_
        refine lv_iload_n hx hb dX12_parts_52 rfl (lv_at hl 4 rfl) ?_
        refine lv_imul hx hb dX12_parts_53 ?_
        refine lv_iload hx hb dX12_parts_54 (lv_at hl 0 rfl) ?_
        refine lv_iadd hx hb dX12_parts_56 ?_
        obtain ⟨g12, hF⟩ := gd_some hF
        refine m_iald X hW 1 (k := (((60 : Int32) * p1) + x4).toNatClampNeg) rfl g12 rfl dX12_parts_57 ?_
        refine lv_iload_n hx hb dX12_parts_58 rfl (lv_at hl 2 rfl) ?_
        refine lv_imul hx hb dX12_parts_59 ?_
        refine lv_ldc (v := (1073741823 : Int32)) hx hb hown (hts _ wk_1460) dX12_parts_60 ?_
        refine lv_iand hx hb dX12_parts_62 ?_
        refine lv_istore (lv' := [(5, .int (((t_limbs'_7 (((60 : Int32) * p1) + x4).toNatClampNeg) * x2_2) &&& (1073741823 : Int32))), (4, .int x4), (3, .int c3), (2, .int x2_2), (0, .ref a_t), (1, .int p1)]) hx hb dX12_parts_63 hl (by decide) rfl (fun ls hl => ?_)
        refine lv_lconst (v := (0 : Int64)) hx hb dX12_parts_65 (by decide) ?_
        refine lv_lstore (lv' := [(6, .long (0 : Int64)), (5, .int (((t_limbs'_7 (((60 : Int32) * p1) + x4).toNatClampNeg) * x2_2) &&& (1073741823 : Int32))), (4, .int x4), (3, .int c3), (2, .int x2_2), (0, .ref a_t), (1, .int p1)]) hx hb dX12_parts_66 hl (by decide) rfl (fun ls hl => ?_)
        refine lv_iconst (v := (0 : Int32)) hx hb dX12_parts_68 (by decide) ?_
        refine lv_istore (lv' := [(8, .int (0 : Int32)), (6, .long (0 : Int64)), (5, .int (((t_limbs'_7 (((60 : Int32) * p1) + x4).toNatClampNeg) * x2_2) &&& (1073741823 : Int32))), (4, .int x4), (3, .int c3), (2, .int x2_2), (0, .ref a_t), (1, .int p1)]) hx hb dX12_parts_69 hl (by decide) rfl (fun ls hl => ?_)
        obtain ⟨t_limbs'_9, hX14, hF⟩ := bO_s1 hF
        obtain ⟨c5, ec5⟩ : ∃ z : Int32, z = (((t_limbs'_7 (((60 : Int32) * p1) + x4).toNatClampNeg) * x2_2) &&& (1073741823 : Int32)) := ⟨_, rfl⟩
        have L13 : ∀ (k0 : Nat) (x6 : Int64) (x8 : Int32) (t_limbs'_8 : Nat → Int32) (t_limbs'_9 : Nat → Int32) (H : Heap) (locs : List Loc) (ls : Array Slot), R_parts_L71 c3 x4 t_wide c5 p1 k0 x6 x8 t_limbs'_8 = some t_limbs'_9 → m_H E A (wd_R_parts E a_t a_t_book a_t_images a_t_kept a_t_aside a_t_hears a_t_spies a_t_known a_t_by a_t_ways a_t_fewest a_t_heavy a_t_sums a_t_faces a_t_bestFaces a_t_text a_t_verbs a_t_many a_t_nums a_t_limbs a_t_wide t_typed t_at t_start t_token t_value t_items t_limbs'_8 t_wide) s.heap H locs → lv_has ls 13 [(8, .int x8), (6, .long x6), (5, .int c5), (4, .int x4), (3, .int c3), (2, .int x2_2), (0, .ref a_t), (1, .int p1)] → (∀ (H : Heap) (locs : List Loc) (ls : Array Slot), m_H E A (wd_R_parts E a_t a_t_book a_t_images a_t_kept a_t_aside a_t_hears a_t_spies a_t_known a_t_by a_t_ways a_t_fewest a_t_heavy a_t_sums a_t_faces a_t_bestFaces a_t_text a_t_verbs a_t_many a_t_nums a_t_limbs a_t_wide t_typed t_at t_start t_token t_value t_items t_limbs'_9 t_wide) s.heap H locs → lv_has ls 13 [(5, .int c5), (4, .int x4), (3, .int c3), (2, .int x2_2), (0, .ref a_t), (1, .int p1)] → W p l e rm_R_parts s m args below meth c H locs 0 0 Q (F0 m 173 ls [])) → W p l e rm_R_parts s m args below meth c H locs 0 0 Q (F0 m 71 ls []) := by
          clear hF
          intro k0
          induction k0 with
          | zero =>
            intro x6 x8 t_limbs'_8 t_limbs'_9 H locs ls hF
            cases hF
          | succ k0 ih16 =>
            intro x6 x8 t_limbs'_8 t_limbs'_9 H locs ls hF hW hl hk15
            rw [R_parts_L71] at hF
            refine lv_iload hx hb dX12_parts_71 (lv_at hl 3 rfl) ?_
            refine lv_iload hx hb dX12_parts_73 (lv_at hl 0 rfl) ?_
            refine lv_iadd hx hb dX12_parts_75 ?_
            refine lv_iload_n hx hb dX12_parts_76 rfl (lv_at hl 4 rfl) ?_
            refine lv_icmp_ge (tgt := 173) hx hb dX12_parts_77 (by decide) (fun c17 => ?_) (fun c17 => ?_)
            · have hF := if_y c17 hF
              cases hF
              exact hk15 _ _ _ hW (lv_sub hl [2, 3, 4, 5, 6, 7] rfl)
            · have hF := if_n c17 hF
              refine lv_iload hx hb dX12_parts_80 (lv_at hl 0 rfl) ?_
              refine lv_aload_n hx hb dX12_parts_82 rfl (lv_at hl 6 rfl) ?_
              refine m_get X hW fdX12_26 0 rfl rfl dX12_parts_83 ?_
              refine lv_iconst (v := (3 : Int32)) hx hb dX12_parts_86 (by decide) ?_
              refine m_iald X hW 2 (k := 3) rfl (by decide) rfl dX12_parts_87 ?_
              obtain ⟨y0, hX19, hF⟩ := bO_s1 hF
              have J18 : ∀ (H : Heap) (locs : List Loc) (ls : Array Slot), m_H E A (wd_R_parts E a_t a_t_book a_t_images a_t_kept a_t_aside a_t_hears a_t_spies a_t_known a_t_by a_t_ways a_t_fewest a_t_heavy a_t_sums a_t_faces a_t_bestFaces a_t_text a_t_verbs a_t_many a_t_nums a_t_limbs a_t_wide t_typed t_at t_start t_token t_value t_items t_limbs'_8 t_wide) s.heap H locs → lv_has ls 13 [(8, .int x8), (6, .long x6), (5, .int c5), (4, .int x4), (3, .int c3), (2, .int x2_2), (0, .ref a_t), (1, .int p1)] → W p l e rm_R_parts s m args below meth c H locs 0 0 Q (F0 m 111 ls [.long y0]) := by
                intro H locs ls hW hl
                refine lv_lstore (lv' := [(9, .long y0), (8, .int x8), (6, .long x6), (5, .int c5), (4, .int x4), (3, .int c3), (2, .int x2_2), (0, .ref a_t), (1, .int p1)]) hx hb dX12_parts_111 hl (by decide) rfl (fun ls hl => ?_)
                refine lv_aload_n hx hb dX12_parts_113 rfl (lv_at hl 7 rfl) ?_
                refine m_get X hW fdX12_23 0 rfl rfl dX12_parts_114 ?_
                refine lv_bipush (v := (60 : Int32)) hx hb dX12_parts_117 (by decide) ?_
                refine lv_iload_n hx hb dX12_parts_119 rfl (lv_at hl 8 rfl) ?_
                refine lv_imul hx hb dX12_parts_120 ?_
                refine lv_iload hx hb dX12_parts_121 (lv_at hl 4 rfl) ?_
                refine lv_iadd hx hb dX12_parts_123 ?_
                refine lv_iload hx hb dX12_parts_124 (lv_at hl 1 rfl) ?_
                refine lv_iadd hx hb dX12_parts_126 ?_
                obtain ⟨g20, hF⟩ := gd_some hF
                refine m_iald X hW 1 (k := ((((60 : Int32) * p1) + x4) + x8).toNatClampNeg) rfl g20 rfl dX12_parts_127 ?_
                refine lv_i2l (v := (t_limbs'_8 ((((60 : Int32) * p1) + x4) + x8).toNatClampNeg).toInt64) hx hb dX12_parts_128 rfl ?_
                refine lv_lload hx hb dX12_parts_129 (lv_at hl 0 rfl) ?_
                refine lv_lsub hx hb dX12_parts_131 ?_
                refine lv_lload hx hb dX12_parts_132 (lv_at hl 2 rfl) ?_
                refine lv_lsub hx hb dX12_parts_134 ?_
                refine lv_lstore (lv' := [(11, .long (((t_limbs'_8 ((((60 : Int32) * p1) + x4) + x8).toNatClampNeg).toInt64 - y0) - x6)), (9, .long y0), (8, .int x8), (6, .long x6), (5, .int c5), (4, .int x4), (3, .int c3), (2, .int x2_2), (0, .ref a_t), (1, .int p1)]) hx hb dX12_parts_135 hl (by decide) rfl (fun ls hl => ?_)
                refine lv_aload_n hx hb dX12_parts_137 rfl (lv_at hl 8 rfl) ?_
                refine m_get X hW fdX12_23 0 rfl rfl dX12_parts_138 ?_
                refine lv_bipush (v := (60 : Int32)) hx hb dX12_parts_141 (by decide) ?_
                refine lv_iload_n hx hb dX12_parts_143 rfl (lv_at hl 9 rfl) ?_
                refine lv_imul hx hb dX12_parts_144 ?_
                refine lv_iload hx hb dX12_parts_145 (lv_at hl 5 rfl) ?_
                refine lv_iadd hx hb dX12_parts_147 ?_
                refine lv_iload hx hb dX12_parts_148 (lv_at hl 2 rfl) ?_
                refine lv_iadd hx hb dX12_parts_150 ?_
                refine lv_lload hx hb dX12_parts_151 (lv_at hl 0 rfl) ?_
                refine lv_ldc2 (v := (1073741823 : Int64)) hx hb hown (hts _ wk_1119) dX12_parts_153 ?_
                refine lv_land hx hb dX12_parts_156 ?_
                refine lv_l2i (v := ((((t_limbs'_8 ((((60 : Int32) * p1) + x4) + x8).toNatClampNeg).toInt64 - y0) - x6) &&& (1073741823 : Int64)).toInt32) hx hb dX12_parts_157 rfl ?_
                refine m_iast X hW 1 (k := ((((60 : Int32) * p1) + x4) + x8).toNatClampNeg) rfl g20 rfl dX12_parts_158 (ws' := (wd_R_parts E a_t a_t_book a_t_images a_t_kept a_t_aside a_t_hears a_t_spies a_t_known a_t_by a_t_ways a_t_fewest a_t_heavy a_t_sums a_t_faces a_t_bestFaces a_t_text a_t_verbs a_t_many a_t_nums a_t_limbs a_t_wide t_typed t_at t_start t_token t_value t_items (upd t_limbs'_8 ((((60 : Int32) * p1) + x4) + x8).toNatClampNeg ((((t_limbs'_8 ((((60 : Int32) * p1) + x4) + x8).toNatClampNeg).toInt64 - y0) - x6) &&& (1073741823 : Int64)).toInt32) t_wide)) rfl (fun H locs hW => ?_)
                refine lv_lload hx hb dX12_parts_159 (lv_at hl 0 rfl) ?_
                refine lv_bipush (v := (30 : Int32)) hx hb dX12_parts_161 (by decide) ?_
                refine m_lshr hx hb dX12_parts_163 ?_
                refine lv_lneg hx hb dX12_parts_164 ?_
                refine lv_lstore (lv' := [(6, .long (-(jshrL (((t_limbs'_8 ((((60 : Int32) * p1) + x4) + x8).toNatClampNeg).toInt64 - y0) - x6) (30 : Int32)))), (11, .long (((t_limbs'_8 ((((60 : Int32) * p1) + x4) + x8).toNatClampNeg).toInt64 - y0) - x6)), (9, .long y0), (8, .int x8), (5, .int c5), (4, .int x4), (3, .int c3), (2, .int x2_2), (0, .ref a_t), (1, .int p1)]) hx hb dX12_parts_165 hl (by decide) rfl (fun ls hl => ?_)
                refine lv_iinc (v := (x8 + (1 : Int32))) (lv' := [(8, .int (x8 + (1 : Int32))), (6, .long (-(jshrL (((t_limbs'_8 ((((60 : Int32) * p1) + x4) + x8).toNatClampNeg).toInt64 - y0) - x6) (30 : Int32)))), (11, .long (((t_limbs'_8 ((((60 : Int32) * p1) + x4) + x8).toNatClampNeg).toInt64 - y0) - x6)), (9, .long y0), (5, .int c5), (4, .int x4), (3, .int c3), (2, .int x2_2), (0, .ref a_t), (1, .int p1)]) hx hb dX12_parts_167 hl (k := 3) rfl rfl (by decide) rfl (fun ls hl => ?_)
                refine lv_goto (tgt := 71) hx hb dX12_parts_170 (by decide) ?_
                exact ih16 (-(jshrL (((t_limbs'_8 ((((60 : Int32) * p1) + x4) + x8).toNatClampNeg).toInt64 - y0) - x6) (30 : Int32))) (x8 + (1 : Int32)) (upd t_limbs'_8 ((((60 : Int32) * p1) + x4) + x8).toNatClampNeg ((((t_limbs'_8 ((((60 : Int32) * p1) + x4) + x8).toNatClampNeg).toInt64 - y0) - x6) &&& (1073741823 : Int64)).toInt32) t_limbs'_9 _ _ _ hF hW (lv_sub hl [0, 1, 4, 5, 6, 7, 8, 9] rfl) hk15
              clear hF
              have hF := hX19
              clear hX19
              refine lv_icmp_ge (tgt := 110) hx hb dX12_parts_88 (by decide) (fun c21 => ?_) (fun c21 => ?_)
              · have hF := if_y c21 hF
                refine lv_lconst (v := (0 : Int64)) hx hb dX12_parts_110 (by decide) ?_
                cases hF
                exact J18 _ _ _ hW (lv_sub hl [0, 1, 2, 3, 4, 5, 6, 7] rfl)
              · have hF := if_n c21 hF
                refine lv_iload hx hb dX12_parts_91 (lv_at hl 2 rfl) ?_
                refine lv_i2l (v := c5.toInt64) hx hb dX12_parts_93 rfl ?_
                refine lv_aload_n hx hb dX12_parts_94 rfl (lv_at hl 6 rfl) ?_
                refine m_get X hW fdX12_23 0 rfl rfl dX12_parts_95 ?_
                refine lv_sipush (v := (180 : Int32)) hx hb dX12_parts_98 (by decide) ?_
                refine lv_iload hx hb dX12_parts_101 (lv_at hl 0 rfl) ?_
                refine lv_iadd hx hb dX12_parts_103 ?_
                obtain ⟨g22, hF⟩ := gd_some hF
                refine m_iald X hW 1 (k := ((180 : Int32) + x8).toNatClampNeg) rfl g22 rfl dX12_parts_104 ?_
                refine lv_i2l (v := (t_limbs'_8 ((180 : Int32) + x8).toNatClampNeg).toInt64) hx hb dX12_parts_105 rfl ?_
                refine lv_lmul hx hb dX12_parts_106 ?_
                refine lv_goto (tgt := 111) hx hb dX12_parts_107 (by decide) ?_
                cases hF
                exact J18 _ _ _ hW (lv_sub hl [0, 1, 2, 3, 4, 5, 6, 7] rfl)
        subst ec5
        refine L13 N (0 : Int64) (0 : Int32) t_limbs'_7 t_limbs'_9 _ _ _ hX14 hW (lv_sub hl [0, 1, 2, 3, 4, 5, 6, 7] rfl) ?_
        intro H locs ls hW hl
        clear L13
        refine lv_aload_n hx hb dX12_parts_173 rfl (lv_at hl 4 rfl) ?_
        refine m_get X hW fdX12_23 0 rfl rfl dX12_parts_174 ?_
        refine lv_sipush (v := (240 : Int32)) hx hb dX12_parts_177 (by decide) ?_
        refine lv_iload hx hb dX12_parts_180 (lv_at hl 1 rfl) ?_
        refine lv_iadd hx hb dX12_parts_182 ?_
        refine lv_iload hx hb dX12_parts_183 (lv_at hl 0 rfl) ?_
        obtain ⟨g23, hF⟩ := gd_some hF
        refine m_iast X hW 1 (k := ((240 : Int32) + x4).toNatClampNeg) rfl g23 rfl dX12_parts_185 (ws' := (wd_R_parts E a_t a_t_book a_t_images a_t_kept a_t_aside a_t_hears a_t_spies a_t_known a_t_by a_t_ways a_t_fewest a_t_heavy a_t_sums a_t_faces a_t_bestFaces a_t_text a_t_verbs a_t_many a_t_nums a_t_limbs a_t_wide t_typed t_at t_start t_token t_value t_items (upd t_limbs'_9 ((240 : Int32) + x4).toNatClampNeg (((t_limbs'_7 (((60 : Int32) * p1) + x4).toNatClampNeg) * x2_2) &&& (1073741823 : Int32))) t_wide)) rfl (fun H locs hW => ?_)
        refine lv_iinc (v := (x4 + (1 : Int32))) (lv' := [(4, .int (x4 + (1 : Int32))), (5, .int (((t_limbs'_7 (((60 : Int32) * p1) + x4).toNatClampNeg) * x2_2) &&& (1073741823 : Int32))), (3, .int c3), (2, .int x2_2), (0, .ref a_t), (1, .int p1)]) hx hb dX12_parts_186 hl (k := 1) rfl rfl (by decide) rfl (fun ls hl => ?_)
        refine lv_goto (tgt := 40) hx hb dX12_parts_189 (by decide) ?_
        exact ih10 (x4 + (1 : Int32)) (upd t_limbs'_9 ((240 : Int32) + x4).toNatClampNeg (((t_limbs'_7 (((60 : Int32) * p1) + x4).toNatClampNeg) * x2_2) &&& (1073741823 : Int32))) t_limbs'_10 _ _ _ hF hW (lv_sub hl [0, 2, 3, 4, 5] rfl) hk9
  subst ec3
  refine L7 N (0 : Int32) t_limbs t_limbs'_10 _ _ _ hX8 hW (lv_sub hl [0, 1, 2, 3, 4] rfl) ?_
  intro H locs ls hW hl
  clear L7
  refine lv_iconst (v := (0 : Int32)) hx hb dX12_parts_192 (by decide) ?_
  refine lv_istore (lv' := [(4, .int (0 : Int32)), (3, .int (t_wide p1.toNatClampNeg)), (0, .ref a_t), (1, .int p1)]) hx hb dX12_parts_193 hl (by decide) rfl (fun ls hl => ?_)
  obtain ⟨t_limbs'_12, hX25, hF⟩ := bO_s1 hF
  obtain ⟨c3_2, ec3_2⟩ : ∃ z : Int32, z = (t_wide p1.toNatClampNeg) := ⟨_, rfl⟩
  have L24 : ∀ (k0 : Nat) (x4_2 : Int32) (t_limbs'_11 : Nat → Int32) (t_limbs'_12 : Nat → Int32) (H : Heap) (locs : List Loc) (ls : Array Slot), R_parts_L195 c3_2 p1 k0 x4_2 t_limbs'_11 = some t_limbs'_12 → m_H E A (wd_R_parts E a_t a_t_book a_t_images a_t_kept a_t_aside a_t_hears a_t_spies a_t_known a_t_by a_t_ways a_t_fewest a_t_heavy a_t_sums a_t_faces a_t_bestFaces a_t_text a_t_verbs a_t_many a_t_nums a_t_limbs a_t_wide t_typed t_at t_start t_token t_value t_items t_limbs'_11 t_wide) s.heap H locs → lv_has ls 13 [(4, .int x4_2), (3, .int c3_2), (0, .ref a_t), (1, .int p1)] → (∀ (H : Heap) (locs : List Loc) (ls : Array Slot), m_H E A (wd_R_parts E a_t a_t_book a_t_images a_t_kept a_t_aside a_t_hears a_t_spies a_t_known a_t_by a_t_ways a_t_fewest a_t_heavy a_t_sums a_t_faces a_t_bestFaces a_t_text a_t_verbs a_t_many a_t_nums a_t_limbs a_t_wide t_typed t_at t_start t_token t_value t_items t_limbs'_12 t_wide) s.heap H locs → lv_has ls 13 [(0, .ref a_t), (1, .int p1)] → W p l e rm_R_parts s m args below meth c H locs 0 0 Q (F0 m 230 ls [])) → W p l e rm_R_parts s m args below meth c H locs 0 0 Q (F0 m 195 ls []) := by
    clear hF
    intro k0
    induction k0 with
    | zero =>
      intro x4_2 t_limbs'_11 t_limbs'_12 H locs ls hF
      cases hF
    | succ k0 ih27 =>
      intro x4_2 t_limbs'_11 t_limbs'_12 H locs ls hF hW hl hk26
      rw [R_parts_L195] at hF
      refine lv_iload hx hb dX12_parts_195 (lv_at hl 0 rfl) ?_
      refine lv_iload_n hx hb dX12_parts_197 rfl (lv_at hl 1 rfl) ?_
      refine lv_icmp_ge (tgt := 230) hx hb dX12_parts_198 (by decide) (fun c28 => ?_) (fun c28 => ?_)
      · have hF := if_y c28 hF
        cases hF
        exact hk26 _ _ _ hW (lv_sub hl [2, 3] rfl)
      · have hF := if_n c28 hF
        refine lv_aload_n hx hb dX12_parts_201 rfl (lv_at hl 2 rfl) ?_
        refine m_get X hW fdX12_23 0 rfl rfl dX12_parts_202 ?_
        refine lv_bipush (v := (60 : Int32)) hx hb dX12_parts_205 (by decide) ?_
        refine lv_iload_n hx hb dX12_parts_207 rfl (lv_at hl 3 rfl) ?_
        refine lv_imul hx hb dX12_parts_208 ?_
        refine lv_iload hx hb dX12_parts_209 (lv_at hl 0 rfl) ?_
        refine lv_iadd hx hb dX12_parts_211 ?_
        refine lv_aload_n hx hb dX12_parts_212 rfl (lv_at hl 2 rfl) ?_
        refine m_get X hW fdX12_23 0 rfl rfl dX12_parts_213 ?_
        refine lv_sipush (v := (240 : Int32)) hx hb dX12_parts_216 (by decide) ?_
        refine lv_iload hx hb dX12_parts_219 (lv_at hl 0 rfl) ?_
        refine lv_iadd hx hb dX12_parts_221 ?_
        obtain ⟨g29, hF⟩ := gd_some hF
        refine m_iald X hW 1 (k := ((240 : Int32) + x4_2).toNatClampNeg) rfl g29 rfl dX12_parts_222 ?_
        obtain ⟨g30, hF⟩ := gd_some hF
        refine m_iast X hW 1 (k := (((60 : Int32) * p1) + x4_2).toNatClampNeg) rfl g30 rfl dX12_parts_223 (ws' := (wd_R_parts E a_t a_t_book a_t_images a_t_kept a_t_aside a_t_hears a_t_spies a_t_known a_t_by a_t_ways a_t_fewest a_t_heavy a_t_sums a_t_faces a_t_bestFaces a_t_text a_t_verbs a_t_many a_t_nums a_t_limbs a_t_wide t_typed t_at t_start t_token t_value t_items (upd t_limbs'_11 (((60 : Int32) * p1) + x4_2).toNatClampNeg (t_limbs'_11 ((240 : Int32) + x4_2).toNatClampNeg)) t_wide)) rfl (fun H locs hW => ?_)
        refine lv_iinc (v := (x4_2 + (1 : Int32))) (lv' := [(4, .int (x4_2 + (1 : Int32))), (3, .int c3_2), (0, .ref a_t), (1, .int p1)]) hx hb dX12_parts_224 hl (k := 0) rfl rfl (by decide) rfl (fun ls hl => ?_)
        refine lv_goto (tgt := 195) hx hb dX12_parts_227 (by decide) ?_
        exact ih27 (x4_2 + (1 : Int32)) (upd t_limbs'_11 (((60 : Int32) * p1) + x4_2).toNatClampNeg (t_limbs'_11 ((240 : Int32) + x4_2).toNatClampNeg)) t_limbs'_12 _ _ _ hF hW (lv_sub hl [0, 1, 2, 3] rfl) hk26
  subst ec3_2
  refine L24 N (0 : Int32) t_limbs'_10 t_limbs'_12 _ _ _ hX25 hW (lv_sub hl [0, 1, 2, 3] rfl) ?_
  intro H locs ls hW hl
  clear L24
  refine lv_aload_n hx hb dX12_parts_230 rfl (lv_at hl 0 rfl) ?_
  refine lv_iload_n hx hb dX12_parts_231 rfl (lv_at hl 1 rfl) ?_
  obtain ⟨t_wide'_2, hC31, hF⟩ := bO_s1 hF
  refine m_callV X hW hA hl.1 lkX12_80 (c_R_trims l E _ N a_t a_t_book a_t_images a_t_kept a_t_aside a_t_hears a_t_spies a_t_known a_t_by a_t_ways a_t_fewest a_t_heavy a_t_sums a_t_faces a_t_bestFaces a_t_text a_t_verbs a_t_many a_t_nums a_t_limbs a_t_wide t_typed t_at t_start t_token t_value t_items t_limbs'_12 t_wide p1 t_wide'_2 hC31) ([0, 1, 2]) (by decide) rfl rfl (ws' := (wd_R_parts E a_t a_t_book a_t_images a_t_kept a_t_aside a_t_hears a_t_spies a_t_known a_t_by a_t_ways a_t_fewest a_t_heavy a_t_sums a_t_faces a_t_bestFaces a_t_text a_t_verbs a_t_many a_t_nums a_t_limbs a_t_wide t_typed t_at t_start t_token t_value t_items t_limbs'_12 t_wide'_2)) rfl 0 rfl rfl rfl (As := [.int p1]) (rest := []) rfl rfl ⟨rfl, rfl, Nat.le_of_ble_eq_true rfl, Nat.le_of_ble_eq_true rfl⟩ (Nat.le_of_ble_eq_true rfl) (Nat.zero_le _) (Nat.zero_le _) dX12_parts_232 (fun H locs hW => ?_)
  clear hC31
  have hq := Option.some.inj hF
  subst hq
  exact hret _ _ _ _ hW dX12_parts_235
abbrev wd_R_lowers (E : m_E) (a_t : Nat) (a_t_book : Nat) (a_t_images : Nat) (a_t_kept : Nat) (a_t_aside : Nat) (a_t_hears : Nat) (a_t_spies : Nat) (a_t_known : Nat) (a_t_by : Nat) (a_t_ways : Nat) (a_t_fewest : Nat) (a_t_heavy : Nat) (a_t_sums : Nat) (a_t_faces : Nat) (a_t_bestFaces : Nat) (a_t_text : Nat) (a_t_verbs : Nat) (a_t_many : Nat) (a_t_nums : Nat) (a_t_limbs : Nat) (a_t_wide : Nat) (t_typed : Int32) (t_at : Int32) (t_start : Int32) (t_token : Int32) (t_value : Int32) (t_items : Int32) (t_limbs : Nat → Int32) (t_wide : Nat → Int32) : va_W := [(a_t, .inr (12, [.ref a_t_book, .ref a_t_images, .ref a_t_kept, .ref a_t_aside, .ref a_t_limbs, .ref a_t_wide, .ref a_t_hears, .ref a_t_spies, .ref a_t_known, .ref a_t_by, .ref a_t_ways, .ref a_t_fewest, .ref a_t_heavy, .ref a_t_sums, .ref a_t_faces, .ref a_t_bestFaces, .ref a_t_text, .int t_typed, .int t_at, .int t_start, .int t_token, .int t_value, .ref a_t_verbs, .ref a_t_many, .ref a_t_nums, .int t_items])), (a_t_limbs, .inl (E.2.1 0, 1680, .inl t_limbs)), (a_t_wide, .inl (E.2.1 0, 28, .inl t_wide))]
def rm_R_lowers : Room := { frames := 2, cells := 0, slots := 0, locals := 53 }
set_option maxHeartbeats 4000000 in
set_option maxRecDepth 100000 in
theorem c_R_lowers (l : Launch) (E : m_E) (sz N : Nat) (a_t : Nat) (a_t_book : Nat) (a_t_images : Nat) (a_t_kept : Nat) (a_t_aside : Nat) (a_t_hears : Nat) (a_t_spies : Nat) (a_t_known : Nat) (a_t_by : Nat) (a_t_ways : Nat) (a_t_fewest : Nat) (a_t_heavy : Nat) (a_t_sums : Nat) (a_t_faces : Nat) (a_t_bestFaces : Nat) (a_t_text : Nat) (a_t_verbs : Nat) (a_t_many : Nat) (a_t_nums : Nat) (a_t_limbs : Nat) (a_t_wide : Nat) (t_typed : Int32) (t_at : Int32) (t_start : Int32) (t_token : Int32) (t_value : Int32) (t_items : Int32) (t_limbs : Nat → Int32) (t_wide : Nat → Int32)  (ures : (Nat → Int32) × (Nat → Int32)) (hF : F_R_lowers N t_limbs t_wide = some ures) : m_Met l yX12_lowers cX12_lowers 2 none rm_R_lowers E (wd_R_lowers E a_t a_t_book a_t_images a_t_kept a_t_aside a_t_hears a_t_spies a_t_known a_t_by a_t_ways a_t_fewest a_t_heavy a_t_sums a_t_faces a_t_bestFaces a_t_text a_t_verbs a_t_many a_t_nums a_t_limbs a_t_wide t_typed t_at t_start t_token t_value t_items t_limbs t_wide) (wd_R_lowers E a_t a_t_book a_t_images a_t_kept a_t_aside a_t_hears a_t_spies a_t_known a_t_by a_t_ways a_t_fewest a_t_heavy a_t_sums a_t_faces a_t_bestFaces a_t_text a_t_verbs a_t_many a_t_nums a_t_limbs a_t_wide t_typed t_at t_start t_token t_value t_items ures.1 ures.2) sz [.ref a_t] none := by
  refine m_ofV (by decide) (Nat.le_of_ble_eq_true rfl) ?_
  intro p e s m args below meth c A Q ls X hW hA hl hret
  obtain ⟨hx, hb, -, hown, hts, hK, -, hG⟩ := id X
  have hl : lv_has ls 2 [(0, .ref a_t)] := hl
  unfold F_R_lowers at hF
  refine lv_aload_n hx hb dX12_lowers_0 rfl (lv_at hl 0 rfl) ?_
  refine m_get X hW fdX12_26 0 rfl rfl dX12_lowers_1 ?_
  refine lv_iconst (v := (0 : Int32)) hx hb dX12_lowers_4 (by decide) ?_
  refine m_iald X hW 2 (k := 0) rfl (by decide) rfl dX12_lowers_5 ?_
  refine lv_if_ne (tgt := 16) hx hb dX12_lowers_6 (by decide) (fun c1 => ?_) (fun c1 => ?_)
  · have hF := if_n c1 hF
    obtain ⟨t_limbs'_25, t_wide'_25, hX3, hF⟩ := bO_s2 hF
    have L2 : ∀ (k0 : Nat) (t_limbs'_22 : Nat → Int32) (t_wide'_22 : Nat → Int32) (t_limbs'_25 : Nat → Int32) (t_wide'_25 : Nat → Int32) (H : Heap) (locs : List Loc) (ls : Array Slot), R_lowers_L16 N k0 t_limbs'_22 t_wide'_22 = some (t_limbs'_25, t_wide'_25) → m_H E A (wd_R_lowers E a_t a_t_book a_t_images a_t_kept a_t_aside a_t_hears a_t_spies a_t_known a_t_by a_t_ways a_t_fewest a_t_heavy a_t_sums a_t_faces a_t_bestFaces a_t_text a_t_verbs a_t_many a_t_nums a_t_limbs a_t_wide t_typed t_at t_start t_token t_value t_items t_limbs'_22 t_wide'_22) s.heap H locs → lv_has ls 2 [(0, .ref a_t)] → (∀ (H : Heap) (locs : List Loc) (ls : Array Slot), m_H E A (wd_R_lowers E a_t a_t_book a_t_images a_t_kept a_t_aside a_t_hears a_t_spies a_t_known a_t_by a_t_ways a_t_fewest a_t_heavy a_t_sums a_t_faces a_t_bestFaces a_t_text a_t_verbs a_t_many a_t_nums a_t_limbs a_t_wide t_typed t_at t_start t_token t_value t_items t_limbs'_25 t_wide'_25) s.heap H locs → lv_has ls 2 [(0, .ref a_t)] → W p l e rm_R_lowers s m args below meth c H locs 0 0 Q (F0 m 45 ls [])) → W p l e rm_R_lowers s m args below meth c H locs 0 0 Q (F0 m 16 ls []) := by
      clear hF
      intro k0
      induction k0 with
      | zero =>
        intro t_limbs'_22 t_wide'_22 t_limbs'_25 t_wide'_25 H locs ls hF
        cases hF
      | succ k0 ih5 =>
        intro t_limbs'_22 t_wide'_22 t_limbs'_25 t_wide'_25 H locs ls hF hW hl hk4
        rw [R_lowers_L16] at hF
        refine lv_aload_n hx hb dX12_lowers_16 rfl (lv_at hl 0 rfl) ?_
        refine lv_iconst (v := (0 : Int32)) hx hb dX12_lowers_17 (by decide) ?_
        obtain ⟨r18, hC6, hF⟩ := bO_s1 hF
        refine m_callV X hW hA hl.1 lkX12_89 (c_R_isEven l E _ N a_t a_t_book a_t_images a_t_kept a_t_aside a_t_wide a_t_hears a_t_spies a_t_known a_t_by a_t_ways a_t_fewest a_t_heavy a_t_sums a_t_faces a_t_bestFaces a_t_text a_t_verbs a_t_many a_t_nums a_t_limbs t_typed t_at t_start t_token t_value t_items t_limbs'_22 (0 : Int32) r18 hC6) ([0, 1]) (by decide) rfl rfl (ws' := (wd_R_lowers E a_t a_t_book a_t_images a_t_kept a_t_aside a_t_hears a_t_spies a_t_known a_t_by a_t_ways a_t_fewest a_t_heavy a_t_sums a_t_faces a_t_bestFaces a_t_text a_t_verbs a_t_many a_t_nums a_t_limbs a_t_wide t_typed t_at t_start t_token t_value t_items t_limbs'_22 t_wide'_22)) rfl 0 rfl rfl rfl (As := [.int (0 : Int32)]) (rest := []) rfl rfl ⟨rfl, rfl, Nat.le_of_ble_eq_true rfl, Nat.le_of_ble_eq_true rfl⟩ (Nat.le_of_ble_eq_true rfl) (Nat.zero_le _) (Nat.zero_le _) dX12_lowers_18 (fun H locs hW => ?_)
        clear hC6
        refine lv_if_eq (tgt := 45) hx hb dX12_lowers_21 (by decide) (fun c7 => ?_) (fun c7 => ?_)
        · have hF := if_y c7 hF
          cases hF
          exact hk4 _ _ _ hW (lv_sub hl [0] rfl)
        · have hF := if_n c7 hF
          refine lv_aload_n hx hb dX12_lowers_24 rfl (lv_at hl 0 rfl) ?_
          refine lv_iconst (v := (1 : Int32)) hx hb dX12_lowers_25 (by decide) ?_
          obtain ⟨r26, hC8, hF⟩ := bO_s1 hF
          refine m_callV X hW hA hl.1 lkX12_89 (c_R_isEven l E _ N a_t a_t_book a_t_images a_t_kept a_t_aside a_t_wide a_t_hears a_t_spies a_t_known a_t_by a_t_ways a_t_fewest a_t_heavy a_t_sums a_t_faces a_t_bestFaces a_t_text a_t_verbs a_t_many a_t_nums a_t_limbs t_typed t_at t_start t_token t_value t_items t_limbs'_22 (1 : Int32) r26 hC8) ([0, 1]) (by decide) rfl rfl (ws' := (wd_R_lowers E a_t a_t_book a_t_images a_t_kept a_t_aside a_t_hears a_t_spies a_t_known a_t_by a_t_ways a_t_fewest a_t_heavy a_t_sums a_t_faces a_t_bestFaces a_t_text a_t_verbs a_t_many a_t_nums a_t_limbs a_t_wide t_typed t_at t_start t_token t_value t_items t_limbs'_22 t_wide'_22)) rfl 0 rfl rfl rfl (As := [.int (1 : Int32)]) (rest := []) rfl rfl ⟨rfl, rfl, Nat.le_of_ble_eq_true rfl, Nat.le_of_ble_eq_true rfl⟩ (Nat.le_of_ble_eq_true rfl) (Nat.zero_le _) (Nat.zero_le _) dX12_lowers_26 (fun H locs hW => ?_)
          clear hC8
          refine lv_if_eq (tgt := 45) hx hb dX12_lowers_29 (by decide) (fun c9 => ?_) (fun c9 => ?_)
          · have hF := if_y c9 hF
            cases hF
            exact hk4 _ _ _ hW (lv_sub hl [0] rfl)
          · have hF := if_n c9 hF
            refine lv_aload_n hx hb dX12_lowers_32 rfl (lv_at hl 0 rfl) ?_
            refine lv_iconst (v := (0 : Int32)) hx hb dX12_lowers_33 (by decide) ?_
            obtain ⟨t_limbs'_23, t_wide'_23, hC10, hF⟩ := bO_s2 hF
            refine m_callV X hW hA hl.1 lkX12_93 (c_R_halves l E _ N a_t a_t_book a_t_images a_t_kept a_t_aside a_t_hears a_t_spies a_t_known a_t_by a_t_ways a_t_fewest a_t_heavy a_t_sums a_t_faces a_t_bestFaces a_t_text a_t_verbs a_t_many a_t_nums a_t_limbs a_t_wide t_typed t_at t_start t_token t_value t_items t_limbs'_22 t_wide'_22 (0 : Int32) (t_limbs'_23, t_wide'_23) hC10) ([0, 1, 2]) (by decide) rfl rfl (ws' := (wd_R_lowers E a_t a_t_book a_t_images a_t_kept a_t_aside a_t_hears a_t_spies a_t_known a_t_by a_t_ways a_t_fewest a_t_heavy a_t_sums a_t_faces a_t_bestFaces a_t_text a_t_verbs a_t_many a_t_nums a_t_limbs a_t_wide t_typed t_at t_start t_token t_value t_items t_limbs'_23 t_wide'_23)) rfl 0 rfl rfl rfl (As := [.int (0 : Int32)]) (rest := []) rfl rfl ⟨rfl, rfl, Nat.le_of_ble_eq_true rfl, Nat.le_of_ble_eq_true rfl⟩ (Nat.le_of_ble_eq_true rfl) (Nat.zero_le _) (Nat.zero_le _) dX12_lowers_34 (fun H locs hW => ?_)
            clear hC10
            refine lv_aload_n hx hb dX12_lowers_37 rfl (lv_at hl 0 rfl) ?_
            refine lv_iconst (v := (1 : Int32)) hx hb dX12_lowers_38 (by decide) ?_
            obtain ⟨t_limbs'_24, t_wide'_24, hC11, hF⟩ := bO_s2 hF
            refine m_callV X hW hA hl.1 lkX12_93 (c_R_halves l E _ N a_t a_t_book a_t_images a_t_kept a_t_aside a_t_hears a_t_spies a_t_known a_t_by a_t_ways a_t_fewest a_t_heavy a_t_sums a_t_faces a_t_bestFaces a_t_text a_t_verbs a_t_many a_t_nums a_t_limbs a_t_wide t_typed t_at t_start t_token t_value t_items t_limbs'_23 t_wide'_23 (1 : Int32) (t_limbs'_24, t_wide'_24) hC11) ([0, 1, 2]) (by decide) rfl rfl (ws' := (wd_R_lowers E a_t a_t_book a_t_images a_t_kept a_t_aside a_t_hears a_t_spies a_t_known a_t_by a_t_ways a_t_fewest a_t_heavy a_t_sums a_t_faces a_t_bestFaces a_t_text a_t_verbs a_t_many a_t_nums a_t_limbs a_t_wide t_typed t_at t_start t_token t_value t_items t_limbs'_24 t_wide'_24)) rfl 0 rfl rfl rfl (As := [.int (1 : Int32)]) (rest := []) rfl rfl ⟨rfl, rfl, Nat.le_of_ble_eq_true rfl, Nat.le_of_ble_eq_true rfl⟩ (Nat.le_of_ble_eq_true rfl) (Nat.zero_le _) (Nat.zero_le _) dX12_lowers_39 (fun H locs hW => ?_)
            clear hC11
            refine lv_goto (tgt := 16) hx hb dX12_lowers_42 (by decide) ?_
            exact ih5 t_limbs'_24 t_wide'_24 t_limbs'_25 t_wide'_25 _ _ _ hF hW (lv_sub hl [0] rfl) hk4
    refine L2 N t_limbs t_wide t_limbs'_25 t_wide'_25 _ _ _ hX3 hW (lv_sub hl [0] rfl) ?_
    intro H locs ls hW hl
    clear L2
    refine lv_aload_n hx hb dX12_lowers_45 rfl (lv_at hl 0 rfl) ?_
    refine lv_iconst (v := (2 : Int32)) hx hb dX12_lowers_46 (by decide) ?_
    refine lv_iconst (v := (0 : Int32)) hx hb dX12_lowers_47 (by decide) ?_
    obtain ⟨t_limbs'_26, t_wide'_26, hC12, hF⟩ := bO_s2 hF
    refine m_callV X hW hA hl.1 lkX12_84 (c_R_takes l E _ N a_t a_t_book a_t_images a_t_kept a_t_aside a_t_hears a_t_spies a_t_known a_t_by a_t_ways a_t_fewest a_t_heavy a_t_sums a_t_faces a_t_bestFaces a_t_text a_t_verbs a_t_many a_t_nums a_t_limbs a_t_wide t_typed t_at t_start t_token t_value t_items t_limbs'_25 t_wide'_25 (2 : Int32) (0 : Int32) (t_limbs'_26, t_wide'_26) hC12) ([0, 1, 2]) (by decide) rfl rfl (ws' := (wd_R_lowers E a_t a_t_book a_t_images a_t_kept a_t_aside a_t_hears a_t_spies a_t_known a_t_by a_t_ways a_t_fewest a_t_heavy a_t_sums a_t_faces a_t_bestFaces a_t_text a_t_verbs a_t_many a_t_nums a_t_limbs a_t_wide t_typed t_at t_start t_token t_value t_items t_limbs'_26 t_wide'_26)) rfl 0 rfl rfl rfl (As := [.int (2 : Int32), .int (0 : Int32)]) (rest := []) rfl rfl ⟨rfl, rfl, Nat.le_of_ble_eq_true rfl, Nat.le_of_ble_eq_true rfl⟩ (Nat.le_of_ble_eq_true rfl) (Nat.zero_le _) (Nat.zero_le _) dX12_lowers_48 (fun H locs hW => ?_)
    clear hC12
    refine lv_aload_n hx hb dX12_lowers_51 rfl (lv_at hl 0 rfl) ?_
    refine lv_iconst (v := (3 : Int32)) hx hb dX12_lowers_52 (by decide) ?_
    refine lv_iconst (v := (1 : Int32)) hx hb dX12_lowers_53 (by decide) ?_
    obtain ⟨t_limbs'_27, t_wide'_27, hC13, hF⟩ := bO_s2 hF
    refine m_callV X hW hA hl.1 lkX12_84 (c_R_takes l E _ N a_t a_t_book a_t_images a_t_kept a_t_aside a_t_hears a_t_spies a_t_known a_t_by a_t_ways a_t_fewest a_t_heavy a_t_sums a_t_faces a_t_bestFaces a_t_text a_t_verbs a_t_many a_t_nums a_t_limbs a_t_wide t_typed t_at t_start t_token t_value t_items t_limbs'_26 t_wide'_26 (3 : Int32) (1 : Int32) (t_limbs'_27, t_wide'_27) hC13) ([0, 1, 2]) (by decide) rfl rfl (ws' := (wd_R_lowers E a_t a_t_book a_t_images a_t_kept a_t_aside a_t_hears a_t_spies a_t_known a_t_by a_t_ways a_t_fewest a_t_heavy a_t_sums a_t_faces a_t_bestFaces a_t_text a_t_verbs a_t_many a_t_nums a_t_limbs a_t_wide t_typed t_at t_start t_token t_value t_items t_limbs'_27 t_wide'_27)) rfl 0 rfl rfl rfl (As := [.int (3 : Int32), .int (1 : Int32)]) (rest := []) rfl rfl ⟨rfl, rfl, Nat.le_of_ble_eq_true rfl, Nat.le_of_ble_eq_true rfl⟩ (Nat.le_of_ble_eq_true rfl) (Nat.zero_le _) (Nat.zero_le _) dX12_lowers_54 (fun H locs hW => ?_)
    clear hC13
    obtain ⟨t_limbs'_38, t_wide'_38, hX15, hF⟩ := bO_s2 hF
    have L14 : ∀ (k0 : Nat) (t_limbs'_28 : Nat → Int32) (t_wide'_28 : Nat → Int32) (t_limbs'_38 : Nat → Int32) (t_wide'_38 : Nat → Int32) (H : Heap) (locs : List Loc) (ls : Array Slot), R_lowers_L57 N k0 t_limbs'_28 t_wide'_28 = some (t_limbs'_38, t_wide'_38) → m_H E A (wd_R_lowers E a_t a_t_book a_t_images a_t_kept a_t_aside a_t_hears a_t_spies a_t_known a_t_by a_t_ways a_t_fewest a_t_heavy a_t_sums a_t_faces a_t_bestFaces a_t_text a_t_verbs a_t_many a_t_nums a_t_limbs a_t_wide t_typed t_at t_start t_token t_value t_items t_limbs'_28 t_wide'_28) s.heap H locs → lv_has ls 2 [(0, .ref a_t)] → (∀ (H : Heap) (locs : List Loc) (ls : Array Slot), m_H E A (wd_R_lowers E a_t a_t_book a_t_images a_t_kept a_t_aside a_t_hears a_t_spies a_t_known a_t_by a_t_ways a_t_fewest a_t_heavy a_t_sums a_t_faces a_t_bestFaces a_t_text a_t_verbs a_t_many a_t_nums a_t_limbs a_t_wide t_typed t_at t_start t_token t_value t_items t_limbs'_38 t_wide'_38) s.heap H locs → lv_has ls 2 [(0, .ref a_t)] → W p l e rm_R_lowers s m args below meth c H locs 0 0 Q (F0 m 145 ls [])) → W p l e rm_R_lowers s m args below meth c H locs 0 0 Q (F0 m 57 ls []) := by
      clear hF
      intro k0
      induction k0 with
      | zero =>
        intro t_limbs'_28 t_wide'_28 t_limbs'_38 t_wide'_38 H locs ls hF
        cases hF
      | succ k0 ih17 =>
        intro t_limbs'_28 t_wide'_28 t_limbs'_38 t_wide'_38 H locs ls hF hW hl hk16
        rw [R_lowers_L57] at hF
        refine lv_aload_n hx hb dX12_lowers_57 rfl (lv_at hl 0 rfl) ?_
        refine m_get X hW fdX12_26 0 rfl rfl dX12_lowers_58 ?_
        refine lv_iconst (v := (2 : Int32)) hx hb dX12_lowers_61 (by decide) ?_
        refine m_iald X hW 2 (k := 2) rfl (by decide) rfl dX12_lowers_62 ?_
        refine lv_if_le (tgt := 145) hx hb dX12_lowers_63 (by decide) (fun c18 => ?_) (fun c18 => ?_)
        · have hF := if_y c18 hF
          cases hF
          exact hk16 _ _ _ hW (lv_sub hl [0] rfl)
        · have hF := if_n c18 hF
          obtain ⟨t_limbs'_31, t_wide'_31, hX20, hF⟩ := bO_s2 hF
          have L19 : ∀ (k0 : Nat) (t_limbs'_29 : Nat → Int32) (t_wide'_29 : Nat → Int32) (t_limbs'_31 : Nat → Int32) (t_wide'_31 : Nat → Int32) (H : Heap) (locs : List Loc) (ls : Array Slot), R_lowers_L66 N k0 t_limbs'_29 t_wide'_29 = some (t_limbs'_31, t_wide'_31) → m_H E A (wd_R_lowers E a_t a_t_book a_t_images a_t_kept a_t_aside a_t_hears a_t_spies a_t_known a_t_by a_t_ways a_t_fewest a_t_heavy a_t_sums a_t_faces a_t_bestFaces a_t_text a_t_verbs a_t_many a_t_nums a_t_limbs a_t_wide t_typed t_at t_start t_token t_value t_items t_limbs'_29 t_wide'_29) s.heap H locs → lv_has ls 2 [(0, .ref a_t)] → (∀ (H : Heap) (locs : List Loc) (ls : Array Slot), m_H E A (wd_R_lowers E a_t a_t_book a_t_images a_t_kept a_t_aside a_t_hears a_t_spies a_t_known a_t_by a_t_ways a_t_fewest a_t_heavy a_t_sums a_t_faces a_t_bestFaces a_t_text a_t_verbs a_t_many a_t_nums a_t_limbs a_t_wide t_typed t_at t_start t_token t_value t_items t_limbs'_31 t_wide'_31) s.heap H locs → lv_has ls 2 [(0, .ref a_t)] → W p l e rm_R_lowers s m args below meth c H locs 0 0 Q (F0 m 82 ls [])) → W p l e rm_R_lowers s m args below meth c H locs 0 0 Q (F0 m 66 ls []) := by
            clear hF
            intro k0
            induction k0 with
            | zero =>
              intro t_limbs'_29 t_wide'_29 t_limbs'_31 t_wide'_31 H locs ls hF
              cases hF
            | succ k0 ih22 =>
              intro t_limbs'_29 t_wide'_29 t_limbs'_31 t_wide'_31 H locs ls hF hW hl hk21
              rw [R_lowers_L66] at hF
              refine lv_aload_n hx hb dX12_lowers_66 rfl (lv_at hl 0 rfl) ?_
              refine lv_iconst (v := (2 : Int32)) hx hb dX12_lowers_67 (by decide) ?_
              obtain ⟨r68, hC23, hF⟩ := bO_s1 hF
              refine m_callV X hW hA hl.1 lkX12_89 (c_R_isEven l E _ N a_t a_t_book a_t_images a_t_kept a_t_aside a_t_wide a_t_hears a_t_spies a_t_known a_t_by a_t_ways a_t_fewest a_t_heavy a_t_sums a_t_faces a_t_bestFaces a_t_text a_t_verbs a_t_many a_t_nums a_t_limbs t_typed t_at t_start t_token t_value t_items t_limbs'_29 (2 : Int32) r68 hC23) ([0, 1]) (by decide) rfl rfl (ws' := (wd_R_lowers E a_t a_t_book a_t_images a_t_kept a_t_aside a_t_hears a_t_spies a_t_known a_t_by a_t_ways a_t_fewest a_t_heavy a_t_sums a_t_faces a_t_bestFaces a_t_text a_t_verbs a_t_many a_t_nums a_t_limbs a_t_wide t_typed t_at t_start t_token t_value t_items t_limbs'_29 t_wide'_29)) rfl 0 rfl rfl rfl (As := [.int (2 : Int32)]) (rest := []) rfl rfl ⟨rfl, rfl, Nat.le_of_ble_eq_true rfl, Nat.le_of_ble_eq_true rfl⟩ (Nat.le_of_ble_eq_true rfl) (Nat.zero_le _) (Nat.zero_le _) dX12_lowers_68 (fun H locs hW => ?_)
              clear hC23
              refine lv_if_eq (tgt := 82) hx hb dX12_lowers_71 (by decide) (fun c24 => ?_) (fun c24 => ?_)
              · have hF := if_y c24 hF
                cases hF
                exact hk21 _ _ _ hW (lv_sub hl [0] rfl)
              · have hF := if_n c24 hF
                refine lv_aload_n hx hb dX12_lowers_74 rfl (lv_at hl 0 rfl) ?_
                refine lv_iconst (v := (2 : Int32)) hx hb dX12_lowers_75 (by decide) ?_
                obtain ⟨t_limbs'_30, t_wide'_30, hC25, hF⟩ := bO_s2 hF
                refine m_callV X hW hA hl.1 lkX12_93 (c_R_halves l E _ N a_t a_t_book a_t_images a_t_kept a_t_aside a_t_hears a_t_spies a_t_known a_t_by a_t_ways a_t_fewest a_t_heavy a_t_sums a_t_faces a_t_bestFaces a_t_text a_t_verbs a_t_many a_t_nums a_t_limbs a_t_wide t_typed t_at t_start t_token t_value t_items t_limbs'_29 t_wide'_29 (2 : Int32) (t_limbs'_30, t_wide'_30) hC25) ([0, 1, 2]) (by decide) rfl rfl (ws' := (wd_R_lowers E a_t a_t_book a_t_images a_t_kept a_t_aside a_t_hears a_t_spies a_t_known a_t_by a_t_ways a_t_fewest a_t_heavy a_t_sums a_t_faces a_t_bestFaces a_t_text a_t_verbs a_t_many a_t_nums a_t_limbs a_t_wide t_typed t_at t_start t_token t_value t_items t_limbs'_30 t_wide'_30)) rfl 0 rfl rfl rfl (As := [.int (2 : Int32)]) (rest := []) rfl rfl ⟨rfl, rfl, Nat.le_of_ble_eq_true rfl, Nat.le_of_ble_eq_true rfl⟩ (Nat.le_of_ble_eq_true rfl) (Nat.zero_le _) (Nat.zero_le _) dX12_lowers_76 (fun H locs hW => ?_)
                clear hC25
                refine lv_goto (tgt := 66) hx hb dX12_lowers_79 (by decide) ?_
                exact ih22 t_limbs'_30 t_wide'_30 t_limbs'_31 t_wide'_31 _ _ _ hF hW (lv_sub hl [0] rfl) hk21
          refine L19 N t_limbs'_28 t_wide'_28 t_limbs'_31 t_wide'_31 _ _ _ hX20 hW (lv_sub hl [0] rfl) ?_
          intro H locs ls hW hl
          clear L19
          obtain ⟨t_limbs'_34, t_wide'_34, hX27, hF⟩ := bO_s2 hF
          have L26 : ∀ (k0 : Nat) (t_limbs'_32 : Nat → Int32) (t_wide'_32 : Nat → Int32) (t_limbs'_34 : Nat → Int32) (t_wide'_34 : Nat → Int32) (H : Heap) (locs : List Loc) (ls : Array Slot), R_lowers_L82 N k0 t_limbs'_32 t_wide'_32 = some (t_limbs'_34, t_wide'_34) → m_H E A (wd_R_lowers E a_t a_t_book a_t_images a_t_kept a_t_aside a_t_hears a_t_spies a_t_known a_t_by a_t_ways a_t_fewest a_t_heavy a_t_sums a_t_faces a_t_bestFaces a_t_text a_t_verbs a_t_many a_t_nums a_t_limbs a_t_wide t_typed t_at t_start t_token t_value t_items t_limbs'_32 t_wide'_32) s.heap H locs → lv_has ls 2 [(0, .ref a_t)] → (∀ (H : Heap) (locs : List Loc) (ls : Array Slot), m_H E A (wd_R_lowers E a_t a_t_book a_t_images a_t_kept a_t_aside a_t_hears a_t_spies a_t_known a_t_by a_t_ways a_t_fewest a_t_heavy a_t_sums a_t_faces a_t_bestFaces a_t_text a_t_verbs a_t_many a_t_nums a_t_limbs a_t_wide t_typed t_at t_start t_token t_value t_items t_limbs'_34 t_wide'_34) s.heap H locs → lv_has ls 2 [(0, .ref a_t)] → W p l e rm_R_lowers s m args below meth c H locs 0 0 Q (F0 m 98 ls [])) → W p l e rm_R_lowers s m args below meth c H locs 0 0 Q (F0 m 82 ls []) := by
            clear hF
            intro k0
            induction k0 with
            | zero =>
              intro t_limbs'_32 t_wide'_32 t_limbs'_34 t_wide'_34 H locs ls hF
              cases hF
            | succ k0 ih29 =>
              intro t_limbs'_32 t_wide'_32 t_limbs'_34 t_wide'_34 H locs ls hF hW hl hk28
              rw [R_lowers_L82] at hF
              refine lv_aload_n hx hb dX12_lowers_82 rfl (lv_at hl 0 rfl) ?_
              refine lv_iconst (v := (3 : Int32)) hx hb dX12_lowers_83 (by decide) ?_
              obtain ⟨r84, hC30, hF⟩ := bO_s1 hF
              refine m_callV X hW hA hl.1 lkX12_89 (c_R_isEven l E _ N a_t a_t_book a_t_images a_t_kept a_t_aside a_t_wide a_t_hears a_t_spies a_t_known a_t_by a_t_ways a_t_fewest a_t_heavy a_t_sums a_t_faces a_t_bestFaces a_t_text a_t_verbs a_t_many a_t_nums a_t_limbs t_typed t_at t_start t_token t_value t_items t_limbs'_32 (3 : Int32) r84 hC30) ([0, 1]) (by decide) rfl rfl (ws' := (wd_R_lowers E a_t a_t_book a_t_images a_t_kept a_t_aside a_t_hears a_t_spies a_t_known a_t_by a_t_ways a_t_fewest a_t_heavy a_t_sums a_t_faces a_t_bestFaces a_t_text a_t_verbs a_t_many a_t_nums a_t_limbs a_t_wide t_typed t_at t_start t_token t_value t_items t_limbs'_32 t_wide'_32)) rfl 0 rfl rfl rfl (As := [.int (3 : Int32)]) (rest := []) rfl rfl ⟨rfl, rfl, Nat.le_of_ble_eq_true rfl, Nat.le_of_ble_eq_true rfl⟩ (Nat.le_of_ble_eq_true rfl) (Nat.zero_le _) (Nat.zero_le _) dX12_lowers_84 (fun H locs hW => ?_)
              clear hC30
              refine lv_if_eq (tgt := 98) hx hb dX12_lowers_87 (by decide) (fun c31 => ?_) (fun c31 => ?_)
              · have hF := if_y c31 hF
                cases hF
                exact hk28 _ _ _ hW (lv_sub hl [0] rfl)
              · have hF := if_n c31 hF
                refine lv_aload_n hx hb dX12_lowers_90 rfl (lv_at hl 0 rfl) ?_
                refine lv_iconst (v := (3 : Int32)) hx hb dX12_lowers_91 (by decide) ?_
                obtain ⟨t_limbs'_33, t_wide'_33, hC32, hF⟩ := bO_s2 hF
                refine m_callV X hW hA hl.1 lkX12_93 (c_R_halves l E _ N a_t a_t_book a_t_images a_t_kept a_t_aside a_t_hears a_t_spies a_t_known a_t_by a_t_ways a_t_fewest a_t_heavy a_t_sums a_t_faces a_t_bestFaces a_t_text a_t_verbs a_t_many a_t_nums a_t_limbs a_t_wide t_typed t_at t_start t_token t_value t_items t_limbs'_32 t_wide'_32 (3 : Int32) (t_limbs'_33, t_wide'_33) hC32) ([0, 1, 2]) (by decide) rfl rfl (ws' := (wd_R_lowers E a_t a_t_book a_t_images a_t_kept a_t_aside a_t_hears a_t_spies a_t_known a_t_by a_t_ways a_t_fewest a_t_heavy a_t_sums a_t_faces a_t_bestFaces a_t_text a_t_verbs a_t_many a_t_nums a_t_limbs a_t_wide t_typed t_at t_start t_token t_value t_items t_limbs'_33 t_wide'_33)) rfl 0 rfl rfl rfl (As := [.int (3 : Int32)]) (rest := []) rfl rfl ⟨rfl, rfl, Nat.le_of_ble_eq_true rfl, Nat.le_of_ble_eq_true rfl⟩ (Nat.le_of_ble_eq_true rfl) (Nat.zero_le _) (Nat.zero_le _) dX12_lowers_92 (fun H locs hW => ?_)
                clear hC32
                refine lv_goto (tgt := 82) hx hb dX12_lowers_95 (by decide) ?_
                exact ih29 t_limbs'_33 t_wide'_33 t_limbs'_34 t_wide'_34 _ _ _ hF hW (lv_sub hl [0] rfl) hk28
          refine L26 N t_limbs'_31 t_wide'_31 t_limbs'_34 t_wide'_34 _ _ _ hX27 hW (lv_sub hl [0] rfl) ?_
          intro H locs ls hW hl
          clear L26
          refine lv_aload_n hx hb dX12_lowers_98 rfl (lv_at hl 0 rfl) ?_
          refine lv_iconst (v := (2 : Int32)) hx hb dX12_lowers_99 (by decide) ?_
          refine lv_iconst (v := (3 : Int32)) hx hb dX12_lowers_100 (by decide) ?_
          obtain ⟨r101, hC33, hF⟩ := bO_s1 hF
          refine m_callV X hW hA hl.1 lkX12_96 (c_R_against l E _ N a_t a_t_book a_t_images a_t_kept a_t_aside a_t_hears a_t_spies a_t_known a_t_by a_t_ways a_t_fewest a_t_heavy a_t_sums a_t_faces a_t_bestFaces a_t_text a_t_verbs a_t_many a_t_nums a_t_limbs a_t_wide t_typed t_at t_start t_token t_value t_items t_limbs'_34 t_wide'_34 (2 : Int32) (3 : Int32) r101 hC33) ([0, 1, 2]) (by decide) rfl rfl (ws' := (wd_R_lowers E a_t a_t_book a_t_images a_t_kept a_t_aside a_t_hears a_t_spies a_t_known a_t_by a_t_ways a_t_fewest a_t_heavy a_t_sums a_t_faces a_t_bestFaces a_t_text a_t_verbs a_t_many a_t_nums a_t_limbs a_t_wide t_typed t_at t_start t_token t_value t_items t_limbs'_34 t_wide'_34)) rfl 0 rfl rfl rfl (As := [.int (2 : Int32), .int (3 : Int32)]) (rest := []) rfl rfl ⟨rfl, rfl, Nat.le_of_ble_eq_true rfl, Nat.le_of_ble_eq_true rfl⟩ (Nat.le_of_ble_eq_true rfl) (Nat.zero_le _) (Nat.zero_le _) dX12_lowers_101 (fun H locs hW => ?_)
          clear hC33
          obtain ⟨y0, hX35, hF⟩ := bO_s1 hF
          have J34 : ∀ (H : Heap) (locs : List Loc) (ls : Array Slot), m_H E A (wd_R_lowers E a_t a_t_book a_t_images a_t_kept a_t_aside a_t_hears a_t_spies a_t_known a_t_by a_t_ways a_t_fewest a_t_heavy a_t_sums a_t_faces a_t_bestFaces a_t_text a_t_verbs a_t_many a_t_nums a_t_limbs a_t_wide t_typed t_at t_start t_token t_value t_items t_limbs'_34 t_wide'_34) s.heap H locs → lv_has ls 2 [(0, .ref a_t)] → W p l e rm_R_lowers s m args below meth c H locs 0 0 Q (F0 m 112 ls [.int y0]) := by
            intro H locs ls hW hl
            refine lv_istore_n (lv' := [(1, .int y0), (0, .ref a_t)]) hx hb dX12_lowers_112 rfl hl (by decide) rfl (fun ls hl => ?_)
            refine lv_aload_n hx hb dX12_lowers_113 rfl (lv_at hl 1 rfl) ?_
            refine lv_iload_n hx hb dX12_lowers_114 rfl (lv_at hl 0 rfl) ?_
            refine lv_iconst (v := (5 : Int32)) hx hb dX12_lowers_115 (by decide) ?_
            refine lv_iload_n hx hb dX12_lowers_116 rfl (lv_at hl 0 rfl) ?_
            refine lv_isub hx hb dX12_lowers_117 ?_
            obtain ⟨t_limbs'_35, t_wide'_35, hC36, hF⟩ := bO_s2 hF
            refine m_callV X hW hA hl.1 lkX12_100 (c_R_lessens l E _ N a_t a_t_book a_t_images a_t_kept a_t_aside a_t_hears a_t_spies a_t_known a_t_by a_t_ways a_t_fewest a_t_heavy a_t_sums a_t_faces a_t_bestFaces a_t_text a_t_verbs a_t_many a_t_nums a_t_limbs a_t_wide t_typed t_at t_start t_token t_value t_items t_limbs'_34 t_wide'_34 y0 ((5 : Int32) - y0) (t_limbs'_35, t_wide'_35) hC36) ([0, 1, 2]) (by decide) rfl rfl (ws' := (wd_R_lowers E a_t a_t_book a_t_images a_t_kept a_t_aside a_t_hears a_t_spies a_t_known a_t_by a_t_ways a_t_fewest a_t_heavy a_t_sums a_t_faces a_t_bestFaces a_t_text a_t_verbs a_t_many a_t_nums a_t_limbs a_t_wide t_typed t_at t_start t_token t_value t_items t_limbs'_35 t_wide'_35)) rfl 0 rfl rfl rfl (As := [.int y0, .int ((5 : Int32) - y0)]) (rest := []) rfl rfl ⟨rfl, rfl, Nat.le_of_ble_eq_true rfl, Nat.le_of_ble_eq_true rfl⟩ (Nat.le_of_ble_eq_true rfl) (Nat.zero_le _) (Nat.zero_le _) dX12_lowers_118 (fun H locs hW => ?_)
            clear hC36
            refine lv_aload_n hx hb dX12_lowers_121 rfl (lv_at hl 1 rfl) ?_
            refine m_get X hW fdX12_26 0 rfl rfl dX12_lowers_122 ?_
            refine lv_iconst (v := (3 : Int32)) hx hb dX12_lowers_125 (by decide) ?_
            refine m_iald X hW 2 (k := 3) rfl (by decide) rfl dX12_lowers_126 ?_
            refine lv_if_ne (tgt := 142) hx hb dX12_lowers_127 (by decide) (fun c37 => ?_) (fun c37 => ?_)
            · have hF := if_n c37 hF
              refine lv_goto (tgt := 57) hx hb dX12_lowers_142 (by decide) ?_
              exact ih17 t_limbs'_35 t_wide'_35 t_limbs'_38 t_wide'_38 _ _ _ hF hW (lv_sub hl [1] rfl) hk16
            · have hF := if_y c37 hF
              refine lv_aload_n hx hb dX12_lowers_130 rfl (lv_at hl 1 rfl) ?_
              refine lv_iconst (v := (3 : Int32)) hx hb dX12_lowers_131 (by decide) ?_
              refine lv_iconst (v := (2 : Int32)) hx hb dX12_lowers_132 (by decide) ?_
              obtain ⟨t_limbs'_36, t_wide'_36, hC38, hF⟩ := bO_s2 hF
              refine m_callV X hW hA hl.1 lkX12_84 (c_R_takes l E _ N a_t a_t_book a_t_images a_t_kept a_t_aside a_t_hears a_t_spies a_t_known a_t_by a_t_ways a_t_fewest a_t_heavy a_t_sums a_t_faces a_t_bestFaces a_t_text a_t_verbs a_t_many a_t_nums a_t_limbs a_t_wide t_typed t_at t_start t_token t_value t_items t_limbs'_35 t_wide'_35 (3 : Int32) (2 : Int32) (t_limbs'_36, t_wide'_36) hC38) ([0, 1, 2]) (by decide) rfl rfl (ws' := (wd_R_lowers E a_t a_t_book a_t_images a_t_kept a_t_aside a_t_hears a_t_spies a_t_known a_t_by a_t_ways a_t_fewest a_t_heavy a_t_sums a_t_faces a_t_bestFaces a_t_text a_t_verbs a_t_many a_t_nums a_t_limbs a_t_wide t_typed t_at t_start t_token t_value t_items t_limbs'_36 t_wide'_36)) rfl 0 rfl rfl rfl (As := [.int (3 : Int32), .int (2 : Int32)]) (rest := []) rfl rfl ⟨rfl, rfl, Nat.le_of_ble_eq_true rfl, Nat.le_of_ble_eq_true rfl⟩ (Nat.le_of_ble_eq_true rfl) (Nat.zero_le _) (Nat.zero_le _) dX12_lowers_133 (fun H locs hW => ?_)
              clear hC38
              refine lv_aload_n hx hb dX12_lowers_136 rfl (lv_at hl 1 rfl) ?_
              refine lv_iconst (v := (2 : Int32)) hx hb dX12_lowers_137 (by decide) ?_
              refine lv_lconst (v := (0 : Int64)) hx hb dX12_lowers_138 (by decide) ?_
              obtain ⟨t_limbs'_37, t_wide'_37, hC39, hF⟩ := bO_s2 hF
              refine m_callV X hW hA hl.1 lkX12_74 (c_R_sets l E _ N a_t a_t_book a_t_images a_t_kept a_t_aside a_t_hears a_t_spies a_t_known a_t_by a_t_ways a_t_fewest a_t_heavy a_t_sums a_t_faces a_t_bestFaces a_t_text a_t_verbs a_t_many a_t_nums a_t_limbs a_t_wide t_typed t_at t_start t_token t_value t_items t_limbs'_36 t_wide'_36 (2 : Int32) (0 : Int64) (t_limbs'_37, t_wide'_37) hC39) ([0, 1, 2]) (by decide) rfl rfl (ws' := (wd_R_lowers E a_t a_t_book a_t_images a_t_kept a_t_aside a_t_hears a_t_spies a_t_known a_t_by a_t_ways a_t_fewest a_t_heavy a_t_sums a_t_faces a_t_bestFaces a_t_text a_t_verbs a_t_many a_t_nums a_t_limbs a_t_wide t_typed t_at t_start t_token t_value t_items t_limbs'_37 t_wide'_37)) rfl 0 rfl rfl rfl (As := [.int (2 : Int32), .long (0 : Int64)]) (rest := []) rfl rfl ⟨rfl, rfl, Nat.le_of_ble_eq_true rfl, Nat.le_of_ble_eq_true rfl⟩ (Nat.le_of_ble_eq_true rfl) (Nat.zero_le _) (Nat.zero_le _) dX12_lowers_139 (fun H locs hW => ?_)
              clear hC39
              refine lv_goto (tgt := 57) hx hb dX12_lowers_142 (by decide) ?_
              exact ih17 t_limbs'_37 t_wide'_37 t_limbs'_38 t_wide'_38 _ _ _ hF hW (lv_sub hl [1] rfl) hk16
          clear hF
          have hF := hX35
          clear hX35
          refine lv_if_lt (tgt := 111) hx hb dX12_lowers_104 (by decide) (fun c40 => ?_) (fun c40 => ?_)
          · have hF := if_y c40 hF
            refine lv_iconst (v := (3 : Int32)) hx hb dX12_lowers_111 (by decide) ?_
            cases hF
            exact J34 _ _ _ hW (lv_sub hl [0] rfl)
          · have hF := if_n c40 hF
            refine lv_iconst (v := (2 : Int32)) hx hb dX12_lowers_107 (by decide) ?_
            refine lv_goto (tgt := 112) hx hb dX12_lowers_108 (by decide) ?_
            cases hF
            exact J34 _ _ _ hW (lv_sub hl [0] rfl)
    refine L14 N t_limbs'_27 t_wide'_27 t_limbs'_38 t_wide'_38 _ _ _ hX15 hW (lv_sub hl [0] rfl) ?_
    intro H locs ls hW hl
    clear L14
    refine lv_aload_n hx hb dX12_lowers_145 rfl (lv_at hl 0 rfl) ?_
    refine lv_iconst (v := (0 : Int32)) hx hb dX12_lowers_146 (by decide) ?_
    obtain ⟨t_limbs'_39, t_wide'_39, hC41, hF⟩ := bO_s2 hF
    refine m_callV X hW hA hl.1 lkX12_103 (c_R_parts l E _ N a_t a_t_book a_t_images a_t_kept a_t_aside a_t_hears a_t_spies a_t_known a_t_by a_t_ways a_t_fewest a_t_heavy a_t_sums a_t_faces a_t_bestFaces a_t_text a_t_verbs a_t_many a_t_nums a_t_limbs a_t_wide t_typed t_at t_start t_token t_value t_items t_limbs'_38 t_wide'_38 (0 : Int32) (t_limbs'_39, t_wide'_39) hC41) ([0, 1, 2]) (by decide) rfl rfl (ws' := (wd_R_lowers E a_t a_t_book a_t_images a_t_kept a_t_aside a_t_hears a_t_spies a_t_known a_t_by a_t_ways a_t_fewest a_t_heavy a_t_sums a_t_faces a_t_bestFaces a_t_text a_t_verbs a_t_many a_t_nums a_t_limbs a_t_wide t_typed t_at t_start t_token t_value t_items t_limbs'_39 t_wide'_39)) rfl 0 rfl rfl rfl (As := [.int (0 : Int32)]) (rest := []) rfl rfl ⟨rfl, rfl, Nat.le_of_ble_eq_true rfl, Nat.le_of_ble_eq_true rfl⟩ (Nat.le_of_ble_eq_true rfl) (Nat.zero_le _) (Nat.zero_le _) dX12_lowers_147 (fun H locs hW => ?_)
    clear hC41
    refine lv_aload_n hx hb dX12_lowers_150 rfl (lv_at hl 0 rfl) ?_
    refine lv_iconst (v := (1 : Int32)) hx hb dX12_lowers_151 (by decide) ?_
    obtain ⟨t_limbs'_40, t_wide'_40, hC42, hF⟩ := bO_s2 hF
    refine m_callV X hW hA hl.1 lkX12_103 (c_R_parts l E _ N a_t a_t_book a_t_images a_t_kept a_t_aside a_t_hears a_t_spies a_t_known a_t_by a_t_ways a_t_fewest a_t_heavy a_t_sums a_t_faces a_t_bestFaces a_t_text a_t_verbs a_t_many a_t_nums a_t_limbs a_t_wide t_typed t_at t_start t_token t_value t_items t_limbs'_39 t_wide'_39 (1 : Int32) (t_limbs'_40, t_wide'_40) hC42) ([0, 1, 2]) (by decide) rfl rfl (ws' := (wd_R_lowers E a_t a_t_book a_t_images a_t_kept a_t_aside a_t_hears a_t_spies a_t_known a_t_by a_t_ways a_t_fewest a_t_heavy a_t_sums a_t_faces a_t_bestFaces a_t_text a_t_verbs a_t_many a_t_nums a_t_limbs a_t_wide t_typed t_at t_start t_token t_value t_items t_limbs'_40 t_wide'_40)) rfl 0 rfl rfl rfl (As := [.int (1 : Int32)]) (rest := []) rfl rfl ⟨rfl, rfl, Nat.le_of_ble_eq_true rfl, Nat.le_of_ble_eq_true rfl⟩ (Nat.le_of_ble_eq_true rfl) (Nat.zero_le _) (Nat.zero_le _) dX12_lowers_152 (fun H locs hW => ?_)
    clear hC42
    have hq := Option.some.inj hF
    subst hq
    exact hret _ _ _ _ hW dX12_lowers_155
  · have hF := if_y c1 hF
    refine lv_aload_n hx hb dX12_lowers_9 rfl (lv_at hl 0 rfl) ?_
    refine lv_iconst (v := (1 : Int32)) hx hb dX12_lowers_10 (by decide) ?_
    refine lv_lconst (v := (1 : Int64)) hx hb dX12_lowers_11 (by decide) ?_
    obtain ⟨t_limbs'_21, t_wide'_21, hC43, hF⟩ := bO_s2 hF
    refine m_callV X hW hA hl.1 lkX12_74 (c_R_sets l E _ N a_t a_t_book a_t_images a_t_kept a_t_aside a_t_hears a_t_spies a_t_known a_t_by a_t_ways a_t_fewest a_t_heavy a_t_sums a_t_faces a_t_bestFaces a_t_text a_t_verbs a_t_many a_t_nums a_t_limbs a_t_wide t_typed t_at t_start t_token t_value t_items t_limbs t_wide (1 : Int32) (1 : Int64) (t_limbs'_21, t_wide'_21) hC43) ([0, 1, 2]) (by decide) rfl rfl (ws' := (wd_R_lowers E a_t a_t_book a_t_images a_t_kept a_t_aside a_t_hears a_t_spies a_t_known a_t_by a_t_ways a_t_fewest a_t_heavy a_t_sums a_t_faces a_t_bestFaces a_t_text a_t_verbs a_t_many a_t_nums a_t_limbs a_t_wide t_typed t_at t_start t_token t_value t_items t_limbs'_21 t_wide'_21)) rfl 0 rfl rfl rfl (As := [.int (1 : Int32), .long (1 : Int64)]) (rest := []) rfl rfl ⟨rfl, rfl, Nat.le_of_ble_eq_true rfl, Nat.le_of_ble_eq_true rfl⟩ (Nat.le_of_ble_eq_true rfl) (Nat.zero_le _) (Nat.zero_le _) dX12_lowers_12 (fun H locs hW => ?_)
    clear hC43
    have hq := Option.some.inj hF
    subst hq
    exact hret _ _ _ _ hW dX12_lowers_15
abbrev wd_R_told (E : m_E) (a_t : Nat) (a_t_book : Nat) (a_t_images : Nat) (a_t_kept : Nat) (a_t_aside : Nat) (a_t_hears : Nat) (a_t_spies : Nat) (a_t_known : Nat) (a_t_by : Nat) (a_t_ways : Nat) (a_t_fewest : Nat) (a_t_heavy : Nat) (a_t_sums : Nat) (a_t_faces : Nat) (a_t_bestFaces : Nat) (a_t_text : Nat) (a_t_verbs : Nat) (a_t_many : Nat) (a_t_nums : Nat) (a_t_limbs : Nat) (a_t_wide : Nat) (t_typed : Int32) (t_at : Int32) (t_start : Int32) (t_token : Int32) (t_value : Int32) (t_items : Int32) (t_limbs : Nat → Int32) (t_wide : Nat → Int32) : va_W := [(a_t, .inr (12, [.ref a_t_book, .ref a_t_images, .ref a_t_kept, .ref a_t_aside, .ref a_t_limbs, .ref a_t_wide, .ref a_t_hears, .ref a_t_spies, .ref a_t_known, .ref a_t_by, .ref a_t_ways, .ref a_t_fewest, .ref a_t_heavy, .ref a_t_sums, .ref a_t_faces, .ref a_t_bestFaces, .ref a_t_text, .int t_typed, .int t_at, .int t_start, .int t_token, .int t_value, .ref a_t_verbs, .ref a_t_many, .ref a_t_nums, .int t_items])), (a_t_limbs, .inl (E.2.1 0, 1680, .inl t_limbs)), (a_t_wide, .inl (E.2.1 0, 28, .inl t_wide))]
def rm_R_told : Room := { frames := 3, cells := 0, slots := 0, locals := 74 }
set_option maxHeartbeats 4000000 in
set_option maxRecDepth 100000 in
theorem c_R_told (l : Launch) (E : m_E) (sz N : Nat) (a_t : Nat) (a_t_book : Nat) (a_t_images : Nat) (a_t_kept : Nat) (a_t_aside : Nat) (a_t_hears : Nat) (a_t_spies : Nat) (a_t_known : Nat) (a_t_by : Nat) (a_t_ways : Nat) (a_t_fewest : Nat) (a_t_heavy : Nat) (a_t_sums : Nat) (a_t_faces : Nat) (a_t_bestFaces : Nat) (a_t_text : Nat) (a_t_verbs : Nat) (a_t_many : Nat) (a_t_nums : Nat) (a_t_limbs : Nat) (a_t_wide : Nat) (t_typed : Int32) (t_at : Int32) (t_start : Int32) (t_token : Int32) (t_value : Int32) (t_items : Int32) (t_limbs : Nat → Int32) (t_wide : Nat → Int32) (p1 : Int64) (p2 : Int64) (ures : Int32 × (Nat → Int32) × (Nat → Int32)) (hF : F_R_told N p1 p2 t_limbs t_wide = some ures) : m_Met l yX12_told cX12_told 5 (some .int) rm_R_told E (wd_R_told E a_t a_t_book a_t_images a_t_kept a_t_aside a_t_hears a_t_spies a_t_known a_t_by a_t_ways a_t_fewest a_t_heavy a_t_sums a_t_faces a_t_bestFaces a_t_text a_t_verbs a_t_many a_t_nums a_t_limbs a_t_wide t_typed t_at t_start t_token t_value t_items t_limbs t_wide) (wd_R_told E a_t a_t_book a_t_images a_t_kept a_t_aside a_t_hears a_t_spies a_t_known a_t_by a_t_ways a_t_fewest a_t_heavy a_t_sums a_t_faces a_t_bestFaces a_t_text a_t_verbs a_t_many a_t_nums a_t_limbs a_t_wide t_typed t_at t_start t_token t_value t_items ures.2.1 ures.2.2) sz [.ref a_t, .long p1, .long p2] (some (.int ures.1)) := by
  refine m_ofI (by decide) (Nat.le_of_ble_eq_true rfl) ?_
  intro p e s m args below meth c A Q ls X hW hA hl hret
  obtain ⟨hx, hb, -, hown, hts, hK, -, hG⟩ := id X
  have hl : lv_has ls 5 [(0, .ref a_t), (1, .long p1), (3, .long p2)] := hl
  unfold F_R_told at hF
  refine lv_aload_n hx hb dX12_told_0 rfl (lv_at hl 0 rfl) ?_
  refine lv_iconst (v := (0 : Int32)) hx hb dX12_told_1 (by decide) ?_
  refine lv_lload_n hx hb dX12_told_2 rfl (lv_at hl 1 rfl) ?_
  obtain ⟨t_limbs'_4, t_wide'_4, hC1, hF⟩ := bO_s2 hF
  refine m_callV X hW hA hl.1 lkX12_74 (c_R_sets l E _ N a_t a_t_book a_t_images a_t_kept a_t_aside a_t_hears a_t_spies a_t_known a_t_by a_t_ways a_t_fewest a_t_heavy a_t_sums a_t_faces a_t_bestFaces a_t_text a_t_verbs a_t_many a_t_nums a_t_limbs a_t_wide t_typed t_at t_start t_token t_value t_items t_limbs t_wide (0 : Int32) p1 (t_limbs'_4, t_wide'_4) hC1) ([0, 1, 2]) (by decide) rfl rfl (ws' := (wd_R_told E a_t a_t_book a_t_images a_t_kept a_t_aside a_t_hears a_t_spies a_t_known a_t_by a_t_ways a_t_fewest a_t_heavy a_t_sums a_t_faces a_t_bestFaces a_t_text a_t_verbs a_t_many a_t_nums a_t_limbs a_t_wide t_typed t_at t_start t_token t_value t_items t_limbs'_4 t_wide'_4)) rfl 0 rfl rfl rfl (As := [.int (0 : Int32), .long p1]) (rest := []) rfl rfl ⟨rfl, rfl, Nat.le_of_ble_eq_true rfl, Nat.le_of_ble_eq_true rfl⟩ (Nat.le_of_ble_eq_true rfl) (Nat.zero_le _) (Nat.zero_le _) dX12_told_3 (fun H locs hW => ?_)
  clear hC1
  refine lv_aload_n hx hb dX12_told_6 rfl (lv_at hl 0 rfl) ?_
  refine lv_iconst (v := (1 : Int32)) hx hb dX12_told_7 (by decide) ?_
  refine lv_lload_n hx hb dX12_told_8 rfl (lv_at hl 2 rfl) ?_
  obtain ⟨t_limbs'_5, t_wide'_5, hC2, hF⟩ := bO_s2 hF
  refine m_callV X hW hA hl.1 lkX12_74 (c_R_sets l E _ N a_t a_t_book a_t_images a_t_kept a_t_aside a_t_hears a_t_spies a_t_known a_t_by a_t_ways a_t_fewest a_t_heavy a_t_sums a_t_faces a_t_bestFaces a_t_text a_t_verbs a_t_many a_t_nums a_t_limbs a_t_wide t_typed t_at t_start t_token t_value t_items t_limbs'_4 t_wide'_4 (1 : Int32) p2 (t_limbs'_5, t_wide'_5) hC2) ([0, 1, 2]) (by decide) rfl rfl (ws' := (wd_R_told E a_t a_t_book a_t_images a_t_kept a_t_aside a_t_hears a_t_spies a_t_known a_t_by a_t_ways a_t_fewest a_t_heavy a_t_sums a_t_faces a_t_bestFaces a_t_text a_t_verbs a_t_many a_t_nums a_t_limbs a_t_wide t_typed t_at t_start t_token t_value t_items t_limbs'_5 t_wide'_5)) rfl 0 rfl rfl rfl (As := [.int (1 : Int32), .long p2]) (rest := []) rfl rfl ⟨rfl, rfl, Nat.le_of_ble_eq_true rfl, Nat.le_of_ble_eq_true rfl⟩ (Nat.le_of_ble_eq_true rfl) (Nat.zero_le _) (Nat.zero_le _) dX12_told_9 (fun H locs hW => ?_)
  clear hC2
  refine lv_aload_n hx hb dX12_told_12 rfl (lv_at hl 0 rfl) ?_
  obtain ⟨t_limbs'_6, t_wide'_6, hC3, hF⟩ := bO_s2 hF
  refine m_callV X hW hA hl.1 lkX12_106 (c_R_lowers l E _ N a_t a_t_book a_t_images a_t_kept a_t_aside a_t_hears a_t_spies a_t_known a_t_by a_t_ways a_t_fewest a_t_heavy a_t_sums a_t_faces a_t_bestFaces a_t_text a_t_verbs a_t_many a_t_nums a_t_limbs a_t_wide t_typed t_at t_start t_token t_value t_items t_limbs'_5 t_wide'_5  (t_limbs'_6, t_wide'_6) hC3) ([0, 1, 2]) (by decide) rfl rfl (ws' := (wd_R_told E a_t a_t_book a_t_images a_t_kept a_t_aside a_t_hears a_t_spies a_t_known a_t_by a_t_ways a_t_fewest a_t_heavy a_t_sums a_t_faces a_t_bestFaces a_t_text a_t_verbs a_t_many a_t_nums a_t_limbs a_t_wide t_typed t_at t_start t_token t_value t_items t_limbs'_6 t_wide'_6)) rfl 0 rfl rfl rfl (As := []) (rest := []) rfl rfl ⟨rfl, rfl, Nat.le_of_ble_eq_true rfl, Nat.le_of_ble_eq_true rfl⟩ (Nat.le_of_ble_eq_true rfl) (Nat.zero_le _) (Nat.zero_le _) dX12_told_13 (fun H locs hW => ?_)
  clear hC3
  refine lv_iconst (v := (1 : Int32)) hx hb dX12_told_16 (by decide) ?_
  have hq := Option.some.inj hF
  subst hq
  exact hret _ _ _ _ hW dX12_told_17
abbrev wd_R_sign (E : m_E) (a_t : Nat) (a_t_book : Nat) (a_t_images : Nat) (a_t_kept : Nat) (a_t_aside : Nat) (a_t_limbs : Nat) (a_t_hears : Nat) (a_t_spies : Nat) (a_t_known : Nat) (a_t_by : Nat) (a_t_ways : Nat) (a_t_fewest : Nat) (a_t_heavy : Nat) (a_t_sums : Nat) (a_t_faces : Nat) (a_t_bestFaces : Nat) (a_t_text : Nat) (a_t_verbs : Nat) (a_t_many : Nat) (a_t_nums : Nat) (a_t_wide : Nat) (t_typed : Int32) (t_at : Int32) (t_start : Int32) (t_token : Int32) (t_value : Int32) (t_items : Int32) (t_wide : Nat → Int32) : va_W := [(a_t, .inr (12, [.ref a_t_book, .ref a_t_images, .ref a_t_kept, .ref a_t_aside, .ref a_t_limbs, .ref a_t_wide, .ref a_t_hears, .ref a_t_spies, .ref a_t_known, .ref a_t_by, .ref a_t_ways, .ref a_t_fewest, .ref a_t_heavy, .ref a_t_sums, .ref a_t_faces, .ref a_t_bestFaces, .ref a_t_text, .int t_typed, .int t_at, .int t_start, .int t_token, .int t_value, .ref a_t_verbs, .ref a_t_many, .ref a_t_nums, .int t_items])), (a_t_wide, .inl (E.2.1 0, 28, .inl t_wide))]
def rm_R_sign : Room := { frames := 0, cells := 0, slots := 0, locals := 0 }
set_option maxHeartbeats 4000000 in
set_option maxRecDepth 100000 in
theorem c_R_sign (l : Launch) (E : m_E) (sz N : Nat) (a_t : Nat) (a_t_book : Nat) (a_t_images : Nat) (a_t_kept : Nat) (a_t_aside : Nat) (a_t_limbs : Nat) (a_t_hears : Nat) (a_t_spies : Nat) (a_t_known : Nat) (a_t_by : Nat) (a_t_ways : Nat) (a_t_fewest : Nat) (a_t_heavy : Nat) (a_t_sums : Nat) (a_t_faces : Nat) (a_t_bestFaces : Nat) (a_t_text : Nat) (a_t_verbs : Nat) (a_t_many : Nat) (a_t_nums : Nat) (a_t_wide : Nat) (t_typed : Int32) (t_at : Int32) (t_start : Int32) (t_token : Int32) (t_value : Int32) (t_items : Int32) (t_wide : Nat → Int32) (p1 : Int32) (ures : Int32) (hF : F_R_sign p1 t_wide = ures) : m_Met l yX12_sign cX12_sign 2 (some .int) rm_R_sign E (wd_R_sign E a_t a_t_book a_t_images a_t_kept a_t_aside a_t_limbs a_t_hears a_t_spies a_t_known a_t_by a_t_ways a_t_fewest a_t_heavy a_t_sums a_t_faces a_t_bestFaces a_t_text a_t_verbs a_t_many a_t_nums a_t_wide t_typed t_at t_start t_token t_value t_items t_wide) (wd_R_sign E a_t a_t_book a_t_images a_t_kept a_t_aside a_t_limbs a_t_hears a_t_spies a_t_known a_t_by a_t_ways a_t_fewest a_t_heavy a_t_sums a_t_faces a_t_bestFaces a_t_text a_t_verbs a_t_many a_t_nums a_t_wide t_typed t_at t_start t_token t_value t_items t_wide) sz [.ref a_t, .int p1] (some (.int ures)) := by
  refine m_ofI (by decide) (Nat.le_of_ble_eq_true rfl) ?_
  intro p e s m args below meth c A Q ls X hW hA hl hret
  obtain ⟨hx, hb, -, hown, hts, hK, -, hG⟩ := id X
  have hl : lv_has ls 2 [(0, .ref a_t), (1, .int p1)] := hl
  unfold F_R_sign at hF
  refine lv_iload_n hx hb dX12_sign_0 rfl (lv_at hl 1 rfl) ?_
  refine lv_if_ne (tgt := 21) hx hb dX12_sign_1 (by decide) (fun c1 => ?_) (fun c1 => ?_)
  · have hF := if_n c1 hF
    refine lv_iload_n hx hb dX12_sign_21 rfl (lv_at hl 1 rfl) ?_
    refine lv_iconst (v := (1 : Int32)) hx hb dX12_sign_22 (by decide) ?_
    refine lv_icmp_ne (tgt := 35) hx hb dX12_sign_23 (by decide) (fun c2 => ?_) (fun c2 => ?_)
    · have hF := if_n c2 hF
      refine lv_iload_n hx hb dX12_sign_35 rfl (lv_at hl 1 rfl) ?_
      refine lv_iconst (v := (2 : Int32)) hx hb dX12_sign_36 (by decide) ?_
      refine lv_icmp_ne (tgt := 49) hx hb dX12_sign_37 (by decide) (fun c3 => ?_) (fun c3 => ?_)
      · have hF := if_n c3 hF
        refine lv_bipush (v := (-2 : Int32)) hx hb dX12_sign_49 (by decide) ?_
        have hq := hF
        subst hq
        exact hret _ _ _ _ hW dX12_sign_51
      · have hF := if_y c3 hF
        refine lv_aload_n hx hb dX12_sign_40 rfl (lv_at hl 0 rfl) ?_
        refine m_get X hW fdX12_26 0 rfl rfl dX12_sign_41 ?_
        refine lv_iconst (v := (1 : Int32)) hx hb dX12_sign_44 (by decide) ?_
        refine m_iald X hW 1 (k := 1) rfl (by decide) rfl dX12_sign_45 ?_
        refine lv_goto (tgt := 51) hx hb dX12_sign_46 (by decide) ?_
        have hq := hF
        subst hq
        exact hret _ _ _ _ hW dX12_sign_51
    · have hF := if_y c2 hF
      refine lv_aload_n hx hb dX12_sign_26 rfl (lv_at hl 0 rfl) ?_
      refine m_get X hW fdX12_26 0 rfl rfl dX12_sign_27 ?_
      refine lv_iconst (v := (0 : Int32)) hx hb dX12_sign_30 (by decide) ?_
      refine m_iald X hW 1 (k := 0) rfl (by decide) rfl dX12_sign_31 ?_
      refine lv_goto (tgt := 51) hx hb dX12_sign_32 (by decide) ?_
      have hq := hF
      subst hq
      exact hret _ _ _ _ hW dX12_sign_51
  · have hF := if_y c1 hF
    refine lv_aload_n hx hb dX12_sign_4 rfl (lv_at hl 0 rfl) ?_
    refine m_get X hW fdX12_26 0 rfl rfl dX12_sign_5 ?_
    refine lv_iconst (v := (0 : Int32)) hx hb dX12_sign_8 (by decide) ?_
    refine m_iald X hW 1 (k := 0) rfl (by decide) rfl dX12_sign_9 ?_
    refine lv_if_le (tgt := 17) hx hb dX12_sign_10 (by decide) (fun c4 => ?_) (fun c4 => ?_)
    · have hF := if_y c4 hF
      refine lv_iconst (v := (0 : Int32)) hx hb dX12_sign_17 (by decide) ?_
      refine lv_goto (tgt := 51) hx hb dX12_sign_18 (by decide) ?_
      have hq := hF
      subst hq
      exact hret _ _ _ _ hW dX12_sign_51
    · have hF := if_n c4 hF
      refine lv_iconst (v := (1 : Int32)) hx hb dX12_sign_13 (by decide) ?_
      refine lv_goto (tgt := 51) hx hb dX12_sign_14 (by decide) ?_
      have hq := hF
      subst hq
      exact hret _ _ _ _ hW dX12_sign_51
abbrev wd_R_limb (E : m_E) (a_t : Nat) (a_t_book : Nat) (a_t_images : Nat) (a_t_kept : Nat) (a_t_aside : Nat) (a_t_hears : Nat) (a_t_spies : Nat) (a_t_known : Nat) (a_t_by : Nat) (a_t_ways : Nat) (a_t_fewest : Nat) (a_t_heavy : Nat) (a_t_sums : Nat) (a_t_faces : Nat) (a_t_bestFaces : Nat) (a_t_text : Nat) (a_t_verbs : Nat) (a_t_many : Nat) (a_t_nums : Nat) (a_t_limbs : Nat) (a_t_wide : Nat) (t_typed : Int32) (t_at : Int32) (t_start : Int32) (t_token : Int32) (t_value : Int32) (t_items : Int32) (t_limbs : Nat → Int32) (t_wide : Nat → Int32) : va_W := [(a_t, .inr (12, [.ref a_t_book, .ref a_t_images, .ref a_t_kept, .ref a_t_aside, .ref a_t_limbs, .ref a_t_wide, .ref a_t_hears, .ref a_t_spies, .ref a_t_known, .ref a_t_by, .ref a_t_ways, .ref a_t_fewest, .ref a_t_heavy, .ref a_t_sums, .ref a_t_faces, .ref a_t_bestFaces, .ref a_t_text, .int t_typed, .int t_at, .int t_start, .int t_token, .int t_value, .ref a_t_verbs, .ref a_t_many, .ref a_t_nums, .int t_items])), (a_t_limbs, .inl (E.2.1 0, 1680, .inl t_limbs)), (a_t_wide, .inl (E.2.1 0, 28, .inl t_wide))]
def rm_R_limb : Room := { frames := 1, cells := 0, slots := 0, locals := 25 }
set_option maxHeartbeats 4000000 in
set_option maxRecDepth 100000 in
theorem c_R_limb (l : Launch) (E : m_E) (sz N : Nat) (a_t : Nat) (a_t_book : Nat) (a_t_images : Nat) (a_t_kept : Nat) (a_t_aside : Nat) (a_t_hears : Nat) (a_t_spies : Nat) (a_t_known : Nat) (a_t_by : Nat) (a_t_ways : Nat) (a_t_fewest : Nat) (a_t_heavy : Nat) (a_t_sums : Nat) (a_t_faces : Nat) (a_t_bestFaces : Nat) (a_t_text : Nat) (a_t_verbs : Nat) (a_t_many : Nat) (a_t_nums : Nat) (a_t_limbs : Nat) (a_t_wide : Nat) (t_typed : Int32) (t_at : Int32) (t_start : Int32) (t_token : Int32) (t_value : Int32) (t_items : Int32) (t_limbs : Nat → Int32) (t_wide : Nat → Int32) (p1 : Int32) (p2 : Int32) (ures : Int32) (hF : F_R_limb p1 p2 t_limbs t_wide = some ures) : m_Met l yX12_limb cX12_limb 3 (some .int) rm_R_limb E (wd_R_limb E a_t a_t_book a_t_images a_t_kept a_t_aside a_t_hears a_t_spies a_t_known a_t_by a_t_ways a_t_fewest a_t_heavy a_t_sums a_t_faces a_t_bestFaces a_t_text a_t_verbs a_t_many a_t_nums a_t_limbs a_t_wide t_typed t_at t_start t_token t_value t_items t_limbs t_wide) (wd_R_limb E a_t a_t_book a_t_images a_t_kept a_t_aside a_t_hears a_t_spies a_t_known a_t_by a_t_ways a_t_fewest a_t_heavy a_t_sums a_t_faces a_t_bestFaces a_t_text a_t_verbs a_t_many a_t_nums a_t_limbs a_t_wide t_typed t_at t_start t_token t_value t_items t_limbs t_wide) sz [.ref a_t, .int p1, .int p2] (some (.int ures)) := by
  refine m_ofI (by decide) (Nat.le_of_ble_eq_true rfl) ?_
  intro p e s m args below meth c A Q ls X hW hA hl hret
  obtain ⟨hx, hb, -, hown, hts, hK, -, hG⟩ := id X
  have hl : lv_has ls 3 [(0, .ref a_t), (1, .int p1), (2, .int p2)] := hl
  unfold F_R_limb at hF
  refine lv_iload_n hx hb dX12_limb_0 rfl (lv_at hl 1 rfl) ?_
  refine lv_i2l (v := p1.toInt64) hx hb dX12_limb_1 rfl ?_
  refine lv_lconst (v := (0 : Int64)) hx hb dX12_limb_2 (by decide) ?_
  refine lv_lconst (v := (1 : Int64)) hx hb dX12_limb_3 (by decide) ?_
  refine m_callS X hW hA hl.1 lkX12_109 (c_R_in l E _ N   p1.toInt64 (0 : Int64) (1 : Int64) (F_R_in p1.toInt64 (0 : Int64) (1 : Int64)) rfl) ([]) (by decide) rfl rfl (ws' := (wd_R_limb E a_t a_t_book a_t_images a_t_kept a_t_aside a_t_hears a_t_spies a_t_known a_t_by a_t_ways a_t_fewest a_t_heavy a_t_sums a_t_faces a_t_bestFaces a_t_text a_t_verbs a_t_many a_t_nums a_t_limbs a_t_wide t_typed t_at t_start t_token t_value t_items t_limbs t_wide)) rfl (As := [.long p1.toInt64, .long (0 : Int64), .long (1 : Int64)]) (rest := []) rfl rfl ⟨rfl, rfl, Nat.le_of_ble_eq_true rfl, Nat.le_of_ble_eq_true rfl⟩ (Nat.le_of_ble_eq_true rfl) (Nat.zero_le _) (Nat.zero_le _) dX12_limb_4 (fun H locs hW => ?_)
  refine lv_if_eq (tgt := 14) hx hb dX12_limb_7 (by decide) (fun c1 => ?_) (fun c1 => ?_)
  · have hF := if_y c1 hF
    refine lv_bipush (v := (-2 : Int32)) hx hb dX12_limb_14 (by decide) ?_
    have hq := Option.some.inj hF
    subst hq
    exact hret _ _ _ _ hW dX12_limb_16
  · have hF := if_n c1 hF
    refine lv_iload_n hx hb dX12_limb_10 rfl (lv_at hl 2 rfl) ?_
    refine lv_if_ge (tgt := 17) hx hb dX12_limb_11 (by decide) (fun c2 => ?_) (fun c2 => ?_)
    · have hF := if_y c2 hF
      refine lv_iload_n hx hb dX12_limb_17 rfl (lv_at hl 2 rfl) ?_
      refine lv_aload_n hx hb dX12_limb_18 rfl (lv_at hl 0 rfl) ?_
      refine m_get X hW fdX12_26 0 rfl rfl dX12_limb_19 ?_
      refine lv_iload_n hx hb dX12_limb_22 rfl (lv_at hl 1 rfl) ?_
      obtain ⟨g3, hF⟩ := gd_some hF
      refine m_iald X hW 2 (k := p1.toNatClampNeg) rfl g3 rfl dX12_limb_23 ?_
      refine lv_icmp_ge (tgt := 41) hx hb dX12_limb_24 (by decide) (fun c4 => ?_) (fun c4 => ?_)
      · have hF := if_y c4 hF
        refine lv_iconst (v := (-1 : Int32)) hx hb dX12_limb_41 (by decide) ?_
        have hq := Option.some.inj hF
        subst hq
        exact hret _ _ _ _ hW dX12_limb_42
      · have hF := if_n c4 hF
        refine lv_aload_n hx hb dX12_limb_27 rfl (lv_at hl 0 rfl) ?_
        refine m_get X hW fdX12_23 0 rfl rfl dX12_limb_28 ?_
        refine lv_bipush (v := (60 : Int32)) hx hb dX12_limb_31 (by decide) ?_
        refine lv_iload_n hx hb dX12_limb_33 rfl (lv_at hl 1 rfl) ?_
        refine lv_imul hx hb dX12_limb_34 ?_
        refine lv_iload_n hx hb dX12_limb_35 rfl (lv_at hl 2 rfl) ?_
        refine lv_iadd hx hb dX12_limb_36 ?_
        obtain ⟨g5, hF⟩ := gd_some hF
        refine m_iald X hW 1 (k := (((60 : Int32) * p1) + p2).toNatClampNeg) rfl g5 rfl dX12_limb_37 ?_
        refine lv_goto (tgt := 42) hx hb dX12_limb_38 (by decide) ?_
        have hq := Option.some.inj hF
        subst hq
        exact hret _ _ _ _ hW dX12_limb_42
    · have hF := if_n c2 hF
      refine lv_bipush (v := (-2 : Int32)) hx hb dX12_limb_14 (by decide) ?_
      have hq := Option.some.inj hF
      subst hq
      exact hret _ _ _ _ hW dX12_limb_16
abbrev wd_R_puts (E : m_E) (a_t : Nat) (a_t_images : Nat) (a_t_kept : Nat) (a_t_aside : Nat) (a_t_limbs : Nat) (a_t_wide : Nat) (a_t_hears : Nat) (a_t_spies : Nat) (a_t_known : Nat) (a_t_by : Nat) (a_t_ways : Nat) (a_t_fewest : Nat) (a_t_heavy : Nat) (a_t_sums : Nat) (a_t_faces : Nat) (a_t_bestFaces : Nat) (a_t_text : Nat) (a_t_verbs : Nat) (a_t_many : Nat) (a_t_nums : Nat) (a_t_book : Nat) (t_typed : Int32) (t_at : Int32) (t_start : Int32) (t_token : Int32) (t_value : Int32) (t_items : Int32) (t_book : Nat → Int32) : va_W := [(a_t, .inr (12, [.ref a_t_book, .ref a_t_images, .ref a_t_kept, .ref a_t_aside, .ref a_t_limbs, .ref a_t_wide, .ref a_t_hears, .ref a_t_spies, .ref a_t_known, .ref a_t_by, .ref a_t_ways, .ref a_t_fewest, .ref a_t_heavy, .ref a_t_sums, .ref a_t_faces, .ref a_t_bestFaces, .ref a_t_text, .int t_typed, .int t_at, .int t_start, .int t_token, .int t_value, .ref a_t_verbs, .ref a_t_many, .ref a_t_nums, .int t_items])), (a_t_book, .inl (E.2.1 0, 240, .inl t_book))]
def rm_R_puts : Room := { frames := 0, cells := 0, slots := 0, locals := 0 }
set_option maxHeartbeats 4000000 in
set_option maxRecDepth 100000 in
theorem c_R_puts (l : Launch) (E : m_E) (sz N : Nat) (a_t : Nat) (a_t_images : Nat) (a_t_kept : Nat) (a_t_aside : Nat) (a_t_limbs : Nat) (a_t_wide : Nat) (a_t_hears : Nat) (a_t_spies : Nat) (a_t_known : Nat) (a_t_by : Nat) (a_t_ways : Nat) (a_t_fewest : Nat) (a_t_heavy : Nat) (a_t_sums : Nat) (a_t_faces : Nat) (a_t_bestFaces : Nat) (a_t_text : Nat) (a_t_verbs : Nat) (a_t_many : Nat) (a_t_nums : Nat) (a_t_book : Nat) (t_typed : Int32) (t_at : Int32) (t_start : Int32) (t_token : Int32) (t_value : Int32) (t_items : Int32) (t_book : Nat → Int32) (p1 : Int32) (p2 : Int32) (ures : Int32 × (Nat → Int32)) (hF : F_R_puts p1 p2 t_book = some ures) : m_Met l yX12_puts cX12_puts 4 (some .int) rm_R_puts E (wd_R_puts E a_t a_t_images a_t_kept a_t_aside a_t_limbs a_t_wide a_t_hears a_t_spies a_t_known a_t_by a_t_ways a_t_fewest a_t_heavy a_t_sums a_t_faces a_t_bestFaces a_t_text a_t_verbs a_t_many a_t_nums a_t_book t_typed t_at t_start t_token t_value t_items t_book) (wd_R_puts E a_t a_t_images a_t_kept a_t_aside a_t_limbs a_t_wide a_t_hears a_t_spies a_t_known a_t_by a_t_ways a_t_fewest a_t_heavy a_t_sums a_t_faces a_t_bestFaces a_t_text a_t_verbs a_t_many a_t_nums a_t_book t_typed t_at t_start t_token t_value t_items ures.2) sz [.ref a_t, .int p1, .int p2] (some (.int ures.1)) := by
  refine m_ofI (by decide) (Nat.le_of_ble_eq_true rfl) ?_
  intro p e s m args below meth c A Q ls X hW hA hl hret
  obtain ⟨hx, hb, -, hown, hts, hK, -, hG⟩ := id X
  have hl : lv_has ls 4 [(0, .ref a_t), (1, .int p1), (2, .int p2)] := hl
  unfold F_R_puts at hF
  refine lv_aload_n hx hb dX12_puts_0 rfl (lv_at hl 0 rfl) ?_
  refine m_get X hW fdX12_7 0 rfl rfl dX12_puts_1 ?_
  refine lv_iload_n hx hb dX12_puts_4 rfl (lv_at hl 1 rfl) ?_
  obtain ⟨g1, hF⟩ := gd_some hF
  refine m_iald X hW 1 (k := p1.toNatClampNeg) rfl g1 rfl dX12_puts_5 ?_
  refine lv_istore_n (lv' := [(3, .int (t_book p1.toNatClampNeg)), (0, .ref a_t), (1, .int p1), (2, .int p2)]) hx hb dX12_puts_6 rfl hl (by decide) rfl (fun ls hl => ?_)
  refine lv_aload_n hx hb dX12_puts_7 rfl (lv_at hl 1 rfl) ?_
  refine m_get X hW fdX12_7 0 rfl rfl dX12_puts_8 ?_
  refine lv_iload_n hx hb dX12_puts_11 rfl (lv_at hl 2 rfl) ?_
  refine lv_iload_n hx hb dX12_puts_12 rfl (lv_at hl 3 rfl) ?_
  refine m_iast X hW 1 (k := p1.toNatClampNeg) rfl g1 rfl dX12_puts_13 (ws' := (wd_R_puts E a_t a_t_images a_t_kept a_t_aside a_t_limbs a_t_wide a_t_hears a_t_spies a_t_known a_t_by a_t_ways a_t_fewest a_t_heavy a_t_sums a_t_faces a_t_bestFaces a_t_text a_t_verbs a_t_many a_t_nums a_t_book t_typed t_at t_start t_token t_value t_items (upd t_book p1.toNatClampNeg p2))) rfl (fun H locs hW => ?_)
  refine lv_iload_n hx hb dX12_puts_14 rfl (lv_at hl 0 rfl) ?_
  have hq := Option.some.inj hF
  subst hq
  exact hret _ _ _ _ hW dX12_puts_15
abbrev wd_R_isPlace (E : m_E)   : va_W := []
def rm_R_isPlace : Room := { frames := 1, cells := 0, slots := 0, locals := 25 }
set_option maxHeartbeats 4000000 in
set_option maxRecDepth 100000 in
theorem c_R_isPlace (l : Launch) (E : m_E) (sz N : Nat)   (p1 : Int32) (ures : Int32) (hF : F_R_isPlace p1 = ures) : m_Met l yX12_isPlace cX12_isPlace 1 (some .boolean) rm_R_isPlace E (wd_R_isPlace E) (wd_R_isPlace E) sz [.int p1] (some (.int ures)) := by
  refine m_ofZ (by decide) (Nat.le_of_ble_eq_true rfl) ?_
  intro p e s m args below meth c A Q ls X hW hA hl hret
  obtain ⟨hx, hb, -, hown, hts, hK, -, hG⟩ := id X
  have hl : lv_has ls 1 [(0, .int p1)] := hl
  unfold F_R_isPlace at hF
  refine lv_iload_n hx hb dX12_isPlace_0 rfl (lv_at hl 0 rfl) ?_
  refine lv_i2l (v := p1.toInt64) hx hb dX12_isPlace_1 rfl ?_
  refine lv_lconst (v := (0 : Int64)) hx hb dX12_isPlace_2 (by decide) ?_
  refine lv_ldc2 (v := (63 : Int64)) hx hb hown (hts _ wk_1222) dX12_isPlace_3 ?_
  refine m_callS X hW hA hl.1 lkX12_109 (c_R_in l E _ N   p1.toInt64 (0 : Int64) (63 : Int64) (F_R_in p1.toInt64 (0 : Int64) (63 : Int64)) rfl) ([]) (by decide) rfl rfl (ws' := (wd_R_isPlace E)) rfl (As := [.long p1.toInt64, .long (0 : Int64), .long (63 : Int64)]) (rest := []) rfl rfl ⟨rfl, rfl, Nat.le_of_ble_eq_true rfl, Nat.le_of_ble_eq_true rfl⟩ (Nat.le_of_ble_eq_true rfl) (Nat.zero_le _) (Nat.zero_le _) dX12_isPlace_6 (fun H locs hW => ?_)
  have hq := hF
  subst hq
  exact hret _ _ _ _ _ rfl hW dX12_isPlace_9
abbrev wd_R_isWeaver (E : m_E) (a_t : Nat) (a_t_images : Nat) (a_t_kept : Nat) (a_t_aside : Nat) (a_t_limbs : Nat) (a_t_wide : Nat) (a_t_hears : Nat) (a_t_spies : Nat) (a_t_known : Nat) (a_t_by : Nat) (a_t_ways : Nat) (a_t_fewest : Nat) (a_t_heavy : Nat) (a_t_sums : Nat) (a_t_faces : Nat) (a_t_bestFaces : Nat) (a_t_text : Nat) (a_t_verbs : Nat) (a_t_many : Nat) (a_t_nums : Nat) (a_t_book : Nat) (t_typed : Int32) (t_at : Int32) (t_start : Int32) (t_token : Int32) (t_value : Int32) (t_items : Int32) (t_book : Nat → Int32) : va_W := [(a_t, .inr (12, [.ref a_t_book, .ref a_t_images, .ref a_t_kept, .ref a_t_aside, .ref a_t_limbs, .ref a_t_wide, .ref a_t_hears, .ref a_t_spies, .ref a_t_known, .ref a_t_by, .ref a_t_ways, .ref a_t_fewest, .ref a_t_heavy, .ref a_t_sums, .ref a_t_faces, .ref a_t_bestFaces, .ref a_t_text, .int t_typed, .int t_at, .int t_start, .int t_token, .int t_value, .ref a_t_verbs, .ref a_t_many, .ref a_t_nums, .int t_items])), (a_t_book, .inl (E.2.1 0, 240, .inl t_book))]
def rm_R_isWeaver : Room := { frames := 1, cells := 0, slots := 0, locals := 25 }
set_option maxHeartbeats 4000000 in
set_option maxRecDepth 100000 in
theorem c_R_isWeaver (l : Launch) (E : m_E) (sz N : Nat) (a_t : Nat) (a_t_images : Nat) (a_t_kept : Nat) (a_t_aside : Nat) (a_t_limbs : Nat) (a_t_wide : Nat) (a_t_hears : Nat) (a_t_spies : Nat) (a_t_known : Nat) (a_t_by : Nat) (a_t_ways : Nat) (a_t_fewest : Nat) (a_t_heavy : Nat) (a_t_sums : Nat) (a_t_faces : Nat) (a_t_bestFaces : Nat) (a_t_text : Nat) (a_t_verbs : Nat) (a_t_many : Nat) (a_t_nums : Nat) (a_t_book : Nat) (t_typed : Int32) (t_at : Int32) (t_start : Int32) (t_token : Int32) (t_value : Int32) (t_items : Int32) (t_book : Nat → Int32) (p1 : Int32) (ures : Int32) (hF : F_R_isWeaver p1 t_book = ures) : m_Met l yX12_isWeaver cX12_isWeaver 2 (some .boolean) rm_R_isWeaver E (wd_R_isWeaver E a_t a_t_images a_t_kept a_t_aside a_t_limbs a_t_wide a_t_hears a_t_spies a_t_known a_t_by a_t_ways a_t_fewest a_t_heavy a_t_sums a_t_faces a_t_bestFaces a_t_text a_t_verbs a_t_many a_t_nums a_t_book t_typed t_at t_start t_token t_value t_items t_book) (wd_R_isWeaver E a_t a_t_images a_t_kept a_t_aside a_t_limbs a_t_wide a_t_hears a_t_spies a_t_known a_t_by a_t_ways a_t_fewest a_t_heavy a_t_sums a_t_faces a_t_bestFaces a_t_text a_t_verbs a_t_many a_t_nums a_t_book t_typed t_at t_start t_token t_value t_items t_book) sz [.ref a_t, .int p1] (some (.int ures)) := by
  refine m_ofZ (by decide) (Nat.le_of_ble_eq_true rfl) ?_
  intro p e s m args below meth c A Q ls X hW hA hl hret
  obtain ⟨hx, hb, -, hown, hts, hK, -, hG⟩ := id X
  have hl : lv_has ls 2 [(0, .ref a_t), (1, .int p1)] := hl
  unfold F_R_isWeaver at hF
  refine lv_iload_n hx hb dX12_isWeaver_0 rfl (lv_at hl 1 rfl) ?_
  refine lv_i2l (v := p1.toInt64) hx hb dX12_isWeaver_1 rfl ?_
  refine lv_lconst (v := (0 : Int64)) hx hb dX12_isWeaver_2 (by decide) ?_
  refine lv_aload_n hx hb dX12_isWeaver_3 rfl (lv_at hl 0 rfl) ?_
  refine m_get X hW fdX12_7 0 rfl rfl dX12_isWeaver_4 ?_
  refine lv_iconst (v := (1 : Int32)) hx hb dX12_isWeaver_7 (by decide) ?_
  refine m_iald X hW 1 (k := 1) rfl (by decide) rfl dX12_isWeaver_8 ?_
  refine lv_iconst (v := (1 : Int32)) hx hb dX12_isWeaver_9 (by decide) ?_
  refine lv_isub hx hb dX12_isWeaver_10 ?_
  refine lv_i2l (v := ((t_book 1) - (1 : Int32)).toInt64) hx hb dX12_isWeaver_11 rfl ?_
  refine m_callS X hW hA hl.1 lkX12_109 (c_R_in l E _ N   p1.toInt64 (0 : Int64) ((t_book 1) - (1 : Int32)).toInt64 (F_R_in p1.toInt64 (0 : Int64) ((t_book 1) - (1 : Int32)).toInt64) rfl) ([]) (by decide) rfl rfl (ws' := (wd_R_isWeaver E a_t a_t_images a_t_kept a_t_aside a_t_limbs a_t_wide a_t_hears a_t_spies a_t_known a_t_by a_t_ways a_t_fewest a_t_heavy a_t_sums a_t_faces a_t_bestFaces a_t_text a_t_verbs a_t_many a_t_nums a_t_book t_typed t_at t_start t_token t_value t_items t_book)) rfl (As := [.long p1.toInt64, .long (0 : Int64), .long ((t_book 1) - (1 : Int32)).toInt64]) (rest := []) rfl rfl ⟨rfl, rfl, Nat.le_of_ble_eq_true rfl, Nat.le_of_ble_eq_true rfl⟩ (Nat.le_of_ble_eq_true rfl) (Nat.zero_le _) (Nat.zero_le _) dX12_isWeaver_12 (fun H locs hW => ?_)
  have hq := hF
  subst hq
  exact hret _ _ _ _ _ rfl hW dX12_isWeaver_15
abbrev wd_R_placeOf (E : m_E) (a_t : Nat) (a_t_images : Nat) (a_t_kept : Nat) (a_t_aside : Nat) (a_t_limbs : Nat) (a_t_wide : Nat) (a_t_hears : Nat) (a_t_spies : Nat) (a_t_known : Nat) (a_t_by : Nat) (a_t_ways : Nat) (a_t_fewest : Nat) (a_t_heavy : Nat) (a_t_sums : Nat) (a_t_faces : Nat) (a_t_bestFaces : Nat) (a_t_text : Nat) (a_t_verbs : Nat) (a_t_many : Nat) (a_t_nums : Nat) (a_t_book : Nat) (t_typed : Int32) (t_at : Int32) (t_start : Int32) (t_token : Int32) (t_value : Int32) (t_items : Int32) (t_book : Nat → Int32) : va_W := [(a_t, .inr (12, [.ref a_t_book, .ref a_t_images, .ref a_t_kept, .ref a_t_aside, .ref a_t_limbs, .ref a_t_wide, .ref a_t_hears, .ref a_t_spies, .ref a_t_known, .ref a_t_by, .ref a_t_ways, .ref a_t_fewest, .ref a_t_heavy, .ref a_t_sums, .ref a_t_faces, .ref a_t_bestFaces, .ref a_t_text, .int t_typed, .int t_at, .int t_start, .int t_token, .int t_value, .ref a_t_verbs, .ref a_t_many, .ref a_t_nums, .int t_items])), (a_t_book, .inl (E.2.1 0, 240, .inl t_book))]
def rm_R_placeOf : Room := { frames := 0, cells := 0, slots := 0, locals := 0 }
set_option maxHeartbeats 4000000 in
set_option maxRecDepth 100000 in
theorem c_R_placeOf (l : Launch) (E : m_E) (sz N : Nat) (a_t : Nat) (a_t_images : Nat) (a_t_kept : Nat) (a_t_aside : Nat) (a_t_limbs : Nat) (a_t_wide : Nat) (a_t_hears : Nat) (a_t_spies : Nat) (a_t_known : Nat) (a_t_by : Nat) (a_t_ways : Nat) (a_t_fewest : Nat) (a_t_heavy : Nat) (a_t_sums : Nat) (a_t_faces : Nat) (a_t_bestFaces : Nat) (a_t_text : Nat) (a_t_verbs : Nat) (a_t_many : Nat) (a_t_nums : Nat) (a_t_book : Nat) (t_typed : Int32) (t_at : Int32) (t_start : Int32) (t_token : Int32) (t_value : Int32) (t_items : Int32) (t_book : Nat → Int32) (p1 : Int32) (ures : Int32) (hF : F_R_placeOf p1 t_book = some ures) : m_Met l yX12_placeOf cX12_placeOf 2 (some .int) rm_R_placeOf E (wd_R_placeOf E a_t a_t_images a_t_kept a_t_aside a_t_limbs a_t_wide a_t_hears a_t_spies a_t_known a_t_by a_t_ways a_t_fewest a_t_heavy a_t_sums a_t_faces a_t_bestFaces a_t_text a_t_verbs a_t_many a_t_nums a_t_book t_typed t_at t_start t_token t_value t_items t_book) (wd_R_placeOf E a_t a_t_images a_t_kept a_t_aside a_t_limbs a_t_wide a_t_hears a_t_spies a_t_known a_t_by a_t_ways a_t_fewest a_t_heavy a_t_sums a_t_faces a_t_bestFaces a_t_text a_t_verbs a_t_many a_t_nums a_t_book t_typed t_at t_start t_token t_value t_items t_book) sz [.ref a_t, .int p1] (some (.int ures)) := by
  refine m_ofI (by decide) (Nat.le_of_ble_eq_true rfl) ?_
  intro p e s m args below meth c A Q ls X hW hA hl hret
  obtain ⟨hx, hb, -, hown, hts, hK, -, hG⟩ := id X
  have hl : lv_has ls 2 [(0, .ref a_t), (1, .int p1)] := hl
  unfold F_R_placeOf at hF
  refine lv_aload_n hx hb dX12_placeOf_0 rfl (lv_at hl 0 rfl) ?_
  refine m_get X hW fdX12_7 0 rfl rfl dX12_placeOf_1 ?_
  refine lv_bipush (v := (80 : Int32)) hx hb dX12_placeOf_4 (by decide) ?_
  refine lv_iconst (v := (4 : Int32)) hx hb dX12_placeOf_6 (by decide) ?_
  refine lv_iload_n hx hb dX12_placeOf_7 rfl (lv_at hl 1 rfl) ?_
  refine lv_imul hx hb dX12_placeOf_8 ?_
  refine lv_iadd hx hb dX12_placeOf_9 ?_
  obtain ⟨g1, hF⟩ := gd_some hF
  refine m_iald X hW 1 (k := ((80 : Int32) + ((4 : Int32) * p1)).toNatClampNeg) rfl g1 rfl dX12_placeOf_10 ?_
  have hq := Option.some.inj hF
  subst hq
  exact hret _ _ _ _ hW dX12_placeOf_11
abbrev wd_R_faceOf (E : m_E) (a_t : Nat) (a_t_images : Nat) (a_t_kept : Nat) (a_t_aside : Nat) (a_t_limbs : Nat) (a_t_wide : Nat) (a_t_hears : Nat) (a_t_spies : Nat) (a_t_known : Nat) (a_t_by : Nat) (a_t_ways : Nat) (a_t_fewest : Nat) (a_t_heavy : Nat) (a_t_sums : Nat) (a_t_faces : Nat) (a_t_bestFaces : Nat) (a_t_text : Nat) (a_t_verbs : Nat) (a_t_many : Nat) (a_t_nums : Nat) (a_t_book : Nat) (t_typed : Int32) (t_at : Int32) (t_start : Int32) (t_token : Int32) (t_value : Int32) (t_items : Int32) (t_book : Nat → Int32) : va_W := [(a_t, .inr (12, [.ref a_t_book, .ref a_t_images, .ref a_t_kept, .ref a_t_aside, .ref a_t_limbs, .ref a_t_wide, .ref a_t_hears, .ref a_t_spies, .ref a_t_known, .ref a_t_by, .ref a_t_ways, .ref a_t_fewest, .ref a_t_heavy, .ref a_t_sums, .ref a_t_faces, .ref a_t_bestFaces, .ref a_t_text, .int t_typed, .int t_at, .int t_start, .int t_token, .int t_value, .ref a_t_verbs, .ref a_t_many, .ref a_t_nums, .int t_items])), (a_t_book, .inl (E.2.1 0, 240, .inl t_book))]
def rm_R_faceOf : Room := { frames := 0, cells := 0, slots := 0, locals := 0 }
set_option maxHeartbeats 4000000 in
set_option maxRecDepth 100000 in
theorem c_R_faceOf (l : Launch) (E : m_E) (sz N : Nat) (a_t : Nat) (a_t_images : Nat) (a_t_kept : Nat) (a_t_aside : Nat) (a_t_limbs : Nat) (a_t_wide : Nat) (a_t_hears : Nat) (a_t_spies : Nat) (a_t_known : Nat) (a_t_by : Nat) (a_t_ways : Nat) (a_t_fewest : Nat) (a_t_heavy : Nat) (a_t_sums : Nat) (a_t_faces : Nat) (a_t_bestFaces : Nat) (a_t_text : Nat) (a_t_verbs : Nat) (a_t_many : Nat) (a_t_nums : Nat) (a_t_book : Nat) (t_typed : Int32) (t_at : Int32) (t_start : Int32) (t_token : Int32) (t_value : Int32) (t_items : Int32) (t_book : Nat → Int32) (p1 : Int32) (ures : Int32) (hF : F_R_faceOf p1 t_book = some ures) : m_Met l yX12_faceOf cX12_faceOf 2 (some .int) rm_R_faceOf E (wd_R_faceOf E a_t a_t_images a_t_kept a_t_aside a_t_limbs a_t_wide a_t_hears a_t_spies a_t_known a_t_by a_t_ways a_t_fewest a_t_heavy a_t_sums a_t_faces a_t_bestFaces a_t_text a_t_verbs a_t_many a_t_nums a_t_book t_typed t_at t_start t_token t_value t_items t_book) (wd_R_faceOf E a_t a_t_images a_t_kept a_t_aside a_t_limbs a_t_wide a_t_hears a_t_spies a_t_known a_t_by a_t_ways a_t_fewest a_t_heavy a_t_sums a_t_faces a_t_bestFaces a_t_text a_t_verbs a_t_many a_t_nums a_t_book t_typed t_at t_start t_token t_value t_items t_book) sz [.ref a_t, .int p1] (some (.int ures)) := by
  refine m_ofI (by decide) (Nat.le_of_ble_eq_true rfl) ?_
  intro p e s m args below meth c A Q ls X hW hA hl hret
  obtain ⟨hx, hb, -, hown, hts, hK, -, hG⟩ := id X
  have hl : lv_has ls 2 [(0, .ref a_t), (1, .int p1)] := hl
  unfold F_R_faceOf at hF
  refine lv_aload_n hx hb dX12_faceOf_0 rfl (lv_at hl 0 rfl) ?_
  refine m_get X hW fdX12_7 0 rfl rfl dX12_faceOf_1 ?_
  refine lv_bipush (v := (80 : Int32)) hx hb dX12_faceOf_4 (by decide) ?_
  refine lv_iconst (v := (4 : Int32)) hx hb dX12_faceOf_6 (by decide) ?_
  refine lv_iload_n hx hb dX12_faceOf_7 rfl (lv_at hl 1 rfl) ?_
  refine lv_imul hx hb dX12_faceOf_8 ?_
  refine lv_iadd hx hb dX12_faceOf_9 ?_
  refine lv_iconst (v := (1 : Int32)) hx hb dX12_faceOf_10 (by decide) ?_
  refine lv_iadd hx hb dX12_faceOf_11 ?_
  obtain ⟨g1, hF⟩ := gd_some hF
  refine m_iald X hW 1 (k := (((80 : Int32) + ((4 : Int32) * p1)) + (1 : Int32)).toNatClampNeg) rfl g1 rfl dX12_faceOf_12 ?_
  have hq := Option.some.inj hF
  subst hq
  exact hret _ _ _ _ hW dX12_faceOf_13
abbrev wd_R_stands (E : m_E) (a_t : Nat) (a_t_images : Nat) (a_t_kept : Nat) (a_t_aside : Nat) (a_t_limbs : Nat) (a_t_wide : Nat) (a_t_hears : Nat) (a_t_spies : Nat) (a_t_known : Nat) (a_t_by : Nat) (a_t_ways : Nat) (a_t_fewest : Nat) (a_t_heavy : Nat) (a_t_sums : Nat) (a_t_faces : Nat) (a_t_bestFaces : Nat) (a_t_text : Nat) (a_t_verbs : Nat) (a_t_many : Nat) (a_t_nums : Nat) (a_t_book : Nat) (t_typed : Int32) (t_at : Int32) (t_start : Int32) (t_token : Int32) (t_value : Int32) (t_items : Int32) (t_book : Nat → Int32) : va_W := [(a_t, .inr (12, [.ref a_t_book, .ref a_t_images, .ref a_t_kept, .ref a_t_aside, .ref a_t_limbs, .ref a_t_wide, .ref a_t_hears, .ref a_t_spies, .ref a_t_known, .ref a_t_by, .ref a_t_ways, .ref a_t_fewest, .ref a_t_heavy, .ref a_t_sums, .ref a_t_faces, .ref a_t_bestFaces, .ref a_t_text, .int t_typed, .int t_at, .int t_start, .int t_token, .int t_value, .ref a_t_verbs, .ref a_t_many, .ref a_t_nums, .int t_items])), (a_t_book, .inl (E.2.1 0, 240, .inl t_book))]
def rm_R_stands : Room := { frames := 1, cells := 0, slots := 0, locals := 21 }
set_option maxHeartbeats 4000000 in
set_option maxRecDepth 100000 in
theorem c_R_stands (l : Launch) (E : m_E) (sz N : Nat) (a_t : Nat) (a_t_images : Nat) (a_t_kept : Nat) (a_t_aside : Nat) (a_t_limbs : Nat) (a_t_wide : Nat) (a_t_hears : Nat) (a_t_spies : Nat) (a_t_known : Nat) (a_t_by : Nat) (a_t_ways : Nat) (a_t_fewest : Nat) (a_t_heavy : Nat) (a_t_sums : Nat) (a_t_faces : Nat) (a_t_bestFaces : Nat) (a_t_text : Nat) (a_t_verbs : Nat) (a_t_many : Nat) (a_t_nums : Nat) (a_t_book : Nat) (t_typed : Int32) (t_at : Int32) (t_start : Int32) (t_token : Int32) (t_value : Int32) (t_items : Int32) (t_book : Nat → Int32) (p1 : Int32) (ures : Int32) (hF : F_R_stands N p1 t_book = some ures) : m_Met l yX12_stands cX12_stands 4 (some .boolean) rm_R_stands E (wd_R_stands E a_t a_t_images a_t_kept a_t_aside a_t_limbs a_t_wide a_t_hears a_t_spies a_t_known a_t_by a_t_ways a_t_fewest a_t_heavy a_t_sums a_t_faces a_t_bestFaces a_t_text a_t_verbs a_t_many a_t_nums a_t_book t_typed t_at t_start t_token t_value t_items t_book) (wd_R_stands E a_t a_t_images a_t_kept a_t_aside a_t_limbs a_t_wide a_t_hears a_t_spies a_t_known a_t_by a_t_ways a_t_fewest a_t_heavy a_t_sums a_t_faces a_t_bestFaces a_t_text a_t_verbs a_t_many a_t_nums a_t_book t_typed t_at t_start t_token t_value t_items t_book) sz [.ref a_t, .int p1] (some (.int ures)) := by
  refine m_ofZ (by decide) (Nat.le_of_ble_eq_true rfl) ?_
  intro p e s m args below meth c A Q ls X hW hA hl hret
  obtain ⟨hx, hb, -, hown, hts, hK, -, hG⟩ := id X
  have hl : lv_has ls 4 [(0, .ref a_t), (1, .int p1)] := hl
  unfold F_R_stands at hF
  refine lv_iconst (v := (0 : Int32)) hx hb dX12_stands_0 (by decide) ?_
  refine lv_istore_n (lv' := [(2, .int (0 : Int32)), (0, .ref a_t), (1, .int p1)]) hx hb dX12_stands_1 rfl hl (by decide) rfl (fun ls hl => ?_)
  refine lv_iconst (v := (0 : Int32)) hx hb dX12_stands_2 (by decide) ?_
  refine lv_istore_n (lv' := [(3, .int (0 : Int32)), (2, .int (0 : Int32)), (0, .ref a_t), (1, .int p1)]) hx hb dX12_stands_3 rfl hl (by decide) rfl (fun ls hl => ?_)
  obtain ⟨x2_2, hX2, hF⟩ := bO_s1 hF
  have L1 : ∀ (k0 : Nat) (x2 : Int32) (x3 : Int32) (x2_2 : Int32) (H : Heap) (locs : List Loc) (ls : Array Slot), R_stands_L4 t_book p1 k0 x2 x3 = some x2_2 → m_H E A (wd_R_stands E a_t a_t_images a_t_kept a_t_aside a_t_limbs a_t_wide a_t_hears a_t_spies a_t_known a_t_by a_t_ways a_t_fewest a_t_heavy a_t_sums a_t_faces a_t_bestFaces a_t_text a_t_verbs a_t_many a_t_nums a_t_book t_typed t_at t_start t_token t_value t_items t_book) s.heap H locs → lv_has ls 4 [(3, .int x3), (2, .int x2), (0, .ref a_t), (1, .int p1)] → (∀ (H : Heap) (locs : List Loc) (ls : Array Slot), m_H E A (wd_R_stands E a_t a_t_images a_t_kept a_t_aside a_t_limbs a_t_wide a_t_hears a_t_spies a_t_known a_t_by a_t_ways a_t_fewest a_t_heavy a_t_sums a_t_faces a_t_bestFaces a_t_text a_t_verbs a_t_many a_t_nums a_t_book t_typed t_at t_start t_token t_value t_items t_book) s.heap H locs → lv_has ls 4 [(2, .int x2_2)] → W p l e rm_R_stands s m args below meth c H locs 0 0 Q (F0 m 39 ls [])) → W p l e rm_R_stands s m args below meth c H locs 0 0 Q (F0 m 4 ls []) := by
    clear hF
    intro k0
    induction k0 with
    | zero =>
      intro x2 x3 x2_2 H locs ls hF
      cases hF
    | succ k0 ih4 =>
      intro x2 x3 x2_2 H locs ls hF hW hl hk3
      rw [R_stands_L4] at hF
      refine lv_iload_n hx hb dX12_stands_4 rfl (lv_at hl 0 rfl) ?_
      refine lv_aload_n hx hb dX12_stands_5 rfl (lv_at hl 2 rfl) ?_
      refine m_get X hW fdX12_7 0 rfl rfl dX12_stands_6 ?_
      refine lv_iconst (v := (1 : Int32)) hx hb dX12_stands_9 (by decide) ?_
      refine m_iald X hW 1 (k := 1) rfl (by decide) rfl dX12_stands_10 ?_
      refine lv_icmp_ge (tgt := 39) hx hb dX12_stands_11 (by decide) (fun c5 => ?_) (fun c5 => ?_)
      · have hF := if_y c5 hF
        cases hF
        exact hk3 _ _ _ hW (lv_sub hl [1] rfl)
      · have hF := if_n c5 hF
        refine lv_iload_n hx hb dX12_stands_14 rfl (lv_at hl 1 rfl) ?_
        refine lv_if_ne (tgt := 27) hx hb dX12_stands_15 (by decide) (fun c6 => ?_) (fun c6 => ?_)
        · have hF := if_n c6 hF
          refine lv_iconst (v := (1 : Int32)) hx hb dX12_stands_27 (by decide) ?_
          refine lv_goto (tgt := 32) hx hb dX12_stands_28 (by decide) ?_
          refine lv_istore_n (lv' := [(2, .int (1 : Int32)), (3, .int x3), (0, .ref a_t), (1, .int p1)]) hx hb dX12_stands_32 rfl hl (by decide) rfl (fun ls hl => ?_)
          refine lv_iinc (v := (x3 + (1 : Int32))) (lv' := [(3, .int (x3 + (1 : Int32))), (2, .int (1 : Int32)), (0, .ref a_t), (1, .int p1)]) hx hb dX12_stands_33 hl (k := 1) rfl rfl (by decide) rfl (fun ls hl => ?_)
          refine lv_goto (tgt := 4) hx hb dX12_stands_36 (by decide) ?_
          exact ih4 (1 : Int32) (x3 + (1 : Int32)) x2_2 _ _ _ hF hW (lv_sub hl [0, 1, 2, 3] rfl) hk3
        · have hF := if_y c6 hF
          refine lv_aload_n hx hb dX12_stands_18 rfl (lv_at hl 2 rfl) ?_
          refine lv_iload_n hx hb dX12_stands_19 rfl (lv_at hl 0 rfl) ?_
          obtain ⟨r20, hC7, hF⟩ := bO_s1 hF
          refine m_callV X hW hA hl.1 lkX12_115 (c_R_placeOf l E _ N a_t a_t_images a_t_kept a_t_aside a_t_limbs a_t_wide a_t_hears a_t_spies a_t_known a_t_by a_t_ways a_t_fewest a_t_heavy a_t_sums a_t_faces a_t_bestFaces a_t_text a_t_verbs a_t_many a_t_nums a_t_book t_typed t_at t_start t_token t_value t_items t_book x3 r20 hC7) ([0, 1]) (by decide) rfl rfl (ws' := (wd_R_stands E a_t a_t_images a_t_kept a_t_aside a_t_limbs a_t_wide a_t_hears a_t_spies a_t_known a_t_by a_t_ways a_t_fewest a_t_heavy a_t_sums a_t_faces a_t_bestFaces a_t_text a_t_verbs a_t_many a_t_nums a_t_book t_typed t_at t_start t_token t_value t_items t_book)) rfl 0 rfl rfl rfl (As := [.int x3]) (rest := []) rfl rfl ⟨rfl, rfl, Nat.le_of_ble_eq_true rfl, Nat.le_of_ble_eq_true rfl⟩ (Nat.le_of_ble_eq_true rfl) (Nat.zero_le _) (Nat.zero_le _) dX12_stands_20 (fun H locs hW => ?_)
          clear hC7
          refine lv_iload_n hx hb dX12_stands_23 rfl (lv_at hl 3 rfl) ?_
          refine lv_icmp_ne (tgt := 31) hx hb dX12_stands_24 (by decide) (fun c8 => ?_) (fun c8 => ?_)
          · have hF := if_n c8 hF
            refine lv_iconst (v := (0 : Int32)) hx hb dX12_stands_31 (by decide) ?_
            refine lv_istore_n (lv' := [(2, .int (0 : Int32)), (3, .int x3), (0, .ref a_t), (1, .int p1)]) hx hb dX12_stands_32 rfl hl (by decide) rfl (fun ls hl => ?_)
            refine lv_iinc (v := (x3 + (1 : Int32))) (lv' := [(3, .int (x3 + (1 : Int32))), (2, .int (0 : Int32)), (0, .ref a_t), (1, .int p1)]) hx hb dX12_stands_33 hl (k := 1) rfl rfl (by decide) rfl (fun ls hl => ?_)
            refine lv_goto (tgt := 4) hx hb dX12_stands_36 (by decide) ?_
            exact ih4 (0 : Int32) (x3 + (1 : Int32)) x2_2 _ _ _ hF hW (lv_sub hl [0, 1, 2, 3] rfl) hk3
          · have hF := if_y c8 hF
            refine lv_iconst (v := (1 : Int32)) hx hb dX12_stands_27 (by decide) ?_
            refine lv_goto (tgt := 32) hx hb dX12_stands_28 (by decide) ?_
            refine lv_istore_n (lv' := [(2, .int (1 : Int32)), (3, .int x3), (0, .ref a_t), (1, .int p1)]) hx hb dX12_stands_32 rfl hl (by decide) rfl (fun ls hl => ?_)
            refine lv_iinc (v := (x3 + (1 : Int32))) (lv' := [(3, .int (x3 + (1 : Int32))), (2, .int (1 : Int32)), (0, .ref a_t), (1, .int p1)]) hx hb dX12_stands_33 hl (k := 1) rfl rfl (by decide) rfl (fun ls hl => ?_)
            refine lv_goto (tgt := 4) hx hb dX12_stands_36 (by decide) ?_
            exact ih4 (1 : Int32) (x3 + (1 : Int32)) x2_2 _ _ _ hF hW (lv_sub hl [0, 1, 2, 3] rfl) hk3
  refine L1 N (0 : Int32) (0 : Int32) x2_2 _ _ _ hX2 hW (lv_sub hl [0, 1, 2, 3] rfl) ?_
  intro H locs ls hW hl
  clear L1
  refine lv_iload_n hx hb dX12_stands_39 rfl (lv_at hl 0 rfl) ?_
  have hq := Option.some.inj hF
  subst hq
  exact hret _ _ _ _ _ rfl hW dX12_stands_40
abbrev wd_R_pillar (E : m_E) (a_t : Nat) (a_t_images : Nat) (a_t_kept : Nat) (a_t_aside : Nat) (a_t_limbs : Nat) (a_t_wide : Nat) (a_t_hears : Nat) (a_t_spies : Nat) (a_t_known : Nat) (a_t_by : Nat) (a_t_ways : Nat) (a_t_fewest : Nat) (a_t_heavy : Nat) (a_t_sums : Nat) (a_t_faces : Nat) (a_t_bestFaces : Nat) (a_t_text : Nat) (a_t_verbs : Nat) (a_t_many : Nat) (a_t_nums : Nat) (a_t_book : Nat) (t_typed : Int32) (t_at : Int32) (t_start : Int32) (t_token : Int32) (t_value : Int32) (t_items : Int32) (t_book : Nat → Int32) : va_W := [(a_t, .inr (12, [.ref a_t_book, .ref a_t_images, .ref a_t_kept, .ref a_t_aside, .ref a_t_limbs, .ref a_t_wide, .ref a_t_hears, .ref a_t_spies, .ref a_t_known, .ref a_t_by, .ref a_t_ways, .ref a_t_fewest, .ref a_t_heavy, .ref a_t_sums, .ref a_t_faces, .ref a_t_bestFaces, .ref a_t_text, .int t_typed, .int t_at, .int t_start, .int t_token, .int t_value, .ref a_t_verbs, .ref a_t_many, .ref a_t_nums, .int t_items])), (a_t_book, .inl (E.2.1 0, 240, .inl t_book))]
def rm_R_pillar : Room := { frames := 2, cells := 0, slots := 0, locals := 45 }
set_option maxHeartbeats 4000000 in
set_option maxRecDepth 100000 in
theorem c_R_pillar (l : Launch) (E : m_E) (sz N : Nat) (a_t : Nat) (a_t_images : Nat) (a_t_kept : Nat) (a_t_aside : Nat) (a_t_limbs : Nat) (a_t_wide : Nat) (a_t_hears : Nat) (a_t_spies : Nat) (a_t_known : Nat) (a_t_by : Nat) (a_t_ways : Nat) (a_t_fewest : Nat) (a_t_heavy : Nat) (a_t_sums : Nat) (a_t_faces : Nat) (a_t_bestFaces : Nat) (a_t_text : Nat) (a_t_verbs : Nat) (a_t_many : Nat) (a_t_nums : Nat) (a_t_book : Nat) (t_typed : Int32) (t_at : Int32) (t_start : Int32) (t_token : Int32) (t_value : Int32) (t_items : Int32) (t_book : Nat → Int32) (p1 : Int32) (ures : Int32 × (Nat → Int32)) (hF : F_R_pillar N p1 t_book = some ures) : m_Met l yX12_pillar cX12_pillar 2 (some .int) rm_R_pillar E (wd_R_pillar E a_t a_t_images a_t_kept a_t_aside a_t_limbs a_t_wide a_t_hears a_t_spies a_t_known a_t_by a_t_ways a_t_fewest a_t_heavy a_t_sums a_t_faces a_t_bestFaces a_t_text a_t_verbs a_t_many a_t_nums a_t_book t_typed t_at t_start t_token t_value t_items t_book) (wd_R_pillar E a_t a_t_images a_t_kept a_t_aside a_t_limbs a_t_wide a_t_hears a_t_spies a_t_known a_t_by a_t_ways a_t_fewest a_t_heavy a_t_sums a_t_faces a_t_bestFaces a_t_text a_t_verbs a_t_many a_t_nums a_t_book t_typed t_at t_start t_token t_value t_items ures.2) sz [.ref a_t, .int p1] (some (.int ures.1)) := by
  refine m_ofI (by decide) (Nat.le_of_ble_eq_true rfl) ?_
  intro p e s m args below meth c A Q ls X hW hA hl hret
  obtain ⟨hx, hb, -, hown, hts, hK, -, hG⟩ := id X
  have hl : lv_has ls 2 [(0, .ref a_t), (1, .int p1)] := hl
  unfold F_R_pillar at hF
  refine lv_iload_n hx hb dX12_pillar_0 rfl (lv_at hl 1 rfl) ?_
  refine m_callS X hW hA hl.1 lkX12_119 (c_R_isPlace l E _ N   p1 (F_R_isPlace p1) rfl) ([]) (by decide) rfl rfl (ws' := (wd_R_pillar E a_t a_t_images a_t_kept a_t_aside a_t_limbs a_t_wide a_t_hears a_t_spies a_t_known a_t_by a_t_ways a_t_fewest a_t_heavy a_t_sums a_t_faces a_t_bestFaces a_t_text a_t_verbs a_t_many a_t_nums a_t_book t_typed t_at t_start t_token t_value t_items t_book)) rfl (As := [.int p1]) (rest := []) rfl rfl ⟨rfl, rfl, Nat.le_of_ble_eq_true rfl, Nat.le_of_ble_eq_true rfl⟩ (Nat.le_of_ble_eq_true rfl) (Nat.zero_le _) (Nat.zero_le _) dX12_pillar_1 (fun H locs hW => ?_)
  refine lv_if_eq (tgt := 15) hx hb dX12_pillar_4 (by decide) (fun c1 => ?_) (fun c1 => ?_)
  · have hF := if_y c1 hF
    refine lv_bipush (v := (-2 : Int32)) hx hb dX12_pillar_15 (by decide) ?_
    have hq := Option.some.inj hF
    subst hq
    exact hret _ _ _ _ hW dX12_pillar_17
  · have hF := if_n c1 hF
    refine lv_aload_n hx hb dX12_pillar_7 rfl (lv_at hl 0 rfl) ?_
    refine lv_iload_n hx hb dX12_pillar_8 rfl (lv_at hl 1 rfl) ?_
    obtain ⟨r9, hC2, hF⟩ := bO_s1 hF
    refine m_callV X hW hA hl.1 lkX12_122 (c_R_stands l E _ N a_t a_t_images a_t_kept a_t_aside a_t_limbs a_t_wide a_t_hears a_t_spies a_t_known a_t_by a_t_ways a_t_fewest a_t_heavy a_t_sums a_t_faces a_t_bestFaces a_t_text a_t_verbs a_t_many a_t_nums a_t_book t_typed t_at t_start t_token t_value t_items t_book p1 r9 hC2) ([0, 1]) (by decide) rfl rfl (ws' := (wd_R_pillar E a_t a_t_images a_t_kept a_t_aside a_t_limbs a_t_wide a_t_hears a_t_spies a_t_known a_t_by a_t_ways a_t_fewest a_t_heavy a_t_sums a_t_faces a_t_bestFaces a_t_text a_t_verbs a_t_many a_t_nums a_t_book t_typed t_at t_start t_token t_value t_items t_book)) rfl 0 rfl rfl rfl (As := [.int p1]) (rest := []) rfl rfl ⟨rfl, rfl, Nat.le_of_ble_eq_true rfl, Nat.le_of_ble_eq_true rfl⟩ (Nat.le_of_ble_eq_true rfl) (Nat.zero_le _) (Nat.zero_le _) dX12_pillar_9 (fun H locs hW => ?_)
    clear hC2
    refine lv_if_eq (tgt := 18) hx hb dX12_pillar_12 (by decide) (fun c3 => ?_) (fun c3 => ?_)
    · have hF := if_y c3 hF
      refine lv_aload_n hx hb dX12_pillar_18 rfl (lv_at hl 0 rfl) ?_
      refine m_get X hW fdX12_7 0 rfl rfl dX12_pillar_19 ?_
      refine lv_bipush (v := (10 : Int32)) hx hb dX12_pillar_22 (by decide) ?_
      refine lv_iload_n hx hb dX12_pillar_24 rfl (lv_at hl 1 rfl) ?_
      refine lv_iadd hx hb dX12_pillar_25 ?_
      obtain ⟨g4, hF⟩ := gd_some hF
      refine m_iald X hW 1 (k := ((10 : Int32) + p1).toNatClampNeg) rfl g4 rfl dX12_pillar_26 ?_
      refine lv_iconst (v := (1 : Int32)) hx hb dX12_pillar_27 (by decide) ?_
      refine lv_icmp_ne (tgt := 34) hx hb dX12_pillar_28 (by decide) (fun c5 => ?_) (fun c5 => ?_)
      · have hF := if_n c5 hF
        refine lv_aload_n hx hb dX12_pillar_34 rfl (lv_at hl 0 rfl) ?_
        refine m_get X hW fdX12_7 0 rfl rfl dX12_pillar_35 ?_
        refine lv_bipush (v := (10 : Int32)) hx hb dX12_pillar_38 (by decide) ?_
        refine lv_iload_n hx hb dX12_pillar_40 rfl (lv_at hl 1 rfl) ?_
        refine lv_iadd hx hb dX12_pillar_41 ?_
        refine lv_iconst (v := (1 : Int32)) hx hb dX12_pillar_42 (by decide) ?_
        refine m_iast X hW 1 (k := ((10 : Int32) + p1).toNatClampNeg) rfl g4 rfl dX12_pillar_43 (ws' := (wd_R_pillar E a_t a_t_images a_t_kept a_t_aside a_t_limbs a_t_wide a_t_hears a_t_spies a_t_known a_t_by a_t_ways a_t_fewest a_t_heavy a_t_sums a_t_faces a_t_bestFaces a_t_text a_t_verbs a_t_many a_t_nums a_t_book t_typed t_at t_start t_token t_value t_items (upd t_book ((10 : Int32) + p1).toNatClampNeg (1 : Int32)))) rfl (fun H locs hW => ?_)
        refine lv_aload_n hx hb dX12_pillar_44 rfl (lv_at hl 0 rfl) ?_
        refine m_get X hW fdX12_7 0 rfl rfl dX12_pillar_45 ?_
        refine lv_iconst (v := (0 : Int32)) hx hb dX12_pillar_48 (by decide) ?_
        refine lv_dup2_11 hx hb dX12_pillar_49 rfl rfl ?_
        refine m_iald X hW 1 (k := 0) rfl (by decide) rfl dX12_pillar_50 ?_
        refine lv_iconst (v := (1 : Int32)) hx hb dX12_pillar_51 (by decide) ?_
        refine lv_iadd hx hb dX12_pillar_52 ?_
        refine m_iast X hW 1 (k := 0) rfl (by decide) rfl dX12_pillar_53 (ws' := (wd_R_pillar E a_t a_t_images a_t_kept a_t_aside a_t_limbs a_t_wide a_t_hears a_t_spies a_t_known a_t_by a_t_ways a_t_fewest a_t_heavy a_t_sums a_t_faces a_t_bestFaces a_t_text a_t_verbs a_t_many a_t_nums a_t_book t_typed t_at t_start t_token t_value t_items (upd (upd t_book ((10 : Int32) + p1).toNatClampNeg (1 : Int32)) 0 (((upd t_book ((10 : Int32) + p1).toNatClampNeg (1 : Int32)) 0) + (1 : Int32))))) rfl (fun H locs hW => ?_)
        refine lv_iconst (v := (1 : Int32)) hx hb dX12_pillar_54 (by decide) ?_
        have hq := Option.some.inj hF
        subst hq
        exact hret _ _ _ _ hW dX12_pillar_55
      · have hF := if_y c5 hF
        refine lv_bipush (v := (-3 : Int32)) hx hb dX12_pillar_31 (by decide) ?_
        have hq := Option.some.inj hF
        subst hq
        exact hret _ _ _ _ hW dX12_pillar_33
    · have hF := if_n c3 hF
      refine lv_bipush (v := (-2 : Int32)) hx hb dX12_pillar_15 (by decide) ?_
      have hq := Option.some.inj hF
      subst hq
      exact hret _ _ _ _ hW dX12_pillar_17
abbrev wd_R_weaver (E : m_E) (a_t : Nat) (a_t_images : Nat) (a_t_kept : Nat) (a_t_aside : Nat) (a_t_limbs : Nat) (a_t_wide : Nat) (a_t_hears : Nat) (a_t_spies : Nat) (a_t_known : Nat) (a_t_by : Nat) (a_t_ways : Nat) (a_t_fewest : Nat) (a_t_heavy : Nat) (a_t_sums : Nat) (a_t_faces : Nat) (a_t_bestFaces : Nat) (a_t_text : Nat) (a_t_verbs : Nat) (a_t_many : Nat) (a_t_nums : Nat) (a_t_book : Nat) (t_typed : Int32) (t_at : Int32) (t_start : Int32) (t_token : Int32) (t_value : Int32) (t_items : Int32) (t_book : Nat → Int32) : va_W := [(a_t, .inr (12, [.ref a_t_book, .ref a_t_images, .ref a_t_kept, .ref a_t_aside, .ref a_t_limbs, .ref a_t_wide, .ref a_t_hears, .ref a_t_spies, .ref a_t_known, .ref a_t_by, .ref a_t_ways, .ref a_t_fewest, .ref a_t_heavy, .ref a_t_sums, .ref a_t_faces, .ref a_t_bestFaces, .ref a_t_text, .int t_typed, .int t_at, .int t_start, .int t_token, .int t_value, .ref a_t_verbs, .ref a_t_many, .ref a_t_nums, .int t_items])), (a_t_book, .inl (E.2.1 0, 240, .inl t_book))]
def rm_R_weaver : Room := { frames := 2, cells := 0, slots := 0, locals := 45 }
set_option maxHeartbeats 4000000 in
set_option maxRecDepth 100000 in
theorem c_R_weaver (l : Launch) (E : m_E) (sz N : Nat) (a_t : Nat) (a_t_images : Nat) (a_t_kept : Nat) (a_t_aside : Nat) (a_t_limbs : Nat) (a_t_wide : Nat) (a_t_hears : Nat) (a_t_spies : Nat) (a_t_known : Nat) (a_t_by : Nat) (a_t_ways : Nat) (a_t_fewest : Nat) (a_t_heavy : Nat) (a_t_sums : Nat) (a_t_faces : Nat) (a_t_bestFaces : Nat) (a_t_text : Nat) (a_t_verbs : Nat) (a_t_many : Nat) (a_t_nums : Nat) (a_t_book : Nat) (t_typed : Int32) (t_at : Int32) (t_start : Int32) (t_token : Int32) (t_value : Int32) (t_items : Int32) (t_book : Nat → Int32) (p1 : Int32) (p2 : Int32) (ures : Int32 × (Nat → Int32)) (hF : F_R_weaver N p1 p2 t_book = some ures) : m_Met l yX12_weaver cX12_weaver 4 (some .int) rm_R_weaver E (wd_R_weaver E a_t a_t_images a_t_kept a_t_aside a_t_limbs a_t_wide a_t_hears a_t_spies a_t_known a_t_by a_t_ways a_t_fewest a_t_heavy a_t_sums a_t_faces a_t_bestFaces a_t_text a_t_verbs a_t_many a_t_nums a_t_book t_typed t_at t_start t_token t_value t_items t_book) (wd_R_weaver E a_t a_t_images a_t_kept a_t_aside a_t_limbs a_t_wide a_t_hears a_t_spies a_t_known a_t_by a_t_ways a_t_fewest a_t_heavy a_t_sums a_t_faces a_t_bestFaces a_t_text a_t_verbs a_t_many a_t_nums a_t_book t_typed t_at t_start t_token t_value t_items ures.2) sz [.ref a_t, .int p1, .int p2] (some (.int ures.1)) := by
  refine m_ofI (by decide) (Nat.le_of_ble_eq_true rfl) ?_
  intro p e s m args below meth c A Q ls X hW hA hl hret
  obtain ⟨hx, hb, -, hown, hts, hK, -, hG⟩ := id X
  have hl : lv_has ls 4 [(0, .ref a_t), (1, .int p1), (2, .int p2)] := hl
  unfold F_R_weaver at hF
  refine lv_iload_n hx hb dX12_weaver_0 rfl (lv_at hl 1 rfl) ?_
  refine m_callS X hW hA hl.1 lkX12_119 (c_R_isPlace l E _ N   p1 (F_R_isPlace p1) rfl) ([]) (by decide) rfl rfl (ws' := (wd_R_weaver E a_t a_t_images a_t_kept a_t_aside a_t_limbs a_t_wide a_t_hears a_t_spies a_t_known a_t_by a_t_ways a_t_fewest a_t_heavy a_t_sums a_t_faces a_t_bestFaces a_t_text a_t_verbs a_t_many a_t_nums a_t_book t_typed t_at t_start t_token t_value t_items t_book)) rfl (As := [.int p1]) (rest := []) rfl rfl ⟨rfl, rfl, Nat.le_of_ble_eq_true rfl, Nat.le_of_ble_eq_true rfl⟩ (Nat.le_of_ble_eq_true rfl) (Nat.zero_le _) (Nat.zero_le _) dX12_weaver_1 (fun H locs hW => ?_)
  refine lv_if_eq (tgt := 40) hx hb dX12_weaver_4 (by decide) (fun c1 => ?_) (fun c1 => ?_)
  · have hF := if_y c1 hF
    refine lv_bipush (v := (-2 : Int32)) hx hb dX12_weaver_40 (by decide) ?_
    have hq := Option.some.inj hF
    subst hq
    exact hret _ _ _ _ hW dX12_weaver_42
  · have hF := if_n c1 hF
    refine lv_aload_n hx hb dX12_weaver_7 rfl (lv_at hl 0 rfl) ?_
    refine lv_iload_n hx hb dX12_weaver_8 rfl (lv_at hl 1 rfl) ?_
    obtain ⟨r9, hC2, hF⟩ := bO_s1 hF
    refine m_callV X hW hA hl.1 lkX12_122 (c_R_stands l E _ N a_t a_t_images a_t_kept a_t_aside a_t_limbs a_t_wide a_t_hears a_t_spies a_t_known a_t_by a_t_ways a_t_fewest a_t_heavy a_t_sums a_t_faces a_t_bestFaces a_t_text a_t_verbs a_t_many a_t_nums a_t_book t_typed t_at t_start t_token t_value t_items t_book p1 r9 hC2) ([0, 1]) (by decide) rfl rfl (ws' := (wd_R_weaver E a_t a_t_images a_t_kept a_t_aside a_t_limbs a_t_wide a_t_hears a_t_spies a_t_known a_t_by a_t_ways a_t_fewest a_t_heavy a_t_sums a_t_faces a_t_bestFaces a_t_text a_t_verbs a_t_many a_t_nums a_t_book t_typed t_at t_start t_token t_value t_items t_book)) rfl 0 rfl rfl rfl (As := [.int p1]) (rest := []) rfl rfl ⟨rfl, rfl, Nat.le_of_ble_eq_true rfl, Nat.le_of_ble_eq_true rfl⟩ (Nat.le_of_ble_eq_true rfl) (Nat.zero_le _) (Nat.zero_le _) dX12_weaver_9 (fun H locs hW => ?_)
    clear hC2
    refine lv_if_ne (tgt := 40) hx hb dX12_weaver_12 (by decide) (fun c3 => ?_) (fun c3 => ?_)
    · have hF := if_n c3 hF
      refine lv_bipush (v := (-2 : Int32)) hx hb dX12_weaver_40 (by decide) ?_
      have hq := Option.some.inj hF
      subst hq
      exact hret _ _ _ _ hW dX12_weaver_42
    · have hF := if_y c3 hF
      refine lv_aload_n hx hb dX12_weaver_15 rfl (lv_at hl 0 rfl) ?_
      refine m_get X hW fdX12_7 0 rfl rfl dX12_weaver_16 ?_
      refine lv_bipush (v := (10 : Int32)) hx hb dX12_weaver_19 (by decide) ?_
      refine lv_iload_n hx hb dX12_weaver_21 rfl (lv_at hl 1 rfl) ?_
      refine lv_iadd hx hb dX12_weaver_22 ?_
      obtain ⟨g4, hF⟩ := gd_some hF
      refine m_iald X hW 1 (k := ((10 : Int32) + p1).toNatClampNeg) rfl g4 rfl dX12_weaver_23 ?_
      refine lv_iconst (v := (1 : Int32)) hx hb dX12_weaver_24 (by decide) ?_
      refine lv_icmp_eq (tgt := 40) hx hb dX12_weaver_25 (by decide) (fun c5 => ?_) (fun c5 => ?_)
      · have hF := if_y c5 hF
        refine lv_bipush (v := (-2 : Int32)) hx hb dX12_weaver_40 (by decide) ?_
        have hq := Option.some.inj hF
        subst hq
        exact hret _ _ _ _ hW dX12_weaver_42
      · have hF := if_n c5 hF
        refine lv_iload_n hx hb dX12_weaver_28 rfl (lv_at hl 2 rfl) ?_
        refine lv_i2l (v := p2.toInt64) hx hb dX12_weaver_29 rfl ?_
        refine lv_lconst (v := (0 : Int64)) hx hb dX12_weaver_30 (by decide) ?_
        refine lv_ldc2 (v := (3 : Int64)) hx hb hown (hts _ wk_1235) dX12_weaver_31 ?_
        refine m_callS X hW hA hl.1 lkX12_109 (c_R_in l E _ N   p2.toInt64 (0 : Int64) (3 : Int64) (F_R_in p2.toInt64 (0 : Int64) (3 : Int64)) rfl) ([]) (by decide) rfl rfl (ws' := (wd_R_weaver E a_t a_t_images a_t_kept a_t_aside a_t_limbs a_t_wide a_t_hears a_t_spies a_t_known a_t_by a_t_ways a_t_fewest a_t_heavy a_t_sums a_t_faces a_t_bestFaces a_t_text a_t_verbs a_t_many a_t_nums a_t_book t_typed t_at t_start t_token t_value t_items t_book)) rfl (As := [.long p2.toInt64, .long (0 : Int64), .long (3 : Int64)]) (rest := []) rfl rfl ⟨rfl, rfl, Nat.le_of_ble_eq_true rfl, Nat.le_of_ble_eq_true rfl⟩ (Nat.le_of_ble_eq_true rfl) (Nat.zero_le _) (Nat.zero_le _) dX12_weaver_34 (fun H locs hW => ?_)
        refine lv_if_ne (tgt := 43) hx hb dX12_weaver_37 (by decide) (fun c6 => ?_) (fun c6 => ?_)
        · have hF := if_n c6 hF
          refine lv_aload_n hx hb dX12_weaver_43 rfl (lv_at hl 0 rfl) ?_
          refine m_get X hW fdX12_7 0 rfl rfl dX12_weaver_44 ?_
          refine lv_iconst (v := (1 : Int32)) hx hb dX12_weaver_47 (by decide) ?_
          refine m_iald X hW 1 (k := 1) rfl (by decide) rfl dX12_weaver_48 ?_
          refine lv_bipush (v := (8 : Int32)) hx hb dX12_weaver_49 (by decide) ?_
          refine lv_icmp_ne (tgt := 57) hx hb dX12_weaver_51 (by decide) (fun c7 => ?_) (fun c7 => ?_)
          · have hF := if_n c7 hF
            refine lv_bipush (v := (80 : Int32)) hx hb dX12_weaver_57 (by decide) ?_
            refine lv_iconst (v := (4 : Int32)) hx hb dX12_weaver_59 (by decide) ?_
            refine lv_aload_n hx hb dX12_weaver_60 rfl (lv_at hl 0 rfl) ?_
            refine m_get X hW fdX12_7 0 rfl rfl dX12_weaver_61 ?_
            refine lv_iconst (v := (1 : Int32)) hx hb dX12_weaver_64 (by decide) ?_
            refine m_iald X hW 1 (k := 1) rfl (by decide) rfl dX12_weaver_65 ?_
            refine lv_imul hx hb dX12_weaver_66 ?_
            refine lv_iadd hx hb dX12_weaver_67 ?_
            refine lv_istore_n (lv' := [(3, .int ((80 : Int32) + ((4 : Int32) * (t_book 1)))), (0, .ref a_t), (1, .int p1), (2, .int p2)]) hx hb dX12_weaver_68 rfl hl (by decide) rfl (fun ls hl => ?_)
            refine lv_aload_n hx hb dX12_weaver_69 rfl (lv_at hl 1 rfl) ?_
            refine m_get X hW fdX12_7 0 rfl rfl dX12_weaver_70 ?_
            refine lv_iload_n hx hb dX12_weaver_73 rfl (lv_at hl 0 rfl) ?_
            refine lv_iload_n hx hb dX12_weaver_74 rfl (lv_at hl 2 rfl) ?_
            obtain ⟨g8, hF⟩ := gd_some hF
            refine m_iast X hW 1 (k := ((80 : Int32) + ((4 : Int32) * (t_book 1))).toNatClampNeg) rfl g8 rfl dX12_weaver_75 (ws' := (wd_R_weaver E a_t a_t_images a_t_kept a_t_aside a_t_limbs a_t_wide a_t_hears a_t_spies a_t_known a_t_by a_t_ways a_t_fewest a_t_heavy a_t_sums a_t_faces a_t_bestFaces a_t_text a_t_verbs a_t_many a_t_nums a_t_book t_typed t_at t_start t_token t_value t_items (upd t_book ((80 : Int32) + ((4 : Int32) * (t_book 1))).toNatClampNeg p1))) rfl (fun H locs hW => ?_)
            refine lv_aload_n hx hb dX12_weaver_76 rfl (lv_at hl 1 rfl) ?_
            refine m_get X hW fdX12_7 0 rfl rfl dX12_weaver_77 ?_
            refine lv_iload_n hx hb dX12_weaver_80 rfl (lv_at hl 0 rfl) ?_
            refine lv_iconst (v := (1 : Int32)) hx hb dX12_weaver_81 (by decide) ?_
            refine lv_iadd hx hb dX12_weaver_82 ?_
            refine lv_iload_n hx hb dX12_weaver_83 rfl (lv_at hl 3 rfl) ?_
            obtain ⟨g9, hF⟩ := gd_some hF
            refine m_iast X hW 1 (k := (((80 : Int32) + ((4 : Int32) * (t_book 1))) + (1 : Int32)).toNatClampNeg) rfl g9 rfl dX12_weaver_84 (ws' := (wd_R_weaver E a_t a_t_images a_t_kept a_t_aside a_t_limbs a_t_wide a_t_hears a_t_spies a_t_known a_t_by a_t_ways a_t_fewest a_t_heavy a_t_sums a_t_faces a_t_bestFaces a_t_text a_t_verbs a_t_many a_t_nums a_t_book t_typed t_at t_start t_token t_value t_items (upd (upd t_book ((80 : Int32) + ((4 : Int32) * (t_book 1))).toNatClampNeg p1) (((80 : Int32) + ((4 : Int32) * (t_book 1))) + (1 : Int32)).toNatClampNeg p2))) rfl (fun H locs hW => ?_)
            refine lv_aload_n hx hb dX12_weaver_85 rfl (lv_at hl 1 rfl) ?_
            refine m_get X hW fdX12_7 0 rfl rfl dX12_weaver_86 ?_
            refine lv_iload_n hx hb dX12_weaver_89 rfl (lv_at hl 0 rfl) ?_
            refine lv_iconst (v := (2 : Int32)) hx hb dX12_weaver_90 (by decide) ?_
            refine lv_iadd hx hb dX12_weaver_91 ?_
            refine lv_sipush (v := (4095 : Int32)) hx hb dX12_weaver_92 (by decide) ?_
            obtain ⟨g10, hF⟩ := gd_some hF
            refine m_iast X hW 1 (k := (((80 : Int32) + ((4 : Int32) * (t_book 1))) + (2 : Int32)).toNatClampNeg) rfl g10 rfl dX12_weaver_95 (ws' := (wd_R_weaver E a_t a_t_images a_t_kept a_t_aside a_t_limbs a_t_wide a_t_hears a_t_spies a_t_known a_t_by a_t_ways a_t_fewest a_t_heavy a_t_sums a_t_faces a_t_bestFaces a_t_text a_t_verbs a_t_many a_t_nums a_t_book t_typed t_at t_start t_token t_value t_items (upd (upd (upd t_book ((80 : Int32) + ((4 : Int32) * (t_book 1))).toNatClampNeg p1) (((80 : Int32) + ((4 : Int32) * (t_book 1))) + (1 : Int32)).toNatClampNeg p2) (((80 : Int32) + ((4 : Int32) * (t_book 1))) + (2 : Int32)).toNatClampNeg (4095 : Int32)))) rfl (fun H locs hW => ?_)
            refine lv_aload_n hx hb dX12_weaver_96 rfl (lv_at hl 1 rfl) ?_
            refine m_get X hW fdX12_7 0 rfl rfl dX12_weaver_97 ?_
            refine lv_iload_n hx hb dX12_weaver_100 rfl (lv_at hl 0 rfl) ?_
            refine lv_iconst (v := (3 : Int32)) hx hb dX12_weaver_101 (by decide) ?_
            refine lv_iadd hx hb dX12_weaver_102 ?_
            refine lv_sipush (v := (4095 : Int32)) hx hb dX12_weaver_103 (by decide) ?_
            obtain ⟨g11, hF⟩ := gd_some hF
            refine m_iast X hW 1 (k := (((80 : Int32) + ((4 : Int32) * (t_book 1))) + (3 : Int32)).toNatClampNeg) rfl g11 rfl dX12_weaver_106 (ws' := (wd_R_weaver E a_t a_t_images a_t_kept a_t_aside a_t_limbs a_t_wide a_t_hears a_t_spies a_t_known a_t_by a_t_ways a_t_fewest a_t_heavy a_t_sums a_t_faces a_t_bestFaces a_t_text a_t_verbs a_t_many a_t_nums a_t_book t_typed t_at t_start t_token t_value t_items (upd (upd (upd (upd t_book ((80 : Int32) + ((4 : Int32) * (t_book 1))).toNatClampNeg p1) (((80 : Int32) + ((4 : Int32) * (t_book 1))) + (1 : Int32)).toNatClampNeg p2) (((80 : Int32) + ((4 : Int32) * (t_book 1))) + (2 : Int32)).toNatClampNeg (4095 : Int32)) (((80 : Int32) + ((4 : Int32) * (t_book 1))) + (3 : Int32)).toNatClampNeg (4095 : Int32)))) rfl (fun H locs hW => ?_)
            refine lv_aload_n hx hb dX12_weaver_107 rfl (lv_at hl 1 rfl) ?_
            refine m_get X hW fdX12_7 0 rfl rfl dX12_weaver_108 ?_
            refine lv_iconst (v := (1 : Int32)) hx hb dX12_weaver_111 (by decide) ?_
            refine lv_dup2_11 hx hb dX12_weaver_112 rfl rfl ?_
            refine m_iald X hW 1 (k := 1) rfl (by decide) rfl dX12_weaver_113 ?_
            refine lv_iconst (v := (1 : Int32)) hx hb dX12_weaver_114 (by decide) ?_
            refine lv_iadd hx hb dX12_weaver_115 ?_
            refine m_iast X hW 1 (k := 1) rfl (by decide) rfl dX12_weaver_116 (ws' := (wd_R_weaver E a_t a_t_images a_t_kept a_t_aside a_t_limbs a_t_wide a_t_hears a_t_spies a_t_known a_t_by a_t_ways a_t_fewest a_t_heavy a_t_sums a_t_faces a_t_bestFaces a_t_text a_t_verbs a_t_many a_t_nums a_t_book t_typed t_at t_start t_token t_value t_items (upd (upd (upd (upd (upd t_book ((80 : Int32) + ((4 : Int32) * (t_book 1))).toNatClampNeg p1) (((80 : Int32) + ((4 : Int32) * (t_book 1))) + (1 : Int32)).toNatClampNeg p2) (((80 : Int32) + ((4 : Int32) * (t_book 1))) + (2 : Int32)).toNatClampNeg (4095 : Int32)) (((80 : Int32) + ((4 : Int32) * (t_book 1))) + (3 : Int32)).toNatClampNeg (4095 : Int32)) 1 (((upd (upd (upd (upd t_book ((80 : Int32) + ((4 : Int32) * (t_book 1))).toNatClampNeg p1) (((80 : Int32) + ((4 : Int32) * (t_book 1))) + (1 : Int32)).toNatClampNeg p2) (((80 : Int32) + ((4 : Int32) * (t_book 1))) + (2 : Int32)).toNatClampNeg (4095 : Int32)) (((80 : Int32) + ((4 : Int32) * (t_book 1))) + (3 : Int32)).toNatClampNeg (4095 : Int32)) 1) + (1 : Int32))))) rfl (fun H locs hW => ?_)
            refine lv_aload_n hx hb dX12_weaver_117 rfl (lv_at hl 1 rfl) ?_
            refine m_get X hW fdX12_7 0 rfl rfl dX12_weaver_118 ?_
            refine lv_iconst (v := (1 : Int32)) hx hb dX12_weaver_121 (by decide) ?_
            refine m_iald X hW 1 (k := 1) rfl (by decide) rfl dX12_weaver_122 ?_
            refine lv_iconst (v := (1 : Int32)) hx hb dX12_weaver_123 (by decide) ?_
            refine lv_isub hx hb dX12_weaver_124 ?_
            have hq := Option.some.inj hF
            subst hq
            exact hret _ _ _ _ hW dX12_weaver_125
          · have hF := if_y c7 hF
            refine lv_bipush (v := (-4 : Int32)) hx hb dX12_weaver_54 (by decide) ?_
            have hq := Option.some.inj hF
            subst hq
            exact hret _ _ _ _ hW dX12_weaver_56
        · have hF := if_y c6 hF
          refine lv_bipush (v := (-2 : Int32)) hx hb dX12_weaver_40 (by decide) ?_
          have hq := Option.some.inj hF
          subst hq
          exact hret _ _ _ _ hW dX12_weaver_42
