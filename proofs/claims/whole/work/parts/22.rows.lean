abbrev wd_R_fewestOf (E : m_E)   : va_W := []
def rm_R_fewestOf : Room := { frames := 0, cells := 0, slots := 0, locals := 0 }
set_option maxHeartbeats 4000000 in
set_option maxRecDepth 100000 in
theorem c_R_fewestOf (l : Launch) (E : m_E) (sz N : Nat)   (p1 : Int32) (ures : Int32) (hF : F_R_fewestOf p1 = ures) : m_Met l yX12_fewestOf cX12_fewestOf 1 (some .int) rm_R_fewestOf E (wd_R_fewestOf E) (wd_R_fewestOf E) sz [.int p1] (some (.int ures)) := by
  refine m_ofI (by decide) (Nat.le_of_ble_eq_true rfl) ?_
  intro p e s m args below meth c A Q ls X hW hA hl hret
  obtain ⟨hx, hb, -, hown, hts, hK, -, hG⟩ := id X
  have hl : lv_has ls 1 [(0, .int p1)] := hl
  unfold F_R_fewestOf at hF
  refine lv_iload_n hx hb dX12_fewestOf_0 rfl (lv_at hl 0 rfl) ?_
  refine lv_bipush (v := (10 : Int32)) hx hb dX12_fewestOf_1 (by decide) ?_
  refine lv_icmp_ne (tgt := 10) hx hb dX12_fewestOf_3 (by decide) (fun c1 => ?_) (fun c1 => ?_)
  · have hF := if_n c1 hF
    refine lv_iload_n hx hb dX12_fewestOf_10 rfl (lv_at hl 0 rfl) ?_
    refine lv_bipush (v := (12 : Int32)) hx hb dX12_fewestOf_11 (by decide) ?_
    refine lv_icmp_eq (tgt := 22) hx hb dX12_fewestOf_13 (by decide) (fun c2 => ?_) (fun c2 => ?_)
    · have hF := if_y c2 hF
      refine lv_iconst (v := (3 : Int32)) hx hb dX12_fewestOf_22 (by decide) ?_
      refine lv_goto (tgt := 27) hx hb dX12_fewestOf_23 (by decide) ?_
      have hq := hF
      subst hq
      exact hret _ _ _ _ hW dX12_fewestOf_27
    · have hF := if_n c2 hF
      refine lv_iload_n hx hb dX12_fewestOf_16 rfl (lv_at hl 0 rfl) ?_
      refine lv_bipush (v := (13 : Int32)) hx hb dX12_fewestOf_17 (by decide) ?_
      refine lv_icmp_ne (tgt := 26) hx hb dX12_fewestOf_19 (by decide) (fun c3 => ?_) (fun c3 => ?_)
      · have hF := if_n c3 hF
        refine lv_iconst (v := (2 : Int32)) hx hb dX12_fewestOf_26 (by decide) ?_
        have hq := hF
        subst hq
        exact hret _ _ _ _ hW dX12_fewestOf_27
      · have hF := if_y c3 hF
        refine lv_iconst (v := (3 : Int32)) hx hb dX12_fewestOf_22 (by decide) ?_
        refine lv_goto (tgt := 27) hx hb dX12_fewestOf_23 (by decide) ?_
        have hq := hF
        subst hq
        exact hret _ _ _ _ hW dX12_fewestOf_27
  · have hF := if_y c1 hF
    refine lv_iconst (v := (1 : Int32)) hx hb dX12_fewestOf_6 (by decide) ?_
    refine lv_goto (tgt := 27) hx hb dX12_fewestOf_7 (by decide) ?_
    have hq := hF
    subst hq
    exact hret _ _ _ _ hW dX12_fewestOf_27
abbrev wd_R_mostOf (E : m_E)   : va_W := []
def rm_R_mostOf : Room := { frames := 1, cells := 0, slots := 0, locals := 20 }
set_option maxHeartbeats 4000000 in
set_option maxRecDepth 100000 in
theorem c_R_mostOf (l : Launch) (E : m_E) (sz N : Nat)   (p1 : Int32) (ures : Int32) (hF : F_R_mostOf p1 = ures) : m_Met l yX12_mostOf cX12_mostOf 1 (some .int) rm_R_mostOf E (wd_R_mostOf E) (wd_R_mostOf E) sz [.int p1] (some (.int ures)) := by
  refine m_ofI (by decide) (Nat.le_of_ble_eq_true rfl) ?_
  intro p e s m args below meth c A Q ls X hW hA hl hret
  obtain ⟨hx, hb, -, hown, hts, hK, -, hG⟩ := id X
  have hl : lv_has ls 1 [(0, .int p1)] := hl
  unfold F_R_mostOf at hF
  refine lv_iload_n hx hb dX12_mostOf_0 rfl (lv_at hl 0 rfl) ?_
  refine lv_bipush (v := (15 : Int32)) hx hb dX12_mostOf_1 (by decide) ?_
  refine lv_icmp_ne (tgt := 11) hx hb dX12_mostOf_3 (by decide) (fun c1 => ?_) (fun c1 => ?_)
  · have hF := if_n c1 hF
    refine lv_iload_n hx hb dX12_mostOf_11 rfl (lv_at hl 0 rfl) ?_
    refine m_callS X hW hA hl.1 lkX12_314 (c_R_fewestOf l E _ N   p1 (F_R_fewestOf p1) rfl) ([]) (by decide) rfl rfl (ws' := (wd_R_mostOf E)) rfl (As := [.int p1]) (rest := []) rfl rfl ⟨rfl, rfl, Nat.le_of_ble_eq_true rfl, Nat.le_of_ble_eq_true rfl⟩ (Nat.le_of_ble_eq_true rfl) (Nat.zero_le _) (Nat.zero_le _) dX12_mostOf_12 (fun H locs hW => ?_)
    have hq := hF
    subst hq
    exact hret _ _ _ _ hW dX12_mostOf_15
  · have hF := if_y c1 hF
    refine lv_bipush (v := (7 : Int32)) hx hb dX12_mostOf_6 (by decide) ?_
    refine lv_goto (tgt := 15) hx hb dX12_mostOf_8 (by decide) ?_
    have hq := hF
    subst hq
    exact hret _ _ _ _ hW dX12_mostOf_15
abbrev wd_R_readsText (E : m_E) (a_t : Nat) (a_t_book : Nat) (a_t_images : Nat) (a_t_kept : Nat) (a_t_aside : Nat) (a_t_limbs : Nat) (a_t_wide : Nat) (a_t_hears : Nat) (a_t_spies : Nat) (a_t_known : Nat) (a_t_by : Nat) (a_t_ways : Nat) (a_t_fewest : Nat) (a_t_heavy : Nat) (a_t_sums : Nat) (a_t_faces : Nat) (a_t_bestFaces : Nat) (a_t_text : Nat) (a_t_verbs : Nat) (a_t_many : Nat) (a_t_nums : Nat) (t_typed : Int32) (t_at : Int32) (t_start : Int32) (t_token : Int32) (t_value : Int32) (t_items : Int32) (t_text : Nat → Int32) (t_verbs : Nat → Int32) (t_many : Nat → Int32) (t_nums : Nat → Int32) : va_W := [(a_t, .inr (12, [.ref a_t_book, .ref a_t_images, .ref a_t_kept, .ref a_t_aside, .ref a_t_limbs, .ref a_t_wide, .ref a_t_hears, .ref a_t_spies, .ref a_t_known, .ref a_t_by, .ref a_t_ways, .ref a_t_fewest, .ref a_t_heavy, .ref a_t_sums, .ref a_t_faces, .ref a_t_bestFaces, .ref a_t_text, .int t_typed, .int t_at, .int t_start, .int t_token, .int t_value, .ref a_t_verbs, .ref a_t_many, .ref a_t_nums, .int t_items])), (a_t_text, .inl (E.2.1 0, 240, .inl t_text)), (a_t_verbs, .inl (E.2.1 0, 240, .inl t_verbs)), (a_t_many, .inl (E.2.1 0, 240, .inl t_many)), (a_t_nums, .inl (E.2.1 0, 1680, .inl t_nums))]
def rm_R_readsText : Room := { frames := 3, cells := 0, slots := 0, locals := 69 }
set_option maxHeartbeats 4000000 in
set_option maxRecDepth 100000 in
theorem c_R_readsText (l : Launch) (E : m_E) (sz N : Nat) (a_t : Nat) (a_t_book : Nat) (a_t_images : Nat) (a_t_kept : Nat) (a_t_aside : Nat) (a_t_limbs : Nat) (a_t_wide : Nat) (a_t_hears : Nat) (a_t_spies : Nat) (a_t_known : Nat) (a_t_by : Nat) (a_t_ways : Nat) (a_t_fewest : Nat) (a_t_heavy : Nat) (a_t_sums : Nat) (a_t_faces : Nat) (a_t_bestFaces : Nat) (a_t_text : Nat) (a_t_verbs : Nat) (a_t_many : Nat) (a_t_nums : Nat) (t_typed : Int32) (t_at : Int32) (t_start : Int32) (t_token : Int32) (t_value : Int32) (t_items : Int32) (t_text : Nat → Int32) (t_verbs : Nat → Int32) (t_many : Nat → Int32) (t_nums : Nat → Int32)  (ures : Int32 × Int32 × Int32 × Int32 × Int32 × Int32 × (Nat → Int32) × (Nat → Int32) × (Nat → Int32)) (hF : F_R_readsText N t_typed t_value t_text t_verbs t_many t_nums = some ures) : m_Met l yX12_readsText cX12_readsText 3 (some .boolean) rm_R_readsText E (wd_R_readsText E a_t a_t_book a_t_images a_t_kept a_t_aside a_t_limbs a_t_wide a_t_hears a_t_spies a_t_known a_t_by a_t_ways a_t_fewest a_t_heavy a_t_sums a_t_faces a_t_bestFaces a_t_text a_t_verbs a_t_many a_t_nums t_typed t_at t_start t_token t_value t_items t_text t_verbs t_many t_nums) (wd_R_readsText E a_t a_t_book a_t_images a_t_kept a_t_aside a_t_limbs a_t_wide a_t_hears a_t_spies a_t_known a_t_by a_t_ways a_t_fewest a_t_heavy a_t_sums a_t_faces a_t_bestFaces a_t_text a_t_verbs a_t_many a_t_nums t_typed ures.2.1 ures.2.2.1 ures.2.2.2.1 ures.2.2.2.2.1 ures.2.2.2.2.2.1 t_text ures.2.2.2.2.2.2.1 ures.2.2.2.2.2.2.2.1 ures.2.2.2.2.2.2.2.2) sz [.ref a_t] (some (.int ures.1)) := by
  refine m_ofZ (by decide) (Nat.le_of_ble_eq_true rfl) ?_
  intro p e s m args below meth c A Q ls X hW hA hl hret
  obtain ⟨hx, hb, -, hown, hts, hK, -, hG⟩ := id X
  have hl : lv_has ls 3 [(0, .ref a_t)] := hl
  unfold F_R_readsText at hF
  refine lv_aload_n hx hb dX12_readsText_0 rfl (lv_at hl 0 rfl) ?_
  refine lv_iconst (v := (0 : Int32)) hx hb dX12_readsText_1 (by decide) ?_
  refine m_putf X hW fdX12_277 0 rfl (Nat.le_of_ble_eq_true rfl) rfl rfl dX12_readsText_2 (ws' := (wd_R_readsText E a_t a_t_book a_t_images a_t_kept a_t_aside a_t_limbs a_t_wide a_t_hears a_t_spies a_t_known a_t_by a_t_ways a_t_fewest a_t_heavy a_t_sums a_t_faces a_t_bestFaces a_t_text a_t_verbs a_t_many a_t_nums t_typed (0 : Int32) t_start t_token t_value t_items t_text t_verbs t_many t_nums)) rfl (fun H locs hW => ?_)
  refine lv_aload_n hx hb dX12_readsText_5 rfl (lv_at hl 0 rfl) ?_
  refine lv_iconst (v := (0 : Int32)) hx hb dX12_readsText_6 (by decide) ?_
  refine m_putf X hW fdX12_317 0 rfl (Nat.le_of_ble_eq_true rfl) rfl rfl dX12_readsText_7 (ws' := (wd_R_readsText E a_t a_t_book a_t_images a_t_kept a_t_aside a_t_limbs a_t_wide a_t_hears a_t_spies a_t_known a_t_by a_t_ways a_t_fewest a_t_heavy a_t_sums a_t_faces a_t_bestFaces a_t_text a_t_verbs a_t_many a_t_nums t_typed (0 : Int32) t_start t_token t_value (0 : Int32) t_text t_verbs t_many t_nums)) rfl (fun H locs hW => ?_)
  refine lv_aload_n hx hb dX12_readsText_10 rfl (lv_at hl 0 rfl) ?_
  obtain ⟨t_at'_9, t_start'_9, t_token'_9, t_value'_9, hC1, hF⟩ := bO_s4 hF
  refine m_callV X hW hA hl.1 lkX12_320 (c_R_scans l E _ N a_t a_t_book a_t_images a_t_kept a_t_aside a_t_limbs a_t_wide a_t_hears a_t_spies a_t_known a_t_by a_t_ways a_t_fewest a_t_heavy a_t_sums a_t_faces a_t_bestFaces a_t_verbs a_t_many a_t_nums a_t_text t_typed (0 : Int32) t_start t_token t_value (0 : Int32) t_text  (t_at'_9, t_start'_9, t_token'_9, t_value'_9) hC1) ([0, 1]) (by decide) rfl rfl (ws' := (wd_R_readsText E a_t a_t_book a_t_images a_t_kept a_t_aside a_t_limbs a_t_wide a_t_hears a_t_spies a_t_known a_t_by a_t_ways a_t_fewest a_t_heavy a_t_sums a_t_faces a_t_bestFaces a_t_text a_t_verbs a_t_many a_t_nums t_typed t_at'_9 t_start'_9 t_token'_9 t_value'_9 (0 : Int32) t_text t_verbs t_many t_nums)) rfl 0 rfl rfl rfl (As := []) (rest := []) rfl rfl ⟨rfl, rfl, Nat.le_of_ble_eq_true rfl, Nat.le_of_ble_eq_true rfl⟩ (Nat.le_of_ble_eq_true rfl) (Nat.zero_le _) (Nat.zero_le _) dX12_readsText_11 (fun H locs hW => ?_)
  clear hC1
  obtain ⟨out7, hX3, hr6, hF⟩ := bT_s8 hF
  have L2 : ∀ (k0 : Nat) (t_verbs'_3 : Nat → Int32) (t_many'_3 : Nat → Int32) (t_nums'_5 : Nat → Int32) (t_at'_10 : Int32) (t_items'_3 : Int32) (t_start'_10 : Int32) (t_token'_10 : Int32) (t_value'_10 : Int32) (out9 : (Int32 × Int32 × Int32 × Int32 × Int32 × Int32 × (Nat → Int32) × (Nat → Int32) × (Nat → Int32)) ⊕ ((Nat → Int32) × (Nat → Int32) × (Nat → Int32) × Int32 × Int32 × Int32 × Int32 × Int32))  (H : Heap) (locs : List Loc) (ls : Array Slot), R_readsText_L14 N t_typed t_text k0 t_verbs'_3 t_many'_3 t_nums'_5 t_at'_10 t_items'_3 t_start'_10 t_token'_10 t_value'_10 = some out9 → m_H E A (wd_R_readsText E a_t a_t_book a_t_images a_t_kept a_t_aside a_t_limbs a_t_wide a_t_hears a_t_spies a_t_known a_t_by a_t_ways a_t_fewest a_t_heavy a_t_sums a_t_faces a_t_bestFaces a_t_text a_t_verbs a_t_many a_t_nums t_typed t_at'_10 t_start'_10 t_token'_10 t_value'_10 t_items'_3 t_text t_verbs'_3 t_many'_3 t_nums'_5) s.heap H locs → lv_has ls 3 [(0, .ref a_t)] → (∀ a, out9 = .inl a → a = ures) → (∀ (t_verbs'_4 : Nat → Int32) (t_many'_4 : Nat → Int32) (t_nums'_8 : Nat → Int32) (t_at'_16 : Int32) (t_items'_4 : Int32) (t_start'_16 : Int32) (t_token'_16 : Int32) (t_value'_16 : Int32) (H : Heap) (locs : List Loc) (ls : Array Slot), out9 = .inr (t_verbs'_4, t_many'_4, t_nums'_8, t_at'_16, t_items'_4, t_start'_16, t_token'_16, t_value'_16) → m_H E A (wd_R_readsText E a_t a_t_book a_t_images a_t_kept a_t_aside a_t_limbs a_t_wide a_t_hears a_t_spies a_t_known a_t_by a_t_ways a_t_fewest a_t_heavy a_t_sums a_t_faces a_t_bestFaces a_t_text a_t_verbs a_t_many a_t_nums t_typed t_at'_16 t_start'_16 t_token'_16 t_value'_16 t_items'_4 t_text t_verbs'_4 t_many'_4 t_nums'_8) s.heap H locs → lv_has ls 3 [] → W p l e rm_R_readsText s m args below meth c H locs 0 0 Q (F0 m 139 ls [])) → W p l e rm_R_readsText s m args below meth c H locs 0 0 Q (F0 m 14 ls []) := by
    clear hF
    intro k0
    induction k0 with
    | zero =>
      intro t_verbs'_3 t_many'_3 t_nums'_5 t_at'_10 t_items'_3 t_start'_10 t_token'_10 t_value'_10 out9 H locs ls hF
      cases hF
    | succ k0 ih5 =>
      intro t_verbs'_3 t_many'_3 t_nums'_5 t_at'_10 t_items'_3 t_start'_10 t_token'_10 t_value'_10 out9 H locs ls hF hW hl hr8 hk4
      rw [R_readsText_L14] at hF
      refine lv_aload_n hx hb dX12_readsText_14 rfl (lv_at hl 0 rfl) ?_
      refine m_get X hW fdX12_300 0 rfl rfl dX12_readsText_15 ?_
      refine lv_if_eq (tgt := 139) hx hb dX12_readsText_18 (by decide) (fun c10 => ?_) (fun c10 => ?_)
      · have hF := if_y c10 hF
        exact hk4 t_verbs'_3 t_many'_3 t_nums'_5 t_at'_10 t_items'_3 t_start'_10 t_token'_10 t_value'_10 _ _ _ (Option.some.inj hF).symm hW (lv_sub hl [] rfl)
      · have hF := if_n c10 hF
        refine lv_aload_n hx hb dX12_readsText_21 rfl (lv_at hl 0 rfl) ?_
        refine m_get X hW fdX12_300 0 rfl rfl dX12_readsText_22 ?_
        refine lv_istore_n (lv' := [(1, .int t_token'_10), (0, .ref a_t)]) hx hb dX12_readsText_25 rfl hl (by decide) rfl (fun ls hl => ?_)
        refine lv_iload_n hx hb dX12_readsText_26 rfl (lv_at hl 0 rfl) ?_
        refine lv_bipush (v := (10 : Int32)) hx hb dX12_readsText_27 (by decide) ?_
        refine lv_icmp_ge (tgt := 34) hx hb dX12_readsText_29 (by decide) (fun c11 => ?_) (fun c11 => ?_)
        · have hF := if_y c11 hF
          refine lv_aload_n hx hb dX12_readsText_34 rfl (lv_at hl 1 rfl) ?_
          obtain ⟨t_at'_11, t_start'_11, t_token'_11, t_value'_11, hC12, hF⟩ := bO_s4 hF
          refine m_callV X hW hA hl.1 lkX12_320 (c_R_scans l E _ N a_t a_t_book a_t_images a_t_kept a_t_aside a_t_limbs a_t_wide a_t_hears a_t_spies a_t_known a_t_by a_t_ways a_t_fewest a_t_heavy a_t_sums a_t_faces a_t_bestFaces a_t_verbs a_t_many a_t_nums a_t_text t_typed t_at'_10 t_start'_10 t_token'_10 t_value'_10 t_items'_3 t_text  (t_at'_11, t_start'_11, t_token'_11, t_value'_11) hC12) ([0, 1]) (by decide) rfl rfl (ws' := (wd_R_readsText E a_t a_t_book a_t_images a_t_kept a_t_aside a_t_limbs a_t_wide a_t_hears a_t_spies a_t_known a_t_by a_t_ways a_t_fewest a_t_heavy a_t_sums a_t_faces a_t_bestFaces a_t_text a_t_verbs a_t_many a_t_nums t_typed t_at'_11 t_start'_11 t_token'_11 t_value'_11 t_items'_3 t_text t_verbs'_3 t_many'_3 t_nums'_5)) rfl 0 rfl rfl rfl (As := []) (rest := []) rfl rfl ⟨rfl, rfl, Nat.le_of_ble_eq_true rfl, Nat.le_of_ble_eq_true rfl⟩ (Nat.le_of_ble_eq_true rfl) (Nat.zero_le _) (Nat.zero_le _) dX12_readsText_35 (fun H locs hW => ?_)
          clear hC12
          refine lv_iconst (v := (0 : Int32)) hx hb dX12_readsText_38 (by decide) ?_
          refine lv_istore_n (lv' := [(2, .int (0 : Int32)), (1, .int t_token'_10), (0, .ref a_t)]) hx hb dX12_readsText_39 rfl hl (by decide) rfl (fun ls hl => ?_)
          obtain ⟨x2_2, t_nums'_7, t_at'_14, t_start'_14, t_token'_14, t_value'_14, hX14, hF⟩ := bO_s6 hF
          have L13 : ∀ (k0 : Nat) (x2 : Int32) (t_nums'_6 : Nat → Int32) (t_at'_12 : Int32) (t_start'_12 : Int32) (t_token'_12 : Int32) (t_value'_12 : Int32) (x2_2 : Int32) (t_nums'_7 : Nat → Int32) (t_at'_14 : Int32) (t_start'_14 : Int32) (t_token'_14 : Int32) (t_value'_14 : Int32) (H : Heap) (locs : List Loc) (ls : Array Slot), R_readsText_L40 N t_token'_10 t_items'_3 t_typed t_text k0 x2 t_nums'_6 t_at'_12 t_start'_12 t_token'_12 t_value'_12 = some (x2_2, t_nums'_7, t_at'_14, t_start'_14, t_token'_14, t_value'_14) → m_H E A (wd_R_readsText E a_t a_t_book a_t_images a_t_kept a_t_aside a_t_limbs a_t_wide a_t_hears a_t_spies a_t_known a_t_by a_t_ways a_t_fewest a_t_heavy a_t_sums a_t_faces a_t_bestFaces a_t_text a_t_verbs a_t_many a_t_nums t_typed t_at'_12 t_start'_12 t_token'_12 t_value'_12 t_items'_3 t_text t_verbs'_3 t_many'_3 t_nums'_6) s.heap H locs → lv_has ls 3 [(2, .int x2), (1, .int t_token'_10), (0, .ref a_t)] → (∀ (H : Heap) (locs : List Loc) (ls : Array Slot), m_H E A (wd_R_readsText E a_t a_t_book a_t_images a_t_kept a_t_aside a_t_limbs a_t_wide a_t_hears a_t_spies a_t_known a_t_by a_t_ways a_t_fewest a_t_heavy a_t_sums a_t_faces a_t_bestFaces a_t_text a_t_verbs a_t_many a_t_nums t_typed t_at'_14 t_start'_14 t_token'_14 t_value'_14 t_items'_3 t_text t_verbs'_3 t_many'_3 t_nums'_7) s.heap H locs → lv_has ls 3 [(2, .int x2_2), (1, .int t_token'_10), (0, .ref a_t)] → W p l e rm_R_readsText s m args below meth c H locs 0 0 Q (F0 m 84 ls [])) → W p l e rm_R_readsText s m args below meth c H locs 0 0 Q (F0 m 40 ls []) := by
            clear hF
            intro k0
            induction k0 with
            | zero =>
              intro x2 t_nums'_6 t_at'_12 t_start'_12 t_token'_12 t_value'_12 x2_2 t_nums'_7 t_at'_14 t_start'_14 t_token'_14 t_value'_14 H locs ls hF
              cases hF
            | succ k0 ih16 =>
              intro x2 t_nums'_6 t_at'_12 t_start'_12 t_token'_12 t_value'_12 x2_2 t_nums'_7 t_at'_14 t_start'_14 t_token'_14 t_value'_14 H locs ls hF hW hl hk15
              rw [R_readsText_L40] at hF
              refine lv_aload_n hx hb dX12_readsText_40 rfl (lv_at hl 2 rfl) ?_
              refine m_get X hW fdX12_300 0 rfl rfl dX12_readsText_41 ?_
              refine lv_iconst (v := (2 : Int32)) hx hb dX12_readsText_44 (by decide) ?_
              refine lv_icmp_ne (tgt := 84) hx hb dX12_readsText_45 (by decide) (fun c17 => ?_) (fun c17 => ?_)
              · have hF := if_n c17 hF
                cases hF
                exact hk15 _ _ _ hW (lv_sub hl [0, 1, 2] rfl)
              · have hF := if_y c17 hF
                refine lv_iload_n hx hb dX12_readsText_48 rfl (lv_at hl 0 rfl) ?_
                refine lv_iload_n hx hb dX12_readsText_49 rfl (lv_at hl 1 rfl) ?_
                refine m_callS X hW hA hl.1 lkX12_323 (c_R_mostOf l E _ N   t_token'_10 (F_R_mostOf t_token'_10) rfl) ([]) (by decide) rfl rfl (ws' := (wd_R_readsText E a_t a_t_book a_t_images a_t_kept a_t_aside a_t_limbs a_t_wide a_t_hears a_t_spies a_t_known a_t_by a_t_ways a_t_fewest a_t_heavy a_t_sums a_t_faces a_t_bestFaces a_t_text a_t_verbs a_t_many a_t_nums t_typed t_at'_12 t_start'_12 t_token'_12 t_value'_12 t_items'_3 t_text t_verbs'_3 t_many'_3 t_nums'_6)) rfl (As := [.int t_token'_10]) (rest := [.int x2]) rfl rfl ⟨rfl, rfl, Nat.le_of_ble_eq_true rfl, Nat.le_of_ble_eq_true rfl⟩ (Nat.le_of_ble_eq_true rfl) (Nat.zero_le _) (Nat.zero_le _) dX12_readsText_50 (fun H locs hW => ?_)
                refine lv_icmp_ge (tgt := 84) hx hb dX12_readsText_53 (by decide) (fun c18 => ?_) (fun c18 => ?_)
                · have hF := if_y c18 hF
                  cases hF
                  exact hk15 _ _ _ hW (lv_sub hl [0, 1, 2] rfl)
                · have hF := if_n c18 hF
                  refine lv_aload_n hx hb dX12_readsText_56 rfl (lv_at hl 2 rfl) ?_
                  refine m_get X hW fdX12_68 0 rfl rfl dX12_readsText_57 ?_
                  refine lv_bipush (v := (7 : Int32)) hx hb dX12_readsText_60 (by decide) ?_
                  refine lv_aload_n hx hb dX12_readsText_62 rfl (lv_at hl 2 rfl) ?_
                  refine m_get X hW fdX12_317 0 rfl rfl dX12_readsText_63 ?_
                  refine lv_imul hx hb dX12_readsText_66 ?_
                  refine lv_iload_n hx hb dX12_readsText_67 rfl (lv_at hl 0 rfl) ?_
                  refine lv_iadd hx hb dX12_readsText_68 ?_
                  refine lv_aload_n hx hb dX12_readsText_69 rfl (lv_at hl 2 rfl) ?_
                  refine m_get X hW fdX12_311 0 rfl rfl dX12_readsText_70 ?_
                  obtain ⟨g19, hF⟩ := gd_some hF
                  refine m_iast X hW 4 (k := (((7 : Int32) * t_items'_3) + x2).toNatClampNeg) rfl g19 rfl dX12_readsText_73 (ws' := (wd_R_readsText E a_t a_t_book a_t_images a_t_kept a_t_aside a_t_limbs a_t_wide a_t_hears a_t_spies a_t_known a_t_by a_t_ways a_t_fewest a_t_heavy a_t_sums a_t_faces a_t_bestFaces a_t_text a_t_verbs a_t_many a_t_nums t_typed t_at'_12 t_start'_12 t_token'_12 t_value'_12 t_items'_3 t_text t_verbs'_3 t_many'_3 (upd t_nums'_6 (((7 : Int32) * t_items'_3) + x2).toNatClampNeg t_value'_12))) rfl (fun H locs hW => ?_)
                  refine lv_iinc (v := (x2 + (1 : Int32))) (lv' := [(2, .int (x2 + (1 : Int32))), (1, .int t_token'_10), (0, .ref a_t)]) hx hb dX12_readsText_74 hl (k := 0) rfl rfl (by decide) rfl (fun ls hl => ?_)
                  refine lv_aload_n hx hb dX12_readsText_77 rfl (lv_at hl 2 rfl) ?_
                  obtain ⟨t_at'_13, t_start'_13, t_token'_13, t_value'_13, hC20, hF⟩ := bO_s4 hF
                  refine m_callV X hW hA hl.1 lkX12_320 (c_R_scans l E _ N a_t a_t_book a_t_images a_t_kept a_t_aside a_t_limbs a_t_wide a_t_hears a_t_spies a_t_known a_t_by a_t_ways a_t_fewest a_t_heavy a_t_sums a_t_faces a_t_bestFaces a_t_verbs a_t_many a_t_nums a_t_text t_typed t_at'_12 t_start'_12 t_token'_12 t_value'_12 t_items'_3 t_text  (t_at'_13, t_start'_13, t_token'_13, t_value'_13) hC20) ([0, 1]) (by decide) rfl rfl (ws' := (wd_R_readsText E a_t a_t_book a_t_images a_t_kept a_t_aside a_t_limbs a_t_wide a_t_hears a_t_spies a_t_known a_t_by a_t_ways a_t_fewest a_t_heavy a_t_sums a_t_faces a_t_bestFaces a_t_text a_t_verbs a_t_many a_t_nums t_typed t_at'_13 t_start'_13 t_token'_13 t_value'_13 t_items'_3 t_text t_verbs'_3 t_many'_3 (upd t_nums'_6 (((7 : Int32) * t_items'_3) + x2).toNatClampNeg t_value'_12))) rfl 0 rfl rfl rfl (As := []) (rest := []) rfl rfl ⟨rfl, rfl, Nat.le_of_ble_eq_true rfl, Nat.le_of_ble_eq_true rfl⟩ (Nat.le_of_ble_eq_true rfl) (Nat.zero_le _) (Nat.zero_le _) dX12_readsText_78 (fun H locs hW => ?_)
                  clear hC20
                  refine lv_goto (tgt := 40) hx hb dX12_readsText_81 (by decide) ?_
                  exact ih16 (x2 + (1 : Int32)) (upd t_nums'_6 (((7 : Int32) * t_items'_3) + x2).toNatClampNeg t_value'_12) t_at'_13 t_start'_13 t_token'_13 t_value'_13 x2_2 t_nums'_7 t_at'_14 t_start'_14 t_token'_14 t_value'_14 _ _ _ hF hW (lv_sub hl [0, 1, 2] rfl) hk15
          refine L13 N (0 : Int32) t_nums'_5 t_at'_11 t_start'_11 t_token'_11 t_value'_11 x2_2 t_nums'_7 t_at'_14 t_start'_14 t_token'_14 t_value'_14 _ _ _ hX14 hW (lv_sub hl [0, 1, 2] rfl) ?_
          intro H locs ls hW hl
          clear L13
          refine lv_iload_n hx hb dX12_readsText_84 rfl (lv_at hl 0 rfl) ?_
          refine lv_iload_n hx hb dX12_readsText_85 rfl (lv_at hl 1 rfl) ?_
          refine m_callS X hW hA hl.1 lkX12_314 (c_R_fewestOf l E _ N   t_token'_10 (F_R_fewestOf t_token'_10) rfl) ([]) (by decide) rfl rfl (ws' := (wd_R_readsText E a_t a_t_book a_t_images a_t_kept a_t_aside a_t_limbs a_t_wide a_t_hears a_t_spies a_t_known a_t_by a_t_ways a_t_fewest a_t_heavy a_t_sums a_t_faces a_t_bestFaces a_t_text a_t_verbs a_t_many a_t_nums t_typed t_at'_14 t_start'_14 t_token'_14 t_value'_14 t_items'_3 t_text t_verbs'_3 t_many'_3 t_nums'_7)) rfl (As := [.int t_token'_10]) (rest := [.int x2_2]) rfl rfl ⟨rfl, rfl, Nat.le_of_ble_eq_true rfl, Nat.le_of_ble_eq_true rfl⟩ (Nat.le_of_ble_eq_true rfl) (Nat.zero_le _) (Nat.zero_le _) dX12_readsText_86 (fun H locs hW => ?_)
          refine lv_icmp_lt (tgt := 100) hx hb dX12_readsText_89 (by decide) (fun c21 => ?_) (fun c21 => ?_)
          · have hF := if_y c21 hF
            refine lv_iconst (v := (0 : Int32)) hx hb dX12_readsText_100 (by decide) ?_
            have hq := (Option.some.inj hF).symm
            have hq := hr8 _ hq
            subst hq
            exact hret _ _ _ _ _ rfl hW dX12_readsText_101
          · have hF := if_n c21 hF
            refine lv_aload_n hx hb dX12_readsText_92 rfl (lv_at hl 2 rfl) ?_
            refine m_get X hW fdX12_300 0 rfl rfl dX12_readsText_93 ?_
            refine lv_iconst (v := (3 : Int32)) hx hb dX12_readsText_96 (by decide) ?_
            refine lv_icmp_eq (tgt := 102) hx hb dX12_readsText_97 (by decide) (fun c22 => ?_) (fun c22 => ?_)
            · have hF := if_y c22 hF
              refine lv_aload_n hx hb dX12_readsText_102 rfl (lv_at hl 2 rfl) ?_
              refine m_get X hW fdX12_62 0 rfl rfl dX12_readsText_103 ?_
              refine lv_aload_n hx hb dX12_readsText_106 rfl (lv_at hl 2 rfl) ?_
              refine m_get X hW fdX12_317 0 rfl rfl dX12_readsText_107 ?_
              refine lv_iload_n hx hb dX12_readsText_110 rfl (lv_at hl 1 rfl) ?_
              obtain ⟨g23, hF⟩ := gd_some hF
              refine m_iast X hW 2 (k := t_items'_3.toNatClampNeg) rfl g23 rfl dX12_readsText_111 (ws' := (wd_R_readsText E a_t a_t_book a_t_images a_t_kept a_t_aside a_t_limbs a_t_wide a_t_hears a_t_spies a_t_known a_t_by a_t_ways a_t_fewest a_t_heavy a_t_sums a_t_faces a_t_bestFaces a_t_text a_t_verbs a_t_many a_t_nums t_typed t_at'_14 t_start'_14 t_token'_14 t_value'_14 t_items'_3 t_text (upd t_verbs'_3 t_items'_3.toNatClampNeg t_token'_10) t_many'_3 t_nums'_7)) rfl (fun H locs hW => ?_)
              refine lv_aload_n hx hb dX12_readsText_112 rfl (lv_at hl 2 rfl) ?_
              refine m_get X hW fdX12_65 0 rfl rfl dX12_readsText_113 ?_
              refine lv_aload_n hx hb dX12_readsText_116 rfl (lv_at hl 2 rfl) ?_
              refine m_get X hW fdX12_317 0 rfl rfl dX12_readsText_117 ?_
              refine lv_iload_n hx hb dX12_readsText_120 rfl (lv_at hl 0 rfl) ?_
              refine m_iast X hW 3 (k := t_items'_3.toNatClampNeg) rfl g23 rfl dX12_readsText_121 (ws' := (wd_R_readsText E a_t a_t_book a_t_images a_t_kept a_t_aside a_t_limbs a_t_wide a_t_hears a_t_spies a_t_known a_t_by a_t_ways a_t_fewest a_t_heavy a_t_sums a_t_faces a_t_bestFaces a_t_text a_t_verbs a_t_many a_t_nums t_typed t_at'_14 t_start'_14 t_token'_14 t_value'_14 t_items'_3 t_text (upd t_verbs'_3 t_items'_3.toNatClampNeg t_token'_10) (upd t_many'_3 t_items'_3.toNatClampNeg x2_2) t_nums'_7)) rfl (fun H locs hW => ?_)
              refine lv_aload_n hx hb dX12_readsText_122 rfl (lv_at hl 2 rfl) ?_
              refine lv_dup hx hb dX12_readsText_123 rfl ?_
              refine m_get X hW fdX12_317 0 rfl rfl dX12_readsText_124 ?_
              refine lv_iconst (v := (1 : Int32)) hx hb dX12_readsText_127 (by decide) ?_
              refine lv_iadd hx hb dX12_readsText_128 ?_
              refine m_putf X hW fdX12_317 0 rfl (Nat.le_of_ble_eq_true rfl) rfl rfl dX12_readsText_129 (ws' := (wd_R_readsText E a_t a_t_book a_t_images a_t_kept a_t_aside a_t_limbs a_t_wide a_t_hears a_t_spies a_t_known a_t_by a_t_ways a_t_fewest a_t_heavy a_t_sums a_t_faces a_t_bestFaces a_t_text a_t_verbs a_t_many a_t_nums t_typed t_at'_14 t_start'_14 t_token'_14 t_value'_14 (t_items'_3 + (1 : Int32)) t_text (upd t_verbs'_3 t_items'_3.toNatClampNeg t_token'_10) (upd t_many'_3 t_items'_3.toNatClampNeg x2_2) t_nums'_7)) rfl (fun H locs hW => ?_)
              refine lv_aload_n hx hb dX12_readsText_132 rfl (lv_at hl 2 rfl) ?_
              obtain ⟨t_at'_15, t_start'_15, t_token'_15, t_value'_15, hC24, hF⟩ := bO_s4 hF
              refine m_callV X hW hA hl.1 lkX12_320 (c_R_scans l E _ N a_t a_t_book a_t_images a_t_kept a_t_aside a_t_limbs a_t_wide a_t_hears a_t_spies a_t_known a_t_by a_t_ways a_t_fewest a_t_heavy a_t_sums a_t_faces a_t_bestFaces a_t_verbs a_t_many a_t_nums a_t_text t_typed t_at'_14 t_start'_14 t_token'_14 t_value'_14 (t_items'_3 + (1 : Int32)) t_text  (t_at'_15, t_start'_15, t_token'_15, t_value'_15) hC24) ([0, 1]) (by decide) rfl rfl (ws' := (wd_R_readsText E a_t a_t_book a_t_images a_t_kept a_t_aside a_t_limbs a_t_wide a_t_hears a_t_spies a_t_known a_t_by a_t_ways a_t_fewest a_t_heavy a_t_sums a_t_faces a_t_bestFaces a_t_text a_t_verbs a_t_many a_t_nums t_typed t_at'_15 t_start'_15 t_token'_15 t_value'_15 (t_items'_3 + (1 : Int32)) t_text (upd t_verbs'_3 t_items'_3.toNatClampNeg t_token'_10) (upd t_many'_3 t_items'_3.toNatClampNeg x2_2) t_nums'_7)) rfl 0 rfl rfl rfl (As := []) (rest := []) rfl rfl ⟨rfl, rfl, Nat.le_of_ble_eq_true rfl, Nat.le_of_ble_eq_true rfl⟩ (Nat.le_of_ble_eq_true rfl) (Nat.zero_le _) (Nat.zero_le _) dX12_readsText_133 (fun H locs hW => ?_)
              clear hC24
              refine lv_goto (tgt := 14) hx hb dX12_readsText_136 (by decide) ?_
              exact ih5 (upd t_verbs'_3 t_items'_3.toNatClampNeg t_token'_10) (upd t_many'_3 t_items'_3.toNatClampNeg x2_2) t_nums'_7 t_at'_15 (t_items'_3 + (1 : Int32)) t_start'_15 t_token'_15 t_value'_15 out9 _ _ _ hF hW (lv_sub hl [2] rfl) hr8 hk4
            · have hF := if_n c22 hF
              refine lv_iconst (v := (0 : Int32)) hx hb dX12_readsText_100 (by decide) ?_
              have hq := (Option.some.inj hF).symm
              have hq := hr8 _ hq
              subst hq
              exact hret _ _ _ _ _ rfl hW dX12_readsText_101
        · have hF := if_n c11 hF
          refine lv_iconst (v := (0 : Int32)) hx hb dX12_readsText_32 (by decide) ?_
          have hq := (Option.some.inj hF).symm
          have hq := hr8 _ hq
          subst hq
          exact hret _ _ _ _ _ rfl hW dX12_readsText_33
  refine L2 N t_verbs t_many t_nums t_at'_9 (0 : Int32) t_start'_9 t_token'_9 t_value'_9 out7 _ _ _ hX3 hW (lv_sub hl [0] rfl) hr6 ?_
  intro t_verbs'_4 t_many'_4 t_nums'_8 t_at'_16 t_items'_4 t_start'_16 t_token'_16 t_value'_16 H locs ls ho hW hl
  have hF := hF t_verbs'_4 t_many'_4 t_nums'_8 t_at'_16 t_items'_4 t_start'_16 t_token'_16 t_value'_16 ho
  clear L2
  refine lv_iconst (v := (1 : Int32)) hx hb dX12_readsText_139 (by decide) ?_
  have hq := Option.some.inj hF
  subst hq
  exact hret _ _ _ _ _ rfl hW dX12_readsText_140
abbrev wd_R_tellsWord (E : m_E) (a_t : Nat) (a_t_images : Nat) (a_t_kept : Nat) (a_t_aside : Nat) (a_t_limbs : Nat) (a_t_wide : Nat) (a_t_hears : Nat) (a_t_spies : Nat) (a_t_known : Nat) (a_t_by : Nat) (a_t_ways : Nat) (a_t_fewest : Nat) (a_t_heavy : Nat) (a_t_sums : Nat) (a_t_faces : Nat) (a_t_bestFaces : Nat) (a_t_text : Nat) (a_t_verbs : Nat) (a_t_book : Nat) (a_t_many : Nat) (a_t_nums : Nat) (t_typed : Int32) (t_at : Int32) (t_start : Int32) (t_token : Int32) (t_value : Int32) (t_items : Int32) (t_book : Nat → Int32) (t_many : Nat → Int32) (t_nums : Nat → Int32) : va_W := [(a_t, .inr (12, [.ref a_t_book, .ref a_t_images, .ref a_t_kept, .ref a_t_aside, .ref a_t_limbs, .ref a_t_wide, .ref a_t_hears, .ref a_t_spies, .ref a_t_known, .ref a_t_by, .ref a_t_ways, .ref a_t_fewest, .ref a_t_heavy, .ref a_t_sums, .ref a_t_faces, .ref a_t_bestFaces, .ref a_t_text, .int t_typed, .int t_at, .int t_start, .int t_token, .int t_value, .ref a_t_verbs, .ref a_t_many, .ref a_t_nums, .int t_items])), (a_t_book, .inl (E.2.1 0, 240, .inl t_book)), (a_t_many, .inl (E.2.1 0, 240, .inl t_many)), (a_t_nums, .inl (E.2.1 0, 1680, .inl t_nums))]
def rm_R_tellsWord : Room := { frames := 2, cells := 0, slots := 0, locals := 49 }
set_option maxHeartbeats 4000000 in
set_option maxRecDepth 100000 in
theorem c_R_tellsWord (l : Launch) (E : m_E) (sz N : Nat) (a_t : Nat) (a_t_images : Nat) (a_t_kept : Nat) (a_t_aside : Nat) (a_t_limbs : Nat) (a_t_wide : Nat) (a_t_hears : Nat) (a_t_spies : Nat) (a_t_known : Nat) (a_t_by : Nat) (a_t_ways : Nat) (a_t_fewest : Nat) (a_t_heavy : Nat) (a_t_sums : Nat) (a_t_faces : Nat) (a_t_bestFaces : Nat) (a_t_text : Nat) (a_t_verbs : Nat) (a_t_book : Nat) (a_t_many : Nat) (a_t_nums : Nat) (t_typed : Int32) (t_at : Int32) (t_start : Int32) (t_token : Int32) (t_value : Int32) (t_items : Int32) (t_book : Nat → Int32) (t_many : Nat → Int32) (t_nums : Nat → Int32) (p1 : Int32) (ures : Int32 × (Nat → Int32)) (hF : F_R_tellsWord N p1 t_book t_many t_nums = some ures) : m_Met l yX12_tellsWord cX12_tellsWord 5 (some .int) rm_R_tellsWord E (wd_R_tellsWord E a_t a_t_images a_t_kept a_t_aside a_t_limbs a_t_wide a_t_hears a_t_spies a_t_known a_t_by a_t_ways a_t_fewest a_t_heavy a_t_sums a_t_faces a_t_bestFaces a_t_text a_t_verbs a_t_book a_t_many a_t_nums t_typed t_at t_start t_token t_value t_items t_book t_many t_nums) (wd_R_tellsWord E a_t a_t_images a_t_kept a_t_aside a_t_limbs a_t_wide a_t_hears a_t_spies a_t_known a_t_by a_t_ways a_t_fewest a_t_heavy a_t_sums a_t_faces a_t_bestFaces a_t_text a_t_verbs a_t_book a_t_many a_t_nums t_typed t_at t_start t_token t_value t_items ures.2 t_many t_nums) sz [.ref a_t, .int p1] (some (.int ures.1)) := by
  refine m_ofI (by decide) (Nat.le_of_ble_eq_true rfl) ?_
  intro p e s m args below meth c A Q ls X hW hA hl hret
  obtain ⟨hx, hb, -, hown, hts, hK, -, hG⟩ := id X
  have hl : lv_has ls 5 [(0, .ref a_t), (1, .int p1)] := hl
  unfold F_R_tellsWord at hF
  refine lv_iconst (v := (0 : Int32)) hx hb dX12_tellsWord_0 (by decide) ?_
  refine lv_istore_n (lv' := [(2, .int (0 : Int32)), (0, .ref a_t), (1, .int p1)]) hx hb dX12_tellsWord_1 rfl hl (by decide) rfl (fun ls hl => ?_)
  refine lv_iconst (v := (1 : Int32)) hx hb dX12_tellsWord_2 (by decide) ?_
  refine lv_istore_n (lv' := [(3, .int (1 : Int32)), (2, .int (0 : Int32)), (0, .ref a_t), (1, .int p1)]) hx hb dX12_tellsWord_3 rfl hl (by decide) rfl (fun ls hl => ?_)
  refine lv_iconst (v := (1 : Int32)) hx hb dX12_tellsWord_4 (by decide) ?_
  refine lv_istore (lv' := [(4, .int (1 : Int32)), (3, .int (1 : Int32)), (2, .int (0 : Int32)), (0, .ref a_t), (1, .int p1)]) hx hb dX12_tellsWord_5 hl (by decide) rfl (fun ls hl => ?_)
  obtain ⟨x2_2, x3_2, hX2, hF⟩ := bO_s2 hF
  have L1 : ∀ (k0 : Nat) (x2 : Int32) (x3 : Int32) (x4 : Int32) (x2_2 : Int32) (x3_2 : Int32) (H : Heap) (locs : List Loc) (ls : Array Slot), R_tellsWord_L7 p1 t_many t_nums k0 x2 x3 x4 = some (x2_2, x3_2) → m_H E A (wd_R_tellsWord E a_t a_t_images a_t_kept a_t_aside a_t_limbs a_t_wide a_t_hears a_t_spies a_t_known a_t_by a_t_ways a_t_fewest a_t_heavy a_t_sums a_t_faces a_t_bestFaces a_t_text a_t_verbs a_t_book a_t_many a_t_nums t_typed t_at t_start t_token t_value t_items t_book t_many t_nums) s.heap H locs → lv_has ls 5 [(4, .int x4), (3, .int x3), (2, .int x2), (0, .ref a_t), (1, .int p1)] → (∀ (H : Heap) (locs : List Loc) (ls : Array Slot), m_H E A (wd_R_tellsWord E a_t a_t_images a_t_kept a_t_aside a_t_limbs a_t_wide a_t_hears a_t_spies a_t_known a_t_by a_t_ways a_t_fewest a_t_heavy a_t_sums a_t_faces a_t_bestFaces a_t_text a_t_verbs a_t_book a_t_many a_t_nums t_typed t_at t_start t_token t_value t_items t_book t_many t_nums) s.heap H locs → lv_has ls 5 [(3, .int x3_2), (2, .int x2_2), (0, .ref a_t), (1, .int p1)] → W p l e rm_R_tellsWord s m args below meth c H locs 0 0 Q (F0 m 69 ls [])) → W p l e rm_R_tellsWord s m args below meth c H locs 0 0 Q (F0 m 7 ls []) := by
    clear hF
    intro k0
    induction k0 with
    | zero =>
      intro x2 x3 x4 x2_2 x3_2 H locs ls hF
      cases hF
    | succ k0 ih4 =>
      intro x2 x3 x4 x2_2 x3_2 H locs ls hF hW hl hk3
      rw [R_tellsWord_L7] at hF
      refine lv_iload hx hb dX12_tellsWord_7 (lv_at hl 0 rfl) ?_
      refine lv_aload_n hx hb dX12_tellsWord_9 rfl (lv_at hl 3 rfl) ?_
      refine m_get X hW fdX12_65 0 rfl rfl dX12_tellsWord_10 ?_
      refine lv_iload_n hx hb dX12_tellsWord_13 rfl (lv_at hl 4 rfl) ?_
      obtain ⟨g5, hF⟩ := gd_some hF
      refine m_iald X hW 2 (k := p1.toNatClampNeg) rfl g5 rfl dX12_tellsWord_14 ?_
      refine lv_icmp_ge (tgt := 69) hx hb dX12_tellsWord_15 (by decide) (fun c6 => ?_) (fun c6 => ?_)
      · have hF := if_y c6 hF
        cases hF
        exact hk3 _ _ _ hW (lv_sub hl [1, 2, 3, 4] rfl)
      · have hF := if_n c6 hF
        refine lv_iload_n hx hb dX12_tellsWord_18 rfl (lv_at hl 1 rfl) ?_
        obtain ⟨y0, hX8, hF⟩ := bO_s1 hF
        have J7 : ∀ (H : Heap) (locs : List Loc) (ls : Array Slot), m_H E A (wd_R_tellsWord E a_t a_t_images a_t_kept a_t_aside a_t_limbs a_t_wide a_t_hears a_t_spies a_t_known a_t_by a_t_ways a_t_fewest a_t_heavy a_t_sums a_t_faces a_t_bestFaces a_t_text a_t_verbs a_t_book a_t_many a_t_nums t_typed t_at t_start t_token t_value t_items t_book t_many t_nums) s.heap H locs → lv_has ls 5 [(4, .int x4), (2, .int x2), (0, .ref a_t), (1, .int p1)] → W p l e rm_R_tellsWord s m args below meth c H locs 0 0 Q (F0 m 44 ls [.int y0]) := by
          intro H locs ls hW hl
          refine lv_istore_n (lv' := [(3, .int y0), (4, .int x4), (2, .int x2), (0, .ref a_t), (1, .int p1)]) hx hb dX12_tellsWord_44 rfl hl (by decide) rfl (fun ls hl => ?_)
          refine lv_bipush (v := (6 : Int32)) hx hb dX12_tellsWord_45 (by decide) ?_
          refine lv_iload_n hx hb dX12_tellsWord_47 rfl (lv_at hl 2 rfl) ?_
          refine lv_imul hx hb dX12_tellsWord_48 ?_
          refine lv_aload_n hx hb dX12_tellsWord_49 rfl (lv_at hl 3 rfl) ?_
          refine m_get X hW fdX12_68 0 rfl rfl dX12_tellsWord_50 ?_
          refine lv_bipush (v := (7 : Int32)) hx hb dX12_tellsWord_53 (by decide) ?_
          refine lv_iload_n hx hb dX12_tellsWord_55 rfl (lv_at hl 4 rfl) ?_
          refine lv_imul hx hb dX12_tellsWord_56 ?_
          refine lv_iload hx hb dX12_tellsWord_57 (lv_at hl 1 rfl) ?_
          refine lv_iadd hx hb dX12_tellsWord_59 ?_
          obtain ⟨g9, hF⟩ := gd_some hF
          refine m_iald X hW 3 (k := (((7 : Int32) * p1) + x4).toNatClampNeg) rfl g9 rfl dX12_tellsWord_60 ?_
          refine lv_iadd hx hb dX12_tellsWord_61 ?_
          refine lv_istore_n (lv' := [(2, .int (((6 : Int32) * x2) + (t_nums (((7 : Int32) * p1) + x4).toNatClampNeg))), (3, .int y0), (4, .int x4), (0, .ref a_t), (1, .int p1)]) hx hb dX12_tellsWord_62 rfl hl (by decide) rfl (fun ls hl => ?_)
          refine lv_iinc (v := (x4 + (1 : Int32))) (lv' := [(4, .int (x4 + (1 : Int32))), (2, .int (((6 : Int32) * x2) + (t_nums (((7 : Int32) * p1) + x4).toNatClampNeg))), (3, .int y0), (0, .ref a_t), (1, .int p1)]) hx hb dX12_tellsWord_63 hl (k := 2) rfl rfl (by decide) rfl (fun ls hl => ?_)
          refine lv_goto (tgt := 7) hx hb dX12_tellsWord_66 (by decide) ?_
          exact ih4 (((6 : Int32) * x2) + (t_nums (((7 : Int32) * p1) + x4).toNatClampNeg)) y0 (x4 + (1 : Int32)) x2_2 x3_2 _ _ _ hF hW (lv_sub hl [0, 2, 1, 3, 4] rfl) hk3
        clear hF
        have hF := hX8
        clear hX8
        refine lv_if_eq (tgt := 43) hx hb dX12_tellsWord_19 (by decide) (fun c10 => ?_) (fun c10 => ?_)
        · have hF := if_y c10 hF
          refine lv_iconst (v := (0 : Int32)) hx hb dX12_tellsWord_43 (by decide) ?_
          cases hF
          exact J7 _ _ _ hW (lv_sub hl [0, 2, 3, 4] rfl)
        · have hF := if_n c10 hF
          refine lv_aload_n hx hb dX12_tellsWord_22 rfl (lv_at hl 3 rfl) ?_
          refine m_get X hW fdX12_68 0 rfl rfl dX12_tellsWord_23 ?_
          refine lv_bipush (v := (7 : Int32)) hx hb dX12_tellsWord_26 (by decide) ?_
          refine lv_iload_n hx hb dX12_tellsWord_28 rfl (lv_at hl 4 rfl) ?_
          refine lv_imul hx hb dX12_tellsWord_29 ?_
          refine lv_iload hx hb dX12_tellsWord_30 (lv_at hl 0 rfl) ?_
          refine lv_iadd hx hb dX12_tellsWord_32 ?_
          obtain ⟨g11, hF⟩ := gd_some hF
          refine m_iald X hW 3 (k := (((7 : Int32) * p1) + x4).toNatClampNeg) rfl g11 rfl dX12_tellsWord_33 ?_
          refine lv_bipush (v := (6 : Int32)) hx hb dX12_tellsWord_34 (by decide) ?_
          refine lv_icmp_ge (tgt := 43) hx hb dX12_tellsWord_36 (by decide) (fun c12 => ?_) (fun c12 => ?_)
          · have hF := if_y c12 hF
            refine lv_iconst (v := (0 : Int32)) hx hb dX12_tellsWord_43 (by decide) ?_
            cases hF
            exact J7 _ _ _ hW (lv_sub hl [0, 2, 3, 4] rfl)
          · have hF := if_n c12 hF
            refine lv_iconst (v := (1 : Int32)) hx hb dX12_tellsWord_39 (by decide) ?_
            refine lv_goto (tgt := 44) hx hb dX12_tellsWord_40 (by decide) ?_
            cases hF
            exact J7 _ _ _ hW (lv_sub hl [0, 2, 3, 4] rfl)
  refine L1 N (0 : Int32) (1 : Int32) (1 : Int32) x2_2 x3_2 _ _ _ hX2 hW (lv_sub hl [0, 1, 2, 3, 4] rfl) ?_
  intro H locs ls hW hl
  clear L1
  refine lv_iload_n hx hb dX12_tellsWord_69 rfl (lv_at hl 0 rfl) ?_
  refine lv_if_eq (tgt := 98) hx hb dX12_tellsWord_70 (by decide) (fun c13 => ?_) (fun c13 => ?_)
  · have hF := if_y c13 hF
    refine lv_bipush (v := (-2 : Int32)) hx hb dX12_tellsWord_98 (by decide) ?_
    have hq := Option.some.inj hF
    subst hq
    exact hret _ _ _ _ hW dX12_tellsWord_100
  · have hF := if_n c13 hF
    refine lv_aload_n hx hb dX12_tellsWord_73 rfl (lv_at hl 2 rfl) ?_
    refine lv_aload_n hx hb dX12_tellsWord_74 rfl (lv_at hl 2 rfl) ?_
    refine m_get X hW fdX12_65 0 rfl rfl dX12_tellsWord_75 ?_
    refine lv_iload_n hx hb dX12_tellsWord_78 rfl (lv_at hl 3 rfl) ?_
    obtain ⟨g14, hF⟩ := gd_some hF
    refine m_iald X hW 2 (k := p1.toNatClampNeg) rfl g14 rfl dX12_tellsWord_79 ?_
    refine lv_iconst (v := (1 : Int32)) hx hb dX12_tellsWord_80 (by decide) ?_
    refine lv_isub hx hb dX12_tellsWord_81 ?_
    refine lv_iload_n hx hb dX12_tellsWord_82 rfl (lv_at hl 1 rfl) ?_
    refine lv_aload_n hx hb dX12_tellsWord_83 rfl (lv_at hl 2 rfl) ?_
    refine m_get X hW fdX12_68 0 rfl rfl dX12_tellsWord_84 ?_
    refine lv_bipush (v := (7 : Int32)) hx hb dX12_tellsWord_87 (by decide) ?_
    refine lv_iload_n hx hb dX12_tellsWord_89 rfl (lv_at hl 3 rfl) ?_
    refine lv_imul hx hb dX12_tellsWord_90 ?_
    obtain ⟨g15, hF⟩ := gd_some hF
    refine m_iald X hW 3 (k := ((7 : Int32) * p1).toNatClampNeg) rfl g15 rfl dX12_tellsWord_91 ?_
    obtain ⟨r92, t_book'_2, hC16, hF⟩ := bO_s2 hF
    refine m_callV X hW hA hl.1 lkX12_326 (c_R_word l E _ N a_t a_t_images a_t_kept a_t_aside a_t_limbs a_t_wide a_t_hears a_t_spies a_t_known a_t_by a_t_ways a_t_fewest a_t_heavy a_t_sums a_t_faces a_t_bestFaces a_t_text a_t_verbs a_t_many a_t_nums a_t_book t_typed t_at t_start t_token t_value t_items t_book ((t_many p1.toNatClampNeg) - (1 : Int32)) x2_2 (t_nums ((7 : Int32) * p1).toNatClampNeg) (r92, t_book'_2) hC16) ([0, 1]) (by decide) rfl rfl (ws' := (wd_R_tellsWord E a_t a_t_images a_t_kept a_t_aside a_t_limbs a_t_wide a_t_hears a_t_spies a_t_known a_t_by a_t_ways a_t_fewest a_t_heavy a_t_sums a_t_faces a_t_bestFaces a_t_text a_t_verbs a_t_book a_t_many a_t_nums t_typed t_at t_start t_token t_value t_items t_book'_2 t_many t_nums)) rfl 0 rfl rfl rfl (As := [.int ((t_many p1.toNatClampNeg) - (1 : Int32)), .int x2_2, .int (t_nums ((7 : Int32) * p1).toNatClampNeg)]) (rest := []) rfl rfl ⟨rfl, rfl, Nat.le_of_ble_eq_true rfl, Nat.le_of_ble_eq_true rfl⟩ (Nat.le_of_ble_eq_true rfl) (Nat.zero_le _) (Nat.zero_le _) dX12_tellsWord_92 (fun H locs hW => ?_)
    clear hC16
    refine lv_goto (tgt := 100) hx hb dX12_tellsWord_95 (by decide) ?_
    have hq := Option.some.inj hF
    subst hq
    exact hret _ _ _ _ hW dX12_tellsWord_100
abbrev wd_R_tellsItem (E : m_E) (a_t : Nat) (a_t_images : Nat) (a_t_kept : Nat) (a_t_aside : Nat) (a_t_limbs : Nat) (a_t_wide : Nat) (a_t_hears : Nat) (a_t_spies : Nat) (a_t_known : Nat) (a_t_by : Nat) (a_t_ways : Nat) (a_t_fewest : Nat) (a_t_heavy : Nat) (a_t_sums : Nat) (a_t_faces : Nat) (a_t_bestFaces : Nat) (a_t_text : Nat) (a_t_book : Nat) (a_t_verbs : Nat) (a_t_many : Nat) (a_t_nums : Nat) (t_typed : Int32) (t_at : Int32) (t_start : Int32) (t_token : Int32) (t_value : Int32) (t_items : Int32) (t_book : Nat → Int32) (t_verbs : Nat → Int32) (t_many : Nat → Int32) (t_nums : Nat → Int32) : va_W := [(a_t, .inr (12, [.ref a_t_book, .ref a_t_images, .ref a_t_kept, .ref a_t_aside, .ref a_t_limbs, .ref a_t_wide, .ref a_t_hears, .ref a_t_spies, .ref a_t_known, .ref a_t_by, .ref a_t_ways, .ref a_t_fewest, .ref a_t_heavy, .ref a_t_sums, .ref a_t_faces, .ref a_t_bestFaces, .ref a_t_text, .int t_typed, .int t_at, .int t_start, .int t_token, .int t_value, .ref a_t_verbs, .ref a_t_many, .ref a_t_nums, .int t_items])), (a_t_book, .inl (E.2.1 0, 240, .inl t_book)), (a_t_verbs, .inl (E.2.1 0, 240, .inl t_verbs)), (a_t_many, .inl (E.2.1 0, 240, .inl t_many)), (a_t_nums, .inl (E.2.1 0, 1680, .inl t_nums))]
def rm_R_tellsItem : Room := { frames := 3, cells := 0, slots := 0, locals := 73 }
set_option maxHeartbeats 4000000 in
set_option maxRecDepth 100000 in
theorem c_R_tellsItem (l : Launch) (E : m_E) (sz N : Nat) (a_t : Nat) (a_t_images : Nat) (a_t_kept : Nat) (a_t_aside : Nat) (a_t_limbs : Nat) (a_t_wide : Nat) (a_t_hears : Nat) (a_t_spies : Nat) (a_t_known : Nat) (a_t_by : Nat) (a_t_ways : Nat) (a_t_fewest : Nat) (a_t_heavy : Nat) (a_t_sums : Nat) (a_t_faces : Nat) (a_t_bestFaces : Nat) (a_t_text : Nat) (a_t_book : Nat) (a_t_verbs : Nat) (a_t_many : Nat) (a_t_nums : Nat) (t_typed : Int32) (t_at : Int32) (t_start : Int32) (t_token : Int32) (t_value : Int32) (t_items : Int32) (t_book : Nat → Int32) (t_verbs : Nat → Int32) (t_many : Nat → Int32) (t_nums : Nat → Int32) (p1 : Int32) (ures : Int32 × (Nat → Int32)) (hF : F_R_tellsItem N p1 t_book t_verbs t_many t_nums = some ures) : m_Met l yX12_tellsItem cX12_tellsItem 5 (some .int) rm_R_tellsItem E (wd_R_tellsItem E a_t a_t_images a_t_kept a_t_aside a_t_limbs a_t_wide a_t_hears a_t_spies a_t_known a_t_by a_t_ways a_t_fewest a_t_heavy a_t_sums a_t_faces a_t_bestFaces a_t_text a_t_book a_t_verbs a_t_many a_t_nums t_typed t_at t_start t_token t_value t_items t_book t_verbs t_many t_nums) (wd_R_tellsItem E a_t a_t_images a_t_kept a_t_aside a_t_limbs a_t_wide a_t_hears a_t_spies a_t_known a_t_by a_t_ways a_t_fewest a_t_heavy a_t_sums a_t_faces a_t_bestFaces a_t_text a_t_book a_t_verbs a_t_many a_t_nums t_typed t_at t_start t_token t_value t_items ures.2 t_verbs t_many t_nums) sz [.ref a_t, .int p1] (some (.int ures.1)) := by
  refine m_ofI (by decide) (Nat.le_of_ble_eq_true rfl) ?_
  intro p e s m args below meth c A Q ls X hW hA hl hret
  obtain ⟨hx, hb, -, hown, hts, hK, -, hG⟩ := id X
  have hl : lv_has ls 5 [(0, .ref a_t), (1, .int p1)] := hl
  unfold F_R_tellsItem at hF
  refine lv_aload_n hx hb dX12_tellsItem_0 rfl (lv_at hl 0 rfl) ?_
  refine m_get X hW fdX12_68 0 rfl rfl dX12_tellsItem_1 ?_
  refine lv_bipush (v := (7 : Int32)) hx hb dX12_tellsItem_4 (by decide) ?_
  refine lv_iload_n hx hb dX12_tellsItem_6 rfl (lv_at hl 1 rfl) ?_
  refine lv_imul hx hb dX12_tellsItem_7 ?_
  obtain ⟨g1, hF⟩ := gd_some hF
  refine m_iald X hW 4 (k := ((7 : Int32) * p1).toNatClampNeg) rfl g1 rfl dX12_tellsItem_8 ?_
  refine lv_istore_n (lv' := [(2, .int (t_nums ((7 : Int32) * p1).toNatClampNeg)), (0, .ref a_t), (1, .int p1)]) hx hb dX12_tellsItem_9 rfl hl (by decide) rfl (fun ls hl => ?_)
  refine lv_aload_n hx hb dX12_tellsItem_10 rfl (lv_at hl 1 rfl) ?_
  refine m_get X hW fdX12_68 0 rfl rfl dX12_tellsItem_11 ?_
  refine lv_bipush (v := (7 : Int32)) hx hb dX12_tellsItem_14 (by decide) ?_
  refine lv_iload_n hx hb dX12_tellsItem_16 rfl (lv_at hl 2 rfl) ?_
  refine lv_imul hx hb dX12_tellsItem_17 ?_
  refine lv_iconst (v := (1 : Int32)) hx hb dX12_tellsItem_18 (by decide) ?_
  refine lv_iadd hx hb dX12_tellsItem_19 ?_
  obtain ⟨g2, hF⟩ := gd_some hF
  refine m_iald X hW 4 (k := (((7 : Int32) * p1) + (1 : Int32)).toNatClampNeg) rfl g2 rfl dX12_tellsItem_20 ?_
  refine lv_istore_n (lv' := [(3, .int (t_nums (((7 : Int32) * p1) + (1 : Int32)).toNatClampNeg)), (2, .int (t_nums ((7 : Int32) * p1).toNatClampNeg)), (0, .ref a_t), (1, .int p1)]) hx hb dX12_tellsItem_21 rfl hl (by decide) rfl (fun ls hl => ?_)
  refine lv_aload_n hx hb dX12_tellsItem_22 rfl (lv_at hl 2 rfl) ?_
  refine m_get X hW fdX12_68 0 rfl rfl dX12_tellsItem_23 ?_
  refine lv_bipush (v := (7 : Int32)) hx hb dX12_tellsItem_26 (by decide) ?_
  refine lv_iload_n hx hb dX12_tellsItem_28 rfl (lv_at hl 3 rfl) ?_
  refine lv_imul hx hb dX12_tellsItem_29 ?_
  refine lv_iconst (v := (2 : Int32)) hx hb dX12_tellsItem_30 (by decide) ?_
  refine lv_iadd hx hb dX12_tellsItem_31 ?_
  obtain ⟨g3, hF⟩ := gd_some hF
  refine m_iald X hW 4 (k := (((7 : Int32) * p1) + (2 : Int32)).toNatClampNeg) rfl g3 rfl dX12_tellsItem_32 ?_
  refine lv_istore (lv' := [(4, .int (t_nums (((7 : Int32) * p1) + (2 : Int32)).toNatClampNeg)), (3, .int (t_nums (((7 : Int32) * p1) + (1 : Int32)).toNatClampNeg)), (2, .int (t_nums ((7 : Int32) * p1).toNatClampNeg)), (0, .ref a_t), (1, .int p1)]) hx hb dX12_tellsItem_33 hl (by decide) rfl (fun ls hl => ?_)
  refine lv_aload_n hx hb dX12_tellsItem_35 rfl (lv_at hl 3 rfl) ?_
  refine m_get X hW fdX12_62 0 rfl rfl dX12_tellsItem_36 ?_
  refine lv_iload_n hx hb dX12_tellsItem_39 rfl (lv_at hl 4 rfl) ?_
  obtain ⟨g4, hF⟩ := gd_some hF
  refine m_iald X hW 2 (k := p1.toNatClampNeg) rfl g4 rfl dX12_tellsItem_40 ?_
  by_cases c5 : (t_verbs p1.toNatClampNeg) = (10 : Int32)
  · have hF := if_y c5 hF
    refine lv_tableIn (tgt := 80) hx hb dX12_tellsItem_41 (by rw [c5]; decide) (by rw [c5]; decide) (by rw [c5]; rfl) (by decide) ?_
    refine lv_aload_n hx hb dX12_tellsItem_80 rfl (lv_at hl 3 rfl) ?_
    refine lv_iload_n hx hb dX12_tellsItem_81 rfl (lv_at hl 2 rfl) ?_
    obtain ⟨r82, t_book'_9, hC6, hF⟩ := bO_s2 hF
    refine m_callV X hW hA hl.1 lkX12_329 (c_R_pillar l E _ N a_t a_t_images a_t_kept a_t_aside a_t_limbs a_t_wide a_t_hears a_t_spies a_t_known a_t_by a_t_ways a_t_fewest a_t_heavy a_t_sums a_t_faces a_t_bestFaces a_t_text a_t_verbs a_t_many a_t_nums a_t_book t_typed t_at t_start t_token t_value t_items t_book (t_nums ((7 : Int32) * p1).toNatClampNeg) (r82, t_book'_9) hC6) ([0, 1]) (by decide) rfl rfl (ws' := (wd_R_tellsItem E a_t a_t_images a_t_kept a_t_aside a_t_limbs a_t_wide a_t_hears a_t_spies a_t_known a_t_by a_t_ways a_t_fewest a_t_heavy a_t_sums a_t_faces a_t_bestFaces a_t_text a_t_book a_t_verbs a_t_many a_t_nums t_typed t_at t_start t_token t_value t_items t_book'_9 t_verbs t_many t_nums)) rfl 0 rfl rfl rfl (As := [.int (t_nums ((7 : Int32) * p1).toNatClampNeg)]) (rest := []) rfl rfl ⟨rfl, rfl, Nat.le_of_ble_eq_true rfl, Nat.le_of_ble_eq_true rfl⟩ (Nat.le_of_ble_eq_true rfl) (Nat.zero_le _) (Nat.zero_le _) dX12_tellsItem_82 (fun H locs hW => ?_)
    clear hC6
    have hq := Option.some.inj hF
    subst hq
    exact hret _ _ _ _ hW dX12_tellsItem_85
  · have hF := if_n c5 hF
    by_cases c7 : (t_verbs p1.toNatClampNeg) = (11 : Int32)
    · have hF := if_y c7 hF
      refine lv_tableIn (tgt := 86) hx hb dX12_tellsItem_41 (by rw [c7]; decide) (by rw [c7]; decide) (by rw [c7]; rfl) (by decide) ?_
      refine lv_aload_n hx hb dX12_tellsItem_86 rfl (lv_at hl 3 rfl) ?_
      refine lv_iload_n hx hb dX12_tellsItem_87 rfl (lv_at hl 2 rfl) ?_
      refine lv_iload_n hx hb dX12_tellsItem_88 rfl (lv_at hl 1 rfl) ?_
      obtain ⟨r89, t_book'_10, hC8, hF⟩ := bO_s2 hF
      refine m_callV X hW hA hl.1 lkX12_332 (c_R_weaver l E _ N a_t a_t_images a_t_kept a_t_aside a_t_limbs a_t_wide a_t_hears a_t_spies a_t_known a_t_by a_t_ways a_t_fewest a_t_heavy a_t_sums a_t_faces a_t_bestFaces a_t_text a_t_verbs a_t_many a_t_nums a_t_book t_typed t_at t_start t_token t_value t_items t_book (t_nums ((7 : Int32) * p1).toNatClampNeg) (t_nums (((7 : Int32) * p1) + (1 : Int32)).toNatClampNeg) (r89, t_book'_10) hC8) ([0, 1]) (by decide) rfl rfl (ws' := (wd_R_tellsItem E a_t a_t_images a_t_kept a_t_aside a_t_limbs a_t_wide a_t_hears a_t_spies a_t_known a_t_by a_t_ways a_t_fewest a_t_heavy a_t_sums a_t_faces a_t_bestFaces a_t_text a_t_book a_t_verbs a_t_many a_t_nums t_typed t_at t_start t_token t_value t_items t_book'_10 t_verbs t_many t_nums)) rfl 0 rfl rfl rfl (As := [.int (t_nums ((7 : Int32) * p1).toNatClampNeg), .int (t_nums (((7 : Int32) * p1) + (1 : Int32)).toNatClampNeg)]) (rest := []) rfl rfl ⟨rfl, rfl, Nat.le_of_ble_eq_true rfl, Nat.le_of_ble_eq_true rfl⟩ (Nat.le_of_ble_eq_true rfl) (Nat.zero_le _) (Nat.zero_le _) dX12_tellsItem_89 (fun H locs hW => ?_)
      clear hC8
      have hq := Option.some.inj hF
      subst hq
      exact hret _ _ _ _ hW dX12_tellsItem_92
    · have hF := if_n c7 hF
      by_cases c9 : (t_verbs p1.toNatClampNeg) = (12 : Int32)
      · have hF := if_y c9 hF
        refine lv_tableIn (tgt := 93) hx hb dX12_tellsItem_41 (by rw [c9]; decide) (by rw [c9]; decide) (by rw [c9]; rfl) (by decide) ?_
        refine lv_aload_n hx hb dX12_tellsItem_93 rfl (lv_at hl 3 rfl) ?_
        refine lv_iload_n hx hb dX12_tellsItem_94 rfl (lv_at hl 2 rfl) ?_
        refine lv_iconst (v := (0 : Int32)) hx hb dX12_tellsItem_95 (by decide) ?_
        refine lv_iload_n hx hb dX12_tellsItem_96 rfl (lv_at hl 1 rfl) ?_
        refine lv_iload hx hb dX12_tellsItem_97 (lv_at hl 0 rfl) ?_
        obtain ⟨r99, t_book'_11, hC10, hF⟩ := bO_s2 hF
        refine m_callV X hW hA hl.1 lkX12_335 (c_R_free l E _ N a_t a_t_images a_t_kept a_t_aside a_t_limbs a_t_wide a_t_hears a_t_spies a_t_known a_t_by a_t_ways a_t_fewest a_t_heavy a_t_sums a_t_faces a_t_bestFaces a_t_text a_t_verbs a_t_many a_t_nums a_t_book t_typed t_at t_start t_token t_value t_items t_book (t_nums ((7 : Int32) * p1).toNatClampNeg) (0 : Int32) (t_nums (((7 : Int32) * p1) + (1 : Int32)).toNatClampNeg) (t_nums (((7 : Int32) * p1) + (2 : Int32)).toNatClampNeg) (r99, t_book'_11) hC10) ([0, 1]) (by decide) rfl rfl (ws' := (wd_R_tellsItem E a_t a_t_images a_t_kept a_t_aside a_t_limbs a_t_wide a_t_hears a_t_spies a_t_known a_t_by a_t_ways a_t_fewest a_t_heavy a_t_sums a_t_faces a_t_bestFaces a_t_text a_t_book a_t_verbs a_t_many a_t_nums t_typed t_at t_start t_token t_value t_items t_book'_11 t_verbs t_many t_nums)) rfl 0 rfl rfl rfl (As := [.int (t_nums ((7 : Int32) * p1).toNatClampNeg), .int (0 : Int32), .int (t_nums (((7 : Int32) * p1) + (1 : Int32)).toNatClampNeg), .int (t_nums (((7 : Int32) * p1) + (2 : Int32)).toNatClampNeg)]) (rest := []) rfl rfl ⟨rfl, rfl, Nat.le_of_ble_eq_true rfl, Nat.le_of_ble_eq_true rfl⟩ (Nat.le_of_ble_eq_true rfl) (Nat.zero_le _) (Nat.zero_le _) dX12_tellsItem_99 (fun H locs hW => ?_)
        clear hC10
        have hq := Option.some.inj hF
        subst hq
        exact hret _ _ _ _ hW dX12_tellsItem_102
      · have hF := if_n c9 hF
        by_cases c11 : (t_verbs p1.toNatClampNeg) = (13 : Int32)
        · have hF := if_y c11 hF
          refine lv_tableIn (tgt := 103) hx hb dX12_tellsItem_41 (by rw [c11]; decide) (by rw [c11]; decide) (by rw [c11]; rfl) (by decide) ?_
          refine lv_aload_n hx hb dX12_tellsItem_103 rfl (lv_at hl 3 rfl) ?_
          refine lv_iload_n hx hb dX12_tellsItem_104 rfl (lv_at hl 2 rfl) ?_
          refine lv_iconst (v := (1 : Int32)) hx hb dX12_tellsItem_105 (by decide) ?_
          refine lv_iload_n hx hb dX12_tellsItem_106 rfl (lv_at hl 1 rfl) ?_
          refine lv_iload hx hb dX12_tellsItem_107 (lv_at hl 0 rfl) ?_
          obtain ⟨r109, t_book'_12, hC12, hF⟩ := bO_s2 hF
          refine m_callV X hW hA hl.1 lkX12_335 (c_R_free l E _ N a_t a_t_images a_t_kept a_t_aside a_t_limbs a_t_wide a_t_hears a_t_spies a_t_known a_t_by a_t_ways a_t_fewest a_t_heavy a_t_sums a_t_faces a_t_bestFaces a_t_text a_t_verbs a_t_many a_t_nums a_t_book t_typed t_at t_start t_token t_value t_items t_book (t_nums ((7 : Int32) * p1).toNatClampNeg) (1 : Int32) (t_nums (((7 : Int32) * p1) + (1 : Int32)).toNatClampNeg) (t_nums (((7 : Int32) * p1) + (2 : Int32)).toNatClampNeg) (r109, t_book'_12) hC12) ([0, 1]) (by decide) rfl rfl (ws' := (wd_R_tellsItem E a_t a_t_images a_t_kept a_t_aside a_t_limbs a_t_wide a_t_hears a_t_spies a_t_known a_t_by a_t_ways a_t_fewest a_t_heavy a_t_sums a_t_faces a_t_bestFaces a_t_text a_t_book a_t_verbs a_t_many a_t_nums t_typed t_at t_start t_token t_value t_items t_book'_12 t_verbs t_many t_nums)) rfl 0 rfl rfl rfl (As := [.int (t_nums ((7 : Int32) * p1).toNatClampNeg), .int (1 : Int32), .int (t_nums (((7 : Int32) * p1) + (1 : Int32)).toNatClampNeg), .int (t_nums (((7 : Int32) * p1) + (2 : Int32)).toNatClampNeg)]) (rest := []) rfl rfl ⟨rfl, rfl, Nat.le_of_ble_eq_true rfl, Nat.le_of_ble_eq_true rfl⟩ (Nat.le_of_ble_eq_true rfl) (Nat.zero_le _) (Nat.zero_le _) dX12_tellsItem_109 (fun H locs hW => ?_)
          clear hC12
          have hq := Option.some.inj hF
          subst hq
          exact hret _ _ _ _ hW dX12_tellsItem_112
        · have hF := if_n c11 hF
          by_cases c13 : (t_verbs p1.toNatClampNeg) = (14 : Int32)
          · have hF := if_y c13 hF
            refine lv_tableIn (tgt := 113) hx hb dX12_tellsItem_41 (by rw [c13]; decide) (by rw [c13]; decide) (by rw [c13]; rfl) (by decide) ?_
            refine lv_aload_n hx hb dX12_tellsItem_113 rfl (lv_at hl 3 rfl) ?_
            refine lv_iconst (v := (0 : Int32)) hx hb dX12_tellsItem_114 (by decide) ?_
            refine lv_iload_n hx hb dX12_tellsItem_115 rfl (lv_at hl 2 rfl) ?_
            obtain ⟨r116, t_book'_13, hC14, hF⟩ := bO_s2 hF
            refine m_callV X hW hA hl.1 lkX12_339 (c_R_far l E _ N a_t a_t_images a_t_kept a_t_aside a_t_limbs a_t_wide a_t_hears a_t_spies a_t_known a_t_by a_t_ways a_t_fewest a_t_heavy a_t_sums a_t_faces a_t_bestFaces a_t_text a_t_verbs a_t_many a_t_nums a_t_book t_typed t_at t_start t_token t_value t_items t_book (0 : Int32) (t_nums ((7 : Int32) * p1).toNatClampNeg) (r116, t_book'_13) hC14) ([0, 1]) (by decide) rfl rfl (ws' := (wd_R_tellsItem E a_t a_t_images a_t_kept a_t_aside a_t_limbs a_t_wide a_t_hears a_t_spies a_t_known a_t_by a_t_ways a_t_fewest a_t_heavy a_t_sums a_t_faces a_t_bestFaces a_t_text a_t_book a_t_verbs a_t_many a_t_nums t_typed t_at t_start t_token t_value t_items t_book'_13 t_verbs t_many t_nums)) rfl 0 rfl rfl rfl (As := [.int (0 : Int32), .int (t_nums ((7 : Int32) * p1).toNatClampNeg)]) (rest := []) rfl rfl ⟨rfl, rfl, Nat.le_of_ble_eq_true rfl, Nat.le_of_ble_eq_true rfl⟩ (Nat.le_of_ble_eq_true rfl) (Nat.zero_le _) (Nat.zero_le _) dX12_tellsItem_116 (fun H locs hW => ?_)
            clear hC14
            refine lv_if_lt (tgt := 131) hx hb dX12_tellsItem_119 (by decide) (fun c15 => ?_) (fun c15 => ?_)
            · have hF := if_y c15 hF
              refine lv_bipush (v := (-2 : Int32)) hx hb dX12_tellsItem_131 (by decide) ?_
              refine lv_goto (tgt := 137) hx hb dX12_tellsItem_133 (by decide) ?_
              have hq := Option.some.inj hF
              subst hq
              exact hret _ _ _ _ hW dX12_tellsItem_137
            · have hF := if_n c15 hF
              refine lv_aload_n hx hb dX12_tellsItem_122 rfl (lv_at hl 3 rfl) ?_
              refine lv_iconst (v := (1 : Int32)) hx hb dX12_tellsItem_123 (by decide) ?_
              refine lv_iload_n hx hb dX12_tellsItem_124 rfl (lv_at hl 1 rfl) ?_
              obtain ⟨r125, t_book'_14, hC16, hF⟩ := bO_s2 hF
              refine m_callV X hW hA hl.1 lkX12_339 (c_R_far l E _ N a_t a_t_images a_t_kept a_t_aside a_t_limbs a_t_wide a_t_hears a_t_spies a_t_known a_t_by a_t_ways a_t_fewest a_t_heavy a_t_sums a_t_faces a_t_bestFaces a_t_text a_t_verbs a_t_many a_t_nums a_t_book t_typed t_at t_start t_token t_value t_items t_book'_13 (1 : Int32) (t_nums (((7 : Int32) * p1) + (1 : Int32)).toNatClampNeg) (r125, t_book'_14) hC16) ([0, 1]) (by decide) rfl rfl (ws' := (wd_R_tellsItem E a_t a_t_images a_t_kept a_t_aside a_t_limbs a_t_wide a_t_hears a_t_spies a_t_known a_t_by a_t_ways a_t_fewest a_t_heavy a_t_sums a_t_faces a_t_bestFaces a_t_text a_t_book a_t_verbs a_t_many a_t_nums t_typed t_at t_start t_token t_value t_items t_book'_14 t_verbs t_many t_nums)) rfl 0 rfl rfl rfl (As := [.int (1 : Int32), .int (t_nums (((7 : Int32) * p1) + (1 : Int32)).toNatClampNeg)]) (rest := []) rfl rfl ⟨rfl, rfl, Nat.le_of_ble_eq_true rfl, Nat.le_of_ble_eq_true rfl⟩ (Nat.le_of_ble_eq_true rfl) (Nat.zero_le _) (Nat.zero_le _) dX12_tellsItem_125 (fun H locs hW => ?_)
              clear hC16
              refine lv_if_ge (tgt := 136) hx hb dX12_tellsItem_128 (by decide) (fun c17 => ?_) (fun c17 => ?_)
              · have hF := if_y c17 hF
                refine lv_iconst (v := (0 : Int32)) hx hb dX12_tellsItem_136 (by decide) ?_
                have hq := Option.some.inj hF
                subst hq
                exact hret _ _ _ _ hW dX12_tellsItem_137
              · have hF := if_n c17 hF
                refine lv_bipush (v := (-2 : Int32)) hx hb dX12_tellsItem_131 (by decide) ?_
                refine lv_goto (tgt := 137) hx hb dX12_tellsItem_133 (by decide) ?_
                have hq := Option.some.inj hF
                subst hq
                exact hret _ _ _ _ hW dX12_tellsItem_137
          · have hF := if_n c13 hF
            by_cases c18 : (t_verbs p1.toNatClampNeg) = (15 : Int32)
            · have hF := if_y c18 hF
              refine lv_tableIn (tgt := 138) hx hb dX12_tellsItem_41 (by rw [c18]; decide) (by rw [c18]; decide) (by rw [c18]; rfl) (by decide) ?_
              refine lv_aload_n hx hb dX12_tellsItem_138 rfl (lv_at hl 3 rfl) ?_
              refine lv_iload_n hx hb dX12_tellsItem_139 rfl (lv_at hl 4 rfl) ?_
              obtain ⟨r140, t_book'_15, hC19, hF⟩ := bO_s2 hF
              refine m_callV X hW hA hl.1 lkX12_342 (c_R_tellsWord l E _ N a_t a_t_images a_t_kept a_t_aside a_t_limbs a_t_wide a_t_hears a_t_spies a_t_known a_t_by a_t_ways a_t_fewest a_t_heavy a_t_sums a_t_faces a_t_bestFaces a_t_text a_t_verbs a_t_book a_t_many a_t_nums t_typed t_at t_start t_token t_value t_items t_book t_many t_nums p1 (r140, t_book'_15) hC19) ([0, 1, 3, 4]) (by decide) rfl rfl (ws' := (wd_R_tellsItem E a_t a_t_images a_t_kept a_t_aside a_t_limbs a_t_wide a_t_hears a_t_spies a_t_known a_t_by a_t_ways a_t_fewest a_t_heavy a_t_sums a_t_faces a_t_bestFaces a_t_text a_t_book a_t_verbs a_t_many a_t_nums t_typed t_at t_start t_token t_value t_items t_book'_15 t_verbs t_many t_nums)) rfl 0 rfl rfl rfl (As := [.int p1]) (rest := []) rfl rfl ⟨rfl, rfl, Nat.le_of_ble_eq_true rfl, Nat.le_of_ble_eq_true rfl⟩ (Nat.le_of_ble_eq_true rfl) (Nat.zero_le _) (Nat.zero_le _) dX12_tellsItem_140 (fun H locs hW => ?_)
              clear hC19
              have hq := Option.some.inj hF
              subst hq
              exact hret _ _ _ _ hW dX12_tellsItem_143
            · have hF := if_n c18 hF
              refine lv_tableOut (tgt := 144) hx hb dX12_tellsItem_41 (m_sw_10_15 c5 c7 c9 c11 c13 c18) (by decide) ?_
              refine lv_aload_n hx hb dX12_tellsItem_144 rfl (lv_at hl 3 rfl) ?_
              refine lv_iload_n hx hb dX12_tellsItem_145 rfl (lv_at hl 2 rfl) ?_
              refine lv_iload_n hx hb dX12_tellsItem_146 rfl (lv_at hl 1 rfl) ?_
              obtain ⟨r147, t_book'_16, hC20, hF⟩ := bO_s2 hF
              refine m_callV X hW hA hl.1 lkX12_345 (c_R_like l E _ N a_t a_t_images a_t_kept a_t_aside a_t_limbs a_t_wide a_t_hears a_t_spies a_t_known a_t_by a_t_ways a_t_fewest a_t_heavy a_t_sums a_t_faces a_t_bestFaces a_t_text a_t_verbs a_t_many a_t_nums a_t_book t_typed t_at t_start t_token t_value t_items t_book (t_nums ((7 : Int32) * p1).toNatClampNeg) (t_nums (((7 : Int32) * p1) + (1 : Int32)).toNatClampNeg) (r147, t_book'_16) hC20) ([0, 1]) (by decide) rfl rfl (ws' := (wd_R_tellsItem E a_t a_t_images a_t_kept a_t_aside a_t_limbs a_t_wide a_t_hears a_t_spies a_t_known a_t_by a_t_ways a_t_fewest a_t_heavy a_t_sums a_t_faces a_t_bestFaces a_t_text a_t_book a_t_verbs a_t_many a_t_nums t_typed t_at t_start t_token t_value t_items t_book'_16 t_verbs t_many t_nums)) rfl 0 rfl rfl rfl (As := [.int (t_nums ((7 : Int32) * p1).toNatClampNeg), .int (t_nums (((7 : Int32) * p1) + (1 : Int32)).toNatClampNeg)]) (rest := []) rfl rfl ⟨rfl, rfl, Nat.le_of_ble_eq_true rfl, Nat.le_of_ble_eq_true rfl⟩ (Nat.le_of_ble_eq_true rfl) (Nat.zero_le _) (Nat.zero_le _) dX12_tellsItem_147 (fun H locs hW => ?_)
              clear hC20
              have hq := Option.some.inj hF
              subst hq
              exact hret _ _ _ _ hW dX12_tellsItem_150
abbrev wd_R_shed (E : m_E) (a_t : Nat) (a_t_images : Nat) (a_t_kept : Nat) (a_t_limbs : Nat) (a_t_wide : Nat) (a_t_hears : Nat) (a_t_spies : Nat) (a_t_known : Nat) (a_t_by : Nat) (a_t_ways : Nat) (a_t_fewest : Nat) (a_t_heavy : Nat) (a_t_sums : Nat) (a_t_faces : Nat) (a_t_bestFaces : Nat) (a_t_book : Nat) (a_t_aside : Nat) (a_t_text : Nat) (a_t_verbs : Nat) (a_t_many : Nat) (a_t_nums : Nat) (t_typed : Int32) (t_at : Int32) (t_start : Int32) (t_token : Int32) (t_value : Int32) (t_items : Int32) (t_book : Nat → Int32) (t_aside : Nat → Int32) (t_text : Nat → Int32) (t_verbs : Nat → Int32) (t_many : Nat → Int32) (t_nums : Nat → Int32) : va_W := [(a_t, .inr (12, [.ref a_t_book, .ref a_t_images, .ref a_t_kept, .ref a_t_aside, .ref a_t_limbs, .ref a_t_wide, .ref a_t_hears, .ref a_t_spies, .ref a_t_known, .ref a_t_by, .ref a_t_ways, .ref a_t_fewest, .ref a_t_heavy, .ref a_t_sums, .ref a_t_faces, .ref a_t_bestFaces, .ref a_t_text, .int t_typed, .int t_at, .int t_start, .int t_token, .int t_value, .ref a_t_verbs, .ref a_t_many, .ref a_t_nums, .int t_items])), (a_t_book, .inl (E.2.1 0, 240, .inl t_book)), (a_t_aside, .inl (E.2.1 0, 240, .inl t_aside)), (a_t_text, .inl (E.2.1 0, 240, .inl t_text)), (a_t_verbs, .inl (E.2.1 0, 240, .inl t_verbs)), (a_t_many, .inl (E.2.1 0, 240, .inl t_many)), (a_t_nums, .inl (E.2.1 0, 1680, .inl t_nums))]
def rm_R_shed : Room := { frames := 4, cells := 0, slots := 0, locals := 97 }
set_option maxHeartbeats 4000000 in
set_option maxRecDepth 100000 in
theorem c_R_shed (l : Launch) (E : m_E) (sz N : Nat) (a_t : Nat) (a_t_images : Nat) (a_t_kept : Nat) (a_t_limbs : Nat) (a_t_wide : Nat) (a_t_hears : Nat) (a_t_spies : Nat) (a_t_known : Nat) (a_t_by : Nat) (a_t_ways : Nat) (a_t_fewest : Nat) (a_t_heavy : Nat) (a_t_sums : Nat) (a_t_faces : Nat) (a_t_bestFaces : Nat) (a_t_book : Nat) (a_t_aside : Nat) (a_t_text : Nat) (a_t_verbs : Nat) (a_t_many : Nat) (a_t_nums : Nat) (t_typed : Int32) (t_at : Int32) (t_start : Int32) (t_token : Int32) (t_value : Int32) (t_items : Int32) (t_book : Nat → Int32) (t_aside : Nat → Int32) (t_text : Nat → Int32) (t_verbs : Nat → Int32) (t_many : Nat → Int32) (t_nums : Nat → Int32)  (ures : Int32 × Int32 × Int32 × Int32 × Int32 × Int32 × (Nat → Int32) × (Nat → Int32) × (Nat → Int32) × (Nat → Int32) × (Nat → Int32)) (hF : F_R_shed N t_typed t_value t_book t_aside t_text t_verbs t_many t_nums = some ures) : m_Met l yX12_shed cX12_shed 3 (some .int) rm_R_shed E (wd_R_shed E a_t a_t_images a_t_kept a_t_limbs a_t_wide a_t_hears a_t_spies a_t_known a_t_by a_t_ways a_t_fewest a_t_heavy a_t_sums a_t_faces a_t_bestFaces a_t_book a_t_aside a_t_text a_t_verbs a_t_many a_t_nums t_typed t_at t_start t_token t_value t_items t_book t_aside t_text t_verbs t_many t_nums) (wd_R_shed E a_t a_t_images a_t_kept a_t_limbs a_t_wide a_t_hears a_t_spies a_t_known a_t_by a_t_ways a_t_fewest a_t_heavy a_t_sums a_t_faces a_t_bestFaces a_t_book a_t_aside a_t_text a_t_verbs a_t_many a_t_nums t_typed ures.2.1 ures.2.2.1 ures.2.2.2.1 ures.2.2.2.2.1 ures.2.2.2.2.2.1 ures.2.2.2.2.2.2.1 ures.2.2.2.2.2.2.2.1 t_text ures.2.2.2.2.2.2.2.2.1 ures.2.2.2.2.2.2.2.2.2.1 ures.2.2.2.2.2.2.2.2.2.2) sz [.ref a_t] (some (.int ures.1)) := by
  refine m_ofI (by decide) (Nat.le_of_ble_eq_true rfl) ?_
  intro p e s m args below meth c A Q ls X hW hA hl hret
  obtain ⟨hx, hb, -, hown, hts, hK, -, hG⟩ := id X
  have hl : lv_has ls 3 [(0, .ref a_t)] := hl
  unfold F_R_shed at hF
  refine lv_aload_n hx hb dX12_shed_0 rfl (lv_at hl 0 rfl) ?_
  obtain ⟨r1, t_at'_2, t_start'_2, t_token'_2, t_value'_2, t_items'_2, t_verbs'_2, t_many'_2, t_nums'_2, hC1, hF⟩ := bO_s9 hF
  refine m_callV X hW hA hl.1 lkX12_348 (c_R_readsText l E _ N a_t a_t_book a_t_images a_t_kept a_t_aside a_t_limbs a_t_wide a_t_hears a_t_spies a_t_known a_t_by a_t_ways a_t_fewest a_t_heavy a_t_sums a_t_faces a_t_bestFaces a_t_text a_t_verbs a_t_many a_t_nums t_typed t_at t_start t_token t_value t_items t_text t_verbs t_many t_nums  (r1, t_at'_2, t_start'_2, t_token'_2, t_value'_2, t_items'_2, t_verbs'_2, t_many'_2, t_nums'_2) hC1) ([0, 3, 4, 5, 6]) (by decide) rfl rfl (ws' := (wd_R_shed E a_t a_t_images a_t_kept a_t_limbs a_t_wide a_t_hears a_t_spies a_t_known a_t_by a_t_ways a_t_fewest a_t_heavy a_t_sums a_t_faces a_t_bestFaces a_t_book a_t_aside a_t_text a_t_verbs a_t_many a_t_nums t_typed t_at'_2 t_start'_2 t_token'_2 t_value'_2 t_items'_2 t_book t_aside t_text t_verbs'_2 t_many'_2 t_nums'_2)) rfl 0 rfl rfl rfl (As := []) (rest := []) rfl rfl ⟨rfl, rfl, Nat.le_of_ble_eq_true rfl, Nat.le_of_ble_eq_true rfl⟩ (Nat.le_of_ble_eq_true rfl) (Nat.zero_le _) (Nat.zero_le _) dX12_shed_1 (fun H locs hW => ?_)
  clear hC1
  refine lv_if_ne (tgt := 15) hx hb dX12_shed_4 (by decide) (fun c2 => ?_) (fun c2 => ?_)
  · have hF := if_n c2 hF
    refine lv_iconst (v := (0 : Int32)) hx hb dX12_shed_15 (by decide) ?_
    refine lv_istore_n (lv' := [(1, .int (0 : Int32)), (0, .ref a_t)]) hx hb dX12_shed_16 rfl hl (by decide) rfl (fun ls hl => ?_)
    obtain ⟨t_aside'_4, hX4, hF⟩ := bO_s1 hF
    have L3 : ∀ (k0 : Nat) (x1 : Int32) (t_aside'_3 : Nat → Int32) (t_aside'_4 : Nat → Int32) (H : Heap) (locs : List Loc) (ls : Array Slot), R_shed_L17 t_book k0 x1 t_aside'_3 = some t_aside'_4 → m_H E A (wd_R_shed E a_t a_t_images a_t_kept a_t_limbs a_t_wide a_t_hears a_t_spies a_t_known a_t_by a_t_ways a_t_fewest a_t_heavy a_t_sums a_t_faces a_t_bestFaces a_t_book a_t_aside a_t_text a_t_verbs a_t_many a_t_nums t_typed t_at'_2 t_start'_2 t_token'_2 t_value'_2 t_items'_2 t_book t_aside'_3 t_text t_verbs'_2 t_many'_2 t_nums'_2) s.heap H locs → lv_has ls 3 [(1, .int x1), (0, .ref a_t)] → (∀ (H : Heap) (locs : List Loc) (ls : Array Slot), m_H E A (wd_R_shed E a_t a_t_images a_t_kept a_t_limbs a_t_wide a_t_hears a_t_spies a_t_known a_t_by a_t_ways a_t_fewest a_t_heavy a_t_sums a_t_faces a_t_bestFaces a_t_book a_t_aside a_t_text a_t_verbs a_t_many a_t_nums t_typed t_at'_2 t_start'_2 t_token'_2 t_value'_2 t_items'_2 t_book t_aside'_4 t_text t_verbs'_2 t_many'_2 t_nums'_2) s.heap H locs → lv_has ls 3 [(0, .ref a_t)] → W p l e rm_R_shed s m args below meth c H locs 0 0 Q (F0 m 42 ls [])) → W p l e rm_R_shed s m args below meth c H locs 0 0 Q (F0 m 17 ls []) := by
      clear hF
      intro k0
      induction k0 with
      | zero =>
        intro x1 t_aside'_3 t_aside'_4 H locs ls hF
        cases hF
      | succ k0 ih6 =>
        intro x1 t_aside'_3 t_aside'_4 H locs ls hF hW hl hk5
        rw [R_shed_L17] at hF
        refine lv_iload_n hx hb dX12_shed_17 rfl (lv_at hl 0 rfl) ?_
        refine lv_sipush (v := (240 : Int32)) hx hb dX12_shed_18 (by decide) ?_
        refine lv_icmp_ge (tgt := 42) hx hb dX12_shed_21 (by decide) (fun c7 => ?_) (fun c7 => ?_)
        · have hF := if_y c7 hF
          cases hF
          exact hk5 _ _ _ hW (lv_sub hl [1] rfl)
        · have hF := if_n c7 hF
          refine lv_aload_n hx hb dX12_shed_24 rfl (lv_at hl 1 rfl) ?_
          refine m_get X hW fdX12_20 0 rfl rfl dX12_shed_25 ?_
          refine lv_iload_n hx hb dX12_shed_28 rfl (lv_at hl 0 rfl) ?_
          refine lv_aload_n hx hb dX12_shed_29 rfl (lv_at hl 1 rfl) ?_
          refine m_get X hW fdX12_7 0 rfl rfl dX12_shed_30 ?_
          refine lv_iload_n hx hb dX12_shed_33 rfl (lv_at hl 0 rfl) ?_
          obtain ⟨g8, hF⟩ := gd_some hF
          refine m_iald X hW 1 (k := x1.toNatClampNeg) rfl g8 rfl dX12_shed_34 ?_
          refine m_iast X hW 2 (k := x1.toNatClampNeg) rfl g8 rfl dX12_shed_35 (ws' := (wd_R_shed E a_t a_t_images a_t_kept a_t_limbs a_t_wide a_t_hears a_t_spies a_t_known a_t_by a_t_ways a_t_fewest a_t_heavy a_t_sums a_t_faces a_t_bestFaces a_t_book a_t_aside a_t_text a_t_verbs a_t_many a_t_nums t_typed t_at'_2 t_start'_2 t_token'_2 t_value'_2 t_items'_2 t_book (upd t_aside'_3 x1.toNatClampNeg (t_book x1.toNatClampNeg)) t_text t_verbs'_2 t_many'_2 t_nums'_2)) rfl (fun H locs hW => ?_)
          refine lv_iinc (v := (x1 + (1 : Int32))) (lv' := [(1, .int (x1 + (1 : Int32))), (0, .ref a_t)]) hx hb dX12_shed_36 hl (k := 0) rfl rfl (by decide) rfl (fun ls hl => ?_)
          refine lv_goto (tgt := 17) hx hb dX12_shed_39 (by decide) ?_
          exact ih6 (x1 + (1 : Int32)) (upd t_aside'_3 x1.toNatClampNeg (t_book x1.toNatClampNeg)) t_aside'_4 _ _ _ hF hW (lv_sub hl [0, 1] rfl) hk5
    refine L3 N (0 : Int32) t_aside t_aside'_4 _ _ _ hX4 hW (lv_sub hl [0, 1] rfl) ?_
    intro H locs ls hW hl
    clear L3
    refine lv_aload_n hx hb dX12_shed_42 rfl (lv_at hl 0 rfl) ?_
    obtain ⟨t_book'_7, hC9, hF⟩ := bO_s1 hF
    refine m_callV X hW hA hl.1 lkX12_71 (c_R_begins l E _ N a_t a_t_images a_t_kept a_t_aside a_t_limbs a_t_wide a_t_hears a_t_spies a_t_known a_t_by a_t_ways a_t_fewest a_t_heavy a_t_sums a_t_faces a_t_bestFaces a_t_text a_t_verbs a_t_many a_t_nums a_t_book t_typed t_at'_2 t_start'_2 t_token'_2 t_value'_2 t_items'_2 t_book  t_book'_7 hC9) ([0, 1]) (by decide) rfl rfl (ws' := (wd_R_shed E a_t a_t_images a_t_kept a_t_limbs a_t_wide a_t_hears a_t_spies a_t_known a_t_by a_t_ways a_t_fewest a_t_heavy a_t_sums a_t_faces a_t_bestFaces a_t_book a_t_aside a_t_text a_t_verbs a_t_many a_t_nums t_typed t_at'_2 t_start'_2 t_token'_2 t_value'_2 t_items'_2 t_book'_7 t_aside'_4 t_text t_verbs'_2 t_many'_2 t_nums'_2)) rfl 0 rfl rfl rfl (As := []) (rest := []) rfl rfl ⟨rfl, rfl, Nat.le_of_ble_eq_true rfl, Nat.le_of_ble_eq_true rfl⟩ (Nat.le_of_ble_eq_true rfl) (Nat.zero_le _) (Nat.zero_le _) dX12_shed_43 (fun H locs hW => ?_)
    clear hC9
    refine lv_iconst (v := (0 : Int32)) hx hb dX12_shed_46 (by decide) ?_
    refine lv_istore_n (lv' := [(1, .int (0 : Int32)), (0, .ref a_t)]) hx hb dX12_shed_47 rfl hl (by decide) rfl (fun ls hl => ?_)
    obtain ⟨out15, hX11, hr14, hF⟩ := bT_s1 hF
    have L10 : ∀ (k0 : Nat) (x1_2 : Int32) (t_book'_8 : Nat → Int32) (out17 : (Int32 × Int32 × Int32 × Int32 × Int32 × Int32 × (Nat → Int32) × (Nat → Int32) × (Nat → Int32) × (Nat → Int32) × (Nat → Int32)) ⊕ ((Nat → Int32)))  (H : Heap) (locs : List Loc) (ls : Array Slot), R_shed_L48 N t_items'_2 t_verbs'_2 t_many'_2 t_nums'_2 t_aside'_4 t_at'_2 t_start'_2 t_token'_2 t_value'_2 k0 x1_2 t_book'_8 = some out17 → m_H E A (wd_R_shed E a_t a_t_images a_t_kept a_t_limbs a_t_wide a_t_hears a_t_spies a_t_known a_t_by a_t_ways a_t_fewest a_t_heavy a_t_sums a_t_faces a_t_bestFaces a_t_book a_t_aside a_t_text a_t_verbs a_t_many a_t_nums t_typed t_at'_2 t_start'_2 t_token'_2 t_value'_2 t_items'_2 t_book'_8 t_aside'_4 t_text t_verbs'_2 t_many'_2 t_nums'_2) s.heap H locs → lv_has ls 3 [(1, .int x1_2), (0, .ref a_t)] → (∀ a, out17 = .inl a → a = ures) → (∀ (t_book'_12 : Nat → Int32) (H : Heap) (locs : List Loc) (ls : Array Slot), out17 = .inr t_book'_12 → m_H E A (wd_R_shed E a_t a_t_images a_t_kept a_t_limbs a_t_wide a_t_hears a_t_spies a_t_known a_t_by a_t_ways a_t_fewest a_t_heavy a_t_sums a_t_faces a_t_bestFaces a_t_book a_t_aside a_t_text a_t_verbs a_t_many a_t_nums t_typed t_at'_2 t_start'_2 t_token'_2 t_value'_2 t_items'_2 t_book'_12 t_aside'_4 t_text t_verbs'_2 t_many'_2 t_nums'_2) s.heap H locs → lv_has ls 3 [(0, .ref a_t)] → W p l e rm_R_shed s m args below meth c H locs 0 0 Q (F0 m 103 ls [])) → W p l e rm_R_shed s m args below meth c H locs 0 0 Q (F0 m 48 ls []) := by
      clear hF
      intro k0
      induction k0 with
      | zero =>
        intro x1_2 t_book'_8 out17 H locs ls hF
        cases hF
      | succ k0 ih13 =>
        intro x1_2 t_book'_8 out17 H locs ls hF hW hl hr16 hk12
        rw [R_shed_L48] at hF
        refine lv_iload_n hx hb dX12_shed_48 rfl (lv_at hl 0 rfl) ?_
        refine lv_aload_n hx hb dX12_shed_49 rfl (lv_at hl 1 rfl) ?_
        refine m_get X hW fdX12_317 0 rfl rfl dX12_shed_50 ?_
        refine lv_icmp_ge (tgt := 103) hx hb dX12_shed_53 (by decide) (fun c18 => ?_) (fun c18 => ?_)
        · have hF := if_y c18 hF
          exact hk12 t_book'_8 _ _ _ (Option.some.inj hF).symm hW (lv_sub hl [1] rfl)
        · have hF := if_n c18 hF
          refine lv_aload_n hx hb dX12_shed_56 rfl (lv_at hl 1 rfl) ?_
          refine lv_iload_n hx hb dX12_shed_57 rfl (lv_at hl 0 rfl) ?_
          obtain ⟨r58, t_book'_9, hC19, hF⟩ := bO_s2 hF
          refine m_callV X hW hA hl.1 lkX12_352 (c_R_tellsItem l E _ N a_t a_t_images a_t_kept a_t_aside a_t_limbs a_t_wide a_t_hears a_t_spies a_t_known a_t_by a_t_ways a_t_fewest a_t_heavy a_t_sums a_t_faces a_t_bestFaces a_t_text a_t_book a_t_verbs a_t_many a_t_nums t_typed t_at'_2 t_start'_2 t_token'_2 t_value'_2 t_items'_2 t_book'_8 t_verbs'_2 t_many'_2 t_nums'_2 x1_2 (r58, t_book'_9) hC19) ([0, 1, 4, 5, 6]) (by decide) rfl rfl (ws' := (wd_R_shed E a_t a_t_images a_t_kept a_t_limbs a_t_wide a_t_hears a_t_spies a_t_known a_t_by a_t_ways a_t_fewest a_t_heavy a_t_sums a_t_faces a_t_bestFaces a_t_book a_t_aside a_t_text a_t_verbs a_t_many a_t_nums t_typed t_at'_2 t_start'_2 t_token'_2 t_value'_2 t_items'_2 t_book'_9 t_aside'_4 t_text t_verbs'_2 t_many'_2 t_nums'_2)) rfl 0 rfl rfl rfl (As := [.int x1_2]) (rest := []) rfl rfl ⟨rfl, rfl, Nat.le_of_ble_eq_true rfl, Nat.le_of_ble_eq_true rfl⟩ (Nat.le_of_ble_eq_true rfl) (Nat.zero_le _) (Nat.zero_le _) dX12_shed_58 (fun H locs hW => ?_)
          clear hC19
          refine lv_if_ge (tgt := 97) hx hb dX12_shed_61 (by decide) (fun c20 => ?_) (fun c20 => ?_)
          · have hF := if_y c20 hF
            refine lv_iinc (v := (x1_2 + (1 : Int32))) (lv' := [(1, .int (x1_2 + (1 : Int32))), (0, .ref a_t)]) hx hb dX12_shed_97 hl (k := 0) rfl rfl (by decide) rfl (fun ls hl => ?_)
            refine lv_goto (tgt := 48) hx hb dX12_shed_100 (by decide) ?_
            exact ih13 (x1_2 + (1 : Int32)) t_book'_9 out17 _ _ _ hF hW (lv_sub hl [0, 1] rfl) hr16 hk12
          · have hF := if_n c20 hF
            refine lv_iconst (v := (0 : Int32)) hx hb dX12_shed_64 (by decide) ?_
            refine lv_istore_n (lv' := [(2, .int (0 : Int32)), (1, .int x1_2), (0, .ref a_t)]) hx hb dX12_shed_65 rfl hl (by decide) rfl (fun ls hl => ?_)
            obtain ⟨t_book'_11, hX22, hF⟩ := bO_s1 hF
            have L21 : ∀ (k0 : Nat) (x2 : Int32) (t_book'_10 : Nat → Int32) (t_book'_11 : Nat → Int32) (H : Heap) (locs : List Loc) (ls : Array Slot), R_shed_L66 t_aside'_4 k0 x2 t_book'_10 = some t_book'_11 → m_H E A (wd_R_shed E a_t a_t_images a_t_kept a_t_limbs a_t_wide a_t_hears a_t_spies a_t_known a_t_by a_t_ways a_t_fewest a_t_heavy a_t_sums a_t_faces a_t_bestFaces a_t_book a_t_aside a_t_text a_t_verbs a_t_many a_t_nums t_typed t_at'_2 t_start'_2 t_token'_2 t_value'_2 t_items'_2 t_book'_10 t_aside'_4 t_text t_verbs'_2 t_many'_2 t_nums'_2) s.heap H locs → lv_has ls 3 [(2, .int x2), (1, .int x1_2), (0, .ref a_t)] → (∀ (H : Heap) (locs : List Loc) (ls : Array Slot), m_H E A (wd_R_shed E a_t a_t_images a_t_kept a_t_limbs a_t_wide a_t_hears a_t_spies a_t_known a_t_by a_t_ways a_t_fewest a_t_heavy a_t_sums a_t_faces a_t_bestFaces a_t_book a_t_aside a_t_text a_t_verbs a_t_many a_t_nums t_typed t_at'_2 t_start'_2 t_token'_2 t_value'_2 t_items'_2 t_book'_11 t_aside'_4 t_text t_verbs'_2 t_many'_2 t_nums'_2) s.heap H locs → lv_has ls 3 [(1, .int x1_2)] → W p l e rm_R_shed s m args below meth c H locs 0 0 Q (F0 m 91 ls [])) → W p l e rm_R_shed s m args below meth c H locs 0 0 Q (F0 m 66 ls []) := by
              clear hF
              intro k0
              induction k0 with
              | zero =>
                intro x2 t_book'_10 t_book'_11 H locs ls hF
                cases hF
              | succ k0 ih24 =>
                intro x2 t_book'_10 t_book'_11 H locs ls hF hW hl hk23
                rw [R_shed_L66] at hF
                refine lv_iload_n hx hb dX12_shed_66 rfl (lv_at hl 0 rfl) ?_
                refine lv_sipush (v := (240 : Int32)) hx hb dX12_shed_67 (by decide) ?_
                refine lv_icmp_ge (tgt := 91) hx hb dX12_shed_70 (by decide) (fun c25 => ?_) (fun c25 => ?_)
                · have hF := if_y c25 hF
                  cases hF
                  exact hk23 _ _ _ hW (lv_sub hl [1] rfl)
                · have hF := if_n c25 hF
                  refine lv_aload_n hx hb dX12_shed_73 rfl (lv_at hl 2 rfl) ?_
                  refine m_get X hW fdX12_7 0 rfl rfl dX12_shed_74 ?_
                  refine lv_iload_n hx hb dX12_shed_77 rfl (lv_at hl 0 rfl) ?_
                  refine lv_aload_n hx hb dX12_shed_78 rfl (lv_at hl 2 rfl) ?_
                  refine m_get X hW fdX12_20 0 rfl rfl dX12_shed_79 ?_
                  refine lv_iload_n hx hb dX12_shed_82 rfl (lv_at hl 0 rfl) ?_
                  obtain ⟨g26, hF⟩ := gd_some hF
                  refine m_iald X hW 2 (k := x2.toNatClampNeg) rfl g26 rfl dX12_shed_83 ?_
                  refine m_iast X hW 1 (k := x2.toNatClampNeg) rfl g26 rfl dX12_shed_84 (ws' := (wd_R_shed E a_t a_t_images a_t_kept a_t_limbs a_t_wide a_t_hears a_t_spies a_t_known a_t_by a_t_ways a_t_fewest a_t_heavy a_t_sums a_t_faces a_t_bestFaces a_t_book a_t_aside a_t_text a_t_verbs a_t_many a_t_nums t_typed t_at'_2 t_start'_2 t_token'_2 t_value'_2 t_items'_2 (upd t_book'_10 x2.toNatClampNeg (t_aside'_4 x2.toNatClampNeg)) t_aside'_4 t_text t_verbs'_2 t_many'_2 t_nums'_2)) rfl (fun H locs hW => ?_)
                  refine lv_iinc (v := (x2 + (1 : Int32))) (lv' := [(2, .int (x2 + (1 : Int32))), (1, .int x1_2), (0, .ref a_t)]) hx hb dX12_shed_85 hl (k := 0) rfl rfl (by decide) rfl (fun ls hl => ?_)
                  refine lv_goto (tgt := 66) hx hb dX12_shed_88 (by decide) ?_
                  exact ih24 (x2 + (1 : Int32)) (upd t_book'_10 x2.toNatClampNeg (t_aside'_4 x2.toNatClampNeg)) t_book'_11 _ _ _ hF hW (lv_sub hl [0, 1, 2] rfl) hk23
            refine L21 N (0 : Int32) t_book'_9 t_book'_11 _ _ _ hX22 hW (lv_sub hl [0, 1, 2] rfl) ?_
            intro H locs ls hW hl
            clear L21
            refine lv_sipush (v := (-1000 : Int32)) hx hb dX12_shed_91 (by decide) ?_
            refine lv_iload_n hx hb dX12_shed_94 rfl (lv_at hl 0 rfl) ?_
            refine lv_isub hx hb dX12_shed_95 ?_
            have hq := (Option.some.inj hF).symm
            have hq := hr16 _ hq
            subst hq
            exact hret _ _ _ _ hW dX12_shed_96
    refine L10 N (0 : Int32) t_book'_7 out15 _ _ _ hX11 hW (lv_sub hl [0, 1] rfl) hr14 ?_
    intro t_book'_12 H locs ls ho hW hl
    have hF := hF t_book'_12 ho
    clear L10
    refine lv_aload_n hx hb dX12_shed_103 rfl (lv_at hl 0 rfl) ?_
    refine m_get X hW fdX12_317 0 rfl rfl dX12_shed_104 ?_
    have hq := Option.some.inj hF
    subst hq
    exact hret _ _ _ _ hW dX12_shed_107
  · have hF := if_y c2 hF
    refine lv_bipush (v := (-10 : Int32)) hx hb dX12_shed_7 (by decide) ?_
    refine lv_aload_n hx hb dX12_shed_9 rfl (lv_at hl 0 rfl) ?_
    refine m_get X hW fdX12_297 0 rfl rfl dX12_shed_10 ?_
    refine lv_isub hx hb dX12_shed_13 ?_
    have hq := Option.some.inj hF
    subst hq
    exact hret _ _ _ _ hW dX12_shed_14
abbrev wd_R_image (E : m_E) (a_t : Nat) (a_t_aside : Nat) (a_t_limbs : Nat) (a_t_wide : Nat) (a_t_hears : Nat) (a_t_spies : Nat) (a_t_known : Nat) (a_t_by : Nat) (a_t_ways : Nat) (a_t_fewest : Nat) (a_t_heavy : Nat) (a_t_sums : Nat) (a_t_faces : Nat) (a_t_bestFaces : Nat) (a_t_text : Nat) (a_t_verbs : Nat) (a_t_many : Nat) (a_t_nums : Nat) (a_t_book : Nat) (a_t_images : Nat) (a_t_kept : Nat) (t_typed : Int32) (t_at : Int32) (t_start : Int32) (t_token : Int32) (t_value : Int32) (t_items : Int32) (t_book : Nat → Int32) (t_images : Nat → Int32) (t_kept : Nat → Int32) : va_W := [(a_t, .inr (12, [.ref a_t_book, .ref a_t_images, .ref a_t_kept, .ref a_t_aside, .ref a_t_limbs, .ref a_t_wide, .ref a_t_hears, .ref a_t_spies, .ref a_t_known, .ref a_t_by, .ref a_t_ways, .ref a_t_fewest, .ref a_t_heavy, .ref a_t_sums, .ref a_t_faces, .ref a_t_bestFaces, .ref a_t_text, .int t_typed, .int t_at, .int t_start, .int t_token, .int t_value, .ref a_t_verbs, .ref a_t_many, .ref a_t_nums, .int t_items])), (a_t_book, .inl (E.2.1 0, 240, .inl t_book)), (a_t_images, .inl (E.2.1 0, 480, .inl t_images)), (a_t_kept, .inl (E.2.1 1, 2, .inl t_kept))]
def rm_R_image : Room := { frames := 1, cells := 0, slots := 0, locals := 25 }
set_option maxHeartbeats 4000000 in
set_option maxRecDepth 100000 in
theorem c_R_image (l : Launch) (E : m_E) (sz N : Nat) (a_t : Nat) (a_t_aside : Nat) (a_t_limbs : Nat) (a_t_wide : Nat) (a_t_hears : Nat) (a_t_spies : Nat) (a_t_known : Nat) (a_t_by : Nat) (a_t_ways : Nat) (a_t_fewest : Nat) (a_t_heavy : Nat) (a_t_sums : Nat) (a_t_faces : Nat) (a_t_bestFaces : Nat) (a_t_text : Nat) (a_t_verbs : Nat) (a_t_many : Nat) (a_t_nums : Nat) (a_t_book : Nat) (a_t_images : Nat) (a_t_kept : Nat) (t_typed : Int32) (t_at : Int32) (t_start : Int32) (t_token : Int32) (t_value : Int32) (t_items : Int32) (t_book : Nat → Int32) (t_images : Nat → Int32) (t_kept : Nat → Int32) (p1 : Int32) (ures : Int32 × (Nat → Int32) × (Nat → Int32)) (hF : F_R_image N p1 t_book t_images t_kept = some ures) : m_Met l yX12_image cX12_image 3 (some .int) rm_R_image E (wd_R_image E a_t a_t_aside a_t_limbs a_t_wide a_t_hears a_t_spies a_t_known a_t_by a_t_ways a_t_fewest a_t_heavy a_t_sums a_t_faces a_t_bestFaces a_t_text a_t_verbs a_t_many a_t_nums a_t_book a_t_images a_t_kept t_typed t_at t_start t_token t_value t_items t_book t_images t_kept) (wd_R_image E a_t a_t_aside a_t_limbs a_t_wide a_t_hears a_t_spies a_t_known a_t_by a_t_ways a_t_fewest a_t_heavy a_t_sums a_t_faces a_t_bestFaces a_t_text a_t_verbs a_t_many a_t_nums a_t_book a_t_images a_t_kept t_typed t_at t_start t_token t_value t_items t_book ures.2.1 ures.2.2) sz [.ref a_t, .int p1] (some (.int ures.1)) := by
  refine m_ofI (by decide) (Nat.le_of_ble_eq_true rfl) ?_
  intro p e s m args below meth c A Q ls X hW hA hl hret
  obtain ⟨hx, hb, -, hown, hts, hK, -, hG⟩ := id X
  have hl : lv_has ls 3 [(0, .ref a_t), (1, .int p1)] := hl
  unfold F_R_image at hF
  refine lv_iload_n hx hb dX12_image_0 rfl (lv_at hl 1 rfl) ?_
  refine lv_i2l (v := p1.toInt64) hx hb dX12_image_1 rfl ?_
  refine lv_lconst (v := (0 : Int64)) hx hb dX12_image_2 (by decide) ?_
  refine lv_lconst (v := (1 : Int64)) hx hb dX12_image_3 (by decide) ?_
  refine m_callS X hW hA hl.1 lkX12_109 (c_R_in l E _ N   p1.toInt64 (0 : Int64) (1 : Int64) (F_R_in p1.toInt64 (0 : Int64) (1 : Int64)) rfl) ([]) (by decide) rfl rfl (ws' := (wd_R_image E a_t a_t_aside a_t_limbs a_t_wide a_t_hears a_t_spies a_t_known a_t_by a_t_ways a_t_fewest a_t_heavy a_t_sums a_t_faces a_t_bestFaces a_t_text a_t_verbs a_t_many a_t_nums a_t_book a_t_images a_t_kept t_typed t_at t_start t_token t_value t_items t_book t_images t_kept)) rfl (As := [.long p1.toInt64, .long (0 : Int64), .long (1 : Int64)]) (rest := []) rfl rfl ⟨rfl, rfl, Nat.le_of_ble_eq_true rfl, Nat.le_of_ble_eq_true rfl⟩ (Nat.le_of_ble_eq_true rfl) (Nat.zero_le _) (Nat.zero_le _) dX12_image_4 (fun H locs hW => ?_)
  refine lv_if_ne (tgt := 13) hx hb dX12_image_7 (by decide) (fun c1 => ?_) (fun c1 => ?_)
  · have hF := if_n c1 hF
    refine lv_iconst (v := (0 : Int32)) hx hb dX12_image_13 (by decide) ?_
    refine lv_istore_n (lv' := [(2, .int (0 : Int32)), (0, .ref a_t), (1, .int p1)]) hx hb dX12_image_14 rfl hl (by decide) rfl (fun ls hl => ?_)
    obtain ⟨t_images'_4, hX3, hF⟩ := bO_s1 hF
    have L2 : ∀ (k0 : Nat) (x2 : Int32) (t_images'_3 : Nat → Int32) (t_images'_4 : Nat → Int32) (H : Heap) (locs : List Loc) (ls : Array Slot), R_image_L15 p1 t_book k0 x2 t_images'_3 = some t_images'_4 → m_H E A (wd_R_image E a_t a_t_aside a_t_limbs a_t_wide a_t_hears a_t_spies a_t_known a_t_by a_t_ways a_t_fewest a_t_heavy a_t_sums a_t_faces a_t_bestFaces a_t_text a_t_verbs a_t_many a_t_nums a_t_book a_t_images a_t_kept t_typed t_at t_start t_token t_value t_items t_book t_images'_3 t_kept) s.heap H locs → lv_has ls 3 [(2, .int x2), (0, .ref a_t), (1, .int p1)] → (∀ (H : Heap) (locs : List Loc) (ls : Array Slot), m_H E A (wd_R_image E a_t a_t_aside a_t_limbs a_t_wide a_t_hears a_t_spies a_t_known a_t_by a_t_ways a_t_fewest a_t_heavy a_t_sums a_t_faces a_t_bestFaces a_t_text a_t_verbs a_t_many a_t_nums a_t_book a_t_images a_t_kept t_typed t_at t_start t_token t_value t_items t_book t_images'_4 t_kept) s.heap H locs → lv_has ls 3 [(0, .ref a_t), (1, .int p1)] → W p l e rm_R_image s m args below meth c H locs 0 0 Q (F0 m 46 ls [])) → W p l e rm_R_image s m args below meth c H locs 0 0 Q (F0 m 15 ls []) := by
      clear hF
      intro k0
      induction k0 with
      | zero =>
        intro x2 t_images'_3 t_images'_4 H locs ls hF
        cases hF
      | succ k0 ih5 =>
        intro x2 t_images'_3 t_images'_4 H locs ls hF hW hl hk4
        rw [R_image_L15] at hF
        refine lv_iload_n hx hb dX12_image_15 rfl (lv_at hl 0 rfl) ?_
        refine lv_sipush (v := (240 : Int32)) hx hb dX12_image_16 (by decide) ?_
        refine lv_icmp_ge (tgt := 46) hx hb dX12_image_19 (by decide) (fun c6 => ?_) (fun c6 => ?_)
        · have hF := if_y c6 hF
          cases hF
          exact hk4 _ _ _ hW (lv_sub hl [1, 2] rfl)
        · have hF := if_n c6 hF
          refine lv_aload_n hx hb dX12_image_22 rfl (lv_at hl 1 rfl) ?_
          refine m_get X hW fdX12_13 0 rfl rfl dX12_image_23 ?_
          refine lv_sipush (v := (240 : Int32)) hx hb dX12_image_26 (by decide) ?_
          refine lv_iload_n hx hb dX12_image_29 rfl (lv_at hl 2 rfl) ?_
          refine lv_imul hx hb dX12_image_30 ?_
          refine lv_iload_n hx hb dX12_image_31 rfl (lv_at hl 0 rfl) ?_
          refine lv_iadd hx hb dX12_image_32 ?_
          refine lv_aload_n hx hb dX12_image_33 rfl (lv_at hl 1 rfl) ?_
          refine m_get X hW fdX12_7 0 rfl rfl dX12_image_34 ?_
          refine lv_iload_n hx hb dX12_image_37 rfl (lv_at hl 0 rfl) ?_
          obtain ⟨g7, hF⟩ := gd_some hF
          refine m_iald X hW 1 (k := x2.toNatClampNeg) rfl g7 rfl dX12_image_38 ?_
          obtain ⟨g8, hF⟩ := gd_some hF
          refine m_iast X hW 2 (k := (((240 : Int32) * p1) + x2).toNatClampNeg) rfl g8 rfl dX12_image_39 (ws' := (wd_R_image E a_t a_t_aside a_t_limbs a_t_wide a_t_hears a_t_spies a_t_known a_t_by a_t_ways a_t_fewest a_t_heavy a_t_sums a_t_faces a_t_bestFaces a_t_text a_t_verbs a_t_many a_t_nums a_t_book a_t_images a_t_kept t_typed t_at t_start t_token t_value t_items t_book (upd t_images'_3 (((240 : Int32) * p1) + x2).toNatClampNeg (t_book x2.toNatClampNeg)) t_kept)) rfl (fun H locs hW => ?_)
          refine lv_iinc (v := (x2 + (1 : Int32))) (lv' := [(2, .int (x2 + (1 : Int32))), (0, .ref a_t), (1, .int p1)]) hx hb dX12_image_40 hl (k := 0) rfl rfl (by decide) rfl (fun ls hl => ?_)
          refine lv_goto (tgt := 15) hx hb dX12_image_43 (by decide) ?_
          exact ih5 (x2 + (1 : Int32)) (upd t_images'_3 (((240 : Int32) * p1) + x2).toNatClampNeg (t_book x2.toNatClampNeg)) t_images'_4 _ _ _ hF hW (lv_sub hl [0, 1, 2] rfl) hk4
    refine L2 N (0 : Int32) t_images t_images'_4 _ _ _ hX3 hW (lv_sub hl [0, 1, 2] rfl) ?_
    intro H locs ls hW hl
    clear L2
    refine lv_aload_n hx hb dX12_image_46 rfl (lv_at hl 0 rfl) ?_
    refine m_get X hW fdX12_16 0 rfl rfl dX12_image_47 ?_
    refine lv_iload_n hx hb dX12_image_50 rfl (lv_at hl 1 rfl) ?_
    refine lv_iconst (v := (1 : Int32)) hx hb dX12_image_51 (by decide) ?_
    obtain ⟨g9, hF⟩ := gd_some hF
    refine m_zast X hW 3 (k := p1.toNatClampNeg) rfl g9 rfl dX12_image_52 (ws' := (wd_R_image E a_t a_t_aside a_t_limbs a_t_wide a_t_hears a_t_spies a_t_known a_t_by a_t_ways a_t_fewest a_t_heavy a_t_sums a_t_faces a_t_bestFaces a_t_text a_t_verbs a_t_many a_t_nums a_t_book a_t_images a_t_kept t_typed t_at t_start t_token t_value t_items t_book t_images'_4 (upd t_kept p1.toNatClampNeg (vp_nar .boolean (1 : Int32))))) rfl (fun H locs hW => ?_)
    refine lv_iconst (v := (1 : Int32)) hx hb dX12_image_53 (by decide) ?_
    have hq := Option.some.inj hF
    subst hq
    exact hret _ _ _ _ hW dX12_image_54
  · have hF := if_y c1 hF
    refine lv_bipush (v := (-2 : Int32)) hx hb dX12_image_10 (by decide) ?_
    have hq := Option.some.inj hF
    subst hq
    exact hret _ _ _ _ hW dX12_image_12
abbrev wd_R_from (E : m_E) (a_t : Nat) (a_t_aside : Nat) (a_t_limbs : Nat) (a_t_wide : Nat) (a_t_hears : Nat) (a_t_spies : Nat) (a_t_known : Nat) (a_t_by : Nat) (a_t_ways : Nat) (a_t_fewest : Nat) (a_t_heavy : Nat) (a_t_sums : Nat) (a_t_faces : Nat) (a_t_bestFaces : Nat) (a_t_text : Nat) (a_t_verbs : Nat) (a_t_many : Nat) (a_t_nums : Nat) (a_t_book : Nat) (a_t_images : Nat) (a_t_kept : Nat) (t_typed : Int32) (t_at : Int32) (t_start : Int32) (t_token : Int32) (t_value : Int32) (t_items : Int32) (t_book : Nat → Int32) (t_images : Nat → Int32) (t_kept : Nat → Int32) : va_W := [(a_t, .inr (12, [.ref a_t_book, .ref a_t_images, .ref a_t_kept, .ref a_t_aside, .ref a_t_limbs, .ref a_t_wide, .ref a_t_hears, .ref a_t_spies, .ref a_t_known, .ref a_t_by, .ref a_t_ways, .ref a_t_fewest, .ref a_t_heavy, .ref a_t_sums, .ref a_t_faces, .ref a_t_bestFaces, .ref a_t_text, .int t_typed, .int t_at, .int t_start, .int t_token, .int t_value, .ref a_t_verbs, .ref a_t_many, .ref a_t_nums, .int t_items])), (a_t_book, .inl (E.2.1 0, 240, .inl t_book)), (a_t_images, .inl (E.2.1 0, 480, .inl t_images)), (a_t_kept, .inl (E.2.1 1, 2, .inl t_kept))]
def rm_R_from : Room := { frames := 1, cells := 0, slots := 0, locals := 25 }
set_option maxHeartbeats 4000000 in
set_option maxRecDepth 100000 in
theorem c_R_from (l : Launch) (E : m_E) (sz N : Nat) (a_t : Nat) (a_t_aside : Nat) (a_t_limbs : Nat) (a_t_wide : Nat) (a_t_hears : Nat) (a_t_spies : Nat) (a_t_known : Nat) (a_t_by : Nat) (a_t_ways : Nat) (a_t_fewest : Nat) (a_t_heavy : Nat) (a_t_sums : Nat) (a_t_faces : Nat) (a_t_bestFaces : Nat) (a_t_text : Nat) (a_t_verbs : Nat) (a_t_many : Nat) (a_t_nums : Nat) (a_t_book : Nat) (a_t_images : Nat) (a_t_kept : Nat) (t_typed : Int32) (t_at : Int32) (t_start : Int32) (t_token : Int32) (t_value : Int32) (t_items : Int32) (t_book : Nat → Int32) (t_images : Nat → Int32) (t_kept : Nat → Int32) (p1 : Int32) (ures : Int32 × (Nat → Int32)) (hF : F_R_from N p1 t_book t_images t_kept = some ures) : m_Met l yX12_from cX12_from 3 (some .int) rm_R_from E (wd_R_from E a_t a_t_aside a_t_limbs a_t_wide a_t_hears a_t_spies a_t_known a_t_by a_t_ways a_t_fewest a_t_heavy a_t_sums a_t_faces a_t_bestFaces a_t_text a_t_verbs a_t_many a_t_nums a_t_book a_t_images a_t_kept t_typed t_at t_start t_token t_value t_items t_book t_images t_kept) (wd_R_from E a_t a_t_aside a_t_limbs a_t_wide a_t_hears a_t_spies a_t_known a_t_by a_t_ways a_t_fewest a_t_heavy a_t_sums a_t_faces a_t_bestFaces a_t_text a_t_verbs a_t_many a_t_nums a_t_book a_t_images a_t_kept t_typed t_at t_start t_token t_value t_items ures.2 t_images t_kept) sz [.ref a_t, .int p1] (some (.int ures.1)) := by
  refine m_ofI (by decide) (Nat.le_of_ble_eq_true rfl) ?_
  intro p e s m args below meth c A Q ls X hW hA hl hret
  obtain ⟨hx, hb, -, hown, hts, hK, -, hG⟩ := id X
  have hl : lv_has ls 3 [(0, .ref a_t), (1, .int p1)] := hl
  unfold F_R_from at hF
  refine lv_iload_n hx hb dX12_from_0 rfl (lv_at hl 1 rfl) ?_
  refine lv_i2l (v := p1.toInt64) hx hb dX12_from_1 rfl ?_
  refine lv_lconst (v := (0 : Int64)) hx hb dX12_from_2 (by decide) ?_
  refine lv_lconst (v := (1 : Int64)) hx hb dX12_from_3 (by decide) ?_
  refine m_callS X hW hA hl.1 lkX12_109 (c_R_in l E _ N   p1.toInt64 (0 : Int64) (1 : Int64) (F_R_in p1.toInt64 (0 : Int64) (1 : Int64)) rfl) ([]) (by decide) rfl rfl (ws' := (wd_R_from E a_t a_t_aside a_t_limbs a_t_wide a_t_hears a_t_spies a_t_known a_t_by a_t_ways a_t_fewest a_t_heavy a_t_sums a_t_faces a_t_bestFaces a_t_text a_t_verbs a_t_many a_t_nums a_t_book a_t_images a_t_kept t_typed t_at t_start t_token t_value t_items t_book t_images t_kept)) rfl (As := [.long p1.toInt64, .long (0 : Int64), .long (1 : Int64)]) (rest := []) rfl rfl ⟨rfl, rfl, Nat.le_of_ble_eq_true rfl, Nat.le_of_ble_eq_true rfl⟩ (Nat.le_of_ble_eq_true rfl) (Nat.zero_le _) (Nat.zero_le _) dX12_from_4 (fun H locs hW => ?_)
  refine lv_if_ne (tgt := 13) hx hb dX12_from_7 (by decide) (fun c1 => ?_) (fun c1 => ?_)
  · have hF := if_n c1 hF
    refine lv_aload_n hx hb dX12_from_13 rfl (lv_at hl 0 rfl) ?_
    refine m_get X hW fdX12_16 0 rfl rfl dX12_from_14 ?_
    refine lv_iload_n hx hb dX12_from_17 rfl (lv_at hl 1 rfl) ?_
    obtain ⟨g2, hF⟩ := gd_some hF
    refine m_zald X hW 3 (k := p1.toNatClampNeg) rfl g2 rfl dX12_from_18 ?_
    refine lv_if_ne (tgt := 25) hx hb dX12_from_19 (by decide) (fun c3 => ?_) (fun c3 => ?_)
    · have hF := if_n c3 hF
      refine lv_iconst (v := (0 : Int32)) hx hb dX12_from_25 (by decide) ?_
      refine lv_istore_n (lv' := [(2, .int (0 : Int32)), (0, .ref a_t), (1, .int p1)]) hx hb dX12_from_26 rfl hl (by decide) rfl (fun ls hl => ?_)
      obtain ⟨t_book'_4, hX5, hF⟩ := bO_s1 hF
      have L4 : ∀ (k0 : Nat) (x2 : Int32) (t_book'_3 : Nat → Int32) (t_book'_4 : Nat → Int32) (H : Heap) (locs : List Loc) (ls : Array Slot), R_from_L27 p1 t_images k0 x2 t_book'_3 = some t_book'_4 → m_H E A (wd_R_from E a_t a_t_aside a_t_limbs a_t_wide a_t_hears a_t_spies a_t_known a_t_by a_t_ways a_t_fewest a_t_heavy a_t_sums a_t_faces a_t_bestFaces a_t_text a_t_verbs a_t_many a_t_nums a_t_book a_t_images a_t_kept t_typed t_at t_start t_token t_value t_items t_book'_3 t_images t_kept) s.heap H locs → lv_has ls 3 [(2, .int x2), (0, .ref a_t), (1, .int p1)] → (∀ (H : Heap) (locs : List Loc) (ls : Array Slot), m_H E A (wd_R_from E a_t a_t_aside a_t_limbs a_t_wide a_t_hears a_t_spies a_t_known a_t_by a_t_ways a_t_fewest a_t_heavy a_t_sums a_t_faces a_t_bestFaces a_t_text a_t_verbs a_t_many a_t_nums a_t_book a_t_images a_t_kept t_typed t_at t_start t_token t_value t_items t_book'_4 t_images t_kept) s.heap H locs → lv_has ls 3 [] → W p l e rm_R_from s m args below meth c H locs 0 0 Q (F0 m 58 ls [])) → W p l e rm_R_from s m args below meth c H locs 0 0 Q (F0 m 27 ls []) := by
        clear hF
        intro k0
        induction k0 with
        | zero =>
          intro x2 t_book'_3 t_book'_4 H locs ls hF
          cases hF
        | succ k0 ih7 =>
          intro x2 t_book'_3 t_book'_4 H locs ls hF hW hl hk6
          rw [R_from_L27] at hF
          refine lv_iload_n hx hb dX12_from_27 rfl (lv_at hl 0 rfl) ?_
          refine lv_sipush (v := (240 : Int32)) hx hb dX12_from_28 (by decide) ?_
          refine lv_icmp_ge (tgt := 58) hx hb dX12_from_31 (by decide) (fun c8 => ?_) (fun c8 => ?_)
          · have hF := if_y c8 hF
            cases hF
            exact hk6 _ _ _ hW (lv_sub hl [] rfl)
          · have hF := if_n c8 hF
            refine lv_aload_n hx hb dX12_from_34 rfl (lv_at hl 1 rfl) ?_
            refine m_get X hW fdX12_7 0 rfl rfl dX12_from_35 ?_
            refine lv_iload_n hx hb dX12_from_38 rfl (lv_at hl 0 rfl) ?_
            refine lv_aload_n hx hb dX12_from_39 rfl (lv_at hl 1 rfl) ?_
            refine m_get X hW fdX12_13 0 rfl rfl dX12_from_40 ?_
            refine lv_sipush (v := (240 : Int32)) hx hb dX12_from_43 (by decide) ?_
            refine lv_iload_n hx hb dX12_from_46 rfl (lv_at hl 2 rfl) ?_
            refine lv_imul hx hb dX12_from_47 ?_
            refine lv_iload_n hx hb dX12_from_48 rfl (lv_at hl 0 rfl) ?_
            refine lv_iadd hx hb dX12_from_49 ?_
            obtain ⟨g9, hF⟩ := gd_some hF
            refine m_iald X hW 2 (k := (((240 : Int32) * p1) + x2).toNatClampNeg) rfl g9 rfl dX12_from_50 ?_
            obtain ⟨g10, hF⟩ := gd_some hF
            refine m_iast X hW 1 (k := x2.toNatClampNeg) rfl g10 rfl dX12_from_51 (ws' := (wd_R_from E a_t a_t_aside a_t_limbs a_t_wide a_t_hears a_t_spies a_t_known a_t_by a_t_ways a_t_fewest a_t_heavy a_t_sums a_t_faces a_t_bestFaces a_t_text a_t_verbs a_t_many a_t_nums a_t_book a_t_images a_t_kept t_typed t_at t_start t_token t_value t_items (upd t_book'_3 x2.toNatClampNeg (t_images (((240 : Int32) * p1) + x2).toNatClampNeg)) t_images t_kept)) rfl (fun H locs hW => ?_)
            refine lv_iinc (v := (x2 + (1 : Int32))) (lv' := [(2, .int (x2 + (1 : Int32))), (0, .ref a_t), (1, .int p1)]) hx hb dX12_from_52 hl (k := 0) rfl rfl (by decide) rfl (fun ls hl => ?_)
            refine lv_goto (tgt := 27) hx hb dX12_from_55 (by decide) ?_
            exact ih7 (x2 + (1 : Int32)) (upd t_book'_3 x2.toNatClampNeg (t_images (((240 : Int32) * p1) + x2).toNatClampNeg)) t_book'_4 _ _ _ hF hW (lv_sub hl [0, 1, 2] rfl) hk6
      refine L4 N (0 : Int32) t_book t_book'_4 _ _ _ hX5 hW (lv_sub hl [0, 1, 2] rfl) ?_
      intro H locs ls hW hl
      clear L4
      refine lv_iconst (v := (1 : Int32)) hx hb dX12_from_58 (by decide) ?_
      have hq := Option.some.inj hF
      subst hq
      exact hret _ _ _ _ hW dX12_from_59
    · have hF := if_y c3 hF
      refine lv_bipush (v := (-3 : Int32)) hx hb dX12_from_22 (by decide) ?_
      have hq := Option.some.inj hF
      subst hq
      exact hret _ _ _ _ hW dX12_from_24
  · have hF := if_y c1 hF
    refine lv_bipush (v := (-2 : Int32)) hx hb dX12_from_10 (by decide) ?_
    have hq := Option.some.inj hF
    subst hq
    exact hret _ _ _ _ hW dX12_from_12
abbrev wd_R_countOf (E : m_E) (a_t : Nat) (a_t_images : Nat) (a_t_kept : Nat) (a_t_aside : Nat) (a_t_limbs : Nat) (a_t_wide : Nat) (a_t_hears : Nat) (a_t_spies : Nat) (a_t_known : Nat) (a_t_by : Nat) (a_t_ways : Nat) (a_t_fewest : Nat) (a_t_heavy : Nat) (a_t_sums : Nat) (a_t_faces : Nat) (a_t_bestFaces : Nat) (a_t_text : Nat) (a_t_verbs : Nat) (a_t_many : Nat) (a_t_nums : Nat) (a_t_book : Nat) (t_typed : Int32) (t_at : Int32) (t_start : Int32) (t_token : Int32) (t_value : Int32) (t_items : Int32) (t_book : Nat → Int32) : va_W := [(a_t, .inr (12, [.ref a_t_book, .ref a_t_images, .ref a_t_kept, .ref a_t_aside, .ref a_t_limbs, .ref a_t_wide, .ref a_t_hears, .ref a_t_spies, .ref a_t_known, .ref a_t_by, .ref a_t_ways, .ref a_t_fewest, .ref a_t_heavy, .ref a_t_sums, .ref a_t_faces, .ref a_t_bestFaces, .ref a_t_text, .int t_typed, .int t_at, .int t_start, .int t_token, .int t_value, .ref a_t_verbs, .ref a_t_many, .ref a_t_nums, .int t_items])), (a_t_book, .inl (E.2.1 0, 240, .inl t_book))]
def rm_R_countOf : Room := { frames := 0, cells := 0, slots := 0, locals := 0 }
set_option maxHeartbeats 4000000 in
set_option maxRecDepth 100000 in
theorem c_R_countOf (l : Launch) (E : m_E) (sz N : Nat) (a_t : Nat) (a_t_images : Nat) (a_t_kept : Nat) (a_t_aside : Nat) (a_t_limbs : Nat) (a_t_wide : Nat) (a_t_hears : Nat) (a_t_spies : Nat) (a_t_known : Nat) (a_t_by : Nat) (a_t_ways : Nat) (a_t_fewest : Nat) (a_t_heavy : Nat) (a_t_sums : Nat) (a_t_faces : Nat) (a_t_bestFaces : Nat) (a_t_text : Nat) (a_t_verbs : Nat) (a_t_many : Nat) (a_t_nums : Nat) (a_t_book : Nat) (t_typed : Int32) (t_at : Int32) (t_start : Int32) (t_token : Int32) (t_value : Int32) (t_items : Int32) (t_book : Nat → Int32) (p1 : Int32) (ures : Int32) (hF : F_R_countOf p1 t_typed t_book = some ures) : m_Met l yX12_countOf cX12_countOf 2 (some .int) rm_R_countOf E (wd_R_countOf E a_t a_t_images a_t_kept a_t_aside a_t_limbs a_t_wide a_t_hears a_t_spies a_t_known a_t_by a_t_ways a_t_fewest a_t_heavy a_t_sums a_t_faces a_t_bestFaces a_t_text a_t_verbs a_t_many a_t_nums a_t_book t_typed t_at t_start t_token t_value t_items t_book) (wd_R_countOf E a_t a_t_images a_t_kept a_t_aside a_t_limbs a_t_wide a_t_hears a_t_spies a_t_known a_t_by a_t_ways a_t_fewest a_t_heavy a_t_sums a_t_faces a_t_bestFaces a_t_text a_t_verbs a_t_many a_t_nums a_t_book t_typed t_at t_start t_token t_value t_items t_book) sz [.ref a_t, .int p1] (some (.int ures)) := by
  refine m_ofI (by decide) (Nat.le_of_ble_eq_true rfl) ?_
  intro p e s m args below meth c A Q ls X hW hA hl hret
  obtain ⟨hx, hb, -, hown, hts, hK, -, hG⟩ := id X
  have hl : lv_has ls 2 [(0, .ref a_t), (1, .int p1)] := hl
  unfold F_R_countOf at hF
  refine lv_iload_n hx hb dX12_countOf_0 rfl (lv_at hl 1 rfl) ?_
  refine lv_iconst (v := (5 : Int32)) hx hb dX12_countOf_1 (by decide) ?_
  refine lv_icmp_ge (tgt := 14) hx hb dX12_countOf_2 (by decide) (fun c1 => ?_) (fun c1 => ?_)
  · have hF := if_y c1 hF
    refine lv_aload_n hx hb dX12_countOf_14 rfl (lv_at hl 0 rfl) ?_
    refine m_get X hW fdX12_271 0 rfl rfl dX12_countOf_15 ?_
    have hq := Option.some.inj hF
    subst hq
    exact hret _ _ _ _ hW dX12_countOf_18
  · have hF := if_n c1 hF
    refine lv_aload_n hx hb dX12_countOf_5 rfl (lv_at hl 0 rfl) ?_
    refine m_get X hW fdX12_7 0 rfl rfl dX12_countOf_6 ?_
    refine lv_iload_n hx hb dX12_countOf_9 rfl (lv_at hl 1 rfl) ?_
    obtain ⟨g2, hF⟩ := gd_some hF
    refine m_iald X hW 1 (k := p1.toNatClampNeg) rfl g2 rfl dX12_countOf_10 ?_
    refine lv_goto (tgt := 18) hx hb dX12_countOf_11 (by decide) ?_
    have hq := Option.some.inj hF
    subst hq
    exact hret _ _ _ _ hW dX12_countOf_18
abbrev wd_R_count (E : m_E) (a_t : Nat) (a_t_images : Nat) (a_t_kept : Nat) (a_t_aside : Nat) (a_t_limbs : Nat) (a_t_wide : Nat) (a_t_hears : Nat) (a_t_spies : Nat) (a_t_known : Nat) (a_t_by : Nat) (a_t_ways : Nat) (a_t_fewest : Nat) (a_t_heavy : Nat) (a_t_sums : Nat) (a_t_faces : Nat) (a_t_bestFaces : Nat) (a_t_text : Nat) (a_t_verbs : Nat) (a_t_many : Nat) (a_t_nums : Nat) (a_t_book : Nat) (t_typed : Int32) (t_at : Int32) (t_start : Int32) (t_token : Int32) (t_value : Int32) (t_items : Int32) (t_book : Nat → Int32) : va_W := [(a_t, .inr (12, [.ref a_t_book, .ref a_t_images, .ref a_t_kept, .ref a_t_aside, .ref a_t_limbs, .ref a_t_wide, .ref a_t_hears, .ref a_t_spies, .ref a_t_known, .ref a_t_by, .ref a_t_ways, .ref a_t_fewest, .ref a_t_heavy, .ref a_t_sums, .ref a_t_faces, .ref a_t_bestFaces, .ref a_t_text, .int t_typed, .int t_at, .int t_start, .int t_token, .int t_value, .ref a_t_verbs, .ref a_t_many, .ref a_t_nums, .int t_items])), (a_t_book, .inl (E.2.1 0, 240, .inl t_book))]
def rm_R_count : Room := { frames := 1, cells := 0, slots := 0, locals := 25 }
set_option maxHeartbeats 4000000 in
set_option maxRecDepth 100000 in
theorem c_R_count (l : Launch) (E : m_E) (sz N : Nat) (a_t : Nat) (a_t_images : Nat) (a_t_kept : Nat) (a_t_aside : Nat) (a_t_limbs : Nat) (a_t_wide : Nat) (a_t_hears : Nat) (a_t_spies : Nat) (a_t_known : Nat) (a_t_by : Nat) (a_t_ways : Nat) (a_t_fewest : Nat) (a_t_heavy : Nat) (a_t_sums : Nat) (a_t_faces : Nat) (a_t_bestFaces : Nat) (a_t_text : Nat) (a_t_verbs : Nat) (a_t_many : Nat) (a_t_nums : Nat) (a_t_book : Nat) (t_typed : Int32) (t_at : Int32) (t_start : Int32) (t_token : Int32) (t_value : Int32) (t_items : Int32) (t_book : Nat → Int32) (p1 : Int32) (ures : Int32) (hF : F_R_count p1 t_typed t_book = some ures) : m_Met l yX12_count cX12_count 2 (some .int) rm_R_count E (wd_R_count E a_t a_t_images a_t_kept a_t_aside a_t_limbs a_t_wide a_t_hears a_t_spies a_t_known a_t_by a_t_ways a_t_fewest a_t_heavy a_t_sums a_t_faces a_t_bestFaces a_t_text a_t_verbs a_t_many a_t_nums a_t_book t_typed t_at t_start t_token t_value t_items t_book) (wd_R_count E a_t a_t_images a_t_kept a_t_aside a_t_limbs a_t_wide a_t_hears a_t_spies a_t_known a_t_by a_t_ways a_t_fewest a_t_heavy a_t_sums a_t_faces a_t_bestFaces a_t_text a_t_verbs a_t_many a_t_nums a_t_book t_typed t_at t_start t_token t_value t_items t_book) sz [.ref a_t, .int p1] (some (.int ures)) := by
  refine m_ofI (by decide) (Nat.le_of_ble_eq_true rfl) ?_
  intro p e s m args below meth c A Q ls X hW hA hl hret
  obtain ⟨hx, hb, -, hown, hts, hK, -, hG⟩ := id X
  have hl : lv_has ls 2 [(0, .ref a_t), (1, .int p1)] := hl
  unfold F_R_count at hF
  refine lv_iload_n hx hb dX12_count_0 rfl (lv_at hl 1 rfl) ?_
  refine lv_i2l (v := p1.toInt64) hx hb dX12_count_1 rfl ?_
  refine lv_lconst (v := (0 : Int64)) hx hb dX12_count_2 (by decide) ?_
  refine lv_ldc2 (v := (5 : Int64)) hx hb hown (hts _ wk_1349) dX12_count_3 ?_
  refine m_callS X hW hA hl.1 lkX12_109 (c_R_in l E _ N   p1.toInt64 (0 : Int64) (5 : Int64) (F_R_in p1.toInt64 (0 : Int64) (5 : Int64)) rfl) ([]) (by decide) rfl rfl (ws' := (wd_R_count E a_t a_t_images a_t_kept a_t_aside a_t_limbs a_t_wide a_t_hears a_t_spies a_t_known a_t_by a_t_ways a_t_fewest a_t_heavy a_t_sums a_t_faces a_t_bestFaces a_t_text a_t_verbs a_t_many a_t_nums a_t_book t_typed t_at t_start t_token t_value t_items t_book)) rfl (As := [.long p1.toInt64, .long (0 : Int64), .long (5 : Int64)]) (rest := []) rfl rfl ⟨rfl, rfl, Nat.le_of_ble_eq_true rfl, Nat.le_of_ble_eq_true rfl⟩ (Nat.le_of_ble_eq_true rfl) (Nat.zero_le _) (Nat.zero_le _) dX12_count_6 (fun H locs hW => ?_)
  refine lv_if_eq (tgt := 20) hx hb dX12_count_9 (by decide) (fun c1 => ?_) (fun c1 => ?_)
  · have hF := if_y c1 hF
    refine lv_bipush (v := (-2 : Int32)) hx hb dX12_count_20 (by decide) ?_
    have hq := Option.some.inj hF
    subst hq
    exact hret _ _ _ _ hW dX12_count_22
  · have hF := if_n c1 hF
    refine lv_aload_n hx hb dX12_count_12 rfl (lv_at hl 0 rfl) ?_
    refine lv_iload_n hx hb dX12_count_13 rfl (lv_at hl 1 rfl) ?_
    obtain ⟨r14, hC2, hF⟩ := bO_s1 hF
    refine m_callV X hW hA hl.1 lkX12_355 (c_R_countOf l E _ N a_t a_t_images a_t_kept a_t_aside a_t_limbs a_t_wide a_t_hears a_t_spies a_t_known a_t_by a_t_ways a_t_fewest a_t_heavy a_t_sums a_t_faces a_t_bestFaces a_t_text a_t_verbs a_t_many a_t_nums a_t_book t_typed t_at t_start t_token t_value t_items t_book p1 r14 hC2) ([0, 1]) (by decide) rfl rfl (ws' := (wd_R_count E a_t a_t_images a_t_kept a_t_aside a_t_limbs a_t_wide a_t_hears a_t_spies a_t_known a_t_by a_t_ways a_t_fewest a_t_heavy a_t_sums a_t_faces a_t_bestFaces a_t_text a_t_verbs a_t_many a_t_nums a_t_book t_typed t_at t_start t_token t_value t_items t_book)) rfl 0 rfl rfl rfl (As := [.int p1]) (rest := []) rfl rfl ⟨rfl, rfl, Nat.le_of_ble_eq_true rfl, Nat.le_of_ble_eq_true rfl⟩ (Nat.le_of_ble_eq_true rfl) (Nat.zero_le _) (Nat.zero_le _) dX12_count_14 (fun H locs hW => ?_)
    clear hC2
    refine lv_goto (tgt := 22) hx hb dX12_count_17 (by decide) ?_
    have hq := Option.some.inj hF
    subst hq
    exact hret _ _ _ _ hW dX12_count_22
abbrev wd_R_mixed (E : m_E) (a_p2 : Nat) (p2_len : Nat) (p2 : Nat → Int32) : va_W := [(a_p2, .inl (E.2.1 0, p2_len, .inl p2))]
def rm_R_mixed : Room := { frames := 0, cells := 0, slots := 0, locals := 0 }
set_option maxHeartbeats 4000000 in
set_option maxRecDepth 100000 in
theorem c_R_mixed (l : Launch) (E : m_E) (sz N : Nat) (a_p2 : Nat) (p2_len : Nat) (p2 : Nat → Int32) (p1 : Int64) (p3 : Int32) (p4 : Int32) (ures : Int64) (hF : F_R_mixed N p1 p3 p4 p2 p2_len = some ures) : m_Met l yX12_mixed cX12_mixed 8 (some .long) rm_R_mixed E (wd_R_mixed E a_p2 p2_len p2) (wd_R_mixed E a_p2 p2_len p2) sz [.long p1, .ref a_p2, .int p3, .int p4] (some (.long ures)) := by
  refine m_ofJ (by decide) (Nat.le_of_ble_eq_true rfl) ?_
  intro p e s m args below meth c A Q ls X hW hA hl hret
  obtain ⟨hx, hb, -, hown, hts, hK, -, hG⟩ := id X
  have hl : lv_has ls 8 [(0, .long p1), (2, .ref a_p2), (3, .int p3), (4, .int p4)] := hl
  unfold F_R_mixed at hF
  refine lv_lload_n hx hb dX12_mixed_0 rfl (lv_at hl 0 rfl) ?_
  refine lv_lstore (lv' := [(5, .long p1), (0, .long p1), (2, .ref a_p2), (3, .int p3), (4, .int p4)]) hx hb dX12_mixed_1 hl (by decide) rfl (fun ls hl => ?_)
  refine lv_iconst (v := (0 : Int32)) hx hb dX12_mixed_3 (by decide) ?_
  refine lv_istore (lv' := [(7, .int (0 : Int32)), (5, .long p1), (0, .long p1), (2, .ref a_p2), (3, .int p3), (4, .int p4)]) hx hb dX12_mixed_4 hl (by decide) rfl (fun ls hl => ?_)
  obtain ⟨x5_2, hX2, hF⟩ := bO_s1 hF
  have L1 : ∀ (k0 : Nat) (x5 : Int64) (x7 : Int32) (x5_2 : Int64) (H : Heap) (locs : List Loc) (ls : Array Slot), R_mixed_L6 p4 p3 p2_len p2 k0 x5 x7 = some x5_2 → m_H E A (wd_R_mixed E a_p2 p2_len p2) s.heap H locs → lv_has ls 8 [(7, .int x7), (5, .long x5), (2, .ref a_p2), (3, .int p3), (4, .int p4)] → (∀ (H : Heap) (locs : List Loc) (ls : Array Slot), m_H E A (wd_R_mixed E a_p2 p2_len p2) s.heap H locs → lv_has ls 8 [(5, .long x5_2)] → W p l e rm_R_mixed s m args below meth c H locs 0 0 Q (F0 m 35 ls [])) → W p l e rm_R_mixed s m args below meth c H locs 0 0 Q (F0 m 6 ls []) := by
    clear hF
    intro k0
    induction k0 with
    | zero =>
      intro x5 x7 x5_2 H locs ls hF
      cases hF
    | succ k0 ih4 =>
      intro x5 x7 x5_2 H locs ls hF hW hl hk3
      rw [R_mixed_L6] at hF
      refine lv_iload hx hb dX12_mixed_6 (lv_at hl 0 rfl) ?_
      refine lv_iload hx hb dX12_mixed_8 (lv_at hl 4 rfl) ?_
      refine lv_icmp_ge (tgt := 35) hx hb dX12_mixed_10 (by decide) (fun c5 => ?_) (fun c5 => ?_)
      · have hF := if_y c5 hF
        cases hF
        exact hk3 _ _ _ hW (lv_sub hl [1] rfl)
      · have hF := if_n c5 hF
        refine lv_ldc2 (v := (31 : Int64)) hx hb hown (hts _ wk_1614) dX12_mixed_13 ?_
        refine lv_lload hx hb dX12_mixed_16 (lv_at hl 1 rfl) ?_
        refine lv_lmul hx hb dX12_mixed_18 ?_
        refine lv_aload_n hx hb dX12_mixed_19 rfl (lv_at hl 2 rfl) ?_
        refine lv_iload_n hx hb dX12_mixed_20 rfl (lv_at hl 3 rfl) ?_
        refine lv_iload hx hb dX12_mixed_21 (lv_at hl 0 rfl) ?_
        refine lv_iadd hx hb dX12_mixed_23 ?_
        obtain ⟨g6, hF⟩ := gd_some hF
        refine m_iald X hW 0 (k := (p3 + x7).toNatClampNeg) rfl g6 rfl dX12_mixed_24 ?_
        refine lv_i2l (v := (p2 (p3 + x7).toNatClampNeg).toInt64) hx hb dX12_mixed_25 rfl ?_
        refine lv_ladd hx hb dX12_mixed_26 ?_
        refine lv_lstore (lv' := [(5, .long (((31 : Int64) * x5) + (p2 (p3 + x7).toNatClampNeg).toInt64)), (7, .int x7), (2, .ref a_p2), (3, .int p3), (4, .int p4)]) hx hb dX12_mixed_27 hl (by decide) rfl (fun ls hl => ?_)
        refine lv_iinc (v := (x7 + (1 : Int32))) (lv' := [(7, .int (x7 + (1 : Int32))), (5, .long (((31 : Int64) * x5) + (p2 (p3 + x7).toNatClampNeg).toInt64)), (2, .ref a_p2), (3, .int p3), (4, .int p4)]) hx hb dX12_mixed_29 hl (k := 1) rfl rfl (by decide) rfl (fun ls hl => ?_)
        refine lv_goto (tgt := 6) hx hb dX12_mixed_32 (by decide) ?_
        exact ih4 (((31 : Int64) * x5) + (p2 (p3 + x7).toNatClampNeg).toInt64) (x7 + (1 : Int32)) x5_2 _ _ _ hF hW (lv_sub hl [0, 1, 2, 3, 4] rfl) hk3
  refine L1 N p1 (0 : Int32) x5_2 _ _ _ hX2 hW (lv_sub hl [0, 1, 3, 4, 5] rfl) ?_
  intro H locs ls hW hl
  clear L1
  refine lv_lload hx hb dX12_mixed_35 (lv_at hl 0 rfl) ?_
  have hq := Option.some.inj hF
  subst hq
  exact hret _ _ _ _ hW dX12_mixed_37
abbrev wd_R_digest (E : m_E) (a_t : Nat) (a_t_images : Nat) (a_t_kept : Nat) (a_t_aside : Nat) (a_t_hears : Nat) (a_t_spies : Nat) (a_t_known : Nat) (a_t_by : Nat) (a_t_ways : Nat) (a_t_fewest : Nat) (a_t_heavy : Nat) (a_t_sums : Nat) (a_t_faces : Nat) (a_t_bestFaces : Nat) (a_t_text : Nat) (a_t_verbs : Nat) (a_t_many : Nat) (a_t_nums : Nat) (a_t_book : Nat) (a_t_limbs : Nat) (a_t_wide : Nat) (t_typed : Int32) (t_at : Int32) (t_start : Int32) (t_token : Int32) (t_value : Int32) (t_items : Int32) (t_book : Nat → Int32) (t_limbs : Nat → Int32) (t_wide : Nat → Int32) : va_W := [(a_t, .inr (12, [.ref a_t_book, .ref a_t_images, .ref a_t_kept, .ref a_t_aside, .ref a_t_limbs, .ref a_t_wide, .ref a_t_hears, .ref a_t_spies, .ref a_t_known, .ref a_t_by, .ref a_t_ways, .ref a_t_fewest, .ref a_t_heavy, .ref a_t_sums, .ref a_t_faces, .ref a_t_bestFaces, .ref a_t_text, .int t_typed, .int t_at, .int t_start, .int t_token, .int t_value, .ref a_t_verbs, .ref a_t_many, .ref a_t_nums, .int t_items])), (a_t_book, .inl (E.2.1 0, 240, .inl t_book)), (a_t_limbs, .inl (E.2.1 0, 1680, .inl t_limbs)), (a_t_wide, .inl (E.2.1 0, 28, .inl t_wide))]
def rm_R_digest : Room := { frames := 1, cells := 0, slots := 0, locals := 27 }
set_option maxHeartbeats 4000000 in
set_option maxRecDepth 100000 in
theorem c_R_digest (l : Launch) (E : m_E) (sz N : Nat) (a_t : Nat) (a_t_images : Nat) (a_t_kept : Nat) (a_t_aside : Nat) (a_t_hears : Nat) (a_t_spies : Nat) (a_t_known : Nat) (a_t_by : Nat) (a_t_ways : Nat) (a_t_fewest : Nat) (a_t_heavy : Nat) (a_t_sums : Nat) (a_t_faces : Nat) (a_t_bestFaces : Nat) (a_t_text : Nat) (a_t_verbs : Nat) (a_t_many : Nat) (a_t_nums : Nat) (a_t_book : Nat) (a_t_limbs : Nat) (a_t_wide : Nat) (t_typed : Int32) (t_at : Int32) (t_start : Int32) (t_token : Int32) (t_value : Int32) (t_items : Int32) (t_book : Nat → Int32) (t_limbs : Nat → Int32) (t_wide : Nat → Int32)  (ures : Int64) (hF : F_R_digest N t_typed t_book t_limbs t_wide = some ures) : m_Met l yX12_digest cX12_digest 4 (some .long) rm_R_digest E (wd_R_digest E a_t a_t_images a_t_kept a_t_aside a_t_hears a_t_spies a_t_known a_t_by a_t_ways a_t_fewest a_t_heavy a_t_sums a_t_faces a_t_bestFaces a_t_text a_t_verbs a_t_many a_t_nums a_t_book a_t_limbs a_t_wide t_typed t_at t_start t_token t_value t_items t_book t_limbs t_wide) (wd_R_digest E a_t a_t_images a_t_kept a_t_aside a_t_hears a_t_spies a_t_known a_t_by a_t_ways a_t_fewest a_t_heavy a_t_sums a_t_faces a_t_bestFaces a_t_text a_t_verbs a_t_many a_t_nums a_t_book a_t_limbs a_t_wide t_typed t_at t_start t_token t_value t_items t_book t_limbs t_wide) sz [.ref a_t] (some (.long ures)) := by
  refine m_ofJ (by decide) (Nat.le_of_ble_eq_true rfl) ?_
  intro p e s m args below meth c A Q ls X hW hA hl hret
  obtain ⟨hx, hb, -, hown, hts, hK, -, hG⟩ := id X
  have hl : lv_has ls 4 [(0, .ref a_t)] := hl
  unfold F_R_digest at hF
  refine lv_ldc2 (v := (523 : Int64)) hx hb hown (hts _ wk_1613) dX12_digest_0 ?_
  refine lv_lstore_n (lv' := [(1, .long (523 : Int64)), (0, .ref a_t)]) hx hb dX12_digest_3 rfl hl (by decide) rfl (fun ls hl => ?_)
  refine lv_iconst (v := (0 : Int32)) hx hb dX12_digest_4 (by decide) ?_
  refine lv_istore_n (lv' := [(3, .int (0 : Int32)), (1, .long (523 : Int64)), (0, .ref a_t)]) hx hb dX12_digest_5 rfl hl (by decide) rfl (fun ls hl => ?_)
  obtain ⟨x1_2, hX2, hF⟩ := bO_s1 hF
  have L1 : ∀ (k0 : Nat) (x1 : Int64) (x3 : Int32) (x1_2 : Int64) (H : Heap) (locs : List Loc) (ls : Array Slot), R_digest_L6 t_typed t_book k0 x1 x3 = some x1_2 → m_H E A (wd_R_digest E a_t a_t_images a_t_kept a_t_aside a_t_hears a_t_spies a_t_known a_t_by a_t_ways a_t_fewest a_t_heavy a_t_sums a_t_faces a_t_bestFaces a_t_text a_t_verbs a_t_many a_t_nums a_t_book a_t_limbs a_t_wide t_typed t_at t_start t_token t_value t_items t_book t_limbs t_wide) s.heap H locs → lv_has ls 4 [(3, .int x3), (1, .long x1), (0, .ref a_t)] → (∀ (H : Heap) (locs : List Loc) (ls : Array Slot), m_H E A (wd_R_digest E a_t a_t_images a_t_kept a_t_aside a_t_hears a_t_spies a_t_known a_t_by a_t_ways a_t_fewest a_t_heavy a_t_sums a_t_faces a_t_bestFaces a_t_text a_t_verbs a_t_many a_t_nums a_t_book a_t_limbs a_t_wide t_typed t_at t_start t_token t_value t_items t_book t_limbs t_wide) s.heap H locs → lv_has ls 4 [(1, .long x1_2), (0, .ref a_t)] → W p l e rm_R_digest s m args below meth c H locs 0 0 Q (F0 m 31 ls [])) → W p l e rm_R_digest s m args below meth c H locs 0 0 Q (F0 m 6 ls []) := by
    clear hF
    intro k0
    induction k0 with
    | zero =>
      intro x1 x3 x1_2 H locs ls hF
      cases hF
    | succ k0 ih4 =>
      intro x1 x3 x1_2 H locs ls hF hW hl hk3
      rw [R_digest_L6] at hF
      refine lv_iload_n hx hb dX12_digest_6 rfl (lv_at hl 0 rfl) ?_
      refine lv_bipush (v := (6 : Int32)) hx hb dX12_digest_7 (by decide) ?_
      refine lv_icmp_ge (tgt := 31) hx hb dX12_digest_9 (by decide) (fun c5 => ?_) (fun c5 => ?_)
      · have hF := if_y c5 hF
        cases hF
        exact hk3 _ _ _ hW (lv_sub hl [1, 2] rfl)
      · have hF := if_n c5 hF
        refine lv_ldc2 (v := (31 : Int64)) hx hb hown (hts _ wk_1614) dX12_digest_12 ?_
        refine lv_lload_n hx hb dX12_digest_15 rfl (lv_at hl 1 rfl) ?_
        refine lv_lmul hx hb dX12_digest_16 ?_
        refine lv_aload_n hx hb dX12_digest_17 rfl (lv_at hl 2 rfl) ?_
        refine lv_iload_n hx hb dX12_digest_18 rfl (lv_at hl 0 rfl) ?_
        obtain ⟨r19, hC6, hF⟩ := bO_s1 hF
        refine m_callV X hW hA hl.1 lkX12_355 (c_R_countOf l E _ N a_t a_t_images a_t_kept a_t_aside a_t_limbs a_t_wide a_t_hears a_t_spies a_t_known a_t_by a_t_ways a_t_fewest a_t_heavy a_t_sums a_t_faces a_t_bestFaces a_t_text a_t_verbs a_t_many a_t_nums a_t_book t_typed t_at t_start t_token t_value t_items t_book x3 r19 hC6) ([0, 1]) (by decide) rfl rfl (ws' := (wd_R_digest E a_t a_t_images a_t_kept a_t_aside a_t_hears a_t_spies a_t_known a_t_by a_t_ways a_t_fewest a_t_heavy a_t_sums a_t_faces a_t_bestFaces a_t_text a_t_verbs a_t_many a_t_nums a_t_book a_t_limbs a_t_wide t_typed t_at t_start t_token t_value t_items t_book t_limbs t_wide)) rfl 0 rfl rfl rfl (As := [.int x3]) (rest := [.long ((31 : Int64) * x1)]) rfl rfl ⟨rfl, rfl, Nat.le_of_ble_eq_true rfl, Nat.le_of_ble_eq_true rfl⟩ (Nat.le_of_ble_eq_true rfl) (Nat.zero_le _) (Nat.zero_le _) dX12_digest_19 (fun H locs hW => ?_)
        clear hC6
        refine lv_i2l (v := r19.toInt64) hx hb dX12_digest_22 rfl ?_
        refine lv_ladd hx hb dX12_digest_23 ?_
        refine lv_lstore_n (lv' := [(1, .long (((31 : Int64) * x1) + r19.toInt64)), (3, .int x3), (0, .ref a_t)]) hx hb dX12_digest_24 rfl hl (by decide) rfl (fun ls hl => ?_)
        refine lv_iinc (v := (x3 + (1 : Int32))) (lv' := [(3, .int (x3 + (1 : Int32))), (1, .long (((31 : Int64) * x1) + r19.toInt64)), (0, .ref a_t)]) hx hb dX12_digest_25 hl (k := 1) rfl rfl (by decide) rfl (fun ls hl => ?_)
        refine lv_goto (tgt := 6) hx hb dX12_digest_28 (by decide) ?_
        exact ih4 (((31 : Int64) * x1) + r19.toInt64) (x3 + (1 : Int32)) x1_2 _ _ _ hF hW (lv_sub hl [0, 1, 2] rfl) hk3
  refine L1 N (523 : Int64) (0 : Int32) x1_2 _ _ _ hX2 hW (lv_sub hl [0, 1, 2] rfl) ?_
  intro H locs ls hW hl
  clear L1
  refine lv_lload_n hx hb dX12_digest_31 rfl (lv_at hl 0 rfl) ?_
  refine lv_aload_n hx hb dX12_digest_32 rfl (lv_at hl 1 rfl) ?_
  refine m_get X hW fdX12_7 0 rfl rfl dX12_digest_33 ?_
  refine lv_bipush (v := (10 : Int32)) hx hb dX12_digest_36 (by decide) ?_
  refine lv_bipush (v := (64 : Int32)) hx hb dX12_digest_38 (by decide) ?_
  obtain ⟨r40, hC7, hF⟩ := bO_s1 hF
  refine m_callS X hW hA hl.1 lkX12_362 (c_R_mixed l E _ N a_t_book 240 t_book x1_2 (10 : Int32) (64 : Int32) r40 hC7) ([1]) (by decide) rfl rfl (ws' := (wd_R_digest E a_t a_t_images a_t_kept a_t_aside a_t_hears a_t_spies a_t_known a_t_by a_t_ways a_t_fewest a_t_heavy a_t_sums a_t_faces a_t_bestFaces a_t_text a_t_verbs a_t_many a_t_nums a_t_book a_t_limbs a_t_wide t_typed t_at t_start t_token t_value t_items t_book t_limbs t_wide)) rfl (As := [.long x1_2, .ref a_t_book, .int (10 : Int32), .int (64 : Int32)]) (rest := []) rfl rfl ⟨rfl, rfl, Nat.le_of_ble_eq_true rfl, Nat.le_of_ble_eq_true rfl⟩ (Nat.le_of_ble_eq_true rfl) (Nat.zero_le _) (Nat.zero_le _) dX12_digest_40 (fun H locs hW => ?_)
  clear hC7
  refine lv_lstore_n (lv' := [(1, .long r40), (0, .ref a_t)]) hx hb dX12_digest_43 rfl hl (by decide) rfl (fun ls hl => ?_)
  refine lv_lload_n hx hb dX12_digest_44 rfl (lv_at hl 0 rfl) ?_
  refine lv_aload_n hx hb dX12_digest_45 rfl (lv_at hl 1 rfl) ?_
  refine m_get X hW fdX12_7 0 rfl rfl dX12_digest_46 ?_
  refine lv_bipush (v := (80 : Int32)) hx hb dX12_digest_49 (by decide) ?_
  refine lv_iconst (v := (4 : Int32)) hx hb dX12_digest_51 (by decide) ?_
  refine lv_aload_n hx hb dX12_digest_52 rfl (lv_at hl 1 rfl) ?_
  refine m_get X hW fdX12_7 0 rfl rfl dX12_digest_53 ?_
  refine lv_iconst (v := (1 : Int32)) hx hb dX12_digest_56 (by decide) ?_
  refine m_iald X hW 1 (k := 1) rfl (by decide) rfl dX12_digest_57 ?_
  refine lv_imul hx hb dX12_digest_58 ?_
  obtain ⟨r59, hC8, hF⟩ := bO_s1 hF
  refine m_callS X hW hA hl.1 lkX12_362 (c_R_mixed l E _ N a_t_book 240 t_book r40 (80 : Int32) ((4 : Int32) * (t_book 1)) r59 hC8) ([1]) (by decide) rfl rfl (ws' := (wd_R_digest E a_t a_t_images a_t_kept a_t_aside a_t_hears a_t_spies a_t_known a_t_by a_t_ways a_t_fewest a_t_heavy a_t_sums a_t_faces a_t_bestFaces a_t_text a_t_verbs a_t_many a_t_nums a_t_book a_t_limbs a_t_wide t_typed t_at t_start t_token t_value t_items t_book t_limbs t_wide)) rfl (As := [.long r40, .ref a_t_book, .int (80 : Int32), .int ((4 : Int32) * (t_book 1))]) (rest := []) rfl rfl ⟨rfl, rfl, Nat.le_of_ble_eq_true rfl, Nat.le_of_ble_eq_true rfl⟩ (Nat.le_of_ble_eq_true rfl) (Nat.zero_le _) (Nat.zero_le _) dX12_digest_59 (fun H locs hW => ?_)
  clear hC8
  refine lv_lstore_n (lv' := [(1, .long r59), (0, .ref a_t)]) hx hb dX12_digest_62 rfl hl (by decide) rfl (fun ls hl => ?_)
  refine lv_lload_n hx hb dX12_digest_63 rfl (lv_at hl 0 rfl) ?_
  refine lv_aload_n hx hb dX12_digest_64 rfl (lv_at hl 1 rfl) ?_
  refine m_get X hW fdX12_7 0 rfl rfl dX12_digest_65 ?_
  refine lv_bipush (v := (6 : Int32)) hx hb dX12_digest_68 (by decide) ?_
  refine lv_iconst (v := (2 : Int32)) hx hb dX12_digest_70 (by decide) ?_
  obtain ⟨r71, hC9, hF⟩ := bO_s1 hF
  refine m_callS X hW hA hl.1 lkX12_362 (c_R_mixed l E _ N a_t_book 240 t_book r59 (6 : Int32) (2 : Int32) r71 hC9) ([1]) (by decide) rfl rfl (ws' := (wd_R_digest E a_t a_t_images a_t_kept a_t_aside a_t_hears a_t_spies a_t_known a_t_by a_t_ways a_t_fewest a_t_heavy a_t_sums a_t_faces a_t_bestFaces a_t_text a_t_verbs a_t_many a_t_nums a_t_book a_t_limbs a_t_wide t_typed t_at t_start t_token t_value t_items t_book t_limbs t_wide)) rfl (As := [.long r59, .ref a_t_book, .int (6 : Int32), .int (2 : Int32)]) (rest := []) rfl rfl ⟨rfl, rfl, Nat.le_of_ble_eq_true rfl, Nat.le_of_ble_eq_true rfl⟩ (Nat.le_of_ble_eq_true rfl) (Nat.zero_le _) (Nat.zero_le _) dX12_digest_71 (fun H locs hW => ?_)
  clear hC9
  refine lv_lstore_n (lv' := [(1, .long r71), (0, .ref a_t)]) hx hb dX12_digest_74 rfl hl (by decide) rfl (fun ls hl => ?_)
  refine lv_lload_n hx hb dX12_digest_75 rfl (lv_at hl 0 rfl) ?_
  refine lv_aload_n hx hb dX12_digest_76 rfl (lv_at hl 1 rfl) ?_
  refine m_get X hW fdX12_7 0 rfl rfl dX12_digest_77 ?_
  refine lv_bipush (v := (120 : Int32)) hx hb dX12_digest_80 (by decide) ?_
  refine lv_iconst (v := (3 : Int32)) hx hb dX12_digest_82 (by decide) ?_
  refine lv_aload_n hx hb dX12_digest_83 rfl (lv_at hl 1 rfl) ?_
  refine m_get X hW fdX12_7 0 rfl rfl dX12_digest_84 ?_
  refine lv_iconst (v := (2 : Int32)) hx hb dX12_digest_87 (by decide) ?_
  refine m_iald X hW 1 (k := 2) rfl (by decide) rfl dX12_digest_88 ?_
  refine lv_imul hx hb dX12_digest_89 ?_
  obtain ⟨r90, hC10, hF⟩ := bO_s1 hF
  refine m_callS X hW hA hl.1 lkX12_362 (c_R_mixed l E _ N a_t_book 240 t_book r71 (120 : Int32) ((3 : Int32) * (t_book 2)) r90 hC10) ([1]) (by decide) rfl rfl (ws' := (wd_R_digest E a_t a_t_images a_t_kept a_t_aside a_t_hears a_t_spies a_t_known a_t_by a_t_ways a_t_fewest a_t_heavy a_t_sums a_t_faces a_t_bestFaces a_t_text a_t_verbs a_t_many a_t_nums a_t_book a_t_limbs a_t_wide t_typed t_at t_start t_token t_value t_items t_book t_limbs t_wide)) rfl (As := [.long r71, .ref a_t_book, .int (120 : Int32), .int ((3 : Int32) * (t_book 2))]) (rest := []) rfl rfl ⟨rfl, rfl, Nat.le_of_ble_eq_true rfl, Nat.le_of_ble_eq_true rfl⟩ (Nat.le_of_ble_eq_true rfl) (Nat.zero_le _) (Nat.zero_le _) dX12_digest_90 (fun H locs hW => ?_)
  clear hC10
  refine lv_lstore_n (lv' := [(1, .long r90), (0, .ref a_t)]) hx hb dX12_digest_93 rfl hl (by decide) rfl (fun ls hl => ?_)
  refine lv_lload_n hx hb dX12_digest_94 rfl (lv_at hl 0 rfl) ?_
  refine lv_aload_n hx hb dX12_digest_95 rfl (lv_at hl 1 rfl) ?_
  refine m_get X hW fdX12_7 0 rfl rfl dX12_digest_96 ?_
  refine lv_sipush (v := (150 : Int32)) hx hb dX12_digest_99 (by decide) ?_
  refine lv_bipush (v := (6 : Int32)) hx hb dX12_digest_102 (by decide) ?_
  obtain ⟨r104, hC11, hF⟩ := bO_s1 hF
  refine m_callS X hW hA hl.1 lkX12_362 (c_R_mixed l E _ N a_t_book 240 t_book r90 (150 : Int32) (6 : Int32) r104 hC11) ([1]) (by decide) rfl rfl (ws' := (wd_R_digest E a_t a_t_images a_t_kept a_t_aside a_t_hears a_t_spies a_t_known a_t_by a_t_ways a_t_fewest a_t_heavy a_t_sums a_t_faces a_t_bestFaces a_t_text a_t_verbs a_t_many a_t_nums a_t_book a_t_limbs a_t_wide t_typed t_at t_start t_token t_value t_items t_book t_limbs t_wide)) rfl (As := [.long r90, .ref a_t_book, .int (150 : Int32), .int (6 : Int32)]) (rest := []) rfl rfl ⟨rfl, rfl, Nat.le_of_ble_eq_true rfl, Nat.le_of_ble_eq_true rfl⟩ (Nat.le_of_ble_eq_true rfl) (Nat.zero_le _) (Nat.zero_le _) dX12_digest_104 (fun H locs hW => ?_)
  clear hC11
  refine lv_lstore_n (lv' := [(1, .long r104), (0, .ref a_t)]) hx hb dX12_digest_107 rfl hl (by decide) rfl (fun ls hl => ?_)
  refine lv_lload_n hx hb dX12_digest_108 rfl (lv_at hl 0 rfl) ?_
  refine lv_aload_n hx hb dX12_digest_109 rfl (lv_at hl 1 rfl) ?_
  refine m_get X hW fdX12_7 0 rfl rfl dX12_digest_110 ?_
  refine lv_sipush (v := (160 : Int32)) hx hb dX12_digest_113 (by decide) ?_
  refine lv_iconst (v := (3 : Int32)) hx hb dX12_digest_116 (by decide) ?_
  refine lv_aload_n hx hb dX12_digest_117 rfl (lv_at hl 1 rfl) ?_
  refine m_get X hW fdX12_7 0 rfl rfl dX12_digest_118 ?_
  refine lv_iconst (v := (3 : Int32)) hx hb dX12_digest_121 (by decide) ?_
  refine m_iald X hW 1 (k := 3) rfl (by decide) rfl dX12_digest_122 ?_
  refine lv_imul hx hb dX12_digest_123 ?_
  obtain ⟨r124, hC12, hF⟩ := bO_s1 hF
  refine m_callS X hW hA hl.1 lkX12_362 (c_R_mixed l E _ N a_t_book 240 t_book r104 (160 : Int32) ((3 : Int32) * (t_book 3)) r124 hC12) ([1]) (by decide) rfl rfl (ws' := (wd_R_digest E a_t a_t_images a_t_kept a_t_aside a_t_hears a_t_spies a_t_known a_t_by a_t_ways a_t_fewest a_t_heavy a_t_sums a_t_faces a_t_bestFaces a_t_text a_t_verbs a_t_many a_t_nums a_t_book a_t_limbs a_t_wide t_typed t_at t_start t_token t_value t_items t_book t_limbs t_wide)) rfl (As := [.long r104, .ref a_t_book, .int (160 : Int32), .int ((3 : Int32) * (t_book 3))]) (rest := []) rfl rfl ⟨rfl, rfl, Nat.le_of_ble_eq_true rfl, Nat.le_of_ble_eq_true rfl⟩ (Nat.le_of_ble_eq_true rfl) (Nat.zero_le _) (Nat.zero_le _) dX12_digest_124 (fun H locs hW => ?_)
  clear hC12
  refine lv_lstore_n (lv' := [(1, .long r124), (0, .ref a_t)]) hx hb dX12_digest_127 rfl hl (by decide) rfl (fun ls hl => ?_)
  refine lv_lload_n hx hb dX12_digest_128 rfl (lv_at hl 0 rfl) ?_
  refine lv_aload_n hx hb dX12_digest_129 rfl (lv_at hl 1 rfl) ?_
  refine m_get X hW fdX12_7 0 rfl rfl dX12_digest_130 ?_
  refine lv_sipush (v := (190 : Int32)) hx hb dX12_digest_133 (by decide) ?_
  refine lv_aload_n hx hb dX12_digest_136 rfl (lv_at hl 1 rfl) ?_
  refine m_get X hW fdX12_7 0 rfl rfl dX12_digest_137 ?_
  refine lv_iconst (v := (4 : Int32)) hx hb dX12_digest_140 (by decide) ?_
  refine m_iald X hW 1 (k := 4) rfl (by decide) rfl dX12_digest_141 ?_
  obtain ⟨r142, hC13, hF⟩ := bO_s1 hF
  refine m_callS X hW hA hl.1 lkX12_362 (c_R_mixed l E _ N a_t_book 240 t_book r124 (190 : Int32) (t_book 4) r142 hC13) ([1]) (by decide) rfl rfl (ws' := (wd_R_digest E a_t a_t_images a_t_kept a_t_aside a_t_hears a_t_spies a_t_known a_t_by a_t_ways a_t_fewest a_t_heavy a_t_sums a_t_faces a_t_bestFaces a_t_text a_t_verbs a_t_many a_t_nums a_t_book a_t_limbs a_t_wide t_typed t_at t_start t_token t_value t_items t_book t_limbs t_wide)) rfl (As := [.long r124, .ref a_t_book, .int (190 : Int32), .int (t_book 4)]) (rest := []) rfl rfl ⟨rfl, rfl, Nat.le_of_ble_eq_true rfl, Nat.le_of_ble_eq_true rfl⟩ (Nat.le_of_ble_eq_true rfl) (Nat.zero_le _) (Nat.zero_le _) dX12_digest_142 (fun H locs hW => ?_)
  clear hC13
  refine lv_lstore_n (lv' := [(1, .long r142), (0, .ref a_t)]) hx hb dX12_digest_145 rfl hl (by decide) rfl (fun ls hl => ?_)
  refine lv_lload_n hx hb dX12_digest_146 rfl (lv_at hl 0 rfl) ?_
  refine lv_aload_n hx hb dX12_digest_147 rfl (lv_at hl 1 rfl) ?_
  refine m_get X hW fdX12_7 0 rfl rfl dX12_digest_148 ?_
  refine lv_bipush (v := (8 : Int32)) hx hb dX12_digest_151 (by decide) ?_
  refine lv_iconst (v := (2 : Int32)) hx hb dX12_digest_153 (by decide) ?_
  obtain ⟨r154, hC14, hF⟩ := bO_s1 hF
  refine m_callS X hW hA hl.1 lkX12_362 (c_R_mixed l E _ N a_t_book 240 t_book r142 (8 : Int32) (2 : Int32) r154 hC14) ([1]) (by decide) rfl rfl (ws' := (wd_R_digest E a_t a_t_images a_t_kept a_t_aside a_t_hears a_t_spies a_t_known a_t_by a_t_ways a_t_fewest a_t_heavy a_t_sums a_t_faces a_t_bestFaces a_t_text a_t_verbs a_t_many a_t_nums a_t_book a_t_limbs a_t_wide t_typed t_at t_start t_token t_value t_items t_book t_limbs t_wide)) rfl (As := [.long r142, .ref a_t_book, .int (8 : Int32), .int (2 : Int32)]) (rest := []) rfl rfl ⟨rfl, rfl, Nat.le_of_ble_eq_true rfl, Nat.le_of_ble_eq_true rfl⟩ (Nat.le_of_ble_eq_true rfl) (Nat.zero_le _) (Nat.zero_le _) dX12_digest_154 (fun H locs hW => ?_)
  clear hC14
  refine lv_lstore_n (lv' := [(1, .long r154), (0, .ref a_t)]) hx hb dX12_digest_157 rfl hl (by decide) rfl (fun ls hl => ?_)
  refine lv_lload_n hx hb dX12_digest_158 rfl (lv_at hl 0 rfl) ?_
  refine lv_aload_n hx hb dX12_digest_159 rfl (lv_at hl 1 rfl) ?_
  refine m_get X hW fdX12_7 0 rfl rfl dX12_digest_160 ?_
  refine lv_sipush (v := (220 : Int32)) hx hb dX12_digest_163 (by decide) ?_
  refine lv_bipush (v := (12 : Int32)) hx hb dX12_digest_166 (by decide) ?_
  obtain ⟨r168, hC15, hF⟩ := bO_s1 hF
  refine m_callS X hW hA hl.1 lkX12_362 (c_R_mixed l E _ N a_t_book 240 t_book r154 (220 : Int32) (12 : Int32) r168 hC15) ([1]) (by decide) rfl rfl (ws' := (wd_R_digest E a_t a_t_images a_t_kept a_t_aside a_t_hears a_t_spies a_t_known a_t_by a_t_ways a_t_fewest a_t_heavy a_t_sums a_t_faces a_t_bestFaces a_t_text a_t_verbs a_t_many a_t_nums a_t_book a_t_limbs a_t_wide t_typed t_at t_start t_token t_value t_items t_book t_limbs t_wide)) rfl (As := [.long r154, .ref a_t_book, .int (220 : Int32), .int (12 : Int32)]) (rest := []) rfl rfl ⟨rfl, rfl, Nat.le_of_ble_eq_true rfl, Nat.le_of_ble_eq_true rfl⟩ (Nat.le_of_ble_eq_true rfl) (Nat.zero_le _) (Nat.zero_le _) dX12_digest_168 (fun H locs hW => ?_)
  clear hC15
  refine lv_lstore_n (lv' := [(1, .long r168), (0, .ref a_t)]) hx hb dX12_digest_171 rfl hl (by decide) rfl (fun ls hl => ?_)
  refine lv_iconst (v := (0 : Int32)) hx hb dX12_digest_172 (by decide) ?_
  refine lv_istore_n (lv' := [(3, .int (0 : Int32)), (1, .long r168), (0, .ref a_t)]) hx hb dX12_digest_173 rfl hl (by decide) rfl (fun ls hl => ?_)
  obtain ⟨x1_4, hX17, hF⟩ := bO_s1 hF
  have L16 : ∀ (k0 : Nat) (x1_3 : Int64) (x3_2 : Int32) (x1_4 : Int64) (H : Heap) (locs : List Loc) (ls : Array Slot), R_digest_L174 t_wide k0 x1_3 x3_2 = some x1_4 → m_H E A (wd_R_digest E a_t a_t_images a_t_kept a_t_aside a_t_hears a_t_spies a_t_known a_t_by a_t_ways a_t_fewest a_t_heavy a_t_sums a_t_faces a_t_bestFaces a_t_text a_t_verbs a_t_many a_t_nums a_t_book a_t_limbs a_t_wide t_typed t_at t_start t_token t_value t_items t_book t_limbs t_wide) s.heap H locs → lv_has ls 4 [(3, .int x3_2), (1, .long x1_3), (0, .ref a_t)] → (∀ (H : Heap) (locs : List Loc) (ls : Array Slot), m_H E A (wd_R_digest E a_t a_t_images a_t_kept a_t_aside a_t_hears a_t_spies a_t_known a_t_by a_t_ways a_t_fewest a_t_heavy a_t_sums a_t_faces a_t_bestFaces a_t_text a_t_verbs a_t_many a_t_nums a_t_book a_t_limbs a_t_wide t_typed t_at t_start t_token t_value t_items t_book t_limbs t_wide) s.heap H locs → lv_has ls 4 [(1, .long x1_4), (0, .ref a_t)] → W p l e rm_R_digest s m args below meth c H locs 0 0 Q (F0 m 198 ls [])) → W p l e rm_R_digest s m args below meth c H locs 0 0 Q (F0 m 174 ls []) := by
    clear hF
    intro k0
    induction k0 with
    | zero =>
      intro x1_3 x3_2 x1_4 H locs ls hF
      cases hF
    | succ k0 ih19 =>
      intro x1_3 x3_2 x1_4 H locs ls hF hW hl hk18
      rw [R_digest_L174] at hF
      refine lv_iload_n hx hb dX12_digest_174 rfl (lv_at hl 0 rfl) ?_
      refine lv_iconst (v := (3 : Int32)) hx hb dX12_digest_175 (by decide) ?_
      refine lv_icmp_ge (tgt := 198) hx hb dX12_digest_176 (by decide) (fun c20 => ?_) (fun c20 => ?_)
      · have hF := if_y c20 hF
        cases hF
        exact hk18 _ _ _ hW (lv_sub hl [1, 2] rfl)
      · have hF := if_n c20 hF
        refine lv_ldc2 (v := (31 : Int64)) hx hb hown (hts _ wk_1614) dX12_digest_179 ?_
        refine lv_lload_n hx hb dX12_digest_182 rfl (lv_at hl 1 rfl) ?_
        refine lv_lmul hx hb dX12_digest_183 ?_
        refine lv_aload_n hx hb dX12_digest_184 rfl (lv_at hl 2 rfl) ?_
        refine lv_iload_n hx hb dX12_digest_185 rfl (lv_at hl 0 rfl) ?_
        refine m_callV X hW hA hl.1 lkX12_366 (c_R_sign l E _ N a_t a_t_book a_t_images a_t_kept a_t_aside a_t_limbs a_t_hears a_t_spies a_t_known a_t_by a_t_ways a_t_fewest a_t_heavy a_t_sums a_t_faces a_t_bestFaces a_t_text a_t_verbs a_t_many a_t_nums a_t_wide t_typed t_at t_start t_token t_value t_items t_wide x3_2 (F_R_sign x3_2 t_wide) rfl) ([0, 3]) (by decide) rfl rfl (ws' := (wd_R_digest E a_t a_t_images a_t_kept a_t_aside a_t_hears a_t_spies a_t_known a_t_by a_t_ways a_t_fewest a_t_heavy a_t_sums a_t_faces a_t_bestFaces a_t_text a_t_verbs a_t_many a_t_nums a_t_book a_t_limbs a_t_wide t_typed t_at t_start t_token t_value t_items t_book t_limbs t_wide)) rfl 0 rfl rfl rfl (As := [.int x3_2]) (rest := [.long ((31 : Int64) * x1_3)]) rfl rfl ⟨rfl, rfl, Nat.le_of_ble_eq_true rfl, Nat.le_of_ble_eq_true rfl⟩ (Nat.le_of_ble_eq_true rfl) (Nat.zero_le _) (Nat.zero_le _) dX12_digest_186 (fun H locs hW => ?_)
        refine lv_i2l (v := (F_R_sign x3_2 t_wide).toInt64) hx hb dX12_digest_189 rfl ?_
        refine lv_ladd hx hb dX12_digest_190 ?_
        refine lv_lstore_n (lv' := [(1, .long (((31 : Int64) * x1_3) + (F_R_sign x3_2 t_wide).toInt64)), (3, .int x3_2), (0, .ref a_t)]) hx hb dX12_digest_191 rfl hl (by decide) rfl (fun ls hl => ?_)
        refine lv_iinc (v := (x3_2 + (1 : Int32))) (lv' := [(3, .int (x3_2 + (1 : Int32))), (1, .long (((31 : Int64) * x1_3) + (F_R_sign x3_2 t_wide).toInt64)), (0, .ref a_t)]) hx hb dX12_digest_192 hl (k := 1) rfl rfl (by decide) rfl (fun ls hl => ?_)
        refine lv_goto (tgt := 174) hx hb dX12_digest_195 (by decide) ?_
        exact ih19 (((31 : Int64) * x1_3) + (F_R_sign x3_2 t_wide).toInt64) (x3_2 + (1 : Int32)) x1_4 _ _ _ hF hW (lv_sub hl [0, 1, 2] rfl) hk18
  refine L16 N r168 (0 : Int32) x1_4 _ _ _ hX17 hW (lv_sub hl [0, 1, 2] rfl) ?_
  intro H locs ls hW hl
  clear L16
  refine lv_lload_n hx hb dX12_digest_198 rfl (lv_at hl 0 rfl) ?_
  refine lv_aload_n hx hb dX12_digest_199 rfl (lv_at hl 1 rfl) ?_
  refine m_get X hW fdX12_23 0 rfl rfl dX12_digest_200 ?_
  refine lv_iconst (v := (0 : Int32)) hx hb dX12_digest_203 (by decide) ?_
  refine lv_aload_n hx hb dX12_digest_204 rfl (lv_at hl 1 rfl) ?_
  refine m_get X hW fdX12_26 0 rfl rfl dX12_digest_205 ?_
  refine lv_iconst (v := (0 : Int32)) hx hb dX12_digest_208 (by decide) ?_
  refine m_iald X hW 3 (k := 0) rfl (by decide) rfl dX12_digest_209 ?_
  obtain ⟨r210, hC21, hF⟩ := bO_s1 hF
  refine m_callS X hW hA hl.1 lkX12_362 (c_R_mixed l E _ N a_t_limbs 1680 t_limbs x1_4 (0 : Int32) (t_wide 0) r210 hC21) ([2]) (by decide) rfl rfl (ws' := (wd_R_digest E a_t a_t_images a_t_kept a_t_aside a_t_hears a_t_spies a_t_known a_t_by a_t_ways a_t_fewest a_t_heavy a_t_sums a_t_faces a_t_bestFaces a_t_text a_t_verbs a_t_many a_t_nums a_t_book a_t_limbs a_t_wide t_typed t_at t_start t_token t_value t_items t_book t_limbs t_wide)) rfl (As := [.long x1_4, .ref a_t_limbs, .int (0 : Int32), .int (t_wide 0)]) (rest := []) rfl rfl ⟨rfl, rfl, Nat.le_of_ble_eq_true rfl, Nat.le_of_ble_eq_true rfl⟩ (Nat.le_of_ble_eq_true rfl) (Nat.zero_le _) (Nat.zero_le _) dX12_digest_210 (fun H locs hW => ?_)
  clear hC21
  refine lv_lstore_n (lv' := [(1, .long r210), (0, .ref a_t)]) hx hb dX12_digest_213 rfl hl (by decide) rfl (fun ls hl => ?_)
  refine lv_lload_n hx hb dX12_digest_214 rfl (lv_at hl 0 rfl) ?_
  refine lv_aload_n hx hb dX12_digest_215 rfl (lv_at hl 1 rfl) ?_
  refine m_get X hW fdX12_23 0 rfl rfl dX12_digest_216 ?_
  refine lv_bipush (v := (60 : Int32)) hx hb dX12_digest_219 (by decide) ?_
  refine lv_aload_n hx hb dX12_digest_221 rfl (lv_at hl 1 rfl) ?_
  refine m_get X hW fdX12_26 0 rfl rfl dX12_digest_222 ?_
  refine lv_iconst (v := (1 : Int32)) hx hb dX12_digest_225 (by decide) ?_
  refine m_iald X hW 3 (k := 1) rfl (by decide) rfl dX12_digest_226 ?_
  obtain ⟨r227, hC22, hF⟩ := bO_s1 hF
  refine m_callS X hW hA hl.1 lkX12_362 (c_R_mixed l E _ N a_t_limbs 1680 t_limbs r210 (60 : Int32) (t_wide 1) r227 hC22) ([2]) (by decide) rfl rfl (ws' := (wd_R_digest E a_t a_t_images a_t_kept a_t_aside a_t_hears a_t_spies a_t_known a_t_by a_t_ways a_t_fewest a_t_heavy a_t_sums a_t_faces a_t_bestFaces a_t_text a_t_verbs a_t_many a_t_nums a_t_book a_t_limbs a_t_wide t_typed t_at t_start t_token t_value t_items t_book t_limbs t_wide)) rfl (As := [.long r210, .ref a_t_limbs, .int (60 : Int32), .int (t_wide 1)]) (rest := []) rfl rfl ⟨rfl, rfl, Nat.le_of_ble_eq_true rfl, Nat.le_of_ble_eq_true rfl⟩ (Nat.le_of_ble_eq_true rfl) (Nat.zero_le _) (Nat.zero_le _) dX12_digest_227 (fun H locs hW => ?_)
  clear hC22
  have hq := Option.some.inj hF
  subst hq
  exact hret _ _ _ _ hW dX12_digest_230
