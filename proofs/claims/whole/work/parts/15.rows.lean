abbrev wd_S_erase (E : m_E) (a_t : Nat) (a_t_now : Nat) (a_t_draft : Nat) (a_t_firstImage : Nat) (a_t_secondImage : Nat) (a_t_news : Nat) (a_t_otherNews : Nat) (a_t_readings : Nat) (a_t_chances : Nat) (a_t_turning : Nat) (a_t_fraction : Nat) (a_t_text : Nat) (a_t_text_row : Nat) (a_t_text_itemKind : Nat) (a_t_text_numbersOf : Nat) (a_t_text_number : Nat) (t_text_bytes : Int32) (t_text_items : Int32) (t_text_at : Int32) (t_text_token : Int32) (t_text_tokenAt : Int32) (t_text_tokenNumber : Int32) : va_W := [(a_t, .inr (11, [.ref a_t_now, .ref a_t_draft, .ref a_t_firstImage, .ref a_t_secondImage, .ref a_t_news, .ref a_t_otherNews, .ref a_t_readings, .ref a_t_chances, .ref a_t_turning, .ref a_t_text, .ref a_t_fraction])), (a_t_text, .inr (9, [.int t_text_bytes, .int t_text_items, .ref a_t_text_row, .ref a_t_text_itemKind, .ref a_t_text_numbersOf, .ref a_t_text_number, .int t_text_at, .int t_text_token, .int t_text_tokenAt, .int t_text_tokenNumber]))]
def rm_S_erase : Room := { frames := 0, cells := 0, slots := 0, locals := 0 }
set_option maxHeartbeats 4000000 in
set_option maxRecDepth 100000 in
theorem c_S_erase (l : Launch) (E : m_E) (sz N : Nat) (a_t : Nat) (a_t_now : Nat) (a_t_draft : Nat) (a_t_firstImage : Nat) (a_t_secondImage : Nat) (a_t_news : Nat) (a_t_otherNews : Nat) (a_t_readings : Nat) (a_t_chances : Nat) (a_t_turning : Nat) (a_t_fraction : Nat) (a_t_text : Nat) (a_t_text_row : Nat) (a_t_text_itemKind : Nat) (a_t_text_numbersOf : Nat) (a_t_text_number : Nat) (t_text_bytes : Int32) (t_text_items : Int32) (t_text_at : Int32) (t_text_token : Int32) (t_text_tokenAt : Int32) (t_text_tokenNumber : Int32)  (ures : Int32 × Int32) (hF : F_S_erase t_text_bytes = some ures) : m_Met l yX11_erase cX11_erase 2 (some .int) rm_S_erase E (wd_S_erase E a_t a_t_now a_t_draft a_t_firstImage a_t_secondImage a_t_news a_t_otherNews a_t_readings a_t_chances a_t_turning a_t_fraction a_t_text a_t_text_row a_t_text_itemKind a_t_text_numbersOf a_t_text_number t_text_bytes t_text_items t_text_at t_text_token t_text_tokenAt t_text_tokenNumber) (wd_S_erase E a_t a_t_now a_t_draft a_t_firstImage a_t_secondImage a_t_news a_t_otherNews a_t_readings a_t_chances a_t_turning a_t_fraction a_t_text a_t_text_row a_t_text_itemKind a_t_text_numbersOf a_t_text_number ures.2 t_text_items t_text_at t_text_token t_text_tokenAt t_text_tokenNumber) sz [.ref a_t] (some (.int ures.1)) := by
  refine m_ofI (by decide) (Nat.le_of_ble_eq_true rfl) ?_
  intro p e s m args below meth c A Q ls X hW hA hl hret
  obtain ⟨hx, hb, -, hown, hts, hK, -, hG⟩ := id X
  have hl : lv_has ls 2 [(0, .ref a_t)] := hl
  unfold F_S_erase at hF
  refine lv_aload_n hx hb dX11_erase_0 rfl (lv_at hl 0 rfl) ?_
  refine m_get X hW fdX11_59 0 rfl rfl dX11_erase_1 ?_
  refine m_get X hW fdX11_268 1 rfl rfl dX11_erase_4 ?_
  refine lv_istore_n (lv' := [(1, .int t_text_bytes), (0, .ref a_t)]) hx hb dX11_erase_7 rfl hl (by decide) rfl (fun ls hl => ?_)
  refine lv_aload_n hx hb dX11_erase_8 rfl (lv_at hl 1 rfl) ?_
  refine m_get X hW fdX11_59 0 rfl rfl dX11_erase_9 ?_
  refine lv_iconst (v := (0 : Int32)) hx hb dX11_erase_12 (by decide) ?_
  refine m_putf X hW fdX11_268 1 rfl (Nat.le_of_ble_eq_true rfl) rfl rfl dX11_erase_13 (ws' := (wd_S_erase E a_t a_t_now a_t_draft a_t_firstImage a_t_secondImage a_t_news a_t_otherNews a_t_readings a_t_chances a_t_turning a_t_fraction a_t_text a_t_text_row a_t_text_itemKind a_t_text_numbersOf a_t_text_number (0 : Int32) t_text_items t_text_at t_text_token t_text_tokenAt t_text_tokenNumber)) rfl (fun H locs hW => ?_)
  refine lv_iload_n hx hb dX11_erase_16 rfl (lv_at hl 0 rfl) ?_
  have hq := Option.some.inj hF
  subst hq
  exact hret _ _ _ _ hW dX11_erase_17
abbrev wd_Text_byteAt (E : m_E) (a_t : Nat) (a_t_itemKind : Nat) (a_t_numbersOf : Nat) (a_t_number : Nat) (a_t_row : Nat) (t_bytes : Int32) (t_items : Int32) (t_at : Int32) (t_token : Int32) (t_tokenAt : Int32) (t_tokenNumber : Int32) (t_row : Nat → Int32) : va_W := [(a_t, .inr (9, [.int t_bytes, .int t_items, .ref a_t_row, .ref a_t_itemKind, .ref a_t_numbersOf, .ref a_t_number, .int t_at, .int t_token, .int t_tokenAt, .int t_tokenNumber])), (a_t_row, .inl (E.2.1 0, 240, .inl t_row))]
def rm_Text_byteAt : Room := { frames := 0, cells := 0, slots := 0, locals := 0 }
set_option maxHeartbeats 4000000 in
set_option maxRecDepth 100000 in
theorem c_Text_byteAt (l : Launch) (E : m_E) (sz N : Nat) (a_t : Nat) (a_t_itemKind : Nat) (a_t_numbersOf : Nat) (a_t_number : Nat) (a_t_row : Nat) (t_bytes : Int32) (t_items : Int32) (t_at : Int32) (t_token : Int32) (t_tokenAt : Int32) (t_tokenNumber : Int32) (t_row : Nat → Int32) (p1 : Int32) (ures : Int32) (hF : F_Text_byteAt p1 t_bytes t_row = some ures) : m_Met l yX9_byteAt cX9_byteAt 2 (some .int) rm_Text_byteAt E (wd_Text_byteAt E a_t a_t_itemKind a_t_numbersOf a_t_number a_t_row t_bytes t_items t_at t_token t_tokenAt t_tokenNumber t_row) (wd_Text_byteAt E a_t a_t_itemKind a_t_numbersOf a_t_number a_t_row t_bytes t_items t_at t_token t_tokenAt t_tokenNumber t_row) sz [.ref a_t, .int p1] (some (.int ures)) := by
  refine m_ofI (by decide) (Nat.le_of_ble_eq_true rfl) ?_
  intro p e s m args below meth c A Q ls X hW hA hl hret
  obtain ⟨hx, hb, -, hown, hts, hK, -, hG⟩ := id X
  have hl : lv_has ls 2 [(0, .ref a_t), (1, .int p1)] := hl
  unfold F_Text_byteAt at hF
  refine lv_iload_n hx hb dX9_byteAt_0 rfl (lv_at hl 1 rfl) ?_
  refine lv_if_lt (tgt := 21) hx hb dX9_byteAt_1 (by decide) (fun c1 => ?_) (fun c1 => ?_)
  · have hF := if_y c1 hF
    refine lv_iconst (v := (-1 : Int32)) hx hb dX9_byteAt_21 (by decide) ?_
    have hq := Option.some.inj hF
    subst hq
    exact hret _ _ _ _ hW dX9_byteAt_22
  · have hF := if_n c1 hF
    refine lv_iload_n hx hb dX9_byteAt_4 rfl (lv_at hl 1 rfl) ?_
    refine lv_aload_n hx hb dX9_byteAt_5 rfl (lv_at hl 0 rfl) ?_
    refine m_get X hW fdX9_30 0 rfl rfl dX9_byteAt_6 ?_
    refine lv_icmp_ge (tgt := 21) hx hb dX9_byteAt_9 (by decide) (fun c2 => ?_) (fun c2 => ?_)
    · have hF := if_y c2 hF
      refine lv_iconst (v := (-1 : Int32)) hx hb dX9_byteAt_21 (by decide) ?_
      have hq := Option.some.inj hF
      subst hq
      exact hret _ _ _ _ hW dX9_byteAt_22
    · have hF := if_n c2 hF
      refine lv_aload_n hx hb dX9_byteAt_12 rfl (lv_at hl 0 rfl) ?_
      refine m_get X hW fdX9_11 0 rfl rfl dX9_byteAt_13 ?_
      refine lv_iload_n hx hb dX9_byteAt_16 rfl (lv_at hl 1 rfl) ?_
      obtain ⟨g3, hF⟩ := gd_some hF
      refine m_iald X hW 1 (k := p1.toNatClampNeg) rfl g3 rfl dX9_byteAt_17 ?_
      refine lv_goto (tgt := 22) hx hb dX9_byteAt_18 (by decide) ?_
      have hq := Option.some.inj hF
      subst hq
      exact hret _ _ _ _ hW dX9_byteAt_22
abbrev wd_Text_endOfRun (E : m_E) (a_t : Nat) (a_t_itemKind : Nat) (a_t_numbersOf : Nat) (a_t_number : Nat) (a_t_row : Nat) (t_bytes : Int32) (t_items : Int32) (t_at : Int32) (t_token : Int32) (t_tokenAt : Int32) (t_tokenNumber : Int32) (t_row : Nat → Int32) : va_W := [(a_t, .inr (9, [.int t_bytes, .int t_items, .ref a_t_row, .ref a_t_itemKind, .ref a_t_numbersOf, .ref a_t_number, .int t_at, .int t_token, .int t_tokenAt, .int t_tokenNumber])), (a_t_row, .inl (E.2.1 0, 240, .inl t_row))]
def rm_Text_endOfRun : Room := { frames := 1, cells := 0, slots := 0, locals := 22 }
set_option maxHeartbeats 4000000 in
set_option maxRecDepth 100000 in
theorem c_Text_endOfRun (l : Launch) (E : m_E) (sz N : Nat) (a_t : Nat) (a_t_itemKind : Nat) (a_t_numbersOf : Nat) (a_t_number : Nat) (a_t_row : Nat) (t_bytes : Int32) (t_items : Int32) (t_at : Int32) (t_token : Int32) (t_tokenAt : Int32) (t_tokenNumber : Int32) (t_row : Nat → Int32) (p1 : Int32) (p2 : Int32) (p3 : Int32) (ures : Int32) (hF : F_Text_endOfRun N p1 p2 p3 t_bytes t_row = some ures) : m_Met l yX9_endOfRun cX9_endOfRun 6 (some .int) rm_Text_endOfRun E (wd_Text_endOfRun E a_t a_t_itemKind a_t_numbersOf a_t_number a_t_row t_bytes t_items t_at t_token t_tokenAt t_tokenNumber t_row) (wd_Text_endOfRun E a_t a_t_itemKind a_t_numbersOf a_t_number a_t_row t_bytes t_items t_at t_token t_tokenAt t_tokenNumber t_row) sz [.ref a_t, .int p1, .int p2, .int p3] (some (.int ures)) := by
  refine m_ofI (by decide) (Nat.le_of_ble_eq_true rfl) ?_
  intro p e s m args below meth c A Q ls X hW hA hl hret
  obtain ⟨hx, hb, -, hown, hts, hK, -, hG⟩ := id X
  have hl : lv_has ls 6 [(0, .ref a_t), (1, .int p1), (2, .int p2), (3, .int p3)] := hl
  unfold F_Text_endOfRun at hF
  refine lv_iload_n hx hb dX9_endOfRun_0 rfl (lv_at hl 1 rfl) ?_
  refine lv_istore (lv' := [(4, .int p1), (0, .ref a_t), (1, .int p1), (2, .int p2), (3, .int p3)]) hx hb dX9_endOfRun_1 hl (by decide) rfl (fun ls hl => ?_)
  refine lv_iload_n hx hb dX9_endOfRun_3 rfl (lv_at hl 2 rfl) ?_
  refine lv_istore (lv' := [(5, .int p1), (4, .int p1), (0, .ref a_t), (1, .int p1), (2, .int p2), (3, .int p3)]) hx hb dX9_endOfRun_4 hl (by decide) rfl (fun ls hl => ?_)
  obtain ⟨x4_2, hX2, hF⟩ := bO_s1 hF
  have L1 : ∀ (k0 : Nat) (x4 : Int32) (x5 : Int32) (x4_2 : Int32) (H : Heap) (locs : List Loc) (ls : Array Slot), Text_endOfRun_L6 t_bytes t_row p2 p3 k0 x4 x5 = some x4_2 → m_H E A (wd_Text_endOfRun E a_t a_t_itemKind a_t_numbersOf a_t_number a_t_row t_bytes t_items t_at t_token t_tokenAt t_tokenNumber t_row) s.heap H locs → lv_has ls 6 [(5, .int x5), (4, .int x4), (0, .ref a_t), (2, .int p2), (3, .int p3)] → (∀ (H : Heap) (locs : List Loc) (ls : Array Slot), m_H E A (wd_Text_endOfRun E a_t a_t_itemKind a_t_numbersOf a_t_number a_t_row t_bytes t_items t_at t_token t_tokenAt t_tokenNumber t_row) s.heap H locs → lv_has ls 6 [(4, .int x4_2)] → W p l e rm_Text_endOfRun s m args below meth c H locs 0 0 Q (F0 m 41 ls [])) → W p l e rm_Text_endOfRun s m args below meth c H locs 0 0 Q (F0 m 6 ls []) := by
    clear hF
    intro k0
    induction k0 with
    | zero =>
      intro x4 x5 x4_2 H locs ls hF
      cases hF
    | succ k0 ih4 =>
      intro x4 x5 x4_2 H locs ls hF hW hl hk3
      rw [Text_endOfRun_L6] at hF
      refine lv_iload hx hb dX9_endOfRun_6 (lv_at hl 0 rfl) ?_
      refine lv_aload_n hx hb dX9_endOfRun_8 rfl (lv_at hl 2 rfl) ?_
      refine m_get X hW fdX9_30 0 rfl rfl dX9_endOfRun_9 ?_
      refine lv_icmp_ge (tgt := 41) hx hb dX9_endOfRun_12 (by decide) (fun c5 => ?_) (fun c5 => ?_)
      · have hF := if_y c5 hF
        cases hF
        exact hk3 _ _ _ hW (lv_sub hl [1] rfl)
      · have hF := if_n c5 hF
        refine lv_aload_n hx hb dX9_endOfRun_15 rfl (lv_at hl 2 rfl) ?_
        refine lv_iload hx hb dX9_endOfRun_16 (lv_at hl 0 rfl) ?_
        obtain ⟨r18, hC6, hF⟩ := bO_s1 hF
        refine m_callV X hW hA hl.1 lkX9_68 (c_Text_byteAt l E _ N a_t a_t_itemKind a_t_numbersOf a_t_number a_t_row t_bytes t_items t_at t_token t_tokenAt t_tokenNumber t_row x5 r18 hC6) ([0, 1]) (by decide) rfl rfl (ws' := (wd_Text_endOfRun E a_t a_t_itemKind a_t_numbersOf a_t_number a_t_row t_bytes t_items t_at t_token t_tokenAt t_tokenNumber t_row)) rfl 0 rfl rfl rfl (As := [.int x5]) (rest := []) rfl rfl ⟨rfl, rfl, Nat.le_of_ble_eq_true rfl, Nat.le_of_ble_eq_true rfl⟩ (Nat.le_of_ble_eq_true rfl) (Nat.zero_le _) (Nat.zero_le _) dX9_endOfRun_18 (fun H locs hW => ?_)
        clear hC6
        refine lv_iload_n hx hb dX9_endOfRun_21 rfl (lv_at hl 3 rfl) ?_
        refine lv_iload_n hx hb dX9_endOfRun_22 rfl (lv_at hl 4 rfl) ?_
        refine m_callN X hW hA hl.1 lkX9_26 (c_S_within l E _ N   r18 p2 p3 (F_S_within r18 p2 p3) rfl) ([]) (by decide) rfl rfl (ws' := (wd_Text_endOfRun E a_t a_t_itemKind a_t_numbersOf a_t_number a_t_row t_bytes t_items t_at t_token t_tokenAt t_tokenNumber t_row)) rfl (As := [.int r18, .int p2, .int p3]) (rest := []) rfl rfl ⟨rfl, rfl, Nat.le_of_ble_eq_true rfl, Nat.le_of_ble_eq_true rfl⟩ (Nat.le_of_ble_eq_true rfl) (Nat.zero_le _) (Nat.zero_le _) dX9_endOfRun_23 (fun H locs hW => ?_)
        refine lv_if_eq (tgt := 41) hx hb dX9_endOfRun_26 (by decide) (fun c7 => ?_) (fun c7 => ?_)
        · have hF := if_y c7 hF
          cases hF
          exact hk3 _ _ _ hW (lv_sub hl [1] rfl)
        · have hF := if_n c7 hF
          refine lv_iload hx hb dX9_endOfRun_29 (lv_at hl 0 rfl) ?_
          refine lv_iconst (v := (1 : Int32)) hx hb dX9_endOfRun_31 (by decide) ?_
          refine lv_iadd hx hb dX9_endOfRun_32 ?_
          refine lv_istore (lv' := [(4, .int (x5 + (1 : Int32))), (5, .int x5), (0, .ref a_t), (2, .int p2), (3, .int p3)]) hx hb dX9_endOfRun_33 hl (by decide) rfl (fun ls hl => ?_)
          refine lv_iinc (v := (x5 + (1 : Int32))) (lv' := [(5, .int (x5 + (1 : Int32))), (4, .int (x5 + (1 : Int32))), (0, .ref a_t), (2, .int p2), (3, .int p3)]) hx hb dX9_endOfRun_35 hl (k := 1) rfl rfl (by decide) rfl (fun ls hl => ?_)
          refine lv_goto (tgt := 6) hx hb dX9_endOfRun_38 (by decide) ?_
          exact ih4 (x5 + (1 : Int32)) (x5 + (1 : Int32)) x4_2 _ _ _ hF hW (lv_sub hl [0, 1, 2, 3, 4] rfl) hk3
  refine L1 N p1 p1 x4_2 _ _ _ hX2 hW (lv_sub hl [0, 1, 2, 4, 5] rfl) ?_
  intro H locs ls hW hl
  clear L1
  refine lv_iload hx hb dX9_endOfRun_41 (lv_at hl 0 rfl) ?_
  have hq := Option.some.inj hF
  subst hq
  exact hret _ _ _ _ hW dX9_endOfRun_43
abbrev wd_Text_readNumber (E : m_E) (a_t : Nat) (a_t_itemKind : Nat) (a_t_numbersOf : Nat) (a_t_number : Nat) (a_t_row : Nat) (t_bytes : Int32) (t_items : Int32) (t_at : Int32) (t_token : Int32) (t_tokenAt : Int32) (t_tokenNumber : Int32) (t_row : Nat → Int32) : va_W := [(a_t, .inr (9, [.int t_bytes, .int t_items, .ref a_t_row, .ref a_t_itemKind, .ref a_t_numbersOf, .ref a_t_number, .int t_at, .int t_token, .int t_tokenAt, .int t_tokenNumber])), (a_t_row, .inl (E.2.1 0, 240, .inl t_row))]
def rm_Text_readNumber : Room := { frames := 1, cells := 0, slots := 0, locals := 21 }
set_option maxHeartbeats 4000000 in
set_option maxRecDepth 100000 in
theorem c_Text_readNumber (l : Launch) (E : m_E) (sz N : Nat) (a_t : Nat) (a_t_itemKind : Nat) (a_t_numbersOf : Nat) (a_t_number : Nat) (a_t_row : Nat) (t_bytes : Int32) (t_items : Int32) (t_at : Int32) (t_token : Int32) (t_tokenAt : Int32) (t_tokenNumber : Int32) (t_row : Nat → Int32)  (ures : Int32) (hF : F_Text_readNumber N t_bytes t_at t_token t_tokenAt t_row = some ures) : m_Met l yX9_readNumber cX9_readNumber 2 none rm_Text_readNumber E (wd_Text_readNumber E a_t a_t_itemKind a_t_numbersOf a_t_number a_t_row t_bytes t_items t_at t_token t_tokenAt t_tokenNumber t_row) (wd_Text_readNumber E a_t a_t_itemKind a_t_numbersOf a_t_number a_t_row t_bytes t_items t_at t_token t_tokenAt ures t_row) sz [.ref a_t] none := by
  refine m_ofV (by decide) (Nat.le_of_ble_eq_true rfl) ?_
  intro p e s m args below meth c A Q ls X hW hA hl hret
  obtain ⟨hx, hb, -, hown, hts, hK, -, hG⟩ := id X
  have hl : lv_has ls 2 [(0, .ref a_t)] := hl
  unfold F_Text_readNumber at hF
  refine lv_aload_n hx hb dX9_readNumber_0 rfl (lv_at hl 0 rfl) ?_
  refine lv_iconst (v := (0 : Int32)) hx hb dX9_readNumber_1 (by decide) ?_
  refine m_putf X hW fdX9_61 0 rfl (Nat.le_of_ble_eq_true rfl) rfl rfl dX9_readNumber_2 (ws' := (wd_Text_readNumber E a_t a_t_itemKind a_t_numbersOf a_t_number a_t_row t_bytes t_items t_at t_token t_tokenAt (0 : Int32) t_row)) rfl (fun H locs hW => ?_)
  refine lv_aload_n hx hb dX9_readNumber_5 rfl (lv_at hl 0 rfl) ?_
  refine m_get X hW fdX9_48 0 rfl rfl dX9_readNumber_6 ?_
  refine lv_istore_n (lv' := [(1, .int t_tokenAt), (0, .ref a_t)]) hx hb dX9_readNumber_9 rfl hl (by decide) rfl (fun ls hl => ?_)
  obtain ⟨t_tokenNumber'_4, hX2, hF⟩ := bO_s1 hF
  have L1 : ∀ (k0 : Nat) (x1 : Int32) (t_tokenNumber'_3 : Int32) (t_tokenNumber'_4 : Int32) (H : Heap) (locs : List Loc) (ls : Array Slot), Text_readNumber_L10 t_at t_token t_bytes t_row k0 x1 t_tokenNumber'_3 = some t_tokenNumber'_4 → m_H E A (wd_Text_readNumber E a_t a_t_itemKind a_t_numbersOf a_t_number a_t_row t_bytes t_items t_at t_token t_tokenAt t_tokenNumber'_3 t_row) s.heap H locs → lv_has ls 2 [(1, .int x1), (0, .ref a_t)] → (∀ (H : Heap) (locs : List Loc) (ls : Array Slot), m_H E A (wd_Text_readNumber E a_t a_t_itemKind a_t_numbersOf a_t_number a_t_row t_bytes t_items t_at t_token t_tokenAt t_tokenNumber'_4 t_row) s.heap H locs → lv_has ls 2 [] → W p l e rm_Text_readNumber s m args below meth c H locs 0 0 Q (F0 m 53 ls [])) → W p l e rm_Text_readNumber s m args below meth c H locs 0 0 Q (F0 m 10 ls []) := by
    clear hF
    intro k0
    induction k0 with
    | zero =>
      intro x1 t_tokenNumber'_3 t_tokenNumber'_4 H locs ls hF
      cases hF
    | succ k0 ih4 =>
      intro x1 t_tokenNumber'_3 t_tokenNumber'_4 H locs ls hF hW hl hk3
      rw [Text_readNumber_L10] at hF
      refine lv_iload_n hx hb dX9_readNumber_10 rfl (lv_at hl 0 rfl) ?_
      refine lv_aload_n hx hb dX9_readNumber_11 rfl (lv_at hl 1 rfl) ?_
      refine m_get X hW fdX9_39 0 rfl rfl dX9_readNumber_12 ?_
      refine lv_icmp_ge (tgt := 53) hx hb dX9_readNumber_15 (by decide) (fun c5 => ?_) (fun c5 => ?_)
      · have hF := if_y c5 hF
        cases hF
        exact hk3 _ _ _ hW (lv_sub hl [] rfl)
      · have hF := if_n c5 hF
        refine lv_aload_n hx hb dX9_readNumber_18 rfl (lv_at hl 1 rfl) ?_
        refine m_get X hW fdX9_45 0 rfl rfl dX9_readNumber_19 ?_
        refine lv_bipush (v := (-3 : Int32)) hx hb dX9_readNumber_22 (by decide) ?_
        refine lv_icmp_ne (tgt := 53) hx hb dX9_readNumber_24 (by decide) (fun c6 => ?_) (fun c6 => ?_)
        · have hF := if_n c6 hF
          cases hF
          exact hk3 _ _ _ hW (lv_sub hl [] rfl)
        · have hF := if_y c6 hF
          refine lv_aload_n hx hb dX9_readNumber_27 rfl (lv_at hl 1 rfl) ?_
          refine lv_bipush (v := (10 : Int32)) hx hb dX9_readNumber_28 (by decide) ?_
          refine lv_aload_n hx hb dX9_readNumber_30 rfl (lv_at hl 1 rfl) ?_
          refine m_get X hW fdX9_61 0 rfl rfl dX9_readNumber_31 ?_
          refine lv_imul hx hb dX9_readNumber_34 ?_
          refine lv_aload_n hx hb dX9_readNumber_35 rfl (lv_at hl 1 rfl) ?_
          refine lv_iload_n hx hb dX9_readNumber_36 rfl (lv_at hl 0 rfl) ?_
          obtain ⟨r37, hC7, hF⟩ := bO_s1 hF
          refine m_callV X hW hA hl.1 lkX9_68 (c_Text_byteAt l E _ N a_t a_t_itemKind a_t_numbersOf a_t_number a_t_row t_bytes t_items t_at t_token t_tokenAt t_tokenNumber'_3 t_row x1 r37 hC7) ([0, 1]) (by decide) rfl rfl (ws' := (wd_Text_readNumber E a_t a_t_itemKind a_t_numbersOf a_t_number a_t_row t_bytes t_items t_at t_token t_tokenAt t_tokenNumber'_3 t_row)) rfl 0 rfl rfl rfl (As := [.int x1]) (rest := [.int ((10 : Int32) * t_tokenNumber'_3), .ref a_t]) rfl rfl ⟨rfl, rfl, Nat.le_of_ble_eq_true rfl, Nat.le_of_ble_eq_true rfl⟩ (Nat.le_of_ble_eq_true rfl) (Nat.zero_le _) (Nat.zero_le _) dX9_readNumber_37 (fun H locs hW => ?_)
          clear hC7
          refine lv_iadd hx hb dX9_readNumber_40 ?_
          refine lv_bipush (v := (48 : Int32)) hx hb dX9_readNumber_41 (by decide) ?_
          refine lv_isub hx hb dX9_readNumber_43 ?_
          refine m_putf X hW fdX9_61 0 rfl (Nat.le_of_ble_eq_true rfl) rfl rfl dX9_readNumber_44 (ws' := (wd_Text_readNumber E a_t a_t_itemKind a_t_numbersOf a_t_number a_t_row t_bytes t_items t_at t_token t_tokenAt ((((10 : Int32) * t_tokenNumber'_3) + r37) - (48 : Int32)) t_row)) rfl (fun H locs hW => ?_)
          refine lv_iinc (v := (x1 + (1 : Int32))) (lv' := [(1, .int (x1 + (1 : Int32))), (0, .ref a_t)]) hx hb dX9_readNumber_47 hl (k := 0) rfl rfl (by decide) rfl (fun ls hl => ?_)
          refine lv_goto (tgt := 10) hx hb dX9_readNumber_50 (by decide) ?_
          exact ih4 (x1 + (1 : Int32)) ((((10 : Int32) * t_tokenNumber'_3) + r37) - (48 : Int32)) t_tokenNumber'_4 _ _ _ hF hW (lv_sub hl [0, 1] rfl) hk3
  refine L1 N t_tokenAt (0 : Int32) t_tokenNumber'_4 _ _ _ hX2 hW (lv_sub hl [0, 1] rfl) ?_
  intro H locs ls hW hl
  clear L1
  have hq := Option.some.inj hF
  subst hq
  exact hret _ _ _ _ hW dX9_readNumber_53
abbrev wd_Text_nameOf (E : m_E)   : va_W := []
def rm_Text_nameOf : Room := { frames := 0, cells := 0, slots := 0, locals := 0 }
set_option maxHeartbeats 4000000 in
set_option maxRecDepth 100000 in
theorem c_Text_nameOf (l : Launch) (E : m_E) (sz N : Nat)   (p1 : Int32) (ures : Nat) (hF : F_Text_nameOf p1 = ures) : m_Met l yX9_nameOf cX9_nameOf 1 (some (.object "java/lang/String")) rm_Text_nameOf E (wd_Text_nameOf E) (wd_Text_nameOf E) sz [.int p1] (some (.ref (E.2.2.1 ures))) := by
  refine m_ofA (by decide) (Nat.le_of_ble_eq_true rfl) ?_
  intro p e s m args below meth c A Q ls X hW hA hl hret
  obtain ⟨hx, hb, -, hown, hts, hK, -, hG⟩ := id X
  have hl : lv_has ls 1 [(0, .int p1)] := hl
  unfold F_Text_nameOf at hF
  refine lv_iload_n hx hb dX9_nameOf_0 rfl (lv_at hl 0 rfl) ?_
  by_cases c1 : p1 = (0 : Int32)
  · have hF := if_y c1 hF
    refine lv_tableIn (tgt := 40) hx hb dX9_nameOf_1 (by rw [c1]; decide) (by rw [c1]; decide) (by rw [c1]; rfl) (by decide) ?_
    refine va_ldcS hx hb hown (hG.1 0 (by decide)) dX9_nameOf_40 ?_
    have hq := hF
    subst hq
    exact hret _ _ _ _ hW dX9_nameOf_42
  · have hF := if_n c1 hF
    by_cases c2 : p1 = (1 : Int32)
    · have hF := if_y c2 hF
      refine lv_tableIn (tgt := 43) hx hb dX9_nameOf_1 (by rw [c2]; decide) (by rw [c2]; decide) (by rw [c2]; rfl) (by decide) ?_
      refine va_ldcS hx hb hown (hG.1 1 (by decide)) dX9_nameOf_43 ?_
      have hq := hF
      subst hq
      exact hret _ _ _ _ hW dX9_nameOf_45
    · have hF := if_n c2 hF
      by_cases c3 : p1 = (2 : Int32)
      · have hF := if_y c3 hF
        refine lv_tableIn (tgt := 46) hx hb dX9_nameOf_1 (by rw [c3]; decide) (by rw [c3]; decide) (by rw [c3]; rfl) (by decide) ?_
        refine va_ldcS hx hb hown (hG.1 2 (by decide)) dX9_nameOf_46 ?_
        have hq := hF
        subst hq
        exact hret _ _ _ _ hW dX9_nameOf_48
      · have hF := if_n c3 hF
        by_cases c4 : p1 = (3 : Int32)
        · have hF := if_y c4 hF
          refine lv_tableIn (tgt := 49) hx hb dX9_nameOf_1 (by rw [c4]; decide) (by rw [c4]; decide) (by rw [c4]; rfl) (by decide) ?_
          refine va_ldcS hx hb hown (hG.1 3 (by decide)) dX9_nameOf_49 ?_
          have hq := hF
          subst hq
          exact hret _ _ _ _ hW dX9_nameOf_51
        · have hF := if_n c4 hF
          by_cases c5 : p1 = (4 : Int32)
          · have hF := if_y c5 hF
            refine lv_tableIn (tgt := 52) hx hb dX9_nameOf_1 (by rw [c5]; decide) (by rw [c5]; decide) (by rw [c5]; rfl) (by decide) ?_
            refine va_ldcS hx hb hown (hG.1 4 (by decide)) dX9_nameOf_52 ?_
            have hq := hF
            subst hq
            exact hret _ _ _ _ hW dX9_nameOf_54
          · have hF := if_n c5 hF
            by_cases c6 : p1 = (5 : Int32)
            · have hF := if_y c6 hF
              refine lv_tableIn (tgt := 55) hx hb dX9_nameOf_1 (by rw [c6]; decide) (by rw [c6]; decide) (by rw [c6]; rfl) (by decide) ?_
              refine va_ldcS hx hb hown (hG.1 5 (by decide)) dX9_nameOf_55 ?_
              have hq := hF
              subst hq
              exact hret _ _ _ _ hW dX9_nameOf_57
            · have hF := if_n c6 hF
              refine lv_tableOut (tgt := 58) hx hb dX9_nameOf_1 (m_sw_0_5 c1 c2 c3 c4 c5 c6) (by decide) ?_
              refine va_ldcS hx hb hown (hG.1 6 (by decide)) dX9_nameOf_58 ?_
              have hq := hF
              subst hq
              exact hret _ _ _ _ hW dX9_nameOf_60
-- THE JDK'S TEXTS: length, charAt of our seven literals
def rm_str (f n : Nat) : Room := { frames := f, cells := 0, slots := 0, locals := n }
theorem str_len : ∀ i, i < 7 → jshr (Int32.ofNat (strL.getD i 0)) 0 = nI (sLen i) := by decide +kernel
theorem str_chr : ∀ i, i < 7 → ∀ k, k < strL.getD i 0 → (((strB.getD i []).getD k 0 &&& 255).toUInt32 % 65536).toInt32 = sChar i k ∧ narrow .char (.int (sChar i k)) = .int (sChar i k) := by decide +kernel
set_option maxHeartbeats 4000000 in
set_option maxRecDepth 100000 in
theorem c_str_coder (l : Launch) (E : m_E) (sz i : Nat) (hi : i < 7) : m_Met l yJ0_coder_7d493 cJ0_coder_7d493 1 (some .byte) (rm_str 0 0) E [] [] sz [.ref (E.2.2.1 i)] (some (.int 0)) := by
  refine m_begin (by decide) (Nat.le_of_ble_eq_true rfl) ?_
  intro p e s m args below meth c A ls X hW hA hl hAe hr hk
  obtain ⟨hx, hb, -, hown, hts, hK, -, hG⟩ := id X
  have hl : lv_has ls 1 [(0, .ref (E.2.2.1 i))] := hl
  have hS7 := hG.2.1.1 i hi
  refine va_gets hx hb hG.2.2.2.2.2.2.1 hW.2.2 hown (hts _ wk_940) (fun _ h => h) dJ0_coder_7d493_0 ?_
  refine lv_if_eq (tgt := 13) hx hb dJ0_coder_7d493_3 (by decide) (fun c => absurd c (by decide)) (fun _ => ?_)
  refine lv_aload_n hx hb dJ0_coder_7d493_6 rfl (lv_at hl 0 rfl) ?_
  refine vk_getf hx hb hS7.2.1 hW.2.2 hown (hts _ wk_1621) (fun _ h => h) dJ0_coder_7d493_7 ?_
  refine lv_goto (tgt := 14) hx hb dJ0_coder_7d493_10 (by decide) ?_
  subst hAe
  exact W.zret hx hb hr rfl (fun t ht _ => ⟨⟨rfl, by rw [ht]; exact hW.1, hW.2.1⟩, hW.2.2.F ht⟩) hW.2.2.2.2 dJ0_coder_7d493_14 hk
set_option maxHeartbeats 4000000 in
set_option maxRecDepth 100000 in
theorem c_str_isLatin1 (l : Launch) (E : m_E) (sz i : Nat) (hi : i < 7) : m_Met l yJ0_isLatin1_aae02 cJ0_isLatin1_aae02 1 (some .boolean) (rm_str 0 0) E [] [] sz [.ref (E.2.2.1 i)] (some (.int 1)) := by
  refine m_begin (by decide) (Nat.le_of_ble_eq_true rfl) ?_
  intro p e s m args below meth c A ls X hW hA hl hAe hr hk
  obtain ⟨hx, hb, -, hown, hts, hK, -, hG⟩ := id X
  have hl : lv_has ls 1 [(0, .ref (E.2.2.1 i))] := hl
  have hS7 := hG.2.1.1 i hi
  refine va_gets hx hb hG.2.2.2.2.2.2.1 hW.2.2 hown (hts _ wk_940) (fun _ h => h) dJ0_isLatin1_aae02_0 ?_
  refine lv_if_eq (tgt := 17) hx hb dJ0_isLatin1_aae02_3 (by decide) (fun c => absurd c (by decide)) (fun _ => ?_)
  refine lv_aload_n hx hb dJ0_isLatin1_aae02_6 rfl (lv_at hl 0 rfl) ?_
  refine vk_getf hx hb hS7.2.1 hW.2.2 hown (hts _ wk_1621) (fun _ h => h) dJ0_isLatin1_aae02_7 ?_
  refine lv_if_ne (tgt := 17) hx hb dJ0_isLatin1_aae02_10 (by decide) (fun c => absurd rfl c) (fun _ => ?_)
  refine lv_iconst (v := 1) hx hb dJ0_isLatin1_aae02_13 (by decide) ?_
  refine lv_goto (tgt := 18) hx hb dJ0_isLatin1_aae02_14 (by decide) ?_
  subst hAe
  exact W.zret hx hb hr rfl (fun t ht _ => ⟨⟨rfl, by rw [ht]; exact hW.1, hW.2.1⟩, hW.2.2.F ht⟩) hW.2.2.2.2 dJ0_isLatin1_aae02_18 hk
set_option maxHeartbeats 4000000 in
set_option maxRecDepth 100000 in
theorem c_str_length (l : Launch) (E : m_E) (sz i : Nat) (hi : i < 7) : m_Met l yJ0_length_8abf5 cJ0_length_8abf5 1 (some .int) (rm_str 1 20) E [] [] sz [.ref (E.2.2.1 i)] (some (.int (nI (sLen i)))) := by
  refine m_ofI (by decide) (Nat.le_of_ble_eq_true rfl) ?_
  intro p e s m args below meth c A Q ls X hW hA hl hret
  obtain ⟨hx, hb, -, hown, hts, hK, -, hG⟩ := id X
  have hl : lv_has ls 1 [(0, .ref (E.2.2.1 i))] := hl
  have hS7 := hG.2.1.1 i hi
  refine lv_aload_n hx hb dJ0_length_8abf5_0 rfl (lv_at hl 0 rfl) ?_
  refine vk_getf hx hb hS7.2.2.1 hW.2.2 hown (hts _ wk_1620) (fun _ h => h) dJ0_length_8abf5_1 ?_
  refine va_tlen hx hb hS7.2.2.2 hW.2.2 rfl dJ0_length_8abf5_4 ?_
  refine lv_aload_n hx hb dJ0_length_8abf5_5 rfl (lv_at hl 0 rfl) ?_
  refine m_callVr X hW hA hl.1 lkJ0_335 (c_str_coder l E _ i hi) [] rfl rfl rfl (ws' := []) rfl (vk_recv hG.2.1 hi hW.2.2) (As := []) (rest := [.int (Int32.ofNat (strL.getD i 0))]) rfl rfl ⟨rfl, rfl, Nat.le_of_ble_eq_true rfl, Nat.le_of_ble_eq_true rfl⟩ (Nat.le_of_ble_eq_true rfl) (Nat.zero_le _) (Nat.zero_le _) dJ0_length_8abf5_6 (fun H locs hW => ?_)
  refine m_ishr hx hb dJ0_length_8abf5_9 ?_
  rw [str_len i hi]
  exact hret _ _ _ _ hW dJ0_length_8abf5_10
set_option maxHeartbeats 4000000 in
set_option maxRecDepth 100000 in
theorem c_str_pre (l : Launch) (E : m_E) (sz : Nat) (k n : Int32) (v : Value) (hv : v = .null ∨ ∃ a, v = .ref a) (h0 : ¬ k < 0) (hn : k < n) : m_Met l yJ3_checkIndex_8e157 cJ3_checkIndex_8e157 3 (some .int) (rm_str 0 0) E [] [] sz [.int k, .int n, v] (some (.int k)) := by
  have hc : (lg_sl [.int k, .int n, v]).length ≤ 3 := by rcases hv with rfl | ⟨a, rfl⟩ <;> exact Nat.le_of_ble_eq_true rfl
  have he : lv_args 0 [.int k, .int n, v] = [(0, .int k), (1, .int n), (2, v)] := by rcases hv with rfl | ⟨a, rfl⟩ <;> rfl
  refine m_ofI (by decide) hc ?_
  intro p e s m args below meth c A Q ls X hW hA hl hret
  obtain ⟨hx, hb, -, hown, hts, hK, -, hG⟩ := id X
  rw [he] at hl
  refine lv_iload_n hx hb dJ3_checkIndex_8e157_0 rfl (lv_at hl 0 rfl) ?_
  refine lv_if_lt (tgt := 9) hx hb dJ3_checkIndex_8e157_1 (by decide) (fun c => absurd c h0) (fun _ => ?_)
  refine lv_iload_n hx hb dJ3_checkIndex_8e157_4 rfl (lv_at hl 0 rfl) ?_
  refine lv_iload_n hx hb dJ3_checkIndex_8e157_5 rfl (lv_at hl 1 rfl) ?_
  refine lv_icmp_lt (tgt := 16) hx hb dJ3_checkIndex_8e157_6 (by decide) (fun _ => ?_) (fun c => absurd hn c)
  refine lv_iload_n hx hb dJ3_checkIndex_8e157_16 rfl (lv_at hl 0 rfl) ?_
  exact hret _ _ _ _ hW dJ3_checkIndex_8e157_17
set_option maxHeartbeats 4000000 in
set_option maxRecDepth 100000 in
theorem c_str_check (l : Launch) (E : m_E) (sz : Nat) (k n : Int32) (h0 : ¬ k < 0) (hn : k < n) : m_Met l yJ0_checkIndex_df160 cJ0_checkIndex_df160 2 none (rm_str 1 22) E [] [] sz [.int k, .int n] none := by
  refine m_ofV (by decide) (Nat.le_of_ble_eq_true rfl) ?_
  intro p e s m args below meth c A Q ls X hW hA hl hret
  obtain ⟨hx, hb, -, hown, hts, hK, -, hG⟩ := id X
  have hl : lv_has ls 2 [(0, .int k), (1, .int n)] := hl
  refine lv_iload_n hx hb dJ0_checkIndex_df160_0 rfl (lv_at hl 0 rfl) ?_
  refine lv_iload_n hx hb dJ0_checkIndex_df160_1 rfl (lv_at hl 1 rfl) ?_
  have hz : ∃ v : Value, (v = .null ∨ ∃ a, v = .ref a) ∧ va_Z "jdk/internal/util/Preconditions" "SIOOBE_FORMATTER" "Ljava/util/function/BiFunction;" v A s s.heap := by
    rcases hG.2.2.2.2.2.2.2 with h | ⟨t, h⟩
    · exact ⟨_, Or.inl rfl, h⟩
    · exact ⟨_, Or.inr ⟨t, rfl⟩, h⟩
  obtain ⟨v, hv, hZ⟩ := hz
  refine va_gets hx hb hZ hW.2.2 hown (hts _ wk_956) (fun _ h => h) dJ0_checkIndex_df160_2 ?_
  refine m_callS X hW hA hl.1 lkJ0_1059 (c_str_pre l E _ k n v hv h0 hn) [] rfl rfl rfl (ws' := []) rfl (As := [.int k, .int n, v]) (rest := []) rfl rfl ⟨rfl, rfl, Nat.le_of_ble_eq_true rfl, Nat.le_of_ble_eq_true rfl⟩ (Nat.le_of_ble_eq_true rfl) (Nat.zero_le _) (Nat.zero_le _) dJ0_checkIndex_df160_5 (fun H locs hW => ?_)
  refine lv_pop hx hb dJ0_checkIndex_df160_8 rfl ?_
  exact hret _ _ _ _ hW dJ0_checkIndex_df160_9
set_option maxHeartbeats 4000000 in
set_option maxRecDepth 100000 in
theorem c_str_latin (l : Launch) (E : m_E) (sz i : Nat) (hi : i < 7) (k : Int32) (hk9 : ixb k (sLen i) = true) : m_Met l yJ1_charAt_3b067 cJ1_charAt_3b067 2 (some .char) (rm_str 2 43) E [] [] sz [.ref (E.2.2.2.1 i), .int k] (some (.int (sChar i k.toNatClampNeg))) := by
  refine m_begin (by decide) (Nat.le_of_ble_eq_true rfl) ?_
  intro p e s m args below meth c A ls X hW hA hl hAe hr hk
  obtain ⟨hx, hb, -, hown, hts, hK, -, hG⟩ := id X
  have hl : lv_has ls 2 [(0, .ref (E.2.2.2.1 i)), (1, .int k)] := hl
  have hS7 := hG.2.1.1 i hi
  have hin := ixb_vp hk9
  have hlt := ixb_lt hk9
  have h0 : ¬ k < 0 := fun h => hin (Or.inl h)
  obtain ⟨j, hj, rfl⟩ := nI_of h0
  have hL : sLen i < 2 ^ 31 := by
    have : ∀ i, i < 7 → sLen i < 2 ^ 31 := by decide +kernel
    exact this i hi
  rw [nI_clamp hj] at hlt
  have hn : nI j < Int32.ofNat (strL.getD i 0) := nI_lt hlt hL
  refine lv_iload_n hx hb dJ1_charAt_3b067_0 rfl (lv_at hl 1 rfl) ?_
  refine lv_aload_n hx hb dJ1_charAt_3b067_1 rfl (lv_at hl 0 rfl) ?_
  refine va_tlen hx hb hS7.2.2.2 hW.2.2 rfl dJ1_charAt_3b067_2 ?_
  refine m_callS X hW hA hl.1 lkJ1_9 (c_str_check l E _ (nI j) _ h0 hn) [] rfl rfl rfl (ws' := []) rfl (As := [.int (nI j), .int (Int32.ofNat (strL.getD i 0))]) (rest := []) rfl rfl ⟨rfl, rfl, Nat.le_of_ble_eq_true rfl, Nat.le_of_ble_eq_true rfl⟩ (Nat.le_of_ble_eq_true rfl) (Nat.zero_le _) (Nat.zero_le _) dJ1_charAt_3b067_3 (fun H locs hW => ?_)
  refine lv_aload_n hx hb dJ1_charAt_3b067_6 rfl (lv_at hl 0 rfl) ?_
  refine lv_iload_n hx hb dJ1_charAt_3b067_7 rfl (lv_at hl 1 rfl) ?_
  refine va_tb hx hb hS7.2.2.2 hW.2.2 hin (v := .int ((strB.getD i []).getD j 0)) (by rw [nI_clamp hj]) dJ1_charAt_3b067_8 ?_
  refine lv_sipush (v := 255) hx hb dJ1_charAt_3b067_9 (by decide) ?_
  refine lv_iand hx hb dJ1_charAt_3b067_12 ?_
  obtain ⟨e1, e2⟩ := str_chr i hi j hlt
  refine lv_i2c (v := sChar i j) hx hb dJ1_charAt_3b067_13 e1 ?_
  rw [nI_clamp hj]
  subst hAe
  exact W.zret hx hb hr e2 (fun t ht _ => ⟨⟨rfl, by rw [ht]; exact hW.1, hW.2.1⟩, hW.2.2.F ht⟩) hW.2.2.2.2 dJ1_charAt_3b067_14 hk
set_option maxHeartbeats 4000000 in
set_option maxRecDepth 100000 in
theorem c_str_charAt (l : Launch) (E : m_E) (sz i : Nat) (hi : i < 7) (k : Int32) (hk9 : ixb k (sLen i) = true) : m_Met l yJ0_charAt_5068e cJ0_charAt_5068e 2 (some .char) (rm_str 3 64) E [] [] sz [.ref (E.2.2.1 i), .int k] (some (.int (sChar i k.toNatClampNeg))) := by
  refine m_begin (by decide) (Nat.le_of_ble_eq_true rfl) ?_
  intro p e s m args below meth c A ls X hW hA hl hAe hr hk
  obtain ⟨hx, hb, -, hown, hts, hK, -, hG⟩ := id X
  have hl : lv_has ls 2 [(0, .ref (E.2.2.1 i)), (1, .int k)] := hl
  have hS7 := hG.2.1.1 i hi
  refine lv_aload_n hx hb dJ0_charAt_5068e_0 rfl (lv_at hl 0 rfl) ?_
  refine m_callVr X hW hA hl.1 lkJ0_492 (c_str_isLatin1 l E _ i hi) [] rfl rfl rfl (ws' := []) rfl (vk_recv hG.2.1 hi hW.2.2) (As := []) (rest := []) rfl rfl ⟨rfl, rfl, Nat.le_of_ble_eq_true rfl, Nat.le_of_ble_eq_true rfl⟩ (Nat.le_of_ble_eq_true rfl) (Nat.zero_le _) (Nat.zero_le _) dJ0_charAt_5068e_1 (fun H locs hW => ?_)
  refine lv_if_eq (tgt := 16) hx hb dJ0_charAt_5068e_4 (by decide) (fun c => absurd c (by decide)) (fun _ => ?_)
  refine lv_aload_n hx hb dJ0_charAt_5068e_7 rfl (lv_at hl 0 rfl) ?_
  refine vk_getf hx hb hS7.2.2.1 hW.2.2 hown (hts _ wk_1620) (fun _ h => h) dJ0_charAt_5068e_8 ?_
  refine lv_iload_n hx hb dJ0_charAt_5068e_11 rfl (lv_at hl 1 rfl) ?_
  refine m_callS X hW hA hl.1 lkJ0_495 (c_str_latin l E _ i hi k hk9) [] rfl rfl rfl (ws' := []) rfl (As := [.ref (E.2.2.2.1 i), .int k]) (rest := []) rfl rfl ⟨rfl, rfl, Nat.le_of_ble_eq_true rfl, Nat.le_of_ble_eq_true rfl⟩ (Nat.le_of_ble_eq_true rfl) (Nat.zero_le _) (Nat.zero_le _) dJ0_charAt_5068e_12 (fun H locs hW => ?_)
  have e2 : narrow .char (.int (sChar i k.toNatClampNeg)) = .int (sChar i k.toNatClampNeg) := (str_chr i hi _ (ixb_lt hk9)).2
  subst hAe
  exact W.zret hx hb hr e2 (fun t ht _ => ⟨⟨rfl, by rw [ht]; exact hW.1, hW.2.1⟩, hW.2.2.F ht⟩) hW.2.2.2.2 dJ0_charAt_5068e_15 hk
theorem nameOf_lt (k : Int32) : F_Text_nameOf k < 7 := by
  unfold F_Text_nameOf
  repeat' split
  all_goals decide

abbrev wd_Text_tokenSpells (E : m_E) (a_t : Nat) (a_t_itemKind : Nat) (a_t_numbersOf : Nat) (a_t_number : Nat) (a_t_row : Nat) (t_bytes : Int32) (t_items : Int32) (t_at : Int32) (t_token : Int32) (t_tokenAt : Int32) (t_tokenNumber : Int32) (t_row : Nat → Int32) : va_W := [(a_t, .inr (9, [.int t_bytes, .int t_items, .ref a_t_row, .ref a_t_itemKind, .ref a_t_numbersOf, .ref a_t_number, .int t_at, .int t_token, .int t_tokenAt, .int t_tokenNumber])), (a_t_row, .inl (E.2.1 0, 240, .inl t_row))]
def rm_Text_tokenSpells : Room := { frames := 4, cells := 0, slots := 0, locals := 85 }
set_option maxHeartbeats 4000000 in
set_option maxRecDepth 100000 in
theorem c_Text_tokenSpells (l : Launch) (E : m_E) (sz N : Nat) (a_t : Nat) (a_t_itemKind : Nat) (a_t_numbersOf : Nat) (a_t_number : Nat) (a_t_row : Nat) (t_bytes : Int32) (t_items : Int32) (t_at : Int32) (t_token : Int32) (t_tokenAt : Int32) (t_tokenNumber : Int32) (t_row : Nat → Int32) (p1 : Nat) (hs_p1 : p1 < 7) (ures : Int32) (hF : F_Text_tokenSpells N p1 t_bytes t_at t_tokenAt t_row = some ures) : m_Met l yX9_tokenSpells cX9_tokenSpells 3 (some .boolean) rm_Text_tokenSpells E (wd_Text_tokenSpells E a_t a_t_itemKind a_t_numbersOf a_t_number a_t_row t_bytes t_items t_at t_token t_tokenAt t_tokenNumber t_row) (wd_Text_tokenSpells E a_t a_t_itemKind a_t_numbersOf a_t_number a_t_row t_bytes t_items t_at t_token t_tokenAt t_tokenNumber t_row) sz [.ref a_t, .ref (E.2.2.1 p1)] (some (.int ures)) := by
  refine m_ofZ (by decide) (Nat.le_of_ble_eq_true rfl) ?_
  intro p e s m args below meth c A Q ls X hW hA hl hret
  obtain ⟨hx, hb, -, hown, hts, hK, -, hG⟩ := id X
  have hl : lv_has ls 3 [(0, .ref a_t), (1, .ref (E.2.2.1 p1))] := hl
  unfold F_Text_tokenSpells at hF
  refine lv_aload_n hx hb dX9_tokenSpells_0 rfl (lv_at hl 0 rfl) ?_
  refine m_get X hW fdX9_39 0 rfl rfl dX9_tokenSpells_1 ?_
  refine lv_aload_n hx hb dX9_tokenSpells_4 rfl (lv_at hl 0 rfl) ?_
  refine m_get X hW fdX9_48 0 rfl rfl dX9_tokenSpells_5 ?_
  refine lv_isub hx hb dX9_tokenSpells_8 ?_
  refine lv_aload_n hx hb dX9_tokenSpells_9 rfl (lv_at hl 1 rfl) ?_
  refine m_callVr X hW hA hl.1 lkX9_87 (c_str_length l E _ p1 hs_p1) [] rfl rfl rfl (ws' := (wd_Text_tokenSpells E a_t a_t_itemKind a_t_numbersOf a_t_number a_t_row t_bytes t_items t_at t_token t_tokenAt t_tokenNumber t_row)) rfl (vk_recv hG.2.1 hs_p1 hW.2.2) (As := []) (rest := [.int (t_at - t_tokenAt)]) rfl rfl ⟨rfl, rfl, Nat.le_of_ble_eq_true rfl, Nat.le_of_ble_eq_true rfl⟩ (Nat.le_of_ble_eq_true rfl) (Nat.zero_le _) (Nat.zero_le _) dX9_tokenSpells_10 (fun H locs hW => ?_)
  refine lv_icmp_eq (tgt := 18) hx hb dX9_tokenSpells_13 (by decide) (fun c1 => ?_) (fun c1 => ?_)
  · have hF := if_y c1 hF
    refine lv_iconst (v := (0 : Int32)) hx hb dX9_tokenSpells_18 (by decide) ?_
    refine lv_istore_n (lv' := [(2, .int (0 : Int32)), (0, .ref a_t), (1, .ref (E.2.2.1 p1))]) hx hb dX9_tokenSpells_19 rfl hl (by decide) rfl (fun ls hl => ?_)
    obtain ⟨out7, hX3, hr6, hF⟩ := bT_s0 hF
    have L2 : ∀ (k0 : Nat) (x2 : Int32) (out9 : (Int32) ⊕ Unit)  (H : Heap) (locs : List Loc) (ls : Array Slot), Text_tokenSpells_L20 p1 t_tokenAt t_bytes t_row k0 x2 = some out9 → m_H E A (wd_Text_tokenSpells E a_t a_t_itemKind a_t_numbersOf a_t_number a_t_row t_bytes t_items t_at t_token t_tokenAt t_tokenNumber t_row) s.heap H locs → lv_has ls 3 [(2, .int x2), (0, .ref a_t), (1, .ref (E.2.2.1 p1))] → (∀ a, out9 = .inl a → a = ures) → (∀  (H : Heap) (locs : List Loc) (ls : Array Slot), out9 = .inr () → m_H E A (wd_Text_tokenSpells E a_t a_t_itemKind a_t_numbersOf a_t_number a_t_row t_bytes t_items t_at t_token t_tokenAt t_tokenNumber t_row) s.heap H locs → lv_has ls 3 [] → W p l e rm_Text_tokenSpells s m args below meth c H locs 0 0 Q (F0 m 54 ls [])) → W p l e rm_Text_tokenSpells s m args below meth c H locs 0 0 Q (F0 m 20 ls []) := by
      clear hF
      intro k0
      induction k0 with
      | zero =>
        intro x2 out9 H locs ls hF
        cases hF
      | succ k0 ih5 =>
        intro x2 out9 H locs ls hF hW hl hr8 hk4
        rw [Text_tokenSpells_L20] at hF
        refine lv_iload_n hx hb dX9_tokenSpells_20 rfl (lv_at hl 0 rfl) ?_
        refine lv_aload_n hx hb dX9_tokenSpells_21 rfl (lv_at hl 2 rfl) ?_
        refine m_callVr X hW hA hl.1 lkX9_87 (c_str_length l E _ p1 hs_p1) [] rfl rfl rfl (ws' := (wd_Text_tokenSpells E a_t a_t_itemKind a_t_numbersOf a_t_number a_t_row t_bytes t_items t_at t_token t_tokenAt t_tokenNumber t_row)) rfl (vk_recv hG.2.1 hs_p1 hW.2.2) (As := []) (rest := [.int x2]) rfl rfl ⟨rfl, rfl, Nat.le_of_ble_eq_true rfl, Nat.le_of_ble_eq_true rfl⟩ (Nat.le_of_ble_eq_true rfl) (Nat.zero_le _) (Nat.zero_le _) dX9_tokenSpells_22 (fun H locs hW => ?_)
        refine lv_icmp_ge (tgt := 54) hx hb dX9_tokenSpells_25 (by decide) (fun c10 => ?_) (fun c10 => ?_)
        · have hF := if_y c10 hF
          exact hk4  _ _ _ (Option.some.inj hF).symm hW (lv_sub hl [] rfl)
        · have hF := if_n c10 hF
          refine lv_aload_n hx hb dX9_tokenSpells_28 rfl (lv_at hl 1 rfl) ?_
          refine lv_aload_n hx hb dX9_tokenSpells_29 rfl (lv_at hl 1 rfl) ?_
          refine m_get X hW fdX9_48 0 rfl rfl dX9_tokenSpells_30 ?_
          refine lv_iload_n hx hb dX9_tokenSpells_33 rfl (lv_at hl 0 rfl) ?_
          refine lv_iadd hx hb dX9_tokenSpells_34 ?_
          obtain ⟨r35, hC11, hF⟩ := bO_s1 hF
          refine m_callV X hW hA hl.1 lkX9_68 (c_Text_byteAt l E _ N a_t a_t_itemKind a_t_numbersOf a_t_number a_t_row t_bytes t_items t_at t_token t_tokenAt t_tokenNumber t_row (t_tokenAt + x2) r35 hC11) ([0, 1]) (by decide) rfl rfl (ws' := (wd_Text_tokenSpells E a_t a_t_itemKind a_t_numbersOf a_t_number a_t_row t_bytes t_items t_at t_token t_tokenAt t_tokenNumber t_row)) rfl 0 rfl rfl rfl (As := [.int (t_tokenAt + x2)]) (rest := []) rfl rfl ⟨rfl, rfl, Nat.le_of_ble_eq_true rfl, Nat.le_of_ble_eq_true rfl⟩ (Nat.le_of_ble_eq_true rfl) (Nat.zero_le _) (Nat.zero_le _) dX9_tokenSpells_35 (fun H locs hW => ?_)
          clear hC11
          refine lv_aload_n hx hb dX9_tokenSpells_38 rfl (lv_at hl 2 rfl) ?_
          refine lv_iload_n hx hb dX9_tokenSpells_39 rfl (lv_at hl 0 rfl) ?_
          obtain ⟨g12, hF⟩ := gd_some hF
          refine m_callVr X hW hA hl.1 lkX9_92 (c_str_charAt l E _ p1 hs_p1 x2 g12) [] rfl rfl rfl (ws' := (wd_Text_tokenSpells E a_t a_t_itemKind a_t_numbersOf a_t_number a_t_row t_bytes t_items t_at t_token t_tokenAt t_tokenNumber t_row)) rfl (vk_recv hG.2.1 hs_p1 hW.2.2) (As := [.int x2]) (rest := [.int r35]) rfl rfl ⟨rfl, rfl, Nat.le_of_ble_eq_true rfl, Nat.le_of_ble_eq_true rfl⟩ (Nat.le_of_ble_eq_true rfl) (Nat.zero_le _) (Nat.zero_le _) dX9_tokenSpells_40 (fun H locs hW => ?_)
          refine lv_icmp_eq (tgt := 48) hx hb dX9_tokenSpells_43 (by decide) (fun c13 => ?_) (fun c13 => ?_)
          · have hF := if_y c13 hF
            refine lv_iinc (v := (x2 + (1 : Int32))) (lv' := [(2, .int (x2 + (1 : Int32))), (0, .ref a_t), (1, .ref (E.2.2.1 p1))]) hx hb dX9_tokenSpells_48 hl (k := 0) rfl rfl (by decide) rfl (fun ls hl => ?_)
            refine lv_goto (tgt := 20) hx hb dX9_tokenSpells_51 (by decide) ?_
            exact ih5 (x2 + (1 : Int32)) out9 _ _ _ hF hW (lv_sub hl [0, 1, 2] rfl) hr8 hk4
          · have hF := if_n c13 hF
            refine lv_iconst (v := (0 : Int32)) hx hb dX9_tokenSpells_46 (by decide) ?_
            have hq := (Option.some.inj hF).symm
            have hq := hr8 _ hq
            subst hq
            exact hret _ _ _ _ _ rfl hW dX9_tokenSpells_47
    refine L2 N (0 : Int32) out7 _ _ _ hX3 hW (lv_sub hl [0, 1, 2] rfl) hr6 ?_
    intro  H locs ls ho hW hl
    have hF := hF  ho
    clear L2
    refine lv_iconst (v := (1 : Int32)) hx hb dX9_tokenSpells_54 (by decide) ?_
    have hq := Option.some.inj hF
    subst hq
    exact hret _ _ _ _ _ rfl hW dX9_tokenSpells_55
  · have hF := if_n c1 hF
    refine lv_iconst (v := (0 : Int32)) hx hb dX9_tokenSpells_16 (by decide) ?_
    have hq := Option.some.inj hF
    subst hq
    exact hret _ _ _ _ _ rfl hW dX9_tokenSpells_17
abbrev wd_Text_kindNamed (E : m_E) (a_t : Nat) (a_t_itemKind : Nat) (a_t_numbersOf : Nat) (a_t_number : Nat) (a_t_row : Nat) (t_bytes : Int32) (t_items : Int32) (t_at : Int32) (t_token : Int32) (t_tokenAt : Int32) (t_tokenNumber : Int32) (t_row : Nat → Int32) : va_W := [(a_t, .inr (9, [.int t_bytes, .int t_items, .ref a_t_row, .ref a_t_itemKind, .ref a_t_numbersOf, .ref a_t_number, .int t_at, .int t_token, .int t_tokenAt, .int t_tokenNumber])), (a_t_row, .inl (E.2.1 0, 240, .inl t_row))]
def rm_Text_kindNamed : Room := { frames := 5, cells := 0, slots := 0, locals := 107 }
set_option maxHeartbeats 4000000 in
set_option maxRecDepth 100000 in
theorem c_Text_kindNamed (l : Launch) (E : m_E) (sz N : Nat) (a_t : Nat) (a_t_itemKind : Nat) (a_t_numbersOf : Nat) (a_t_number : Nat) (a_t_row : Nat) (t_bytes : Int32) (t_items : Int32) (t_at : Int32) (t_token : Int32) (t_tokenAt : Int32) (t_tokenNumber : Int32) (t_row : Nat → Int32)  (ures : Int32) (hF : F_Text_kindNamed N t_bytes t_at t_tokenAt t_row = some ures) : m_Met l yX9_kindNamed cX9_kindNamed 2 (some .int) rm_Text_kindNamed E (wd_Text_kindNamed E a_t a_t_itemKind a_t_numbersOf a_t_number a_t_row t_bytes t_items t_at t_token t_tokenAt t_tokenNumber t_row) (wd_Text_kindNamed E a_t a_t_itemKind a_t_numbersOf a_t_number a_t_row t_bytes t_items t_at t_token t_tokenAt t_tokenNumber t_row) sz [.ref a_t] (some (.int ures)) := by
  refine m_ofI (by decide) (Nat.le_of_ble_eq_true rfl) ?_
  intro p e s m args below meth c A Q ls X hW hA hl hret
  obtain ⟨hx, hb, -, hown, hts, hK, -, hG⟩ := id X
  have hl : lv_has ls 2 [(0, .ref a_t)] := hl
  unfold F_Text_kindNamed at hF
  refine lv_iconst (v := (0 : Int32)) hx hb dX9_kindNamed_0 (by decide) ?_
  refine lv_istore_n (lv' := [(1, .int (0 : Int32)), (0, .ref a_t)]) hx hb dX9_kindNamed_1 rfl hl (by decide) rfl (fun ls hl => ?_)
  obtain ⟨out6, hX2, hr5, hF⟩ := bT_s0 hF
  have L1 : ∀ (k0 : Nat) (x1 : Int32) (out8 : (Int32) ⊕ Unit)  (H : Heap) (locs : List Loc) (ls : Array Slot), Text_kindNamed_L2 N t_bytes t_at t_tokenAt t_row k0 x1 = some out8 → m_H E A (wd_Text_kindNamed E a_t a_t_itemKind a_t_numbersOf a_t_number a_t_row t_bytes t_items t_at t_token t_tokenAt t_tokenNumber t_row) s.heap H locs → lv_has ls 2 [(1, .int x1), (0, .ref a_t)] → (∀ a, out8 = .inl a → a = ures) → (∀  (H : Heap) (locs : List Loc) (ls : Array Slot), out8 = .inr () → m_H E A (wd_Text_kindNamed E a_t a_t_itemKind a_t_numbersOf a_t_number a_t_row t_bytes t_items t_at t_token t_tokenAt t_tokenNumber t_row) s.heap H locs → lv_has ls 2 [] → W p l e rm_Text_kindNamed s m args below meth c H locs 0 0 Q (F0 m 27 ls [])) → W p l e rm_Text_kindNamed s m args below meth c H locs 0 0 Q (F0 m 2 ls []) := by
    clear hF
    intro k0
    induction k0 with
    | zero =>
      intro x1 out8 H locs ls hF
      cases hF
    | succ k0 ih4 =>
      intro x1 out8 H locs ls hF hW hl hr7 hk3
      rw [Text_kindNamed_L2] at hF
      refine lv_iload_n hx hb dX9_kindNamed_2 rfl (lv_at hl 0 rfl) ?_
      refine lv_bipush (v := (6 : Int32)) hx hb dX9_kindNamed_3 (by decide) ?_
      refine lv_icmp_gt (tgt := 27) hx hb dX9_kindNamed_5 (by decide) (fun c9 => ?_) (fun c9 => ?_)
      · have hF := if_y c9 hF
        exact hk3  _ _ _ (Option.some.inj hF).symm hW (lv_sub hl [] rfl)
      · have hF := if_n c9 hF
        refine lv_aload_n hx hb dX9_kindNamed_8 rfl (lv_at hl 1 rfl) ?_
        refine lv_iload_n hx hb dX9_kindNamed_9 rfl (lv_at hl 0 rfl) ?_
        refine m_callS X hW hA hl.1 lkX9_79 (c_Text_nameOf l E _ N   x1 (F_Text_nameOf x1) rfl) ([]) (by decide) rfl rfl (ws' := (wd_Text_kindNamed E a_t a_t_itemKind a_t_numbersOf a_t_number a_t_row t_bytes t_items t_at t_token t_tokenAt t_tokenNumber t_row)) rfl (As := [.int x1]) (rest := [.ref a_t]) rfl rfl ⟨rfl, rfl, Nat.le_of_ble_eq_true rfl, Nat.le_of_ble_eq_true rfl⟩ (Nat.le_of_ble_eq_true rfl) (Nat.zero_le _) (Nat.zero_le _) dX9_kindNamed_10 (fun H locs hW => ?_)
        obtain ⟨r13, hC10, hF⟩ := bO_s1 hF
        refine m_callV X hW hA hl.1 lkX9_83 (c_Text_tokenSpells l E _ N a_t a_t_itemKind a_t_numbersOf a_t_number a_t_row t_bytes t_items t_at t_token t_tokenAt t_tokenNumber t_row (F_Text_nameOf x1) (nameOf_lt _) r13 hC10) ([0, 1]) (by decide) rfl rfl (ws' := (wd_Text_kindNamed E a_t a_t_itemKind a_t_numbersOf a_t_number a_t_row t_bytes t_items t_at t_token t_tokenAt t_tokenNumber t_row)) rfl 0 rfl rfl rfl (As := [.ref (E.2.2.1 (F_Text_nameOf x1))]) (rest := []) rfl rfl ⟨rfl, rfl, Nat.le_of_ble_eq_true rfl, Nat.le_of_ble_eq_true rfl⟩ (Nat.le_of_ble_eq_true rfl) (Nat.zero_le _) (Nat.zero_le _) dX9_kindNamed_13 (fun H locs hW => ?_)
        clear hC10
        refine lv_if_eq (tgt := 21) hx hb dX9_kindNamed_16 (by decide) (fun c11 => ?_) (fun c11 => ?_)
        · have hF := if_y c11 hF
          refine lv_iinc (v := (x1 + (1 : Int32))) (lv' := [(1, .int (x1 + (1 : Int32))), (0, .ref a_t)]) hx hb dX9_kindNamed_21 hl (k := 0) rfl rfl (by decide) rfl (fun ls hl => ?_)
          refine lv_goto (tgt := 2) hx hb dX9_kindNamed_24 (by decide) ?_
          exact ih4 (x1 + (1 : Int32)) out8 _ _ _ hF hW (lv_sub hl [0, 1] rfl) hr7 hk3
        · have hF := if_n c11 hF
          refine lv_iload_n hx hb dX9_kindNamed_19 rfl (lv_at hl 0 rfl) ?_
          have hq := (Option.some.inj hF).symm
          have hq := hr7 _ hq
          subst hq
          exact hret _ _ _ _ hW dX9_kindNamed_20
  refine L1 N (0 : Int32) out6 _ _ _ hX2 hW (lv_sub hl [0, 1] rfl) hr5 ?_
  intro  H locs ls ho hW hl
  have hF := hF  ho
  clear L1
  refine lv_bipush (v := (-4 : Int32)) hx hb dX9_kindNamed_27 (by decide) ?_
  have hq := Option.some.inj hF
  subst hq
  exact hret _ _ _ _ hW dX9_kindNamed_29
abbrev wd_Text_nextToken (E : m_E) (a_t : Nat) (a_t_itemKind : Nat) (a_t_numbersOf : Nat) (a_t_number : Nat) (a_t_row : Nat) (t_bytes : Int32) (t_items : Int32) (t_at : Int32) (t_token : Int32) (t_tokenAt : Int32) (t_tokenNumber : Int32) (t_row : Nat → Int32) : va_W := [(a_t, .inr (9, [.int t_bytes, .int t_items, .ref a_t_row, .ref a_t_itemKind, .ref a_t_numbersOf, .ref a_t_number, .int t_at, .int t_token, .int t_tokenAt, .int t_tokenNumber])), (a_t_row, .inl (E.2.1 0, 240, .inl t_row))]
def rm_Text_nextToken : Room := { frames := 6, cells := 0, slots := 0, locals := 128 }
set_option maxHeartbeats 4000000 in
set_option maxRecDepth 100000 in
theorem c_Text_nextToken (l : Launch) (E : m_E) (sz N : Nat) (a_t : Nat) (a_t_itemKind : Nat) (a_t_numbersOf : Nat) (a_t_number : Nat) (a_t_row : Nat) (t_bytes : Int32) (t_items : Int32) (t_at : Int32) (t_token : Int32) (t_tokenAt : Int32) (t_tokenNumber : Int32) (t_row : Nat → Int32)  (ures : Int32 × Int32 × Int32 × Int32) (hF : F_Text_nextToken N t_bytes t_at t_tokenNumber t_row = some ures) : m_Met l yX9_nextToken cX9_nextToken 2 none rm_Text_nextToken E (wd_Text_nextToken E a_t a_t_itemKind a_t_numbersOf a_t_number a_t_row t_bytes t_items t_at t_token t_tokenAt t_tokenNumber t_row) (wd_Text_nextToken E a_t a_t_itemKind a_t_numbersOf a_t_number a_t_row t_bytes t_items ures.1 ures.2.1 ures.2.2.1 ures.2.2.2 t_row) sz [.ref a_t] none := by
  refine m_ofV (by decide) (Nat.le_of_ble_eq_true rfl) ?_
  intro p e s m args below meth c A Q ls X hW hA hl hret
  obtain ⟨hx, hb, -, hown, hts, hK, -, hG⟩ := id X
  have hl : lv_has ls 2 [(0, .ref a_t)] := hl
  unfold F_Text_nextToken at hF
  refine lv_aload_n hx hb dX9_nextToken_0 rfl (lv_at hl 0 rfl) ?_
  refine lv_aload_n hx hb dX9_nextToken_1 rfl (lv_at hl 0 rfl) ?_
  refine lv_aload_n hx hb dX9_nextToken_2 rfl (lv_at hl 0 rfl) ?_
  refine m_get X hW fdX9_39 0 rfl rfl dX9_nextToken_3 ?_
  refine lv_bipush (v := (32 : Int32)) hx hb dX9_nextToken_6 (by decide) ?_
  refine lv_bipush (v := (32 : Int32)) hx hb dX9_nextToken_8 (by decide) ?_
  obtain ⟨r10, hC1, hF⟩ := bO_s1 hF
  refine m_callV X hW hA hl.1 lkX9_64 (c_Text_endOfRun l E _ N a_t a_t_itemKind a_t_numbersOf a_t_number a_t_row t_bytes t_items t_at t_token t_tokenAt t_tokenNumber t_row t_at (32 : Int32) (32 : Int32) r10 hC1) ([0, 1]) (by decide) rfl rfl (ws' := (wd_Text_nextToken E a_t a_t_itemKind a_t_numbersOf a_t_number a_t_row t_bytes t_items t_at t_token t_tokenAt t_tokenNumber t_row)) rfl 0 rfl rfl rfl (As := [.int t_at, .int (32 : Int32), .int (32 : Int32)]) (rest := [.ref a_t]) rfl rfl ⟨rfl, rfl, Nat.le_of_ble_eq_true rfl, Nat.le_of_ble_eq_true rfl⟩ (Nat.le_of_ble_eq_true rfl) (Nat.zero_le _) (Nat.zero_le _) dX9_nextToken_10 (fun H locs hW => ?_)
  clear hC1
  refine m_putf X hW fdX9_48 0 rfl (Nat.le_of_ble_eq_true rfl) rfl rfl dX9_nextToken_13 (ws' := (wd_Text_nextToken E a_t a_t_itemKind a_t_numbersOf a_t_number a_t_row t_bytes t_items t_at t_token r10 t_tokenNumber t_row)) rfl (fun H locs hW => ?_)
  refine lv_aload_n hx hb dX9_nextToken_16 rfl (lv_at hl 0 rfl) ?_
  refine lv_aload_n hx hb dX9_nextToken_17 rfl (lv_at hl 0 rfl) ?_
  refine m_get X hW fdX9_48 0 rfl rfl dX9_nextToken_18 ?_
  obtain ⟨r21, hC2, hF⟩ := bO_s1 hF
  refine m_callV X hW hA hl.1 lkX9_68 (c_Text_byteAt l E _ N a_t a_t_itemKind a_t_numbersOf a_t_number a_t_row t_bytes t_items t_at t_token r10 t_tokenNumber t_row r10 r21 hC2) ([0, 1]) (by decide) rfl rfl (ws' := (wd_Text_nextToken E a_t a_t_itemKind a_t_numbersOf a_t_number a_t_row t_bytes t_items t_at t_token r10 t_tokenNumber t_row)) rfl 0 rfl rfl rfl (As := [.int r10]) (rest := []) rfl rfl ⟨rfl, rfl, Nat.le_of_ble_eq_true rfl, Nat.le_of_ble_eq_true rfl⟩ (Nat.le_of_ble_eq_true rfl) (Nat.zero_le _) (Nat.zero_le _) dX9_nextToken_21 (fun H locs hW => ?_)
  clear hC2
  refine lv_istore_n (lv' := [(1, .int r21), (0, .ref a_t)]) hx hb dX9_nextToken_24 rfl hl (by decide) rfl (fun ls hl => ?_)
  refine lv_aload_n hx hb dX9_nextToken_25 rfl (lv_at hl 1 rfl) ?_
  refine lv_aload_n hx hb dX9_nextToken_26 rfl (lv_at hl 1 rfl) ?_
  refine m_get X hW fdX9_48 0 rfl rfl dX9_nextToken_27 ?_
  refine lv_iconst (v := (1 : Int32)) hx hb dX9_nextToken_30 (by decide) ?_
  refine lv_iadd hx hb dX9_nextToken_31 ?_
  refine m_putf X hW fdX9_39 0 rfl (Nat.le_of_ble_eq_true rfl) rfl rfl dX9_nextToken_32 (ws' := (wd_Text_nextToken E a_t a_t_itemKind a_t_numbersOf a_t_number a_t_row t_bytes t_items (r10 + (1 : Int32)) t_token r10 t_tokenNumber t_row)) rfl (fun H locs hW => ?_)
  refine lv_iload_n hx hb dX9_nextToken_35 rfl (lv_at hl 0 rfl) ?_
  refine lv_iconst (v := (-1 : Int32)) hx hb dX9_nextToken_36 (by decide) ?_
  refine lv_icmp_ne (tgt := 48) hx hb dX9_nextToken_37 (by decide) (fun c3 => ?_) (fun c3 => ?_)
  · have hF := if_n c3 hF
    refine lv_iload_n hx hb dX9_nextToken_48 rfl (lv_at hl 0 rfl) ?_
    refine lv_bipush (v := (59 : Int32)) hx hb dX9_nextToken_49 (by decide) ?_
    refine lv_icmp_ne (tgt := 63) hx hb dX9_nextToken_51 (by decide) (fun c4 => ?_) (fun c4 => ?_)
    · have hF := if_n c4 hF
      refine lv_iload_n hx hb dX9_nextToken_63 rfl (lv_at hl 0 rfl) ?_
      refine lv_bipush (v := (48 : Int32)) hx hb dX9_nextToken_64 (by decide) ?_
      refine lv_bipush (v := (57 : Int32)) hx hb dX9_nextToken_66 (by decide) ?_
      refine m_callN X hW hA hl.1 lkX9_26 (c_S_within l E _ N   r21 (48 : Int32) (57 : Int32) (F_S_within r21 (48 : Int32) (57 : Int32)) rfl) ([]) (by decide) rfl rfl (ws' := (wd_Text_nextToken E a_t a_t_itemKind a_t_numbersOf a_t_number a_t_row t_bytes t_items (r10 + (1 : Int32)) t_token r10 t_tokenNumber t_row)) rfl (As := [.int r21, .int (48 : Int32), .int (57 : Int32)]) (rest := []) rfl rfl ⟨rfl, rfl, Nat.le_of_ble_eq_true rfl, Nat.le_of_ble_eq_true rfl⟩ (Nat.le_of_ble_eq_true rfl) (Nat.zero_le _) (Nat.zero_le _) dX9_nextToken_68 (fun H locs hW => ?_)
      refine lv_if_eq (tgt := 121) hx hb dX9_nextToken_71 (by decide) (fun c5 => ?_) (fun c5 => ?_)
      · have hF := if_y c5 hF
        refine lv_iload_n hx hb dX9_nextToken_121 rfl (lv_at hl 0 rfl) ?_
        refine lv_bipush (v := (97 : Int32)) hx hb dX9_nextToken_122 (by decide) ?_
        refine lv_bipush (v := (122 : Int32)) hx hb dX9_nextToken_124 (by decide) ?_
        refine m_callN X hW hA hl.1 lkX9_26 (c_S_within l E _ N   r21 (97 : Int32) (122 : Int32) (F_S_within r21 (97 : Int32) (122 : Int32)) rfl) ([]) (by decide) rfl rfl (ws' := (wd_Text_nextToken E a_t a_t_itemKind a_t_numbersOf a_t_number a_t_row t_bytes t_items (r10 + (1 : Int32)) t_token r10 t_tokenNumber t_row)) rfl (As := [.int r21, .int (97 : Int32), .int (122 : Int32)]) (rest := []) rfl rfl ⟨rfl, rfl, Nat.le_of_ble_eq_true rfl, Nat.le_of_ble_eq_true rfl⟩ (Nat.le_of_ble_eq_true rfl) (Nat.zero_le _) (Nat.zero_le _) dX9_nextToken_126 (fun H locs hW => ?_)
        refine lv_if_eq (tgt := 159) hx hb dX9_nextToken_129 (by decide) (fun c6 => ?_) (fun c6 => ?_)
        · have hF := if_y c6 hF
          refine lv_aload_n hx hb dX9_nextToken_159 rfl (lv_at hl 1 rfl) ?_
          refine lv_bipush (v := (-4 : Int32)) hx hb dX9_nextToken_160 (by decide) ?_
          refine m_putf X hW fdX9_45 0 rfl (Nat.le_of_ble_eq_true rfl) rfl rfl dX9_nextToken_162 (ws' := (wd_Text_nextToken E a_t a_t_itemKind a_t_numbersOf a_t_number a_t_row t_bytes t_items (r10 + (1 : Int32)) (-4 : Int32) r10 t_tokenNumber t_row)) rfl (fun H locs hW => ?_)
          have hq := Option.some.inj hF
          subst hq
          exact hret _ _ _ _ hW dX9_nextToken_165
        · have hF := if_n c6 hF
          refine lv_aload_n hx hb dX9_nextToken_132 rfl (lv_at hl 1 rfl) ?_
          refine lv_aload_n hx hb dX9_nextToken_133 rfl (lv_at hl 1 rfl) ?_
          refine lv_aload_n hx hb dX9_nextToken_134 rfl (lv_at hl 1 rfl) ?_
          refine m_get X hW fdX9_48 0 rfl rfl dX9_nextToken_135 ?_
          refine lv_bipush (v := (97 : Int32)) hx hb dX9_nextToken_138 (by decide) ?_
          refine lv_bipush (v := (122 : Int32)) hx hb dX9_nextToken_140 (by decide) ?_
          obtain ⟨r142, hC7, hF⟩ := bO_s1 hF
          refine m_callV X hW hA hl.1 lkX9_64 (c_Text_endOfRun l E _ N a_t a_t_itemKind a_t_numbersOf a_t_number a_t_row t_bytes t_items (r10 + (1 : Int32)) t_token r10 t_tokenNumber t_row r10 (97 : Int32) (122 : Int32) r142 hC7) ([0, 1]) (by decide) rfl rfl (ws' := (wd_Text_nextToken E a_t a_t_itemKind a_t_numbersOf a_t_number a_t_row t_bytes t_items (r10 + (1 : Int32)) t_token r10 t_tokenNumber t_row)) rfl 0 rfl rfl rfl (As := [.int r10, .int (97 : Int32), .int (122 : Int32)]) (rest := [.ref a_t]) rfl rfl ⟨rfl, rfl, Nat.le_of_ble_eq_true rfl, Nat.le_of_ble_eq_true rfl⟩ (Nat.le_of_ble_eq_true rfl) (Nat.zero_le _) (Nat.zero_le _) dX9_nextToken_142 (fun H locs hW => ?_)
          clear hC7
          refine m_putf X hW fdX9_39 0 rfl (Nat.le_of_ble_eq_true rfl) rfl rfl dX9_nextToken_145 (ws' := (wd_Text_nextToken E a_t a_t_itemKind a_t_numbersOf a_t_number a_t_row t_bytes t_items r142 t_token r10 t_tokenNumber t_row)) rfl (fun H locs hW => ?_)
          refine lv_aload_n hx hb dX9_nextToken_148 rfl (lv_at hl 1 rfl) ?_
          refine lv_aload_n hx hb dX9_nextToken_149 rfl (lv_at hl 1 rfl) ?_
          obtain ⟨r150, hC8, hF⟩ := bO_s1 hF
          refine m_callV X hW hA hl.1 lkX9_75 (c_Text_kindNamed l E _ N a_t a_t_itemKind a_t_numbersOf a_t_number a_t_row t_bytes t_items r142 t_token r10 t_tokenNumber t_row  r150 hC8) ([0, 1]) (by decide) rfl rfl (ws' := (wd_Text_nextToken E a_t a_t_itemKind a_t_numbersOf a_t_number a_t_row t_bytes t_items r142 t_token r10 t_tokenNumber t_row)) rfl 0 rfl rfl rfl (As := []) (rest := [.ref a_t]) rfl rfl ⟨rfl, rfl, Nat.le_of_ble_eq_true rfl, Nat.le_of_ble_eq_true rfl⟩ (Nat.le_of_ble_eq_true rfl) (Nat.zero_le _) (Nat.zero_le _) dX9_nextToken_150 (fun H locs hW => ?_)
          clear hC8
          refine m_putf X hW fdX9_45 0 rfl (Nat.le_of_ble_eq_true rfl) rfl rfl dX9_nextToken_153 (ws' := (wd_Text_nextToken E a_t a_t_itemKind a_t_numbersOf a_t_number a_t_row t_bytes t_items r142 r150 r10 t_tokenNumber t_row)) rfl (fun H locs hW => ?_)
          refine lv_goto (tgt := 165) hx hb dX9_nextToken_156 (by decide) ?_
          have hq := Option.some.inj hF
          subst hq
          exact hret _ _ _ _ hW dX9_nextToken_165
      · have hF := if_n c5 hF
        refine lv_aload_n hx hb dX9_nextToken_74 rfl (lv_at hl 1 rfl) ?_
        refine lv_aload_n hx hb dX9_nextToken_75 rfl (lv_at hl 1 rfl) ?_
        refine lv_aload_n hx hb dX9_nextToken_76 rfl (lv_at hl 1 rfl) ?_
        refine m_get X hW fdX9_48 0 rfl rfl dX9_nextToken_77 ?_
        refine lv_bipush (v := (48 : Int32)) hx hb dX9_nextToken_80 (by decide) ?_
        refine lv_bipush (v := (57 : Int32)) hx hb dX9_nextToken_82 (by decide) ?_
        obtain ⟨r84, hC9, hF⟩ := bO_s1 hF
        refine m_callV X hW hA hl.1 lkX9_64 (c_Text_endOfRun l E _ N a_t a_t_itemKind a_t_numbersOf a_t_number a_t_row t_bytes t_items (r10 + (1 : Int32)) t_token r10 t_tokenNumber t_row r10 (48 : Int32) (57 : Int32) r84 hC9) ([0, 1]) (by decide) rfl rfl (ws' := (wd_Text_nextToken E a_t a_t_itemKind a_t_numbersOf a_t_number a_t_row t_bytes t_items (r10 + (1 : Int32)) t_token r10 t_tokenNumber t_row)) rfl 0 rfl rfl rfl (As := [.int r10, .int (48 : Int32), .int (57 : Int32)]) (rest := [.ref a_t]) rfl rfl ⟨rfl, rfl, Nat.le_of_ble_eq_true rfl, Nat.le_of_ble_eq_true rfl⟩ (Nat.le_of_ble_eq_true rfl) (Nat.zero_le _) (Nat.zero_le _) dX9_nextToken_84 (fun H locs hW => ?_)
        clear hC9
        refine m_putf X hW fdX9_39 0 rfl (Nat.le_of_ble_eq_true rfl) rfl rfl dX9_nextToken_87 (ws' := (wd_Text_nextToken E a_t a_t_itemKind a_t_numbersOf a_t_number a_t_row t_bytes t_items r84 t_token r10 t_tokenNumber t_row)) rfl (fun H locs hW => ?_)
        refine lv_aload_n hx hb dX9_nextToken_90 rfl (lv_at hl 1 rfl) ?_
        refine lv_aload_n hx hb dX9_nextToken_91 rfl (lv_at hl 1 rfl) ?_
        refine m_get X hW fdX9_39 0 rfl rfl dX9_nextToken_92 ?_
        refine lv_aload_n hx hb dX9_nextToken_95 rfl (lv_at hl 1 rfl) ?_
        refine m_get X hW fdX9_48 0 rfl rfl dX9_nextToken_96 ?_
        refine lv_isub hx hb dX9_nextToken_99 ?_
        refine lv_iconst (v := (3 : Int32)) hx hb dX9_nextToken_100 (by decide) ?_
        obtain ⟨y1, hX11, hF⟩ := bO_s1 hF
        have J10 : ∀ (H : Heap) (locs : List Loc) (ls : Array Slot), m_H E A (wd_Text_nextToken E a_t a_t_itemKind a_t_numbersOf a_t_number a_t_row t_bytes t_items r84 t_token r10 t_tokenNumber t_row) s.heap H locs → lv_has ls 2 [(0, .ref a_t)] → W p l e rm_Text_nextToken s m args below meth c H locs 0 0 Q (F0 m 111 ls [.int y1, .ref a_t]) := by
          intro H locs ls hW hl
          refine m_putf X hW fdX9_45 0 rfl (Nat.le_of_ble_eq_true rfl) rfl rfl dX9_nextToken_111 (ws' := (wd_Text_nextToken E a_t a_t_itemKind a_t_numbersOf a_t_number a_t_row t_bytes t_items r84 y1 r10 t_tokenNumber t_row)) rfl (fun H locs hW => ?_)
          refine lv_aload_n hx hb dX9_nextToken_114 rfl (lv_at hl 0 rfl) ?_
          obtain ⟨t_tokenNumber'_2, hC12, hF⟩ := bO_s1 hF
          refine m_callV X hW hA hl.1 lkX9_72 (c_Text_readNumber l E _ N a_t a_t_itemKind a_t_numbersOf a_t_number a_t_row t_bytes t_items r84 y1 r10 t_tokenNumber t_row  t_tokenNumber'_2 hC12) ([0, 1]) (by decide) rfl rfl (ws' := (wd_Text_nextToken E a_t a_t_itemKind a_t_numbersOf a_t_number a_t_row t_bytes t_items r84 y1 r10 t_tokenNumber'_2 t_row)) rfl 0 rfl rfl rfl (As := []) (rest := []) rfl rfl ⟨rfl, rfl, Nat.le_of_ble_eq_true rfl, Nat.le_of_ble_eq_true rfl⟩ (Nat.le_of_ble_eq_true rfl) (Nat.zero_le _) (Nat.zero_le _) dX9_nextToken_115 (fun H locs hW => ?_)
          clear hC12
          refine lv_goto (tgt := 165) hx hb dX9_nextToken_118 (by decide) ?_
          have hq := Option.some.inj hF
          subst hq
          exact hret _ _ _ _ hW dX9_nextToken_165
        clear hF
        have hF := hX11
        clear hX11
        refine lv_icmp_gt (tgt := 109) hx hb dX9_nextToken_101 (by decide) (fun c13 => ?_) (fun c13 => ?_)
        · have hF := if_y c13 hF
          refine lv_bipush (v := (-4 : Int32)) hx hb dX9_nextToken_109 (by decide) ?_
          cases hF
          exact J10 _ _ _ hW (lv_sub hl [1] rfl)
        · have hF := if_n c13 hF
          refine lv_bipush (v := (-3 : Int32)) hx hb dX9_nextToken_104 (by decide) ?_
          refine lv_goto (tgt := 111) hx hb dX9_nextToken_106 (by decide) ?_
          cases hF
          exact J10 _ _ _ hW (lv_sub hl [1] rfl)
    · have hF := if_y c4 hF
      refine lv_aload_n hx hb dX9_nextToken_54 rfl (lv_at hl 1 rfl) ?_
      refine lv_bipush (v := (-2 : Int32)) hx hb dX9_nextToken_55 (by decide) ?_
      refine m_putf X hW fdX9_45 0 rfl (Nat.le_of_ble_eq_true rfl) rfl rfl dX9_nextToken_57 (ws' := (wd_Text_nextToken E a_t a_t_itemKind a_t_numbersOf a_t_number a_t_row t_bytes t_items (r10 + (1 : Int32)) (-2 : Int32) r10 t_tokenNumber t_row)) rfl (fun H locs hW => ?_)
      refine lv_goto (tgt := 165) hx hb dX9_nextToken_60 (by decide) ?_
      have hq := Option.some.inj hF
      subst hq
      exact hret _ _ _ _ hW dX9_nextToken_165
  · have hF := if_y c3 hF
    refine lv_aload_n hx hb dX9_nextToken_40 rfl (lv_at hl 1 rfl) ?_
    refine lv_iconst (v := (-1 : Int32)) hx hb dX9_nextToken_41 (by decide) ?_
    refine m_putf X hW fdX9_45 0 rfl (Nat.le_of_ble_eq_true rfl) rfl rfl dX9_nextToken_42 (ws' := (wd_Text_nextToken E a_t a_t_itemKind a_t_numbersOf a_t_number a_t_row t_bytes t_items (r10 + (1 : Int32)) (-1 : Int32) r10 t_tokenNumber t_row)) rfl (fun H locs hW => ?_)
    refine lv_goto (tgt := 165) hx hb dX9_nextToken_45 (by decide) ?_
    have hq := Option.some.inj hF
    subst hq
    exact hret _ _ _ _ hW dX9_nextToken_165
abbrev wd_Text_readNumbers (E : m_E) (a_t : Nat) (a_t_row : Nat) (a_t_itemKind : Nat) (a_t_numbersOf : Nat) (a_t_number : Nat) (r_t_number : Nat → Nat) (t_bytes : Int32) (t_items : Int32) (t_at : Int32) (t_token : Int32) (t_tokenAt : Int32) (t_tokenNumber : Int32) (t_row : Nat → Int32) (t_itemKind : Nat → Int32) (t_numbersOf : Nat → Int32) (t_number : Nat → Nat → Int32) : va_W := [(a_t, .inr (9, [.int t_bytes, .int t_items, .ref a_t_row, .ref a_t_itemKind, .ref a_t_numbersOf, .ref a_t_number, .int t_at, .int t_token, .int t_tokenAt, .int t_tokenNumber])), (a_t_row, .inl (E.2.1 0, 240, .inl t_row)), (a_t_itemKind, .inl (E.2.1 0, 34, .inl t_itemKind)), (a_t_numbersOf, .inl (E.2.1 0, 34, .inl t_numbersOf)), (a_t_number, .inl (E.2.1 3, 34, .inr (.inr (.inr (.inr (fun i => some (r_t_number i)))))))] ++ (m_fam 34 (fun i => (r_t_number i, .inl (E.2.1 0, 7, .inl (t_number i)))) ++ [])
def rm_Text_readNumbers : Room := { frames := 7, cells := 0, slots := 0, locals := 149 }
set_option maxHeartbeats 4000000 in
set_option maxRecDepth 100000 in
theorem c_Text_readNumbers (l : Launch) (E : m_E) (sz N : Nat) (a_t : Nat) (a_t_row : Nat) (a_t_itemKind : Nat) (a_t_numbersOf : Nat) (a_t_number : Nat) (r_t_number : Nat → Nat) (t_bytes : Int32) (t_items : Int32) (t_at : Int32) (t_token : Int32) (t_tokenAt : Int32) (t_tokenNumber : Int32) (t_row : Nat → Int32) (t_itemKind : Nat → Int32) (t_numbersOf : Nat → Int32) (t_number : Nat → Nat → Int32) (p1 : Int32) (p2 : Int32) (ures : Int32 × Int32 × Int32 × Int32 × Int32 × (Nat → Int32) × (Nat → Int32) × (Nat → Nat → Int32)) (hF : F_Text_readNumbers N p1 p2 t_bytes t_at t_token t_tokenAt t_tokenNumber t_row t_itemKind t_numbersOf t_number = some ures) : m_Met l yX9_readNumbers cX9_readNumbers 4 (some .int) rm_Text_readNumbers E (wd_Text_readNumbers E a_t a_t_row a_t_itemKind a_t_numbersOf a_t_number r_t_number t_bytes t_items t_at t_token t_tokenAt t_tokenNumber t_row t_itemKind t_numbersOf t_number) (wd_Text_readNumbers E a_t a_t_row a_t_itemKind a_t_numbersOf a_t_number r_t_number t_bytes t_items ures.2.1 ures.2.2.1 ures.2.2.2.1 ures.2.2.2.2.1 t_row ures.2.2.2.2.2.1 ures.2.2.2.2.2.2.1 ures.2.2.2.2.2.2.2) sz [.ref a_t, .int p1, .int p2] (some (.int ures.1)) := by
  refine m_ofI (by decide) (Nat.le_of_ble_eq_true rfl) ?_
  intro p e s m args below meth c A Q ls X hW hA hl hret
  obtain ⟨hx, hb, -, hown, hts, hK, -, hG⟩ := id X
  have hl : lv_has ls 4 [(0, .ref a_t), (1, .int p1), (2, .int p2)] := hl
  unfold F_Text_readNumbers at hF
  refine lv_aload_n hx hb dX9_readNumbers_0 rfl (lv_at hl 0 rfl) ?_
  refine m_get X hW fdX9_15 0 rfl rfl dX9_readNumbers_1 ?_
  refine lv_iload_n hx hb dX9_readNumbers_4 rfl (lv_at hl 2 rfl) ?_
  refine lv_iload_n hx hb dX9_readNumbers_5 rfl (lv_at hl 1 rfl) ?_
  obtain ⟨g1, hF⟩ := gd_some hF
  refine m_iast X hW 2 (k := p2.toNatClampNeg) rfl g1 rfl dX9_readNumbers_6 (ws' := (wd_Text_readNumbers E a_t a_t_row a_t_itemKind a_t_numbersOf a_t_number r_t_number t_bytes t_items t_at t_token t_tokenAt t_tokenNumber t_row (upd t_itemKind p2.toNatClampNeg p1) t_numbersOf t_number)) rfl (fun H locs hW => ?_)
  refine lv_iconst (v := (0 : Int32)) hx hb dX9_readNumbers_7 (by decide) ?_
  refine lv_istore_n (lv' := [(3, .int (0 : Int32)), (0, .ref a_t), (1, .int p1), (2, .int p2)]) hx hb dX9_readNumbers_8 rfl hl (by decide) rfl (fun ls hl => ?_)
  obtain ⟨out7, hX3, hr6, hF⟩ := bT_s5 hF
  obtain ⟨t_itemKind'_2, et_itemKind'_2⟩ : ∃ z : Nat → Int32, z = (upd t_itemKind p2.toNatClampNeg p1) := ⟨_, rfl⟩
  have L2 : ∀ (k0 : Nat) (x3 : Int32) (t_number'_3 : Nat → Nat → Int32) (t_at'_4 : Int32) (t_token'_4 : Int32) (t_tokenAt'_4 : Int32) (t_tokenNumber'_4 : Int32) (out9 : (Int32 × Int32 × Int32 × Int32 × Int32 × (Nat → Int32) × (Nat → Int32) × (Nat → Nat → Int32)) ⊕ ((Nat → Nat → Int32) × Int32 × Int32 × Int32 × Int32))  (H : Heap) (locs : List Loc) (ls : Array Slot), Text_readNumbers_L9 N t_bytes t_row p1 t_itemKind'_2 t_numbersOf p2 k0 x3 t_number'_3 t_at'_4 t_token'_4 t_tokenAt'_4 t_tokenNumber'_4 = some out9 → m_H E A (wd_Text_readNumbers E a_t a_t_row a_t_itemKind a_t_numbersOf a_t_number r_t_number t_bytes t_items t_at'_4 t_token'_4 t_tokenAt'_4 t_tokenNumber'_4 t_row t_itemKind'_2 t_numbersOf t_number'_3) s.heap H locs → lv_has ls 4 [(3, .int x3), (0, .ref a_t), (1, .int p1), (2, .int p2)] → (∀ a, out9 = .inl a → a = ures) → (∀ (t_number'_4 : Nat → Nat → Int32) (t_at'_6 : Int32) (t_token'_6 : Int32) (t_tokenAt'_6 : Int32) (t_tokenNumber'_6 : Int32) (H : Heap) (locs : List Loc) (ls : Array Slot), out9 = .inr (t_number'_4, t_at'_6, t_token'_6, t_tokenAt'_6, t_tokenNumber'_6) → m_H E A (wd_Text_readNumbers E a_t a_t_row a_t_itemKind a_t_numbersOf a_t_number r_t_number t_bytes t_items t_at'_6 t_token'_6 t_tokenAt'_6 t_tokenNumber'_6 t_row t_itemKind'_2 t_numbersOf t_number'_4) s.heap H locs → lv_has ls 4 [(0, .ref a_t)] → W p l e rm_Text_readNumbers s m args below meth c H locs 0 0 Q (F0 m 87 ls [])) → W p l e rm_Text_readNumbers s m args below meth c H locs 0 0 Q (F0 m 9 ls []) := by
    clear hF
    intro k0
    induction k0 with
    | zero =>
      intro x3 t_number'_3 t_at'_4 t_token'_4 t_tokenAt'_4 t_tokenNumber'_4 out9 H locs ls hF
      cases hF
    | succ k0 ih5 =>
      intro x3 t_number'_3 t_at'_4 t_token'_4 t_tokenAt'_4 t_tokenNumber'_4 out9 H locs ls hF hW hl hr8 hk4
      rw [Text_readNumbers_L9] at hF
      refine lv_iload_n hx hb dX9_readNumbers_9 rfl (lv_at hl 0 rfl) ?_
      refine lv_bipush (v := (7 : Int32)) hx hb dX9_readNumbers_10 (by decide) ?_
      refine lv_icmp_gt (tgt := 87) hx hb dX9_readNumbers_12 (by decide) (fun c10 => ?_) (fun c10 => ?_)
      · have hF := if_y c10 hF
        exact hk4 t_number'_3 t_at'_4 t_token'_4 t_tokenAt'_4 t_tokenNumber'_4 _ _ _ (Option.some.inj hF).symm hW (lv_sub hl [1] rfl)
      · have hF := if_n c10 hF
        refine lv_aload_n hx hb dX9_readNumbers_15 rfl (lv_at hl 1 rfl) ?_
        obtain ⟨t_at'_5, t_token'_5, t_tokenAt'_5, t_tokenNumber'_5, hC11, hF⟩ := bO_s4 hF
        refine m_callV X hW hA hl.1 lkX9_42 (c_Text_nextToken l E _ N a_t a_t_itemKind a_t_numbersOf a_t_number a_t_row t_bytes t_items t_at'_4 t_token'_4 t_tokenAt'_4 t_tokenNumber'_4 t_row  (t_at'_5, t_token'_5, t_tokenAt'_5, t_tokenNumber'_5) hC11) ([0, 1]) (by decide) rfl rfl (ws' := (wd_Text_readNumbers E a_t a_t_row a_t_itemKind a_t_numbersOf a_t_number r_t_number t_bytes t_items t_at'_5 t_token'_5 t_tokenAt'_5 t_tokenNumber'_5 t_row t_itemKind'_2 t_numbersOf t_number'_3)) rfl 0 rfl rfl rfl (As := []) (rest := []) rfl rfl ⟨rfl, rfl, Nat.le_of_ble_eq_true rfl, Nat.le_of_ble_eq_true rfl⟩ (Nat.le_of_ble_eq_true rfl) (Nat.zero_le _) (Nat.zero_le _) dX9_readNumbers_16 (fun H locs hW => ?_)
        clear hC11
        refine lv_aload_n hx hb dX9_readNumbers_19 rfl (lv_at hl 1 rfl) ?_
        refine m_get X hW fdX9_45 0 rfl rfl dX9_readNumbers_20 ?_
        refine lv_bipush (v := (-2 : Int32)) hx hb dX9_readNumbers_23 (by decide) ?_
        obtain ⟨out15, hX13, hr14, hF⟩ := bL_s0 hF
        have J12 : ∀  (H : Heap) (locs : List Loc) (ls : Array Slot), out15 = .inr () → m_H E A (wd_Text_readNumbers E a_t a_t_row a_t_itemKind a_t_numbersOf a_t_number r_t_number t_bytes t_items t_at'_5 t_token'_5 t_tokenAt'_5 t_tokenNumber'_5 t_row t_itemKind'_2 t_numbersOf t_number'_3) s.heap H locs → lv_has ls 4 [(3, .int x3), (0, .ref a_t), (1, .int p1), (2, .int p2)] → W p l e rm_Text_readNumbers s m args below meth c H locs 0 0 Q (F0 m 46 ls []) := by
          intro  H locs ls ho hW hl
          have hF := hF  ho
          refine lv_aload_n hx hb dX9_readNumbers_46 rfl (lv_at hl 1 rfl) ?_
          refine m_get X hW fdX9_45 0 rfl rfl dX9_readNumbers_47 ?_
          refine lv_bipush (v := (-3 : Int32)) hx hb dX9_readNumbers_50 (by decide) ?_
          refine lv_icmp_ne (tgt := 64) hx hb dX9_readNumbers_52 (by decide) (fun c16 => ?_) (fun c16 => ?_)
          · have hF := if_n c16 hF
            refine lv_aload_n hx hb dX9_readNumbers_64 rfl (lv_at hl 1 rfl) ?_
            refine m_get X hW fdX9_48 0 rfl rfl dX9_readNumbers_65 ?_
            have hq := (Option.some.inj hF).symm
            have hq := hr8 _ hq
            subst hq
            exact hret _ _ _ _ hW dX9_readNumbers_68
          · have hF := if_y c16 hF
            refine lv_iload_n hx hb dX9_readNumbers_55 rfl (lv_at hl 0 rfl) ?_
            refine va_gets hx hb hG.2.2.2.2.1 hW.2.2 hown (hts _ wk_986) (fun _ h => h) dX9_readNumbers_56 ?_
            refine lv_iload_n hx hb dX9_readNumbers_59 rfl (lv_at hl 2 rfl) ?_
            obtain ⟨g17, hF⟩ := gd_some hF
            refine m_ti X hW hG.2.2.2.2.2.1 g17 (k := p1.toNatClampNeg) rfl dX9_readNumbers_60 ?_
            refine lv_icmp_lt (tgt := 69) hx hb dX9_readNumbers_61 (by decide) (fun c18 => ?_) (fun c18 => ?_)
            · have hF := if_y c18 hF
              refine lv_aload_n hx hb dX9_readNumbers_69 rfl (lv_at hl 1 rfl) ?_
              refine m_get X hW fdX9_23 0 rfl rfl dX9_readNumbers_70 ?_
              refine lv_iload_n hx hb dX9_readNumbers_73 rfl (lv_at hl 3 rfl) ?_
              refine m_aaldA X hW 4 (k := p2.toNatClampNeg) rfl g1 rfl dX9_readNumbers_74 ?_
              refine lv_iload_n hx hb dX9_readNumbers_75 rfl (lv_at hl 0 rfl) ?_
              refine lv_aload_n hx hb dX9_readNumbers_76 rfl (lv_at hl 1 rfl) ?_
              refine m_get X hW fdX9_61 0 rfl rfl dX9_readNumbers_77 ?_
              obtain ⟨g19, hF⟩ := gd_some hF
              refine m_iast X hW (5 + (p2.toNatClampNeg)) (k := x3.toNatClampNeg) (m_fg (b := 5) rfl (by rfl) (ixb_lt g1)) g19 rfl dX9_readNumbers_80 (ws' := (wd_Text_readNumbers E a_t a_t_row a_t_itemKind a_t_numbersOf a_t_number r_t_number t_bytes t_items t_at'_5 t_token'_5 t_tokenAt'_5 t_tokenNumber'_5 t_row t_itemKind'_2 t_numbersOf (va_up t_number'_3 p2.toNatClampNeg (upd (t_number'_3 p2.toNatClampNeg) x3.toNatClampNeg t_tokenNumber'_5)))) (m_fset (b := 5) rfl (by rfl) (ixb_lt g1) rfl (by intro i _; by_cases h : i = (p2.toNatClampNeg) <;> simp [va_up, h])) (fun H locs hW => ?_)
              refine lv_iinc (v := (x3 + (1 : Int32))) (lv' := [(3, .int (x3 + (1 : Int32))), (0, .ref a_t), (1, .int p1), (2, .int p2)]) hx hb dX9_readNumbers_81 hl (k := 0) rfl rfl (by decide) rfl (fun ls hl => ?_)
              refine lv_goto (tgt := 9) hx hb dX9_readNumbers_84 (by decide) ?_
              exact ih5 (x3 + (1 : Int32)) (va_up t_number'_3 p2.toNatClampNeg (upd (t_number'_3 p2.toNatClampNeg) x3.toNatClampNeg t_tokenNumber'_5)) t_at'_5 t_token'_5 t_tokenAt'_5 t_tokenNumber'_5 out9 _ _ _ hF hW (lv_sub hl [0, 1, 2, 3] rfl) hr8 hk4
            · have hF := if_n c18 hF
              refine lv_aload_n hx hb dX9_readNumbers_64 rfl (lv_at hl 1 rfl) ?_
              refine m_get X hW fdX9_48 0 rfl rfl dX9_readNumbers_65 ?_
              have hq := (Option.some.inj hF).symm
              have hq := hr8 _ hq
              subst hq
              exact hret _ _ _ _ hW dX9_readNumbers_68
        clear hF
        have hF := hX13
        clear hX13
        refine lv_icmp_ne (tgt := 46) hx hb dX9_readNumbers_25 (by decide) (fun c20 => ?_) (fun c20 => ?_)
        · have hF := if_n c20 hF
          exact J12  _ _ _ (Option.some.inj hF).symm hW (lv_sub hl [0, 1, 2, 3] rfl)
        · have hF := if_y c20 hF
          refine lv_iload_n hx hb dX9_readNumbers_28 rfl (lv_at hl 0 rfl) ?_
          refine va_gets hx hb hG.2.2.1 hW.2.2 hown (hts _ wk_984) (fun _ h => h) dX9_readNumbers_29 ?_
          refine lv_iload_n hx hb dX9_readNumbers_32 rfl (lv_at hl 2 rfl) ?_
          obtain ⟨g21, hF⟩ := gd_some hF
          refine m_ti X hW hG.2.2.2.1 g21 (k := p1.toNatClampNeg) rfl dX9_readNumbers_33 ?_
          refine lv_icmp_lt (tgt := 46) hx hb dX9_readNumbers_34 (by decide) (fun c22 => ?_) (fun c22 => ?_)
          · have hF := if_y c22 hF
            exact J12  _ _ _ (Option.some.inj hF).symm hW (lv_sub hl [0, 1, 2, 3] rfl)
          · have hF := if_n c22 hF
            refine lv_aload_n hx hb dX9_readNumbers_37 rfl (lv_at hl 1 rfl) ?_
            refine m_get X hW fdX9_18 0 rfl rfl dX9_readNumbers_38 ?_
            refine lv_iload_n hx hb dX9_readNumbers_41 rfl (lv_at hl 3 rfl) ?_
            refine lv_iload_n hx hb dX9_readNumbers_42 rfl (lv_at hl 0 rfl) ?_
            refine m_iast X hW 3 (k := p2.toNatClampNeg) rfl g1 rfl dX9_readNumbers_43 (ws' := (wd_Text_readNumbers E a_t a_t_row a_t_itemKind a_t_numbersOf a_t_number r_t_number t_bytes t_items t_at'_5 t_token'_5 t_tokenAt'_5 t_tokenNumber'_5 t_row t_itemKind'_2 (upd t_numbersOf p2.toNatClampNeg x3) t_number'_3)) rfl (fun H locs hW => ?_)
            refine lv_iconst (v := (-1 : Int32)) hx hb dX9_readNumbers_44 (by decide) ?_
            have hq := (Option.some.inj hF).symm
            have hq := hr14 _ hq
            have hq := hq.symm
            have hq := hr8 _ hq
            subst hq
            exact hret _ _ _ _ hW dX9_readNumbers_45
  subst et_itemKind'_2
  refine L2 N (0 : Int32) t_number t_at t_token t_tokenAt t_tokenNumber out7 _ _ _ hX3 hW (lv_sub hl [0, 1, 2, 3] rfl) hr6 ?_
  intro t_number'_4 t_at'_6 t_token'_6 t_tokenAt'_6 t_tokenNumber'_6 H locs ls ho hW hl
  have hF := hF t_number'_4 t_at'_6 t_token'_6 t_tokenAt'_6 t_tokenNumber'_6 ho
  clear L2
  refine lv_aload_n hx hb dX9_readNumbers_87 rfl (lv_at hl 0 rfl) ?_
  refine m_get X hW fdX9_48 0 rfl rfl dX9_readNumbers_88 ?_
  have hq := Option.some.inj hF
  subst hq
  exact hret _ _ _ _ hW dX9_readNumbers_91
abbrev wd_Text_readItems (E : m_E) (a_t : Nat) (a_t_row : Nat) (a_t_itemKind : Nat) (a_t_numbersOf : Nat) (a_t_number : Nat) (r_t_number : Nat → Nat) (t_bytes : Int32) (t_items : Int32) (t_at : Int32) (t_token : Int32) (t_tokenAt : Int32) (t_tokenNumber : Int32) (t_row : Nat → Int32) (t_itemKind : Nat → Int32) (t_numbersOf : Nat → Int32) (t_number : Nat → Nat → Int32) : va_W := [(a_t, .inr (9, [.int t_bytes, .int t_items, .ref a_t_row, .ref a_t_itemKind, .ref a_t_numbersOf, .ref a_t_number, .int t_at, .int t_token, .int t_tokenAt, .int t_tokenNumber])), (a_t_row, .inl (E.2.1 0, 240, .inl t_row)), (a_t_itemKind, .inl (E.2.1 0, 34, .inl t_itemKind)), (a_t_numbersOf, .inl (E.2.1 0, 34, .inl t_numbersOf)), (a_t_number, .inl (E.2.1 3, 34, .inr (.inr (.inr (.inr (fun i => some (r_t_number i)))))))] ++ (m_fam 34 (fun i => (r_t_number i, .inl (E.2.1 0, 7, .inl (t_number i)))) ++ [])
def rm_Text_readItems : Room := { frames := 8, cells := 0, slots := 0, locals := 172 }
set_option maxHeartbeats 4000000 in
set_option maxRecDepth 100000 in
theorem c_Text_readItems (l : Launch) (E : m_E) (sz N : Nat) (a_t : Nat) (a_t_row : Nat) (a_t_itemKind : Nat) (a_t_numbersOf : Nat) (a_t_number : Nat) (r_t_number : Nat → Nat) (t_bytes : Int32) (t_items : Int32) (t_at : Int32) (t_token : Int32) (t_tokenAt : Int32) (t_tokenNumber : Int32) (t_row : Nat → Int32) (t_itemKind : Nat → Int32) (t_numbersOf : Nat → Int32) (t_number : Nat → Nat → Int32)  (ures : Int32 × Int32 × Int32 × Int32 × Int32 × Int32 × (Nat → Int32) × (Nat → Int32) × (Nat → Nat → Int32)) (hF : F_Text_readItems N t_bytes t_token t_tokenAt t_tokenNumber t_row t_itemKind t_numbersOf t_number = some ures) : m_Met l yX9_readItems cX9_readItems 3 (some .int) rm_Text_readItems E (wd_Text_readItems E a_t a_t_row a_t_itemKind a_t_numbersOf a_t_number r_t_number t_bytes t_items t_at t_token t_tokenAt t_tokenNumber t_row t_itemKind t_numbersOf t_number) (wd_Text_readItems E a_t a_t_row a_t_itemKind a_t_numbersOf a_t_number r_t_number t_bytes ures.2.1 ures.2.2.1 ures.2.2.2.1 ures.2.2.2.2.1 ures.2.2.2.2.2.1 t_row ures.2.2.2.2.2.2.1 ures.2.2.2.2.2.2.2.1 ures.2.2.2.2.2.2.2.2) sz [.ref a_t] (some (.int ures.1)) := by
  refine m_ofI (by decide) (Nat.le_of_ble_eq_true rfl) ?_
  intro p e s m args below meth c A Q ls X hW hA hl hret
  obtain ⟨hx, hb, -, hown, hts, hK, -, hG⟩ := id X
  have hl : lv_has ls 3 [(0, .ref a_t)] := hl
  unfold F_Text_readItems at hF
  refine lv_aload_n hx hb dX9_readItems_0 rfl (lv_at hl 0 rfl) ?_
  refine lv_iconst (v := (0 : Int32)) hx hb dX9_readItems_1 (by decide) ?_
  refine m_putf X hW fdX9_36 0 rfl (Nat.le_of_ble_eq_true rfl) rfl rfl dX9_readItems_2 (ws' := (wd_Text_readItems E a_t a_t_row a_t_itemKind a_t_numbersOf a_t_number r_t_number t_bytes (0 : Int32) t_at t_token t_tokenAt t_tokenNumber t_row t_itemKind t_numbersOf t_number)) rfl (fun H locs hW => ?_)
  refine lv_aload_n hx hb dX9_readItems_5 rfl (lv_at hl 0 rfl) ?_
  refine lv_iconst (v := (0 : Int32)) hx hb dX9_readItems_6 (by decide) ?_
  refine m_putf X hW fdX9_39 0 rfl (Nat.le_of_ble_eq_true rfl) rfl rfl dX9_readItems_7 (ws' := (wd_Text_readItems E a_t a_t_row a_t_itemKind a_t_numbersOf a_t_number r_t_number t_bytes (0 : Int32) (0 : Int32) t_token t_tokenAt t_tokenNumber t_row t_itemKind t_numbersOf t_number)) rfl (fun H locs hW => ?_)
  refine lv_iconst (v := (0 : Int32)) hx hb dX9_readItems_10 (by decide) ?_
  refine lv_istore_n (lv' := [(1, .int (0 : Int32)), (0, .ref a_t)]) hx hb dX9_readItems_11 rfl hl (by decide) rfl (fun ls hl => ?_)
  obtain ⟨out6, hX2, hr5, hF⟩ := bT_s8 hF
  have L1 : ∀ (k0 : Nat) (x1 : Int32) (t_itemKind'_4 : Nat → Int32) (t_numbersOf'_4 : Nat → Int32) (t_number'_4 : Nat → Nat → Int32) (t_at'_5 : Int32) (t_items'_3 : Int32) (t_token'_5 : Int32) (t_tokenAt'_5 : Int32) (t_tokenNumber'_5 : Int32) (out8 : (Int32 × Int32 × Int32 × Int32 × Int32 × Int32 × (Nat → Int32) × (Nat → Int32) × (Nat → Nat → Int32)) ⊕ ((Nat → Int32) × (Nat → Int32) × (Nat → Nat → Int32) × Int32 × Int32 × Int32 × Int32 × Int32))  (H : Heap) (locs : List Loc) (ls : Array Slot), Text_readItems_L12 N t_bytes t_row k0 x1 t_itemKind'_4 t_numbersOf'_4 t_number'_4 t_at'_5 t_items'_3 t_token'_5 t_tokenAt'_5 t_tokenNumber'_5 = some out8 → m_H E A (wd_Text_readItems E a_t a_t_row a_t_itemKind a_t_numbersOf a_t_number r_t_number t_bytes t_items'_3 t_at'_5 t_token'_5 t_tokenAt'_5 t_tokenNumber'_5 t_row t_itemKind'_4 t_numbersOf'_4 t_number'_4) s.heap H locs → lv_has ls 3 [(1, .int x1), (0, .ref a_t)] → (∀ a, out8 = .inl a → a = ures) → (∀ (t_itemKind'_6 : Nat → Int32) (t_numbersOf'_6 : Nat → Int32) (t_number'_6 : Nat → Nat → Int32) (t_at'_8 : Int32) (t_items'_4 : Int32) (t_token'_8 : Int32) (t_tokenAt'_8 : Int32) (t_tokenNumber'_8 : Int32) (H : Heap) (locs : List Loc) (ls : Array Slot), out8 = .inr (t_itemKind'_6, t_numbersOf'_6, t_number'_6, t_at'_8, t_items'_4, t_token'_8, t_tokenAt'_8, t_tokenNumber'_8) → m_H E A (wd_Text_readItems E a_t a_t_row a_t_itemKind a_t_numbersOf a_t_number r_t_number t_bytes t_items'_4 t_at'_8 t_token'_8 t_tokenAt'_8 t_tokenNumber'_8 t_row t_itemKind'_6 t_numbersOf'_6 t_number'_6) s.heap H locs → lv_has ls 3 [] → W p l e rm_Text_readItems s m args below meth c H locs 0 0 Q (F0 m 83 ls [])) → W p l e rm_Text_readItems s m args below meth c H locs 0 0 Q (F0 m 12 ls []) := by
    clear hF
    intro k0
    induction k0 with
    | zero =>
      intro x1 t_itemKind'_4 t_numbersOf'_4 t_number'_4 t_at'_5 t_items'_3 t_token'_5 t_tokenAt'_5 t_tokenNumber'_5 out8 H locs ls hF
      cases hF
    | succ k0 ih4 =>
      intro x1 t_itemKind'_4 t_numbersOf'_4 t_number'_4 t_at'_5 t_items'_3 t_token'_5 t_tokenAt'_5 t_tokenNumber'_5 out8 H locs ls hF hW hl hr7 hk3
      rw [Text_readItems_L12] at hF
      refine lv_iload_n hx hb dX9_readItems_12 rfl (lv_at hl 0 rfl) ?_
      refine lv_bipush (v := (34 : Int32)) hx hb dX9_readItems_13 (by decide) ?_
      refine lv_icmp_gt (tgt := 83) hx hb dX9_readItems_15 (by decide) (fun c9 => ?_) (fun c9 => ?_)
      · have hF := if_y c9 hF
        exact hk3 t_itemKind'_4 t_numbersOf'_4 t_number'_4 t_at'_5 t_items'_3 t_token'_5 t_tokenAt'_5 t_tokenNumber'_5 _ _ _ (Option.some.inj hF).symm hW (lv_sub hl [] rfl)
      · have hF := if_n c9 hF
        refine lv_aload_n hx hb dX9_readItems_18 rfl (lv_at hl 1 rfl) ?_
        obtain ⟨t_at'_6, t_token'_6, t_tokenAt'_6, t_tokenNumber'_6, hC10, hF⟩ := bO_s4 hF
        refine m_callV X hW hA hl.1 lkX9_42 (c_Text_nextToken l E _ N a_t a_t_itemKind a_t_numbersOf a_t_number a_t_row t_bytes t_items'_3 t_at'_5 t_token'_5 t_tokenAt'_5 t_tokenNumber'_5 t_row  (t_at'_6, t_token'_6, t_tokenAt'_6, t_tokenNumber'_6) hC10) ([0, 1]) (by decide) rfl rfl (ws' := (wd_Text_readItems E a_t a_t_row a_t_itemKind a_t_numbersOf a_t_number r_t_number t_bytes t_items'_3 t_at'_6 t_token'_6 t_tokenAt'_6 t_tokenNumber'_6 t_row t_itemKind'_4 t_numbersOf'_4 t_number'_4)) rfl 0 rfl rfl rfl (As := []) (rest := []) rfl rfl ⟨rfl, rfl, Nat.le_of_ble_eq_true rfl, Nat.le_of_ble_eq_true rfl⟩ (Nat.le_of_ble_eq_true rfl) (Nat.zero_le _) (Nat.zero_le _) dX9_readItems_19 (fun H locs hW => ?_)
        clear hC10
        refine lv_aload_n hx hb dX9_readItems_22 rfl (lv_at hl 1 rfl) ?_
        refine m_get X hW fdX9_45 0 rfl rfl dX9_readItems_23 ?_
        refine lv_iconst (v := (-1 : Int32)) hx hb dX9_readItems_26 (by decide) ?_
        refine lv_icmp_ne (tgt := 32) hx hb dX9_readItems_27 (by decide) (fun c11 => ?_) (fun c11 => ?_)
        · have hF := if_n c11 hF
          refine lv_aload_n hx hb dX9_readItems_32 rfl (lv_at hl 1 rfl) ?_
          refine m_get X hW fdX9_45 0 rfl rfl dX9_readItems_33 ?_
          refine lv_if_lt (tgt := 45) hx hb dX9_readItems_36 (by decide) (fun c12 => ?_) (fun c12 => ?_)
          · have hF := if_y c12 hF
            refine lv_aload_n hx hb dX9_readItems_45 rfl (lv_at hl 1 rfl) ?_
            refine m_get X hW fdX9_48 0 rfl rfl dX9_readItems_46 ?_
            have hq := (Option.some.inj hF).symm
            have hq := hr7 _ hq
            subst hq
            exact hret _ _ _ _ hW dX9_readItems_49
          · have hF := if_n c12 hF
            refine lv_iload_n hx hb dX9_readItems_39 rfl (lv_at hl 0 rfl) ?_
            refine lv_bipush (v := (34 : Int32)) hx hb dX9_readItems_40 (by decide) ?_
            refine lv_icmp_ne (tgt := 50) hx hb dX9_readItems_42 (by decide) (fun c13 => ?_) (fun c13 => ?_)
            · have hF := if_n c13 hF
              refine lv_aload_n hx hb dX9_readItems_50 rfl (lv_at hl 1 rfl) ?_
              refine lv_aload_n hx hb dX9_readItems_51 rfl (lv_at hl 1 rfl) ?_
              refine m_get X hW fdX9_45 0 rfl rfl dX9_readItems_52 ?_
              refine lv_iload_n hx hb dX9_readItems_55 rfl (lv_at hl 0 rfl) ?_
              obtain ⟨r56, t_at'_7, t_token'_7, t_tokenAt'_7, t_tokenNumber'_7, t_itemKind'_5, t_numbersOf'_5, t_number'_5, hC14, hF⟩ := bO_s8 hF
              refine m_callV X hW hA hl.1 lkX9_51 (c_Text_readNumbers l E _ N a_t a_t_row a_t_itemKind a_t_numbersOf a_t_number r_t_number t_bytes t_items'_3 t_at'_6 t_token'_6 t_tokenAt'_6 t_tokenNumber'_6 t_row t_itemKind'_4 t_numbersOf'_4 t_number'_4 t_token'_6 x1 (r56, t_at'_7, t_token'_7, t_tokenAt'_7, t_tokenNumber'_7, t_itemKind'_5, t_numbersOf'_5, t_number'_5) hC14) ([0, 1, 2, 3, 4] ++ ((List.range 34).map (fun i => 5 + i) ++ [])) (by decide +kernel) (m_CA (by rfl) (m_CA (m_CF (b := 5) rfl (by rfl)) m_Cn)) (by simp [m_fam]) (ws' := (wd_Text_readItems E a_t a_t_row a_t_itemKind a_t_numbersOf a_t_number r_t_number t_bytes t_items'_3 t_at'_7 t_token'_7 t_tokenAt'_7 t_tokenNumber'_7 t_row t_itemKind'_5 t_numbersOf'_5 t_number'_5)) (m_putA (ws1 := (wd_Text_readItems E a_t a_t_row a_t_itemKind a_t_numbersOf a_t_number r_t_number t_bytes t_items'_3 t_at'_7 t_token'_7 t_tokenAt'_7 t_tokenNumber'_7 t_row t_itemKind'_5 t_numbersOf'_5 t_number'_4)) (by rfl) (by rfl) (m_putA (ws1 := (wd_Text_readItems E a_t a_t_row a_t_itemKind a_t_numbersOf a_t_number r_t_number t_bytes t_items'_3 t_at'_7 t_token'_7 t_tokenAt'_7 t_tokenNumber'_7 t_row t_itemKind'_5 t_numbersOf'_5 t_number'_5)) (by simp [m_fam]) (m_putF (b := 5) rfl (by rfl) rfl) m_putn)) 0 rfl rfl rfl (As := [.int t_token'_6, .int x1]) (rest := []) rfl rfl ⟨rfl, rfl, Nat.le_of_ble_eq_true rfl, Nat.le_of_ble_eq_true rfl⟩ (Nat.le_of_ble_eq_true rfl) (Nat.zero_le _) (Nat.zero_le _) dX9_readItems_56 (fun H locs hW => ?_)
              clear hC14
              refine lv_istore_n (lv' := [(2, .int r56), (1, .int x1), (0, .ref a_t)]) hx hb dX9_readItems_59 rfl hl (by decide) rfl (fun ls hl => ?_)
              refine lv_iload_n hx hb dX9_readItems_60 rfl (lv_at hl 0 rfl) ?_
              refine lv_iconst (v := (-1 : Int32)) hx hb dX9_readItems_61 (by decide) ?_
              refine lv_icmp_eq (tgt := 67) hx hb dX9_readItems_62 (by decide) (fun c15 => ?_) (fun c15 => ?_)
              · have hF := if_y c15 hF
                refine lv_aload_n hx hb dX9_readItems_67 rfl (lv_at hl 2 rfl) ?_
                refine lv_dup hx hb dX9_readItems_68 rfl ?_
                refine m_get X hW fdX9_36 0 rfl rfl dX9_readItems_69 ?_
                refine lv_iconst (v := (1 : Int32)) hx hb dX9_readItems_72 (by decide) ?_
                refine lv_iadd hx hb dX9_readItems_73 ?_
                refine m_putf X hW fdX9_36 0 rfl (Nat.le_of_ble_eq_true rfl) rfl rfl dX9_readItems_74 (ws' := (wd_Text_readItems E a_t a_t_row a_t_itemKind a_t_numbersOf a_t_number r_t_number t_bytes (t_items'_3 + (1 : Int32)) t_at'_7 t_token'_7 t_tokenAt'_7 t_tokenNumber'_7 t_row t_itemKind'_5 t_numbersOf'_5 t_number'_5)) rfl (fun H locs hW => ?_)
                refine lv_iinc (v := (x1 + (1 : Int32))) (lv' := [(1, .int (x1 + (1 : Int32))), (2, .int r56), (0, .ref a_t)]) hx hb dX9_readItems_77 hl (k := 1) rfl rfl (by decide) rfl (fun ls hl => ?_)
                refine lv_goto (tgt := 12) hx hb dX9_readItems_80 (by decide) ?_
                exact ih4 (x1 + (1 : Int32)) t_itemKind'_5 t_numbersOf'_5 t_number'_5 t_at'_7 (t_items'_3 + (1 : Int32)) t_token'_7 t_tokenAt'_7 t_tokenNumber'_7 out8 _ _ _ hF hW (lv_sub hl [0, 2] rfl) hr7 hk3
              · have hF := if_n c15 hF
                refine lv_iload_n hx hb dX9_readItems_65 rfl (lv_at hl 0 rfl) ?_
                have hq := (Option.some.inj hF).symm
                have hq := hr7 _ hq
                subst hq
                exact hret _ _ _ _ hW dX9_readItems_66
            · have hF := if_y c13 hF
              refine lv_aload_n hx hb dX9_readItems_45 rfl (lv_at hl 1 rfl) ?_
              refine m_get X hW fdX9_48 0 rfl rfl dX9_readItems_46 ?_
              have hq := (Option.some.inj hF).symm
              have hq := hr7 _ hq
              subst hq
              exact hret _ _ _ _ hW dX9_readItems_49
        · have hF := if_y c11 hF
          refine lv_iconst (v := (-1 : Int32)) hx hb dX9_readItems_30 (by decide) ?_
          have hq := (Option.some.inj hF).symm
          have hq := hr7 _ hq
          subst hq
          exact hret _ _ _ _ hW dX9_readItems_31
  refine L1 N (0 : Int32) t_itemKind t_numbersOf t_number (0 : Int32) (0 : Int32) t_token t_tokenAt t_tokenNumber out6 _ _ _ hX2 hW (lv_sub hl [0, 1] rfl) hr5 ?_
  intro t_itemKind'_6 t_numbersOf'_6 t_number'_6 t_at'_8 t_items'_4 t_token'_8 t_tokenAt'_8 t_tokenNumber'_8 H locs ls ho hW hl
  have hF := hF t_itemKind'_6 t_numbersOf'_6 t_number'_6 t_at'_8 t_items'_4 t_token'_8 t_tokenAt'_8 t_tokenNumber'_8 ho
  clear L1
  refine lv_iconst (v := (-1 : Int32)) hx hb dX9_readItems_83 (by decide) ?_
  have hq := Option.some.inj hF
  subst hq
  exact hret _ _ _ _ hW dX9_readItems_84
abbrev wd_Floor_copyFrom (E : m_E) (a_t : Nat) (a_t_place : Nat) (a_t_way : Nat) (a_t_tell : Nat) (a_t_look : Nat) (a_t_farSquare : Nat) (a_p1 : Nat) (a_p1_place : Nat) (a_p1_way : Nat) (a_p1_tell : Nat) (a_p1_look : Nat) (a_p1_farSquare : Nat) (t_pillars : Int64) (t_weavers : Int32) (t_place : Nat → Int32) (t_way : Nat → Int32) (t_tell : Nat → Int32) (t_look : Nat → Int32) (t_farSquare : Nat → Int32) (p1_pillars : Int64) (p1_weavers : Int32) (p1_place : Nat → Int32) (p1_way : Nat → Int32) (p1_tell : Nat → Int32) (p1_look : Nat → Int32) (p1_farSquare : Nat → Int32) : va_W := [(a_t, .inr (1, [.long t_pillars, .int t_weavers, .ref a_t_place, .ref a_t_way, .ref a_t_tell, .ref a_t_look, .ref a_t_farSquare])), (a_t_place, .inl (E.2.1 0, 8, .inl t_place)), (a_t_way, .inl (E.2.1 0, 8, .inl t_way)), (a_t_tell, .inl (E.2.1 0, 8, .inl t_tell)), (a_t_look, .inl (E.2.1 0, 8, .inl t_look)), (a_t_farSquare, .inl (E.2.1 0, 2, .inl t_farSquare)), (a_p1, .inr (1, [.long p1_pillars, .int p1_weavers, .ref a_p1_place, .ref a_p1_way, .ref a_p1_tell, .ref a_p1_look, .ref a_p1_farSquare])), (a_p1_place, .inl (E.2.1 0, 8, .inl p1_place)), (a_p1_way, .inl (E.2.1 0, 8, .inl p1_way)), (a_p1_tell, .inl (E.2.1 0, 8, .inl p1_tell)), (a_p1_look, .inl (E.2.1 0, 8, .inl p1_look)), (a_p1_farSquare, .inl (E.2.1 0, 2, .inl p1_farSquare))]
def rm_Floor_copyFrom : Room := { frames := 1, cells := 0, slots := 0, locals := 26 }
set_option maxHeartbeats 4000000 in
set_option maxRecDepth 100000 in
theorem c_Floor_copyFrom (l : Launch) (E : m_E) (sz N : Nat) (a_t : Nat) (a_t_place : Nat) (a_t_way : Nat) (a_t_tell : Nat) (a_t_look : Nat) (a_t_farSquare : Nat) (a_p1 : Nat) (a_p1_place : Nat) (a_p1_way : Nat) (a_p1_tell : Nat) (a_p1_look : Nat) (a_p1_farSquare : Nat) (t_pillars : Int64) (t_weavers : Int32) (t_place : Nat → Int32) (t_way : Nat → Int32) (t_tell : Nat → Int32) (t_look : Nat → Int32) (t_farSquare : Nat → Int32) (p1_pillars : Int64) (p1_weavers : Int32) (p1_place : Nat → Int32) (p1_way : Nat → Int32) (p1_tell : Nat → Int32) (p1_look : Nat → Int32) (p1_farSquare : Nat → Int32)  (ures : Int64 × Int32 × (Nat → Int32) × (Nat → Int32) × (Nat → Int32) × (Nat → Int32) × (Nat → Int32)) (hF : F_Floor_copyFrom t_place t_way t_tell t_look t_farSquare p1_pillars p1_weavers p1_place p1_way p1_tell p1_look p1_farSquare = some ures) : m_Met l yX1_copyFrom cX1_copyFrom 2 none rm_Floor_copyFrom E (wd_Floor_copyFrom E a_t a_t_place a_t_way a_t_tell a_t_look a_t_farSquare a_p1 a_p1_place a_p1_way a_p1_tell a_p1_look a_p1_farSquare t_pillars t_weavers t_place t_way t_tell t_look t_farSquare p1_pillars p1_weavers p1_place p1_way p1_tell p1_look p1_farSquare) (wd_Floor_copyFrom E a_t a_t_place a_t_way a_t_tell a_t_look a_t_farSquare a_p1 a_p1_place a_p1_way a_p1_tell a_p1_look a_p1_farSquare ures.1 ures.2.1 ures.2.2.1 ures.2.2.2.1 ures.2.2.2.2.1 ures.2.2.2.2.2.1 ures.2.2.2.2.2.2 p1_pillars p1_weavers p1_place p1_way p1_tell p1_look p1_farSquare) sz [.ref a_t, .ref a_p1] none := by
  refine m_ofV (by decide) (Nat.le_of_ble_eq_true rfl) ?_
  intro p e s m args below meth c A Q ls X hW hA hl hret
  obtain ⟨hx, hb, -, hown, hts, hK, -, hG⟩ := id X
  have hl : lv_has ls 2 [(0, .ref a_t), (1, .ref a_p1)] := hl
  unfold F_Floor_copyFrom at hF
  refine lv_aload_n hx hb dX1_copyFrom_0 rfl (lv_at hl 0 rfl) ?_
  refine lv_aload_n hx hb dX1_copyFrom_1 rfl (lv_at hl 1 rfl) ?_
  refine m_get X hW fdX1_30 6 rfl rfl dX1_copyFrom_2 ?_
  refine m_putf X hW fdX1_30 0 rfl (Nat.le_of_ble_eq_true rfl) rfl rfl dX1_copyFrom_5 (ws' := (wd_Floor_copyFrom E a_t a_t_place a_t_way a_t_tell a_t_look a_t_farSquare a_p1 a_p1_place a_p1_way a_p1_tell a_p1_look a_p1_farSquare p1_pillars t_weavers t_place t_way t_tell t_look t_farSquare p1_pillars p1_weavers p1_place p1_way p1_tell p1_look p1_farSquare)) rfl (fun H locs hW => ?_)
  refine lv_aload_n hx hb dX1_copyFrom_8 rfl (lv_at hl 0 rfl) ?_
  refine lv_aload_n hx hb dX1_copyFrom_9 rfl (lv_at hl 1 rfl) ?_
  refine m_get X hW fdX1_34 6 rfl rfl dX1_copyFrom_10 ?_
  refine m_putf X hW fdX1_34 0 rfl (Nat.le_of_ble_eq_true rfl) rfl rfl dX1_copyFrom_13 (ws' := (wd_Floor_copyFrom E a_t a_t_place a_t_way a_t_tell a_t_look a_t_farSquare a_p1 a_p1_place a_p1_way a_p1_tell a_p1_look a_p1_farSquare p1_pillars p1_weavers t_place t_way t_tell t_look t_farSquare p1_pillars p1_weavers p1_place p1_way p1_tell p1_look p1_farSquare)) rfl (fun H locs hW => ?_)
  refine lv_aload_n hx hb dX1_copyFrom_16 rfl (lv_at hl 1 rfl) ?_
  refine m_get X hW fdX1_11 6 rfl rfl dX1_copyFrom_17 ?_
  refine lv_iconst (v := (0 : Int32)) hx hb dX1_copyFrom_20 (by decide) ?_
  refine lv_aload_n hx hb dX1_copyFrom_21 rfl (lv_at hl 0 rfl) ?_
  refine m_get X hW fdX1_11 0 rfl rfl dX1_copyFrom_22 ?_
  refine lv_iconst (v := (0 : Int32)) hx hb dX1_copyFrom_25 (by decide) ?_
  refine lv_bipush (v := (8 : Int32)) hx hb dX1_copyFrom_26 (by decide) ?_
  refine m_copyi X hW hl.1 wk_996 wk_734 wk_733 wk_16 7 1 rfl rfl (by decide) rfl rfl rfl (Nat.le_of_ble_eq_true rfl) (Nat.le_of_ble_eq_true rfl) dX1_copyFrom_28 (ws' := (wd_Floor_copyFrom E a_t a_t_place a_t_way a_t_tell a_t_look a_t_farSquare a_p1 a_p1_place a_p1_way a_p1_tell a_p1_look a_p1_farSquare p1_pillars p1_weavers (va_cpy p1_place t_place 0 0 8) t_way t_tell t_look t_farSquare p1_pillars p1_weavers p1_place p1_way p1_tell p1_look p1_farSquare)) (ksp := 0) (kdp := 0) (kn := 8) rfl (fun H locs hW => ?_)
  refine lv_aload_n hx hb dX1_copyFrom_31 rfl (lv_at hl 1 rfl) ?_
  refine m_get X hW fdX1_15 6 rfl rfl dX1_copyFrom_32 ?_
  refine lv_iconst (v := (0 : Int32)) hx hb dX1_copyFrom_35 (by decide) ?_
  refine lv_aload_n hx hb dX1_copyFrom_36 rfl (lv_at hl 0 rfl) ?_
  refine m_get X hW fdX1_15 0 rfl rfl dX1_copyFrom_37 ?_
  refine lv_iconst (v := (0 : Int32)) hx hb dX1_copyFrom_40 (by decide) ?_
  refine lv_bipush (v := (8 : Int32)) hx hb dX1_copyFrom_41 (by decide) ?_
  refine m_copyi X hW hl.1 wk_996 wk_734 wk_733 wk_16 8 2 rfl rfl (by decide) rfl rfl rfl (Nat.le_of_ble_eq_true rfl) (Nat.le_of_ble_eq_true rfl) dX1_copyFrom_43 (ws' := (wd_Floor_copyFrom E a_t a_t_place a_t_way a_t_tell a_t_look a_t_farSquare a_p1 a_p1_place a_p1_way a_p1_tell a_p1_look a_p1_farSquare p1_pillars p1_weavers (va_cpy p1_place t_place 0 0 8) (va_cpy p1_way t_way 0 0 8) t_tell t_look t_farSquare p1_pillars p1_weavers p1_place p1_way p1_tell p1_look p1_farSquare)) (ksp := 0) (kdp := 0) (kn := 8) rfl (fun H locs hW => ?_)
  refine lv_aload_n hx hb dX1_copyFrom_46 rfl (lv_at hl 1 rfl) ?_
  refine m_get X hW fdX1_18 6 rfl rfl dX1_copyFrom_47 ?_
  refine lv_iconst (v := (0 : Int32)) hx hb dX1_copyFrom_50 (by decide) ?_
  refine lv_aload_n hx hb dX1_copyFrom_51 rfl (lv_at hl 0 rfl) ?_
  refine m_get X hW fdX1_18 0 rfl rfl dX1_copyFrom_52 ?_
  refine lv_iconst (v := (0 : Int32)) hx hb dX1_copyFrom_55 (by decide) ?_
  refine lv_bipush (v := (8 : Int32)) hx hb dX1_copyFrom_56 (by decide) ?_
  refine m_copyi X hW hl.1 wk_996 wk_734 wk_733 wk_16 9 3 rfl rfl (by decide) rfl rfl rfl (Nat.le_of_ble_eq_true rfl) (Nat.le_of_ble_eq_true rfl) dX1_copyFrom_58 (ws' := (wd_Floor_copyFrom E a_t a_t_place a_t_way a_t_tell a_t_look a_t_farSquare a_p1 a_p1_place a_p1_way a_p1_tell a_p1_look a_p1_farSquare p1_pillars p1_weavers (va_cpy p1_place t_place 0 0 8) (va_cpy p1_way t_way 0 0 8) (va_cpy p1_tell t_tell 0 0 8) t_look t_farSquare p1_pillars p1_weavers p1_place p1_way p1_tell p1_look p1_farSquare)) (ksp := 0) (kdp := 0) (kn := 8) rfl (fun H locs hW => ?_)
  refine lv_aload_n hx hb dX1_copyFrom_61 rfl (lv_at hl 1 rfl) ?_
  refine m_get X hW fdX1_21 6 rfl rfl dX1_copyFrom_62 ?_
  refine lv_iconst (v := (0 : Int32)) hx hb dX1_copyFrom_65 (by decide) ?_
  refine lv_aload_n hx hb dX1_copyFrom_66 rfl (lv_at hl 0 rfl) ?_
  refine m_get X hW fdX1_21 0 rfl rfl dX1_copyFrom_67 ?_
  refine lv_iconst (v := (0 : Int32)) hx hb dX1_copyFrom_70 (by decide) ?_
  refine lv_bipush (v := (8 : Int32)) hx hb dX1_copyFrom_71 (by decide) ?_
  refine m_copyi X hW hl.1 wk_996 wk_734 wk_733 wk_16 10 4 rfl rfl (by decide) rfl rfl rfl (Nat.le_of_ble_eq_true rfl) (Nat.le_of_ble_eq_true rfl) dX1_copyFrom_73 (ws' := (wd_Floor_copyFrom E a_t a_t_place a_t_way a_t_tell a_t_look a_t_farSquare a_p1 a_p1_place a_p1_way a_p1_tell a_p1_look a_p1_farSquare p1_pillars p1_weavers (va_cpy p1_place t_place 0 0 8) (va_cpy p1_way t_way 0 0 8) (va_cpy p1_tell t_tell 0 0 8) (va_cpy p1_look t_look 0 0 8) t_farSquare p1_pillars p1_weavers p1_place p1_way p1_tell p1_look p1_farSquare)) (ksp := 0) (kdp := 0) (kn := 8) rfl (fun H locs hW => ?_)
  refine lv_aload_n hx hb dX1_copyFrom_76 rfl (lv_at hl 1 rfl) ?_
  refine m_get X hW fdX1_24 6 rfl rfl dX1_copyFrom_77 ?_
  refine lv_iconst (v := (0 : Int32)) hx hb dX1_copyFrom_80 (by decide) ?_
  refine lv_aload_n hx hb dX1_copyFrom_81 rfl (lv_at hl 0 rfl) ?_
  refine m_get X hW fdX1_24 0 rfl rfl dX1_copyFrom_82 ?_
  refine lv_iconst (v := (0 : Int32)) hx hb dX1_copyFrom_85 (by decide) ?_
  refine lv_iconst (v := (2 : Int32)) hx hb dX1_copyFrom_86 (by decide) ?_
  refine m_copyi X hW hl.1 wk_996 wk_734 wk_733 wk_16 11 5 rfl rfl (by decide) rfl rfl rfl (Nat.le_of_ble_eq_true rfl) (Nat.le_of_ble_eq_true rfl) dX1_copyFrom_87 (ws' := (wd_Floor_copyFrom E a_t a_t_place a_t_way a_t_tell a_t_look a_t_farSquare a_p1 a_p1_place a_p1_way a_p1_tell a_p1_look a_p1_farSquare p1_pillars p1_weavers (va_cpy p1_place t_place 0 0 8) (va_cpy p1_way t_way 0 0 8) (va_cpy p1_tell t_tell 0 0 8) (va_cpy p1_look t_look 0 0 8) (va_cpy p1_farSquare t_farSquare 0 0 2) p1_pillars p1_weavers p1_place p1_way p1_tell p1_look p1_farSquare)) (ksp := 0) (kdp := 0) (kn := 2) rfl (fun H locs hW => ?_)
  have hq := Option.some.inj hF
  subst hq
  exact hret _ _ _ _ hW dX1_copyFrom_90
abbrev wd_Sightings_copyFrom (E : m_E) (a_t : Nat) (a_t_weaver : Nat) (a_t_second : Nat) (a_t_knew : Nat) (a_p1 : Nat) (a_p1_weaver : Nat) (a_p1_second : Nat) (a_p1_knew : Nat) (t_many : Int32) (t_weaver : Nat → Int32) (t_second : Nat → Int32) (t_knew : Nat → Int32) (p1_many : Int32) (p1_weaver : Nat → Int32) (p1_second : Nat → Int32) (p1_knew : Nat → Int32) : va_W := [(a_t, .inr (8, [.int t_many, .ref a_t_weaver, .ref a_t_second, .ref a_t_knew])), (a_t_weaver, .inl (E.2.1 0, 10, .inl t_weaver)), (a_t_second, .inl (E.2.1 0, 10, .inl t_second)), (a_t_knew, .inl (E.2.1 0, 10, .inl t_knew)), (a_p1, .inr (8, [.int p1_many, .ref a_p1_weaver, .ref a_p1_second, .ref a_p1_knew])), (a_p1_weaver, .inl (E.2.1 0, 10, .inl p1_weaver)), (a_p1_second, .inl (E.2.1 0, 10, .inl p1_second)), (a_p1_knew, .inl (E.2.1 0, 10, .inl p1_knew))]
def rm_Sightings_copyFrom : Room := { frames := 1, cells := 0, slots := 0, locals := 26 }
set_option maxHeartbeats 4000000 in
set_option maxRecDepth 100000 in
theorem c_Sightings_copyFrom (l : Launch) (E : m_E) (sz N : Nat) (a_t : Nat) (a_t_weaver : Nat) (a_t_second : Nat) (a_t_knew : Nat) (a_p1 : Nat) (a_p1_weaver : Nat) (a_p1_second : Nat) (a_p1_knew : Nat) (t_many : Int32) (t_weaver : Nat → Int32) (t_second : Nat → Int32) (t_knew : Nat → Int32) (p1_many : Int32) (p1_weaver : Nat → Int32) (p1_second : Nat → Int32) (p1_knew : Nat → Int32)  (ures : Int32 × (Nat → Int32) × (Nat → Int32) × (Nat → Int32)) (hF : F_Sightings_copyFrom t_weaver t_second t_knew p1_many p1_weaver p1_second p1_knew = some ures) : m_Met l yX8_copyFrom cX8_copyFrom 2 none rm_Sightings_copyFrom E (wd_Sightings_copyFrom E a_t a_t_weaver a_t_second a_t_knew a_p1 a_p1_weaver a_p1_second a_p1_knew t_many t_weaver t_second t_knew p1_many p1_weaver p1_second p1_knew) (wd_Sightings_copyFrom E a_t a_t_weaver a_t_second a_t_knew a_p1 a_p1_weaver a_p1_second a_p1_knew ures.1 ures.2.1 ures.2.2.1 ures.2.2.2 p1_many p1_weaver p1_second p1_knew) sz [.ref a_t, .ref a_p1] none := by
  refine m_ofV (by decide) (Nat.le_of_ble_eq_true rfl) ?_
  intro p e s m args below meth c A Q ls X hW hA hl hret
  obtain ⟨hx, hb, -, hown, hts, hK, -, hG⟩ := id X
  have hl : lv_has ls 2 [(0, .ref a_t), (1, .ref a_p1)] := hl
  unfold F_Sightings_copyFrom at hF
  refine lv_aload_n hx hb dX8_copyFrom_0 rfl (lv_at hl 0 rfl) ?_
  refine lv_aload_n hx hb dX8_copyFrom_1 rfl (lv_at hl 1 rfl) ?_
  refine m_get X hW fdX8_21 4 rfl rfl dX8_copyFrom_2 ?_
  refine m_putf X hW fdX8_21 0 rfl (Nat.le_of_ble_eq_true rfl) rfl rfl dX8_copyFrom_5 (ws' := (wd_Sightings_copyFrom E a_t a_t_weaver a_t_second a_t_knew a_p1 a_p1_weaver a_p1_second a_p1_knew p1_many t_weaver t_second t_knew p1_many p1_weaver p1_second p1_knew)) rfl (fun H locs hW => ?_)
  refine lv_aload_n hx hb dX8_copyFrom_8 rfl (lv_at hl 1 rfl) ?_
  refine m_get X hW fdX8_11 4 rfl rfl dX8_copyFrom_9 ?_
  refine lv_iconst (v := (0 : Int32)) hx hb dX8_copyFrom_12 (by decide) ?_
  refine lv_aload_n hx hb dX8_copyFrom_13 rfl (lv_at hl 0 rfl) ?_
  refine m_get X hW fdX8_11 0 rfl rfl dX8_copyFrom_14 ?_
  refine lv_iconst (v := (0 : Int32)) hx hb dX8_copyFrom_17 (by decide) ?_
  refine lv_bipush (v := (10 : Int32)) hx hb dX8_copyFrom_18 (by decide) ?_
  refine m_copyi X hW hl.1 wk_1001 wk_734 wk_733 wk_16 5 1 rfl rfl (by decide) rfl rfl rfl (Nat.le_of_ble_eq_true rfl) (Nat.le_of_ble_eq_true rfl) dX8_copyFrom_20 (ws' := (wd_Sightings_copyFrom E a_t a_t_weaver a_t_second a_t_knew a_p1 a_p1_weaver a_p1_second a_p1_knew p1_many (va_cpy p1_weaver t_weaver 0 0 10) t_second t_knew p1_many p1_weaver p1_second p1_knew)) (ksp := 0) (kdp := 0) (kn := 10) rfl (fun H locs hW => ?_)
  refine lv_aload_n hx hb dX8_copyFrom_23 rfl (lv_at hl 1 rfl) ?_
  refine m_get X hW fdX8_15 4 rfl rfl dX8_copyFrom_24 ?_
  refine lv_iconst (v := (0 : Int32)) hx hb dX8_copyFrom_27 (by decide) ?_
  refine lv_aload_n hx hb dX8_copyFrom_28 rfl (lv_at hl 0 rfl) ?_
  refine m_get X hW fdX8_15 0 rfl rfl dX8_copyFrom_29 ?_
  refine lv_iconst (v := (0 : Int32)) hx hb dX8_copyFrom_32 (by decide) ?_
  refine lv_bipush (v := (10 : Int32)) hx hb dX8_copyFrom_33 (by decide) ?_
  refine m_copyi X hW hl.1 wk_1001 wk_734 wk_733 wk_16 6 2 rfl rfl (by decide) rfl rfl rfl (Nat.le_of_ble_eq_true rfl) (Nat.le_of_ble_eq_true rfl) dX8_copyFrom_35 (ws' := (wd_Sightings_copyFrom E a_t a_t_weaver a_t_second a_t_knew a_p1 a_p1_weaver a_p1_second a_p1_knew p1_many (va_cpy p1_weaver t_weaver 0 0 10) (va_cpy p1_second t_second 0 0 10) t_knew p1_many p1_weaver p1_second p1_knew)) (ksp := 0) (kdp := 0) (kn := 10) rfl (fun H locs hW => ?_)
  refine lv_aload_n hx hb dX8_copyFrom_38 rfl (lv_at hl 1 rfl) ?_
  refine m_get X hW fdX8_18 4 rfl rfl dX8_copyFrom_39 ?_
  refine lv_iconst (v := (0 : Int32)) hx hb dX8_copyFrom_42 (by decide) ?_
  refine lv_aload_n hx hb dX8_copyFrom_43 rfl (lv_at hl 0 rfl) ?_
  refine m_get X hW fdX8_18 0 rfl rfl dX8_copyFrom_44 ?_
  refine lv_iconst (v := (0 : Int32)) hx hb dX8_copyFrom_47 (by decide) ?_
  refine lv_bipush (v := (10 : Int32)) hx hb dX8_copyFrom_48 (by decide) ?_
  refine m_copyi X hW hl.1 wk_1001 wk_734 wk_733 wk_16 7 3 rfl rfl (by decide) rfl rfl rfl (Nat.le_of_ble_eq_true rfl) (Nat.le_of_ble_eq_true rfl) dX8_copyFrom_50 (ws' := (wd_Sightings_copyFrom E a_t a_t_weaver a_t_second a_t_knew a_p1 a_p1_weaver a_p1_second a_p1_knew p1_many (va_cpy p1_weaver t_weaver 0 0 10) (va_cpy p1_second t_second 0 0 10) (va_cpy p1_knew t_knew 0 0 10) p1_many p1_weaver p1_second p1_knew)) (ksp := 0) (kdp := 0) (kn := 10) rfl (fun H locs hW => ?_)
  have hq := Option.some.inj hF
  subst hq
  exact hret _ _ _ _ hW dX8_copyFrom_53
abbrev wd_Lexicon_copyFrom (E : m_E) (a_t : Nat) (a_t_others : Nat) (a_t_length : Nat) (a_t_number : Nat) (a_t_weight : Nat) (a_t_leastLike : Nat) (a_t_row : Nat) (a_t_lipsOf : Nat) (a_p1 : Nat) (a_p1_others : Nat) (a_p1_length : Nat) (a_p1_number : Nat) (a_p1_weight : Nat) (a_p1_leastLike : Nat) (a_p1_row : Nat) (a_p1_lipsOf : Nat) (t_words : Int32) (t_rowLips : Int32) (t_girlKnows : Int32) (t_length : Nat → Int32) (t_number : Nat → Int32) (t_weight : Nat → Int32) (t_leastLike : Nat → Int32) (t_row : Nat → Int32) (t_lipsOf : Nat → Int32) (p1_words : Int32) (p1_rowLips : Int32) (p1_girlKnows : Int32) (p1_length : Nat → Int32) (p1_number : Nat → Int32) (p1_weight : Nat → Int32) (p1_leastLike : Nat → Int32) (p1_row : Nat → Int32) (p1_lipsOf : Nat → Int32) : va_W := [(a_t, .inr (3, [.int t_words, .ref a_t_length, .ref a_t_number, .ref a_t_weight, .ref a_t_leastLike, .ref a_t_row, .int t_rowLips, .int t_girlKnows, .ref a_t_lipsOf, .ref a_t_others])), (a_t_length, .inl (E.2.1 0, 10, .inl t_length)), (a_t_number, .inl (E.2.1 0, 10, .inl t_number)), (a_t_weight, .inl (E.2.1 0, 10, .inl t_weight)), (a_t_leastLike, .inl (E.2.1 0, 6, .inl t_leastLike)), (a_t_row, .inl (E.2.1 0, 24, .inl t_row)), (a_t_lipsOf, .inl (E.2.1 0, 60, .inl t_lipsOf)), (a_p1, .inr (3, [.int p1_words, .ref a_p1_length, .ref a_p1_number, .ref a_p1_weight, .ref a_p1_leastLike, .ref a_p1_row, .int p1_rowLips, .int p1_girlKnows, .ref a_p1_lipsOf, .ref a_p1_others])), (a_p1_length, .inl (E.2.1 0, 10, .inl p1_length)), (a_p1_number, .inl (E.2.1 0, 10, .inl p1_number)), (a_p1_weight, .inl (E.2.1 0, 10, .inl p1_weight)), (a_p1_leastLike, .inl (E.2.1 0, 6, .inl p1_leastLike)), (a_p1_row, .inl (E.2.1 0, 24, .inl p1_row)), (a_p1_lipsOf, .inl (E.2.1 0, 60, .inl p1_lipsOf))]
def rm_Lexicon_copyFrom : Room := { frames := 1, cells := 0, slots := 0, locals := 26 }
set_option maxHeartbeats 4000000 in
set_option maxRecDepth 100000 in
theorem c_Lexicon_copyFrom (l : Launch) (E : m_E) (sz N : Nat) (a_t : Nat) (a_t_others : Nat) (a_t_length : Nat) (a_t_number : Nat) (a_t_weight : Nat) (a_t_leastLike : Nat) (a_t_row : Nat) (a_t_lipsOf : Nat) (a_p1 : Nat) (a_p1_others : Nat) (a_p1_length : Nat) (a_p1_number : Nat) (a_p1_weight : Nat) (a_p1_leastLike : Nat) (a_p1_row : Nat) (a_p1_lipsOf : Nat) (t_words : Int32) (t_rowLips : Int32) (t_girlKnows : Int32) (t_length : Nat → Int32) (t_number : Nat → Int32) (t_weight : Nat → Int32) (t_leastLike : Nat → Int32) (t_row : Nat → Int32) (t_lipsOf : Nat → Int32) (p1_words : Int32) (p1_rowLips : Int32) (p1_girlKnows : Int32) (p1_length : Nat → Int32) (p1_number : Nat → Int32) (p1_weight : Nat → Int32) (p1_leastLike : Nat → Int32) (p1_row : Nat → Int32) (p1_lipsOf : Nat → Int32)  (ures : Int32 × Int32 × Int32 × (Nat → Int32) × (Nat → Int32) × (Nat → Int32) × (Nat → Int32) × (Nat → Int32) × (Nat → Int32)) (hF : F_Lexicon_copyFrom t_length t_number t_weight t_leastLike t_row t_lipsOf p1_words p1_rowLips p1_girlKnows p1_length p1_number p1_weight p1_leastLike p1_row p1_lipsOf = some ures) : m_Met l yX3_copyFrom cX3_copyFrom 2 none rm_Lexicon_copyFrom E (wd_Lexicon_copyFrom E a_t a_t_others a_t_length a_t_number a_t_weight a_t_leastLike a_t_row a_t_lipsOf a_p1 a_p1_others a_p1_length a_p1_number a_p1_weight a_p1_leastLike a_p1_row a_p1_lipsOf t_words t_rowLips t_girlKnows t_length t_number t_weight t_leastLike t_row t_lipsOf p1_words p1_rowLips p1_girlKnows p1_length p1_number p1_weight p1_leastLike p1_row p1_lipsOf) (wd_Lexicon_copyFrom E a_t a_t_others a_t_length a_t_number a_t_weight a_t_leastLike a_t_row a_t_lipsOf a_p1 a_p1_others a_p1_length a_p1_number a_p1_weight a_p1_leastLike a_p1_row a_p1_lipsOf ures.1 ures.2.1 ures.2.2.1 ures.2.2.2.1 ures.2.2.2.2.1 ures.2.2.2.2.2.1 ures.2.2.2.2.2.2.1 ures.2.2.2.2.2.2.2.1 ures.2.2.2.2.2.2.2.2 p1_words p1_rowLips p1_girlKnows p1_length p1_number p1_weight p1_leastLike p1_row p1_lipsOf) sz [.ref a_t, .ref a_p1] none := by
  refine m_ofV (by decide) (Nat.le_of_ble_eq_true rfl) ?_
  intro p e s m args below meth c A Q ls X hW hA hl hret
  obtain ⟨hx, hb, -, hown, hts, hK, -, hG⟩ := id X
  have hl : lv_has ls 2 [(0, .ref a_t), (1, .ref a_p1)] := hl
  unfold F_Lexicon_copyFrom at hF
  refine lv_aload_n hx hb dX3_copyFrom_0 rfl (lv_at hl 0 rfl) ?_
  refine lv_aload_n hx hb dX3_copyFrom_1 rfl (lv_at hl 1 rfl) ?_
  refine m_get X hW fdX3_36 7 rfl rfl dX3_copyFrom_2 ?_
  refine m_putf X hW fdX3_36 0 rfl (Nat.le_of_ble_eq_true rfl) rfl rfl dX3_copyFrom_5 (ws' := (wd_Lexicon_copyFrom E a_t a_t_others a_t_length a_t_number a_t_weight a_t_leastLike a_t_row a_t_lipsOf a_p1 a_p1_others a_p1_length a_p1_number a_p1_weight a_p1_leastLike a_p1_row a_p1_lipsOf p1_words t_rowLips t_girlKnows t_length t_number t_weight t_leastLike t_row t_lipsOf p1_words p1_rowLips p1_girlKnows p1_length p1_number p1_weight p1_leastLike p1_row p1_lipsOf)) rfl (fun H locs hW => ?_)
  refine lv_aload_n hx hb dX3_copyFrom_8 rfl (lv_at hl 0 rfl) ?_
  refine lv_aload_n hx hb dX3_copyFrom_9 rfl (lv_at hl 1 rfl) ?_
  refine m_get X hW fdX3_40 7 rfl rfl dX3_copyFrom_10 ?_
  refine m_putf X hW fdX3_40 0 rfl (Nat.le_of_ble_eq_true rfl) rfl rfl dX3_copyFrom_13 (ws' := (wd_Lexicon_copyFrom E a_t a_t_others a_t_length a_t_number a_t_weight a_t_leastLike a_t_row a_t_lipsOf a_p1 a_p1_others a_p1_length a_p1_number a_p1_weight a_p1_leastLike a_p1_row a_p1_lipsOf p1_words p1_rowLips t_girlKnows t_length t_number t_weight t_leastLike t_row t_lipsOf p1_words p1_rowLips p1_girlKnows p1_length p1_number p1_weight p1_leastLike p1_row p1_lipsOf)) rfl (fun H locs hW => ?_)
  refine lv_aload_n hx hb dX3_copyFrom_16 rfl (lv_at hl 0 rfl) ?_
  refine lv_aload_n hx hb dX3_copyFrom_17 rfl (lv_at hl 1 rfl) ?_
  refine m_get X hW fdX3_43 7 rfl rfl dX3_copyFrom_18 ?_
  refine m_putf X hW fdX3_43 0 rfl (Nat.le_of_ble_eq_true rfl) rfl rfl dX3_copyFrom_21 (ws' := (wd_Lexicon_copyFrom E a_t a_t_others a_t_length a_t_number a_t_weight a_t_leastLike a_t_row a_t_lipsOf a_p1 a_p1_others a_p1_length a_p1_number a_p1_weight a_p1_leastLike a_p1_row a_p1_lipsOf p1_words p1_rowLips p1_girlKnows t_length t_number t_weight t_leastLike t_row t_lipsOf p1_words p1_rowLips p1_girlKnows p1_length p1_number p1_weight p1_leastLike p1_row p1_lipsOf)) rfl (fun H locs hW => ?_)
  refine lv_aload_n hx hb dX3_copyFrom_24 rfl (lv_at hl 1 rfl) ?_
  refine m_get X hW fdX3_11 7 rfl rfl dX3_copyFrom_25 ?_
  refine lv_iconst (v := (0 : Int32)) hx hb dX3_copyFrom_28 (by decide) ?_
  refine lv_aload_n hx hb dX3_copyFrom_29 rfl (lv_at hl 0 rfl) ?_
  refine m_get X hW fdX3_11 0 rfl rfl dX3_copyFrom_30 ?_
  refine lv_iconst (v := (0 : Int32)) hx hb dX3_copyFrom_33 (by decide) ?_
  refine lv_bipush (v := (10 : Int32)) hx hb dX3_copyFrom_34 (by decide) ?_
  refine m_copyi X hW hl.1 wk_1006 wk_734 wk_733 wk_16 8 1 rfl rfl (by decide) rfl rfl rfl (Nat.le_of_ble_eq_true rfl) (Nat.le_of_ble_eq_true rfl) dX3_copyFrom_36 (ws' := (wd_Lexicon_copyFrom E a_t a_t_others a_t_length a_t_number a_t_weight a_t_leastLike a_t_row a_t_lipsOf a_p1 a_p1_others a_p1_length a_p1_number a_p1_weight a_p1_leastLike a_p1_row a_p1_lipsOf p1_words p1_rowLips p1_girlKnows (va_cpy p1_length t_length 0 0 10) t_number t_weight t_leastLike t_row t_lipsOf p1_words p1_rowLips p1_girlKnows p1_length p1_number p1_weight p1_leastLike p1_row p1_lipsOf)) (ksp := 0) (kdp := 0) (kn := 10) rfl (fun H locs hW => ?_)
  refine lv_aload_n hx hb dX3_copyFrom_39 rfl (lv_at hl 1 rfl) ?_
  refine m_get X hW fdX3_15 7 rfl rfl dX3_copyFrom_40 ?_
  refine lv_iconst (v := (0 : Int32)) hx hb dX3_copyFrom_43 (by decide) ?_
  refine lv_aload_n hx hb dX3_copyFrom_44 rfl (lv_at hl 0 rfl) ?_
  refine m_get X hW fdX3_15 0 rfl rfl dX3_copyFrom_45 ?_
  refine lv_iconst (v := (0 : Int32)) hx hb dX3_copyFrom_48 (by decide) ?_
  refine lv_bipush (v := (10 : Int32)) hx hb dX3_copyFrom_49 (by decide) ?_
  refine m_copyi X hW hl.1 wk_1006 wk_734 wk_733 wk_16 9 2 rfl rfl (by decide) rfl rfl rfl (Nat.le_of_ble_eq_true rfl) (Nat.le_of_ble_eq_true rfl) dX3_copyFrom_51 (ws' := (wd_Lexicon_copyFrom E a_t a_t_others a_t_length a_t_number a_t_weight a_t_leastLike a_t_row a_t_lipsOf a_p1 a_p1_others a_p1_length a_p1_number a_p1_weight a_p1_leastLike a_p1_row a_p1_lipsOf p1_words p1_rowLips p1_girlKnows (va_cpy p1_length t_length 0 0 10) (va_cpy p1_number t_number 0 0 10) t_weight t_leastLike t_row t_lipsOf p1_words p1_rowLips p1_girlKnows p1_length p1_number p1_weight p1_leastLike p1_row p1_lipsOf)) (ksp := 0) (kdp := 0) (kn := 10) rfl (fun H locs hW => ?_)
  refine lv_aload_n hx hb dX3_copyFrom_54 rfl (lv_at hl 1 rfl) ?_
  refine m_get X hW fdX3_18 7 rfl rfl dX3_copyFrom_55 ?_
  refine lv_iconst (v := (0 : Int32)) hx hb dX3_copyFrom_58 (by decide) ?_
  refine lv_aload_n hx hb dX3_copyFrom_59 rfl (lv_at hl 0 rfl) ?_
  refine m_get X hW fdX3_18 0 rfl rfl dX3_copyFrom_60 ?_
  refine lv_iconst (v := (0 : Int32)) hx hb dX3_copyFrom_63 (by decide) ?_
  refine lv_bipush (v := (10 : Int32)) hx hb dX3_copyFrom_64 (by decide) ?_
  refine m_copyi X hW hl.1 wk_1006 wk_734 wk_733 wk_16 10 3 rfl rfl (by decide) rfl rfl rfl (Nat.le_of_ble_eq_true rfl) (Nat.le_of_ble_eq_true rfl) dX3_copyFrom_66 (ws' := (wd_Lexicon_copyFrom E a_t a_t_others a_t_length a_t_number a_t_weight a_t_leastLike a_t_row a_t_lipsOf a_p1 a_p1_others a_p1_length a_p1_number a_p1_weight a_p1_leastLike a_p1_row a_p1_lipsOf p1_words p1_rowLips p1_girlKnows (va_cpy p1_length t_length 0 0 10) (va_cpy p1_number t_number 0 0 10) (va_cpy p1_weight t_weight 0 0 10) t_leastLike t_row t_lipsOf p1_words p1_rowLips p1_girlKnows p1_length p1_number p1_weight p1_leastLike p1_row p1_lipsOf)) (ksp := 0) (kdp := 0) (kn := 10) rfl (fun H locs hW => ?_)
  refine lv_aload_n hx hb dX3_copyFrom_69 rfl (lv_at hl 1 rfl) ?_
  refine m_get X hW fdX3_21 7 rfl rfl dX3_copyFrom_70 ?_
  refine lv_iconst (v := (0 : Int32)) hx hb dX3_copyFrom_73 (by decide) ?_
  refine lv_aload_n hx hb dX3_copyFrom_74 rfl (lv_at hl 0 rfl) ?_
  refine m_get X hW fdX3_21 0 rfl rfl dX3_copyFrom_75 ?_
  refine lv_iconst (v := (0 : Int32)) hx hb dX3_copyFrom_78 (by decide) ?_
  refine lv_bipush (v := (6 : Int32)) hx hb dX3_copyFrom_79 (by decide) ?_
  refine m_copyi X hW hl.1 wk_1006 wk_734 wk_733 wk_16 11 4 rfl rfl (by decide) rfl rfl rfl (Nat.le_of_ble_eq_true rfl) (Nat.le_of_ble_eq_true rfl) dX3_copyFrom_81 (ws' := (wd_Lexicon_copyFrom E a_t a_t_others a_t_length a_t_number a_t_weight a_t_leastLike a_t_row a_t_lipsOf a_p1 a_p1_others a_p1_length a_p1_number a_p1_weight a_p1_leastLike a_p1_row a_p1_lipsOf p1_words p1_rowLips p1_girlKnows (va_cpy p1_length t_length 0 0 10) (va_cpy p1_number t_number 0 0 10) (va_cpy p1_weight t_weight 0 0 10) (va_cpy p1_leastLike t_leastLike 0 0 6) t_row t_lipsOf p1_words p1_rowLips p1_girlKnows p1_length p1_number p1_weight p1_leastLike p1_row p1_lipsOf)) (ksp := 0) (kdp := 0) (kn := 6) rfl (fun H locs hW => ?_)
  refine lv_aload_n hx hb dX3_copyFrom_84 rfl (lv_at hl 1 rfl) ?_
  refine m_get X hW fdX3_24 7 rfl rfl dX3_copyFrom_85 ?_
  refine lv_iconst (v := (0 : Int32)) hx hb dX3_copyFrom_88 (by decide) ?_
  refine lv_aload_n hx hb dX3_copyFrom_89 rfl (lv_at hl 0 rfl) ?_
  refine m_get X hW fdX3_24 0 rfl rfl dX3_copyFrom_90 ?_
  refine lv_iconst (v := (0 : Int32)) hx hb dX3_copyFrom_93 (by decide) ?_
  refine lv_bipush (v := (24 : Int32)) hx hb dX3_copyFrom_94 (by decide) ?_
  refine m_copyi X hW hl.1 wk_1006 wk_734 wk_733 wk_16 12 5 rfl rfl (by decide) rfl rfl rfl (Nat.le_of_ble_eq_true rfl) (Nat.le_of_ble_eq_true rfl) dX3_copyFrom_96 (ws' := (wd_Lexicon_copyFrom E a_t a_t_others a_t_length a_t_number a_t_weight a_t_leastLike a_t_row a_t_lipsOf a_p1 a_p1_others a_p1_length a_p1_number a_p1_weight a_p1_leastLike a_p1_row a_p1_lipsOf p1_words p1_rowLips p1_girlKnows (va_cpy p1_length t_length 0 0 10) (va_cpy p1_number t_number 0 0 10) (va_cpy p1_weight t_weight 0 0 10) (va_cpy p1_leastLike t_leastLike 0 0 6) (va_cpy p1_row t_row 0 0 24) t_lipsOf p1_words p1_rowLips p1_girlKnows p1_length p1_number p1_weight p1_leastLike p1_row p1_lipsOf)) (ksp := 0) (kdp := 0) (kn := 24) rfl (fun H locs hW => ?_)
  refine lv_aload_n hx hb dX3_copyFrom_99 rfl (lv_at hl 1 rfl) ?_
  refine m_get X hW fdX3_27 7 rfl rfl dX3_copyFrom_100 ?_
  refine lv_iconst (v := (0 : Int32)) hx hb dX3_copyFrom_103 (by decide) ?_
  refine lv_aload_n hx hb dX3_copyFrom_104 rfl (lv_at hl 0 rfl) ?_
  refine m_get X hW fdX3_27 0 rfl rfl dX3_copyFrom_105 ?_
  refine lv_iconst (v := (0 : Int32)) hx hb dX3_copyFrom_108 (by decide) ?_
  refine lv_bipush (v := (60 : Int32)) hx hb dX3_copyFrom_109 (by decide) ?_
  refine m_copyi X hW hl.1 wk_1006 wk_734 wk_733 wk_16 13 6 rfl rfl (by decide) rfl rfl rfl (Nat.le_of_ble_eq_true rfl) (Nat.le_of_ble_eq_true rfl) dX3_copyFrom_111 (ws' := (wd_Lexicon_copyFrom E a_t a_t_others a_t_length a_t_number a_t_weight a_t_leastLike a_t_row a_t_lipsOf a_p1 a_p1_others a_p1_length a_p1_number a_p1_weight a_p1_leastLike a_p1_row a_p1_lipsOf p1_words p1_rowLips p1_girlKnows (va_cpy p1_length t_length 0 0 10) (va_cpy p1_number t_number 0 0 10) (va_cpy p1_weight t_weight 0 0 10) (va_cpy p1_leastLike t_leastLike 0 0 6) (va_cpy p1_row t_row 0 0 24) (va_cpy p1_lipsOf t_lipsOf 0 0 60) p1_words p1_rowLips p1_girlKnows p1_length p1_number p1_weight p1_leastLike p1_row p1_lipsOf)) (ksp := 0) (kdp := 0) (kn := 60) rfl (fun H locs hW => ?_)
  have hq := Option.some.inj hF
  subst hq
  exact hret _ _ _ _ hW dX3_copyFrom_114
abbrev wd_Shed_copyFrom (E : m_E) (a_t : Nat) (a_t_floor : Nat) (a_t_floor_place : Nat) (a_t_floor_way : Nat) (a_t_floor_tell : Nat) (a_t_floor_look : Nat) (a_t_floor_farSquare : Nat) (a_t_sightings : Nat) (a_t_sightings_weaver : Nat) (a_t_sightings_second : Nat) (a_t_sightings_knew : Nat) (a_t_lexicon : Nat) (a_t_lexicon_others : Nat) (a_t_lexicon_length : Nat) (a_t_lexicon_number : Nat) (a_t_lexicon_weight : Nat) (a_t_lexicon_leastLike : Nat) (a_t_lexicon_row : Nat) (a_t_lexicon_lipsOf : Nat) (a_t_level : Nat) (a_t_loss : Nat) (a_p1 : Nat) (a_p1_floor : Nat) (a_p1_floor_place : Nat) (a_p1_floor_way : Nat) (a_p1_floor_tell : Nat) (a_p1_floor_look : Nat) (a_p1_floor_farSquare : Nat) (a_p1_sightings : Nat) (a_p1_sightings_weaver : Nat) (a_p1_sightings_second : Nat) (a_p1_sightings_knew : Nat) (a_p1_lexicon : Nat) (a_p1_lexicon_others : Nat) (a_p1_lexicon_length : Nat) (a_p1_lexicon_number : Nat) (a_p1_lexicon_weight : Nat) (a_p1_lexicon_leastLike : Nat) (a_p1_lexicon_row : Nat) (a_p1_lexicon_lipsOf : Nat) (a_p1_level : Nat) (a_p1_loss : Nat) (t_clearness : Int32) (t_isKept : Int32) (t_floor_pillars : Int64) (t_floor_weavers : Int32) (t_floor_place : Nat → Int32) (t_floor_way : Nat → Int32) (t_floor_tell : Nat → Int32) (t_floor_look : Nat → Int32) (t_floor_farSquare : Nat → Int32) (t_sightings_many : Int32) (t_sightings_weaver : Nat → Int32) (t_sightings_second : Nat → Int32) (t_sightings_knew : Nat → Int32) (t_lexicon_words : Int32) (t_lexicon_rowLips : Int32) (t_lexicon_girlKnows : Int32) (t_lexicon_length : Nat → Int32) (t_lexicon_number : Nat → Int32) (t_lexicon_weight : Nat → Int32) (t_lexicon_leastLike : Nat → Int32) (t_lexicon_row : Nat → Int32) (t_lexicon_lipsOf : Nat → Int32) (t_level : Nat → Int32) (t_loss : Nat → Int32) (p1_clearness : Int32) (p1_isKept : Int32) (p1_floor_pillars : Int64) (p1_floor_weavers : Int32) (p1_floor_place : Nat → Int32) (p1_floor_way : Nat → Int32) (p1_floor_tell : Nat → Int32) (p1_floor_look : Nat → Int32) (p1_floor_farSquare : Nat → Int32) (p1_sightings_many : Int32) (p1_sightings_weaver : Nat → Int32) (p1_sightings_second : Nat → Int32) (p1_sightings_knew : Nat → Int32) (p1_lexicon_words : Int32) (p1_lexicon_rowLips : Int32) (p1_lexicon_girlKnows : Int32) (p1_lexicon_length : Nat → Int32) (p1_lexicon_number : Nat → Int32) (p1_lexicon_weight : Nat → Int32) (p1_lexicon_leastLike : Nat → Int32) (p1_lexicon_row : Nat → Int32) (p1_lexicon_lipsOf : Nat → Int32) (p1_level : Nat → Int32) (p1_loss : Nat → Int32) : va_W := [(a_t, .inr (7, [.ref a_t_floor, .ref a_t_sightings, .ref a_t_lexicon, .ref a_t_level, .ref a_t_loss, .int t_clearness, .int t_isKept])), (a_t_floor, .inr (1, [.long t_floor_pillars, .int t_floor_weavers, .ref a_t_floor_place, .ref a_t_floor_way, .ref a_t_floor_tell, .ref a_t_floor_look, .ref a_t_floor_farSquare])), (a_t_floor_place, .inl (E.2.1 0, 8, .inl t_floor_place)), (a_t_floor_way, .inl (E.2.1 0, 8, .inl t_floor_way)), (a_t_floor_tell, .inl (E.2.1 0, 8, .inl t_floor_tell)), (a_t_floor_look, .inl (E.2.1 0, 8, .inl t_floor_look)), (a_t_floor_farSquare, .inl (E.2.1 0, 2, .inl t_floor_farSquare)), (a_t_sightings, .inr (8, [.int t_sightings_many, .ref a_t_sightings_weaver, .ref a_t_sightings_second, .ref a_t_sightings_knew])), (a_t_sightings_weaver, .inl (E.2.1 0, 10, .inl t_sightings_weaver)), (a_t_sightings_second, .inl (E.2.1 0, 10, .inl t_sightings_second)), (a_t_sightings_knew, .inl (E.2.1 0, 10, .inl t_sightings_knew)), (a_t_lexicon, .inr (3, [.int t_lexicon_words, .ref a_t_lexicon_length, .ref a_t_lexicon_number, .ref a_t_lexicon_weight, .ref a_t_lexicon_leastLike, .ref a_t_lexicon_row, .int t_lexicon_rowLips, .int t_lexicon_girlKnows, .ref a_t_lexicon_lipsOf, .ref a_t_lexicon_others])), (a_t_lexicon_length, .inl (E.2.1 0, 10, .inl t_lexicon_length)), (a_t_lexicon_number, .inl (E.2.1 0, 10, .inl t_lexicon_number)), (a_t_lexicon_weight, .inl (E.2.1 0, 10, .inl t_lexicon_weight)), (a_t_lexicon_leastLike, .inl (E.2.1 0, 6, .inl t_lexicon_leastLike)), (a_t_lexicon_row, .inl (E.2.1 0, 24, .inl t_lexicon_row)), (a_t_lexicon_lipsOf, .inl (E.2.1 0, 60, .inl t_lexicon_lipsOf)), (a_t_level, .inl (E.2.1 0, 6, .inl t_level)), (a_t_loss, .inl (E.2.1 0, 6, .inl t_loss)), (a_p1, .inr (7, [.ref a_p1_floor, .ref a_p1_sightings, .ref a_p1_lexicon, .ref a_p1_level, .ref a_p1_loss, .int p1_clearness, .int p1_isKept])), (a_p1_floor, .inr (1, [.long p1_floor_pillars, .int p1_floor_weavers, .ref a_p1_floor_place, .ref a_p1_floor_way, .ref a_p1_floor_tell, .ref a_p1_floor_look, .ref a_p1_floor_farSquare])), (a_p1_floor_place, .inl (E.2.1 0, 8, .inl p1_floor_place)), (a_p1_floor_way, .inl (E.2.1 0, 8, .inl p1_floor_way)), (a_p1_floor_tell, .inl (E.2.1 0, 8, .inl p1_floor_tell)), (a_p1_floor_look, .inl (E.2.1 0, 8, .inl p1_floor_look)), (a_p1_floor_farSquare, .inl (E.2.1 0, 2, .inl p1_floor_farSquare)), (a_p1_sightings, .inr (8, [.int p1_sightings_many, .ref a_p1_sightings_weaver, .ref a_p1_sightings_second, .ref a_p1_sightings_knew])), (a_p1_sightings_weaver, .inl (E.2.1 0, 10, .inl p1_sightings_weaver)), (a_p1_sightings_second, .inl (E.2.1 0, 10, .inl p1_sightings_second)), (a_p1_sightings_knew, .inl (E.2.1 0, 10, .inl p1_sightings_knew)), (a_p1_lexicon, .inr (3, [.int p1_lexicon_words, .ref a_p1_lexicon_length, .ref a_p1_lexicon_number, .ref a_p1_lexicon_weight, .ref a_p1_lexicon_leastLike, .ref a_p1_lexicon_row, .int p1_lexicon_rowLips, .int p1_lexicon_girlKnows, .ref a_p1_lexicon_lipsOf, .ref a_p1_lexicon_others])), (a_p1_lexicon_length, .inl (E.2.1 0, 10, .inl p1_lexicon_length)), (a_p1_lexicon_number, .inl (E.2.1 0, 10, .inl p1_lexicon_number)), (a_p1_lexicon_weight, .inl (E.2.1 0, 10, .inl p1_lexicon_weight)), (a_p1_lexicon_leastLike, .inl (E.2.1 0, 6, .inl p1_lexicon_leastLike)), (a_p1_lexicon_row, .inl (E.2.1 0, 24, .inl p1_lexicon_row)), (a_p1_lexicon_lipsOf, .inl (E.2.1 0, 60, .inl p1_lexicon_lipsOf)), (a_p1_level, .inl (E.2.1 0, 6, .inl p1_level)), (a_p1_loss, .inl (E.2.1 0, 6, .inl p1_loss))]
def rm_Shed_copyFrom : Room := { frames := 2, cells := 0, slots := 0, locals := 47 }
set_option maxHeartbeats 4000000 in
set_option maxRecDepth 100000 in
theorem c_Shed_copyFrom (l : Launch) (E : m_E) (sz N : Nat) (a_t : Nat) (a_t_floor : Nat) (a_t_floor_place : Nat) (a_t_floor_way : Nat) (a_t_floor_tell : Nat) (a_t_floor_look : Nat) (a_t_floor_farSquare : Nat) (a_t_sightings : Nat) (a_t_sightings_weaver : Nat) (a_t_sightings_second : Nat) (a_t_sightings_knew : Nat) (a_t_lexicon : Nat) (a_t_lexicon_others : Nat) (a_t_lexicon_length : Nat) (a_t_lexicon_number : Nat) (a_t_lexicon_weight : Nat) (a_t_lexicon_leastLike : Nat) (a_t_lexicon_row : Nat) (a_t_lexicon_lipsOf : Nat) (a_t_level : Nat) (a_t_loss : Nat) (a_p1 : Nat) (a_p1_floor : Nat) (a_p1_floor_place : Nat) (a_p1_floor_way : Nat) (a_p1_floor_tell : Nat) (a_p1_floor_look : Nat) (a_p1_floor_farSquare : Nat) (a_p1_sightings : Nat) (a_p1_sightings_weaver : Nat) (a_p1_sightings_second : Nat) (a_p1_sightings_knew : Nat) (a_p1_lexicon : Nat) (a_p1_lexicon_others : Nat) (a_p1_lexicon_length : Nat) (a_p1_lexicon_number : Nat) (a_p1_lexicon_weight : Nat) (a_p1_lexicon_leastLike : Nat) (a_p1_lexicon_row : Nat) (a_p1_lexicon_lipsOf : Nat) (a_p1_level : Nat) (a_p1_loss : Nat) (t_clearness : Int32) (t_isKept : Int32) (t_floor_pillars : Int64) (t_floor_weavers : Int32) (t_floor_place : Nat → Int32) (t_floor_way : Nat → Int32) (t_floor_tell : Nat → Int32) (t_floor_look : Nat → Int32) (t_floor_farSquare : Nat → Int32) (t_sightings_many : Int32) (t_sightings_weaver : Nat → Int32) (t_sightings_second : Nat → Int32) (t_sightings_knew : Nat → Int32) (t_lexicon_words : Int32) (t_lexicon_rowLips : Int32) (t_lexicon_girlKnows : Int32) (t_lexicon_length : Nat → Int32) (t_lexicon_number : Nat → Int32) (t_lexicon_weight : Nat → Int32) (t_lexicon_leastLike : Nat → Int32) (t_lexicon_row : Nat → Int32) (t_lexicon_lipsOf : Nat → Int32) (t_level : Nat → Int32) (t_loss : Nat → Int32) (p1_clearness : Int32) (p1_isKept : Int32) (p1_floor_pillars : Int64) (p1_floor_weavers : Int32) (p1_floor_place : Nat → Int32) (p1_floor_way : Nat → Int32) (p1_floor_tell : Nat → Int32) (p1_floor_look : Nat → Int32) (p1_floor_farSquare : Nat → Int32) (p1_sightings_many : Int32) (p1_sightings_weaver : Nat → Int32) (p1_sightings_second : Nat → Int32) (p1_sightings_knew : Nat → Int32) (p1_lexicon_words : Int32) (p1_lexicon_rowLips : Int32) (p1_lexicon_girlKnows : Int32) (p1_lexicon_length : Nat → Int32) (p1_lexicon_number : Nat → Int32) (p1_lexicon_weight : Nat → Int32) (p1_lexicon_leastLike : Nat → Int32) (p1_lexicon_row : Nat → Int32) (p1_lexicon_lipsOf : Nat → Int32) (p1_level : Nat → Int32) (p1_loss : Nat → Int32)  (ures : Int32 × Int64 × Int32 × (Nat → Int32) × (Nat → Int32) × (Nat → Int32) × (Nat → Int32) × (Nat → Int32) × Int32 × (Nat → Int32) × (Nat → Int32) × (Nat → Int32) × Int32 × Int32 × Int32 × (Nat → Int32) × (Nat → Int32) × (Nat → Int32) × (Nat → Int32) × (Nat → Int32) × (Nat → Int32) × (Nat → Int32) × (Nat → Int32)) (hF : F_Shed_copyFrom t_floor_place t_floor_way t_floor_tell t_floor_look t_floor_farSquare t_sightings_weaver t_sightings_second t_sightings_knew t_lexicon_length t_lexicon_number t_lexicon_weight t_lexicon_leastLike t_lexicon_row t_lexicon_lipsOf t_level t_loss p1_clearness p1_floor_pillars p1_floor_weavers p1_floor_place p1_floor_way p1_floor_tell p1_floor_look p1_floor_farSquare p1_sightings_many p1_sightings_weaver p1_sightings_second p1_sightings_knew p1_lexicon_words p1_lexicon_rowLips p1_lexicon_girlKnows p1_lexicon_length p1_lexicon_number p1_lexicon_weight p1_lexicon_leastLike p1_lexicon_row p1_lexicon_lipsOf p1_level p1_loss = some ures) : m_Met l yX7_copyFrom cX7_copyFrom 2 none rm_Shed_copyFrom E (wd_Shed_copyFrom E a_t a_t_floor a_t_floor_place a_t_floor_way a_t_floor_tell a_t_floor_look a_t_floor_farSquare a_t_sightings a_t_sightings_weaver a_t_sightings_second a_t_sightings_knew a_t_lexicon a_t_lexicon_others a_t_lexicon_length a_t_lexicon_number a_t_lexicon_weight a_t_lexicon_leastLike a_t_lexicon_row a_t_lexicon_lipsOf a_t_level a_t_loss a_p1 a_p1_floor a_p1_floor_place a_p1_floor_way a_p1_floor_tell a_p1_floor_look a_p1_floor_farSquare a_p1_sightings a_p1_sightings_weaver a_p1_sightings_second a_p1_sightings_knew a_p1_lexicon a_p1_lexicon_others a_p1_lexicon_length a_p1_lexicon_number a_p1_lexicon_weight a_p1_lexicon_leastLike a_p1_lexicon_row a_p1_lexicon_lipsOf a_p1_level a_p1_loss t_clearness t_isKept t_floor_pillars t_floor_weavers t_floor_place t_floor_way t_floor_tell t_floor_look t_floor_farSquare t_sightings_many t_sightings_weaver t_sightings_second t_sightings_knew t_lexicon_words t_lexicon_rowLips t_lexicon_girlKnows t_lexicon_length t_lexicon_number t_lexicon_weight t_lexicon_leastLike t_lexicon_row t_lexicon_lipsOf t_level t_loss p1_clearness p1_isKept p1_floor_pillars p1_floor_weavers p1_floor_place p1_floor_way p1_floor_tell p1_floor_look p1_floor_farSquare p1_sightings_many p1_sightings_weaver p1_sightings_second p1_sightings_knew p1_lexicon_words p1_lexicon_rowLips p1_lexicon_girlKnows p1_lexicon_length p1_lexicon_number p1_lexicon_weight p1_lexicon_leastLike p1_lexicon_row p1_lexicon_lipsOf p1_level p1_loss) (wd_Shed_copyFrom E a_t a_t_floor a_t_floor_place a_t_floor_way a_t_floor_tell a_t_floor_look a_t_floor_farSquare a_t_sightings a_t_sightings_weaver a_t_sightings_second a_t_sightings_knew a_t_lexicon a_t_lexicon_others a_t_lexicon_length a_t_lexicon_number a_t_lexicon_weight a_t_lexicon_leastLike a_t_lexicon_row a_t_lexicon_lipsOf a_t_level a_t_loss a_p1 a_p1_floor a_p1_floor_place a_p1_floor_way a_p1_floor_tell a_p1_floor_look a_p1_floor_farSquare a_p1_sightings a_p1_sightings_weaver a_p1_sightings_second a_p1_sightings_knew a_p1_lexicon a_p1_lexicon_others a_p1_lexicon_length a_p1_lexicon_number a_p1_lexicon_weight a_p1_lexicon_leastLike a_p1_lexicon_row a_p1_lexicon_lipsOf a_p1_level a_p1_loss ures.1 t_isKept ures.2.1 ures.2.2.1 ures.2.2.2.1 ures.2.2.2.2.1 ures.2.2.2.2.2.1 ures.2.2.2.2.2.2.1 ures.2.2.2.2.2.2.2.1 ures.2.2.2.2.2.2.2.2.1 ures.2.2.2.2.2.2.2.2.2.1 ures.2.2.2.2.2.2.2.2.2.2.1 ures.2.2.2.2.2.2.2.2.2.2.2.1 ures.2.2.2.2.2.2.2.2.2.2.2.2.1 ures.2.2.2.2.2.2.2.2.2.2.2.2.2.1 ures.2.2.2.2.2.2.2.2.2.2.2.2.2.2.1 ures.2.2.2.2.2.2.2.2.2.2.2.2.2.2.2.1 ures.2.2.2.2.2.2.2.2.2.2.2.2.2.2.2.2.1 ures.2.2.2.2.2.2.2.2.2.2.2.2.2.2.2.2.2.1 ures.2.2.2.2.2.2.2.2.2.2.2.2.2.2.2.2.2.2.1 ures.2.2.2.2.2.2.2.2.2.2.2.2.2.2.2.2.2.2.2.1 ures.2.2.2.2.2.2.2.2.2.2.2.2.2.2.2.2.2.2.2.2.1 ures.2.2.2.2.2.2.2.2.2.2.2.2.2.2.2.2.2.2.2.2.2.1 ures.2.2.2.2.2.2.2.2.2.2.2.2.2.2.2.2.2.2.2.2.2.2 p1_clearness p1_isKept p1_floor_pillars p1_floor_weavers p1_floor_place p1_floor_way p1_floor_tell p1_floor_look p1_floor_farSquare p1_sightings_many p1_sightings_weaver p1_sightings_second p1_sightings_knew p1_lexicon_words p1_lexicon_rowLips p1_lexicon_girlKnows p1_lexicon_length p1_lexicon_number p1_lexicon_weight p1_lexicon_leastLike p1_lexicon_row p1_lexicon_lipsOf p1_level p1_loss) sz [.ref a_t, .ref a_p1] none := by
  refine m_ofV (by decide) (Nat.le_of_ble_eq_true rfl) ?_
  intro p e s m args below meth c A Q ls X hW hA hl hret
  obtain ⟨hx, hb, -, hown, hts, hK, -, hG⟩ := id X
  have hl : lv_has ls 2 [(0, .ref a_t), (1, .ref a_p1)] := hl
  unfold F_Shed_copyFrom at hF
  refine lv_aload_n hx hb dX7_copyFrom_0 rfl (lv_at hl 0 rfl) ?_
  refine m_get X hW fdX7_10 0 rfl rfl dX7_copyFrom_1 ?_
  refine lv_aload_n hx hb dX7_copyFrom_4 rfl (lv_at hl 1 rfl) ?_
  refine m_get X hW fdX7_10 20 rfl rfl dX7_copyFrom_5 ?_
  obtain ⟨t_floor_pillars'_2, t_floor_weavers'_2, t_floor_place'_2, t_floor_way'_2, t_floor_tell'_2, t_floor_look'_2, t_floor_farSquare'_2, hC1, hF⟩ := bO_s7 hF
  refine m_callV X hW hA hl.1 lkX7_41 (c_Floor_copyFrom l E _ N a_t_floor a_t_floor_place a_t_floor_way a_t_floor_tell a_t_floor_look a_t_floor_farSquare a_p1_floor a_p1_floor_place a_p1_floor_way a_p1_floor_tell a_p1_floor_look a_p1_floor_farSquare t_floor_pillars t_floor_weavers t_floor_place t_floor_way t_floor_tell t_floor_look t_floor_farSquare p1_floor_pillars p1_floor_weavers p1_floor_place p1_floor_way p1_floor_tell p1_floor_look p1_floor_farSquare  (t_floor_pillars'_2, t_floor_weavers'_2, t_floor_place'_2, t_floor_way'_2, t_floor_tell'_2, t_floor_look'_2, t_floor_farSquare'_2) hC1) ([1, 2, 3, 4, 5, 6, 21, 22, 23, 24, 25, 26]) (by decide) rfl rfl (ws' := (wd_Shed_copyFrom E a_t a_t_floor a_t_floor_place a_t_floor_way a_t_floor_tell a_t_floor_look a_t_floor_farSquare a_t_sightings a_t_sightings_weaver a_t_sightings_second a_t_sightings_knew a_t_lexicon a_t_lexicon_others a_t_lexicon_length a_t_lexicon_number a_t_lexicon_weight a_t_lexicon_leastLike a_t_lexicon_row a_t_lexicon_lipsOf a_t_level a_t_loss a_p1 a_p1_floor a_p1_floor_place a_p1_floor_way a_p1_floor_tell a_p1_floor_look a_p1_floor_farSquare a_p1_sightings a_p1_sightings_weaver a_p1_sightings_second a_p1_sightings_knew a_p1_lexicon a_p1_lexicon_others a_p1_lexicon_length a_p1_lexicon_number a_p1_lexicon_weight a_p1_lexicon_leastLike a_p1_lexicon_row a_p1_lexicon_lipsOf a_p1_level a_p1_loss t_clearness t_isKept t_floor_pillars'_2 t_floor_weavers'_2 t_floor_place'_2 t_floor_way'_2 t_floor_tell'_2 t_floor_look'_2 t_floor_farSquare'_2 t_sightings_many t_sightings_weaver t_sightings_second t_sightings_knew t_lexicon_words t_lexicon_rowLips t_lexicon_girlKnows t_lexicon_length t_lexicon_number t_lexicon_weight t_lexicon_leastLike t_lexicon_row t_lexicon_lipsOf t_level t_loss p1_clearness p1_isKept p1_floor_pillars p1_floor_weavers p1_floor_place p1_floor_way p1_floor_tell p1_floor_look p1_floor_farSquare p1_sightings_many p1_sightings_weaver p1_sightings_second p1_sightings_knew p1_lexicon_words p1_lexicon_rowLips p1_lexicon_girlKnows p1_lexicon_length p1_lexicon_number p1_lexicon_weight p1_lexicon_leastLike p1_lexicon_row p1_lexicon_lipsOf p1_level p1_loss)) (m_putS [none, some 0, some 1, some 2, some 3, some 4, some 5, none, none, none, none, none, none, none, none, none, none, none, none, none, none, some 6, some 7, some 8, some 9, some 10, some 11, none, none, none, none, none, none, none, none, none, none, none, none, none] (by decide +kernel) (by rfl) (by decide +kernel) (by rfl) (by rfl)) 1 rfl rfl rfl (As := [.ref a_p1_floor]) (rest := []) rfl rfl ⟨rfl, rfl, Nat.le_of_ble_eq_true rfl, Nat.le_of_ble_eq_true rfl⟩ (Nat.le_of_ble_eq_true rfl) (Nat.zero_le _) (Nat.zero_le _) dX7_copyFrom_8 (fun H locs hW => ?_)
  clear hC1
  refine lv_aload_n hx hb dX7_copyFrom_11 rfl (lv_at hl 0 rfl) ?_
  refine m_get X hW fdX7_19 0 rfl rfl dX7_copyFrom_12 ?_
  refine lv_aload_n hx hb dX7_copyFrom_15 rfl (lv_at hl 1 rfl) ?_
  refine m_get X hW fdX7_19 20 rfl rfl dX7_copyFrom_16 ?_
  obtain ⟨t_sightings_many'_2, t_sightings_weaver'_2, t_sightings_second'_2, t_sightings_knew'_2, hC2, hF⟩ := bO_s4 hF
  refine m_callV X hW hA hl.1 lkX7_45 (c_Sightings_copyFrom l E _ N a_t_sightings a_t_sightings_weaver a_t_sightings_second a_t_sightings_knew a_p1_sightings a_p1_sightings_weaver a_p1_sightings_second a_p1_sightings_knew t_sightings_many t_sightings_weaver t_sightings_second t_sightings_knew p1_sightings_many p1_sightings_weaver p1_sightings_second p1_sightings_knew  (t_sightings_many'_2, t_sightings_weaver'_2, t_sightings_second'_2, t_sightings_knew'_2) hC2) ([7, 8, 9, 10, 27, 28, 29, 30]) (by decide) rfl rfl (ws' := (wd_Shed_copyFrom E a_t a_t_floor a_t_floor_place a_t_floor_way a_t_floor_tell a_t_floor_look a_t_floor_farSquare a_t_sightings a_t_sightings_weaver a_t_sightings_second a_t_sightings_knew a_t_lexicon a_t_lexicon_others a_t_lexicon_length a_t_lexicon_number a_t_lexicon_weight a_t_lexicon_leastLike a_t_lexicon_row a_t_lexicon_lipsOf a_t_level a_t_loss a_p1 a_p1_floor a_p1_floor_place a_p1_floor_way a_p1_floor_tell a_p1_floor_look a_p1_floor_farSquare a_p1_sightings a_p1_sightings_weaver a_p1_sightings_second a_p1_sightings_knew a_p1_lexicon a_p1_lexicon_others a_p1_lexicon_length a_p1_lexicon_number a_p1_lexicon_weight a_p1_lexicon_leastLike a_p1_lexicon_row a_p1_lexicon_lipsOf a_p1_level a_p1_loss t_clearness t_isKept t_floor_pillars'_2 t_floor_weavers'_2 t_floor_place'_2 t_floor_way'_2 t_floor_tell'_2 t_floor_look'_2 t_floor_farSquare'_2 t_sightings_many'_2 t_sightings_weaver'_2 t_sightings_second'_2 t_sightings_knew'_2 t_lexicon_words t_lexicon_rowLips t_lexicon_girlKnows t_lexicon_length t_lexicon_number t_lexicon_weight t_lexicon_leastLike t_lexicon_row t_lexicon_lipsOf t_level t_loss p1_clearness p1_isKept p1_floor_pillars p1_floor_weavers p1_floor_place p1_floor_way p1_floor_tell p1_floor_look p1_floor_farSquare p1_sightings_many p1_sightings_weaver p1_sightings_second p1_sightings_knew p1_lexicon_words p1_lexicon_rowLips p1_lexicon_girlKnows p1_lexicon_length p1_lexicon_number p1_lexicon_weight p1_lexicon_leastLike p1_lexicon_row p1_lexicon_lipsOf p1_level p1_loss)) rfl 7 rfl rfl rfl (As := [.ref a_p1_sightings]) (rest := []) rfl rfl ⟨rfl, rfl, Nat.le_of_ble_eq_true rfl, Nat.le_of_ble_eq_true rfl⟩ (Nat.le_of_ble_eq_true rfl) (Nat.zero_le _) (Nat.zero_le _) dX7_copyFrom_19 (fun H locs hW => ?_)
  clear hC2
  refine lv_aload_n hx hb dX7_copyFrom_22 rfl (lv_at hl 0 rfl) ?_
  refine m_get X hW fdX7_26 0 rfl rfl dX7_copyFrom_23 ?_
  refine lv_aload_n hx hb dX7_copyFrom_26 rfl (lv_at hl 1 rfl) ?_
  refine m_get X hW fdX7_26 20 rfl rfl dX7_copyFrom_27 ?_
  obtain ⟨t_lexicon_words'_2, t_lexicon_rowLips'_2, t_lexicon_girlKnows'_2, t_lexicon_length'_2, t_lexicon_number'_2, t_lexicon_weight'_2, t_lexicon_leastLike'_2, t_lexicon_row'_2, t_lexicon_lipsOf'_2, hC3, hF⟩ := bO_s9 hF
  refine m_callV X hW hA hl.1 lkX7_48 (c_Lexicon_copyFrom l E _ N a_t_lexicon a_t_lexicon_others a_t_lexicon_length a_t_lexicon_number a_t_lexicon_weight a_t_lexicon_leastLike a_t_lexicon_row a_t_lexicon_lipsOf a_p1_lexicon a_p1_lexicon_others a_p1_lexicon_length a_p1_lexicon_number a_p1_lexicon_weight a_p1_lexicon_leastLike a_p1_lexicon_row a_p1_lexicon_lipsOf t_lexicon_words t_lexicon_rowLips t_lexicon_girlKnows t_lexicon_length t_lexicon_number t_lexicon_weight t_lexicon_leastLike t_lexicon_row t_lexicon_lipsOf p1_lexicon_words p1_lexicon_rowLips p1_lexicon_girlKnows p1_lexicon_length p1_lexicon_number p1_lexicon_weight p1_lexicon_leastLike p1_lexicon_row p1_lexicon_lipsOf  (t_lexicon_words'_2, t_lexicon_rowLips'_2, t_lexicon_girlKnows'_2, t_lexicon_length'_2, t_lexicon_number'_2, t_lexicon_weight'_2, t_lexicon_leastLike'_2, t_lexicon_row'_2, t_lexicon_lipsOf'_2) hC3) ([11, 12, 13, 14, 15, 16, 17, 31, 32, 33, 34, 35, 36, 37]) (by decide +kernel) rfl rfl (ws' := (wd_Shed_copyFrom E a_t a_t_floor a_t_floor_place a_t_floor_way a_t_floor_tell a_t_floor_look a_t_floor_farSquare a_t_sightings a_t_sightings_weaver a_t_sightings_second a_t_sightings_knew a_t_lexicon a_t_lexicon_others a_t_lexicon_length a_t_lexicon_number a_t_lexicon_weight a_t_lexicon_leastLike a_t_lexicon_row a_t_lexicon_lipsOf a_t_level a_t_loss a_p1 a_p1_floor a_p1_floor_place a_p1_floor_way a_p1_floor_tell a_p1_floor_look a_p1_floor_farSquare a_p1_sightings a_p1_sightings_weaver a_p1_sightings_second a_p1_sightings_knew a_p1_lexicon a_p1_lexicon_others a_p1_lexicon_length a_p1_lexicon_number a_p1_lexicon_weight a_p1_lexicon_leastLike a_p1_lexicon_row a_p1_lexicon_lipsOf a_p1_level a_p1_loss t_clearness t_isKept t_floor_pillars'_2 t_floor_weavers'_2 t_floor_place'_2 t_floor_way'_2 t_floor_tell'_2 t_floor_look'_2 t_floor_farSquare'_2 t_sightings_many'_2 t_sightings_weaver'_2 t_sightings_second'_2 t_sightings_knew'_2 t_lexicon_words'_2 t_lexicon_rowLips'_2 t_lexicon_girlKnows'_2 t_lexicon_length'_2 t_lexicon_number'_2 t_lexicon_weight'_2 t_lexicon_leastLike'_2 t_lexicon_row'_2 t_lexicon_lipsOf'_2 t_level t_loss p1_clearness p1_isKept p1_floor_pillars p1_floor_weavers p1_floor_place p1_floor_way p1_floor_tell p1_floor_look p1_floor_farSquare p1_sightings_many p1_sightings_weaver p1_sightings_second p1_sightings_knew p1_lexicon_words p1_lexicon_rowLips p1_lexicon_girlKnows p1_lexicon_length p1_lexicon_number p1_lexicon_weight p1_lexicon_leastLike p1_lexicon_row p1_lexicon_lipsOf p1_level p1_loss)) (m_putS [none, none, none, none, none, none, none, none, none, none, none, some 0, some 1, some 2, some 3, some 4, some 5, some 6, none, none, none, none, none, none, none, none, none, none, none, none, none, some 7, some 8, some 9, some 10, some 11, some 12, some 13, none, none] (by decide +kernel) (by rfl) (by decide +kernel) (by rfl) (by rfl)) 11 rfl rfl rfl (As := [.ref a_p1_lexicon]) (rest := []) rfl rfl ⟨rfl, rfl, Nat.le_of_ble_eq_true rfl, Nat.le_of_ble_eq_true rfl⟩ (Nat.le_of_ble_eq_true rfl) (Nat.zero_le _) (Nat.zero_le _) dX7_copyFrom_30 (fun H locs hW => ?_)
  clear hC3
  refine lv_aload_n hx hb dX7_copyFrom_33 rfl (lv_at hl 1 rfl) ?_
  refine m_get X hW fdX7_30 20 rfl rfl dX7_copyFrom_34 ?_
  refine lv_iconst (v := (0 : Int32)) hx hb dX7_copyFrom_37 (by decide) ?_
  refine lv_aload_n hx hb dX7_copyFrom_38 rfl (lv_at hl 0 rfl) ?_
  refine m_get X hW fdX7_30 0 rfl rfl dX7_copyFrom_39 ?_
  refine lv_iconst (v := (0 : Int32)) hx hb dX7_copyFrom_42 (by decide) ?_
  refine lv_bipush (v := (6 : Int32)) hx hb dX7_copyFrom_43 (by decide) ?_
  refine m_copyi X hW hl.1 wk_1007 wk_734 wk_733 wk_16 38 18 rfl rfl (by decide) rfl rfl rfl (Nat.le_of_ble_eq_true rfl) (Nat.le_of_ble_eq_true rfl) dX7_copyFrom_45 (ws' := (wd_Shed_copyFrom E a_t a_t_floor a_t_floor_place a_t_floor_way a_t_floor_tell a_t_floor_look a_t_floor_farSquare a_t_sightings a_t_sightings_weaver a_t_sightings_second a_t_sightings_knew a_t_lexicon a_t_lexicon_others a_t_lexicon_length a_t_lexicon_number a_t_lexicon_weight a_t_lexicon_leastLike a_t_lexicon_row a_t_lexicon_lipsOf a_t_level a_t_loss a_p1 a_p1_floor a_p1_floor_place a_p1_floor_way a_p1_floor_tell a_p1_floor_look a_p1_floor_farSquare a_p1_sightings a_p1_sightings_weaver a_p1_sightings_second a_p1_sightings_knew a_p1_lexicon a_p1_lexicon_others a_p1_lexicon_length a_p1_lexicon_number a_p1_lexicon_weight a_p1_lexicon_leastLike a_p1_lexicon_row a_p1_lexicon_lipsOf a_p1_level a_p1_loss t_clearness t_isKept t_floor_pillars'_2 t_floor_weavers'_2 t_floor_place'_2 t_floor_way'_2 t_floor_tell'_2 t_floor_look'_2 t_floor_farSquare'_2 t_sightings_many'_2 t_sightings_weaver'_2 t_sightings_second'_2 t_sightings_knew'_2 t_lexicon_words'_2 t_lexicon_rowLips'_2 t_lexicon_girlKnows'_2 t_lexicon_length'_2 t_lexicon_number'_2 t_lexicon_weight'_2 t_lexicon_leastLike'_2 t_lexicon_row'_2 t_lexicon_lipsOf'_2 (va_cpy p1_level t_level 0 0 6) t_loss p1_clearness p1_isKept p1_floor_pillars p1_floor_weavers p1_floor_place p1_floor_way p1_floor_tell p1_floor_look p1_floor_farSquare p1_sightings_many p1_sightings_weaver p1_sightings_second p1_sightings_knew p1_lexicon_words p1_lexicon_rowLips p1_lexicon_girlKnows p1_lexicon_length p1_lexicon_number p1_lexicon_weight p1_lexicon_leastLike p1_lexicon_row p1_lexicon_lipsOf p1_level p1_loss)) (ksp := 0) (kdp := 0) (kn := 6) rfl (fun H locs hW => ?_)
  refine lv_aload_n hx hb dX7_copyFrom_48 rfl (lv_at hl 1 rfl) ?_
  refine m_get X hW fdX7_34 20 rfl rfl dX7_copyFrom_49 ?_
  refine lv_iconst (v := (0 : Int32)) hx hb dX7_copyFrom_52 (by decide) ?_
  refine lv_aload_n hx hb dX7_copyFrom_53 rfl (lv_at hl 0 rfl) ?_
  refine m_get X hW fdX7_34 0 rfl rfl dX7_copyFrom_54 ?_
  refine lv_iconst (v := (0 : Int32)) hx hb dX7_copyFrom_57 (by decide) ?_
  refine lv_bipush (v := (6 : Int32)) hx hb dX7_copyFrom_58 (by decide) ?_
  refine m_copyi X hW hl.1 wk_1007 wk_734 wk_733 wk_16 39 19 rfl rfl (by decide) rfl rfl rfl (Nat.le_of_ble_eq_true rfl) (Nat.le_of_ble_eq_true rfl) dX7_copyFrom_60 (ws' := (wd_Shed_copyFrom E a_t a_t_floor a_t_floor_place a_t_floor_way a_t_floor_tell a_t_floor_look a_t_floor_farSquare a_t_sightings a_t_sightings_weaver a_t_sightings_second a_t_sightings_knew a_t_lexicon a_t_lexicon_others a_t_lexicon_length a_t_lexicon_number a_t_lexicon_weight a_t_lexicon_leastLike a_t_lexicon_row a_t_lexicon_lipsOf a_t_level a_t_loss a_p1 a_p1_floor a_p1_floor_place a_p1_floor_way a_p1_floor_tell a_p1_floor_look a_p1_floor_farSquare a_p1_sightings a_p1_sightings_weaver a_p1_sightings_second a_p1_sightings_knew a_p1_lexicon a_p1_lexicon_others a_p1_lexicon_length a_p1_lexicon_number a_p1_lexicon_weight a_p1_lexicon_leastLike a_p1_lexicon_row a_p1_lexicon_lipsOf a_p1_level a_p1_loss t_clearness t_isKept t_floor_pillars'_2 t_floor_weavers'_2 t_floor_place'_2 t_floor_way'_2 t_floor_tell'_2 t_floor_look'_2 t_floor_farSquare'_2 t_sightings_many'_2 t_sightings_weaver'_2 t_sightings_second'_2 t_sightings_knew'_2 t_lexicon_words'_2 t_lexicon_rowLips'_2 t_lexicon_girlKnows'_2 t_lexicon_length'_2 t_lexicon_number'_2 t_lexicon_weight'_2 t_lexicon_leastLike'_2 t_lexicon_row'_2 t_lexicon_lipsOf'_2 (va_cpy p1_level t_level 0 0 6) (va_cpy p1_loss t_loss 0 0 6) p1_clearness p1_isKept p1_floor_pillars p1_floor_weavers p1_floor_place p1_floor_way p1_floor_tell p1_floor_look p1_floor_farSquare p1_sightings_many p1_sightings_weaver p1_sightings_second p1_sightings_knew p1_lexicon_words p1_lexicon_rowLips p1_lexicon_girlKnows p1_lexicon_length p1_lexicon_number p1_lexicon_weight p1_lexicon_leastLike p1_lexicon_row p1_lexicon_lipsOf p1_level p1_loss)) (ksp := 0) (kdp := 0) (kn := 6) rfl (fun H locs hW => ?_)
  refine lv_aload_n hx hb dX7_copyFrom_63 rfl (lv_at hl 0 rfl) ?_
  refine lv_aload_n hx hb dX7_copyFrom_64 rfl (lv_at hl 1 rfl) ?_
  refine m_get X hW fdX7_37 20 rfl rfl dX7_copyFrom_65 ?_
  refine m_putf X hW fdX7_37 0 rfl (Nat.le_of_ble_eq_true rfl) rfl rfl dX7_copyFrom_68 (ws' := (wd_Shed_copyFrom E a_t a_t_floor a_t_floor_place a_t_floor_way a_t_floor_tell a_t_floor_look a_t_floor_farSquare a_t_sightings a_t_sightings_weaver a_t_sightings_second a_t_sightings_knew a_t_lexicon a_t_lexicon_others a_t_lexicon_length a_t_lexicon_number a_t_lexicon_weight a_t_lexicon_leastLike a_t_lexicon_row a_t_lexicon_lipsOf a_t_level a_t_loss a_p1 a_p1_floor a_p1_floor_place a_p1_floor_way a_p1_floor_tell a_p1_floor_look a_p1_floor_farSquare a_p1_sightings a_p1_sightings_weaver a_p1_sightings_second a_p1_sightings_knew a_p1_lexicon a_p1_lexicon_others a_p1_lexicon_length a_p1_lexicon_number a_p1_lexicon_weight a_p1_lexicon_leastLike a_p1_lexicon_row a_p1_lexicon_lipsOf a_p1_level a_p1_loss p1_clearness t_isKept t_floor_pillars'_2 t_floor_weavers'_2 t_floor_place'_2 t_floor_way'_2 t_floor_tell'_2 t_floor_look'_2 t_floor_farSquare'_2 t_sightings_many'_2 t_sightings_weaver'_2 t_sightings_second'_2 t_sightings_knew'_2 t_lexicon_words'_2 t_lexicon_rowLips'_2 t_lexicon_girlKnows'_2 t_lexicon_length'_2 t_lexicon_number'_2 t_lexicon_weight'_2 t_lexicon_leastLike'_2 t_lexicon_row'_2 t_lexicon_lipsOf'_2 (va_cpy p1_level t_level 0 0 6) (va_cpy p1_loss t_loss 0 0 6) p1_clearness p1_isKept p1_floor_pillars p1_floor_weavers p1_floor_place p1_floor_way p1_floor_tell p1_floor_look p1_floor_farSquare p1_sightings_many p1_sightings_weaver p1_sightings_second p1_sightings_knew p1_lexicon_words p1_lexicon_rowLips p1_lexicon_girlKnows p1_lexicon_length p1_lexicon_number p1_lexicon_weight p1_lexicon_leastLike p1_lexicon_row p1_lexicon_lipsOf p1_level p1_loss)) rfl (fun H locs hW => ?_)
  have hq := Option.some.inj hF
  subst hq
  exact hret _ _ _ _ hW dX7_copyFrom_71
abbrev wd_Shed_beginAnew (E : m_E) (a_t : Nat) (a_t_level : Nat) (a_t_loss : Nat) (a_t_floor : Nat) (a_t_floor_place : Nat) (a_t_floor_way : Nat) (a_t_floor_tell : Nat) (a_t_floor_look : Nat) (a_t_floor_farSquare : Nat) (a_t_sightings : Nat) (a_t_sightings_weaver : Nat) (a_t_sightings_second : Nat) (a_t_sightings_knew : Nat) (a_t_lexicon : Nat) (a_t_lexicon_length : Nat) (a_t_lexicon_number : Nat) (a_t_lexicon_weight : Nat) (a_t_lexicon_row : Nat) (a_t_lexicon_lipsOf : Nat) (a_t_lexicon_others : Nat) (a_t_lexicon_leastLike : Nat) (t_clearness : Int32) (t_isKept : Int32) (t_floor_pillars : Int64) (t_floor_weavers : Int32) (t_floor_farSquare : Nat → Int32) (t_sightings_many : Int32) (t_lexicon_words : Int32) (t_lexicon_rowLips : Int32) (t_lexicon_girlKnows : Int32) (t_lexicon_leastLike : Nat → Int32) : va_W := [(a_t, .inr (7, [.ref a_t_floor, .ref a_t_sightings, .ref a_t_lexicon, .ref a_t_level, .ref a_t_loss, .int t_clearness, .int t_isKept])), (a_t_floor, .inr (1, [.long t_floor_pillars, .int t_floor_weavers, .ref a_t_floor_place, .ref a_t_floor_way, .ref a_t_floor_tell, .ref a_t_floor_look, .ref a_t_floor_farSquare])), (a_t_floor_farSquare, .inl (E.2.1 0, 2, .inl t_floor_farSquare)), (a_t_sightings, .inr (8, [.int t_sightings_many, .ref a_t_sightings_weaver, .ref a_t_sightings_second, .ref a_t_sightings_knew])), (a_t_lexicon, .inr (3, [.int t_lexicon_words, .ref a_t_lexicon_length, .ref a_t_lexicon_number, .ref a_t_lexicon_weight, .ref a_t_lexicon_leastLike, .ref a_t_lexicon_row, .int t_lexicon_rowLips, .int t_lexicon_girlKnows, .ref a_t_lexicon_lipsOf, .ref a_t_lexicon_others])), (a_t_lexicon_leastLike, .inl (E.2.1 0, 6, .inl t_lexicon_leastLike))]
def rm_Shed_beginAnew : Room := { frames := 1, cells := 0, slots := 0, locals := 21 }
set_option maxHeartbeats 4000000 in
set_option maxRecDepth 100000 in
theorem c_Shed_beginAnew (l : Launch) (E : m_E) (sz N : Nat) (a_t : Nat) (a_t_level : Nat) (a_t_loss : Nat) (a_t_floor : Nat) (a_t_floor_place : Nat) (a_t_floor_way : Nat) (a_t_floor_tell : Nat) (a_t_floor_look : Nat) (a_t_floor_farSquare : Nat) (a_t_sightings : Nat) (a_t_sightings_weaver : Nat) (a_t_sightings_second : Nat) (a_t_sightings_knew : Nat) (a_t_lexicon : Nat) (a_t_lexicon_length : Nat) (a_t_lexicon_number : Nat) (a_t_lexicon_weight : Nat) (a_t_lexicon_row : Nat) (a_t_lexicon_lipsOf : Nat) (a_t_lexicon_others : Nat) (a_t_lexicon_leastLike : Nat) (t_clearness : Int32) (t_isKept : Int32) (t_floor_pillars : Int64) (t_floor_weavers : Int32) (t_floor_farSquare : Nat → Int32) (t_sightings_many : Int32) (t_lexicon_words : Int32) (t_lexicon_rowLips : Int32) (t_lexicon_girlKnows : Int32) (t_lexicon_leastLike : Nat → Int32)  (ures : Int64 × Int32 × (Nat → Int32) × Int32 × Int32 × Int32 × Int32 × (Nat → Int32)) (hF : F_Shed_beginAnew N t_floor_farSquare t_lexicon_leastLike = some ures) : m_Met l yX7_beginAnew cX7_beginAnew 1 none rm_Shed_beginAnew E (wd_Shed_beginAnew E a_t a_t_level a_t_loss a_t_floor a_t_floor_place a_t_floor_way a_t_floor_tell a_t_floor_look a_t_floor_farSquare a_t_sightings a_t_sightings_weaver a_t_sightings_second a_t_sightings_knew a_t_lexicon a_t_lexicon_length a_t_lexicon_number a_t_lexicon_weight a_t_lexicon_row a_t_lexicon_lipsOf a_t_lexicon_others a_t_lexicon_leastLike t_clearness t_isKept t_floor_pillars t_floor_weavers t_floor_farSquare t_sightings_many t_lexicon_words t_lexicon_rowLips t_lexicon_girlKnows t_lexicon_leastLike) (wd_Shed_beginAnew E a_t a_t_level a_t_loss a_t_floor a_t_floor_place a_t_floor_way a_t_floor_tell a_t_floor_look a_t_floor_farSquare a_t_sightings a_t_sightings_weaver a_t_sightings_second a_t_sightings_knew a_t_lexicon a_t_lexicon_length a_t_lexicon_number a_t_lexicon_weight a_t_lexicon_row a_t_lexicon_lipsOf a_t_lexicon_others a_t_lexicon_leastLike t_clearness t_isKept ures.1 ures.2.1 ures.2.2.1 ures.2.2.2.1 ures.2.2.2.2.1 ures.2.2.2.2.2.1 ures.2.2.2.2.2.2.1 ures.2.2.2.2.2.2.2) sz [.ref a_t] none := by
  refine m_ofV (by decide) (Nat.le_of_ble_eq_true rfl) ?_
  intro p e s m args below meth c A Q ls X hW hA hl hret
  obtain ⟨hx, hb, -, hown, hts, hK, -, hG⟩ := id X
  have hl : lv_has ls 1 [(0, .ref a_t)] := hl
  unfold F_Shed_beginAnew at hF
  refine lv_aload_n hx hb dX7_beginAnew_0 rfl (lv_at hl 0 rfl) ?_
  refine m_get X hW fdX7_10 0 rfl rfl dX7_beginAnew_1 ?_
  obtain ⟨t_floor_pillars'_2, t_floor_weavers'_2, t_floor_farSquare'_2, hC1, hF⟩ := bO_s3 hF
  refine m_callV X hW hA hl.1 lkX7_57 (c_Floor_makeEmpty l E _ N a_t_floor a_t_floor_place a_t_floor_way a_t_floor_tell a_t_floor_look a_t_floor_farSquare t_floor_pillars t_floor_weavers t_floor_farSquare  (t_floor_pillars'_2, t_floor_weavers'_2, t_floor_farSquare'_2) hC1) ([1, 2]) (by decide) rfl rfl (ws' := (wd_Shed_beginAnew E a_t a_t_level a_t_loss a_t_floor a_t_floor_place a_t_floor_way a_t_floor_tell a_t_floor_look a_t_floor_farSquare a_t_sightings a_t_sightings_weaver a_t_sightings_second a_t_sightings_knew a_t_lexicon a_t_lexicon_length a_t_lexicon_number a_t_lexicon_weight a_t_lexicon_row a_t_lexicon_lipsOf a_t_lexicon_others a_t_lexicon_leastLike t_clearness t_isKept t_floor_pillars'_2 t_floor_weavers'_2 t_floor_farSquare'_2 t_sightings_many t_lexicon_words t_lexicon_rowLips t_lexicon_girlKnows t_lexicon_leastLike)) rfl 1 rfl rfl rfl (As := []) (rest := []) rfl rfl ⟨rfl, rfl, Nat.le_of_ble_eq_true rfl, Nat.le_of_ble_eq_true rfl⟩ (Nat.le_of_ble_eq_true rfl) (Nat.zero_le _) (Nat.zero_le _) dX7_beginAnew_4 (fun H locs hW => ?_)
  clear hC1
  refine lv_aload_n hx hb dX7_beginAnew_7 rfl (lv_at hl 0 rfl) ?_
  refine m_get X hW fdX7_19 0 rfl rfl dX7_beginAnew_8 ?_
  refine lv_iconst (v := (0 : Int32)) hx hb dX7_beginAnew_11 (by decide) ?_
  refine m_putf X hW fdX7_60 3 rfl (Nat.le_of_ble_eq_true rfl) rfl rfl dX7_beginAnew_12 (ws' := (wd_Shed_beginAnew E a_t a_t_level a_t_loss a_t_floor a_t_floor_place a_t_floor_way a_t_floor_tell a_t_floor_look a_t_floor_farSquare a_t_sightings a_t_sightings_weaver a_t_sightings_second a_t_sightings_knew a_t_lexicon a_t_lexicon_length a_t_lexicon_number a_t_lexicon_weight a_t_lexicon_row a_t_lexicon_lipsOf a_t_lexicon_others a_t_lexicon_leastLike t_clearness t_isKept t_floor_pillars'_2 t_floor_weavers'_2 t_floor_farSquare'_2 (0 : Int32) t_lexicon_words t_lexicon_rowLips t_lexicon_girlKnows t_lexicon_leastLike)) rfl (fun H locs hW => ?_)
  refine lv_aload_n hx hb dX7_beginAnew_15 rfl (lv_at hl 0 rfl) ?_
  refine m_get X hW fdX7_26 0 rfl rfl dX7_beginAnew_16 ?_
  obtain ⟨t_lexicon_words'_2, t_lexicon_rowLips'_2, t_lexicon_girlKnows'_2, t_lexicon_leastLike'_2, hC2, hF⟩ := bO_s4 hF
  refine m_callV X hW hA hl.1 lkX7_63 (c_Lexicon_makeEmpty l E _ N a_t_lexicon a_t_lexicon_length a_t_lexicon_number a_t_lexicon_weight a_t_lexicon_row a_t_lexicon_lipsOf a_t_lexicon_others a_t_lexicon_leastLike t_lexicon_words t_lexicon_rowLips t_lexicon_girlKnows t_lexicon_leastLike  (t_lexicon_words'_2, t_lexicon_rowLips'_2, t_lexicon_girlKnows'_2, t_lexicon_leastLike'_2) hC2) ([4, 5]) (by decide) rfl rfl (ws' := (wd_Shed_beginAnew E a_t a_t_level a_t_loss a_t_floor a_t_floor_place a_t_floor_way a_t_floor_tell a_t_floor_look a_t_floor_farSquare a_t_sightings a_t_sightings_weaver a_t_sightings_second a_t_sightings_knew a_t_lexicon a_t_lexicon_length a_t_lexicon_number a_t_lexicon_weight a_t_lexicon_row a_t_lexicon_lipsOf a_t_lexicon_others a_t_lexicon_leastLike t_clearness t_isKept t_floor_pillars'_2 t_floor_weavers'_2 t_floor_farSquare'_2 (0 : Int32) t_lexicon_words'_2 t_lexicon_rowLips'_2 t_lexicon_girlKnows'_2 t_lexicon_leastLike'_2)) rfl 4 rfl rfl rfl (As := []) (rest := []) rfl rfl ⟨rfl, rfl, Nat.le_of_ble_eq_true rfl, Nat.le_of_ble_eq_true rfl⟩ (Nat.le_of_ble_eq_true rfl) (Nat.zero_le _) (Nat.zero_le _) dX7_beginAnew_19 (fun H locs hW => ?_)
  clear hC2
  have hq := Option.some.inj hF
  subst hq
  exact hret _ _ _ _ hW dX7_beginAnew_22
abbrev wd_Text_tellWord (E : m_E) (a_p1 : Nat) (a_p3 : Nat) (a_p3_leastLike : Nat) (a_p3_row : Nat) (a_p3_others : Nat) (a_p3_length : Nat) (a_p3_number : Nat) (a_p3_weight : Nat) (a_p3_lipsOf : Nat) (p1_len : Nat) (p1 : Nat → Int32) (p3_words : Int32) (p3_rowLips : Int32) (p3_girlKnows : Int32) (p3_length : Nat → Int32) (p3_number : Nat → Int32) (p3_weight : Nat → Int32) (p3_lipsOf : Nat → Int32) : va_W := [(a_p1, .inl (E.2.1 0, p1_len, .inl p1)), (a_p3, .inr (3, [.int p3_words, .ref a_p3_length, .ref a_p3_number, .ref a_p3_weight, .ref a_p3_leastLike, .ref a_p3_row, .int p3_rowLips, .int p3_girlKnows, .ref a_p3_lipsOf, .ref a_p3_others])), (a_p3_length, .inl (E.2.1 0, 10, .inl p3_length)), (a_p3_number, .inl (E.2.1 0, 10, .inl p3_number)), (a_p3_weight, .inl (E.2.1 0, 10, .inl p3_weight)), (a_p3_lipsOf, .inl (E.2.1 0, 60, .inl p3_lipsOf))]
def rm_Text_tellWord : Room := { frames := 2, cells := 0, slots := 0, locals := 47 }
set_option maxHeartbeats 4000000 in
set_option maxRecDepth 100000 in
theorem c_Text_tellWord (l : Launch) (E : m_E) (sz N : Nat) (a_p1 : Nat) (a_p3 : Nat) (a_p3_leastLike : Nat) (a_p3_row : Nat) (a_p3_others : Nat) (a_p3_length : Nat) (a_p3_number : Nat) (a_p3_weight : Nat) (a_p3_lipsOf : Nat) (p1_len : Nat) (p1 : Nat → Int32) (p3_words : Int32) (p3_rowLips : Int32) (p3_girlKnows : Int32) (p3_length : Nat → Int32) (p3_number : Nat → Int32) (p3_weight : Nat → Int32) (p3_lipsOf : Nat → Int32) (p2 : Int32) (ures : Int32 × Int32 × (Nat → Int32) × (Nat → Int32) × (Nat → Int32) × (Nat → Int32)) (hF : F_Text_tellWord N p2 p1 p1_len p3_words p3_length p3_number p3_weight p3_lipsOf = some ures) : m_Met l yX9_tellWord cX9_tellWord 5 (some .int) rm_Text_tellWord E (wd_Text_tellWord E a_p1 a_p3 a_p3_leastLike a_p3_row a_p3_others a_p3_length a_p3_number a_p3_weight a_p3_lipsOf p1_len p1 p3_words p3_rowLips p3_girlKnows p3_length p3_number p3_weight p3_lipsOf) (wd_Text_tellWord E a_p1 a_p3 a_p3_leastLike a_p3_row a_p3_others a_p3_length a_p3_number a_p3_weight a_p3_lipsOf p1_len p1 ures.2.1 p3_rowLips p3_girlKnows ures.2.2.1 ures.2.2.2.1 ures.2.2.2.2.1 ures.2.2.2.2.2) sz [.ref a_p1, .int p2, .ref a_p3] (some (.int ures.1)) := by
  refine m_ofI (by decide) (Nat.le_of_ble_eq_true rfl) ?_
  intro p e s m args below meth c A Q ls X hW hA hl hret
  obtain ⟨hx, hb, -, hown, hts, hK, -, hG⟩ := id X
  have hl : lv_has ls 5 [(0, .ref a_p1), (1, .int p2), (2, .ref a_p3)] := hl
  unfold F_Text_tellWord at hF
  refine lv_iconst (v := (0 : Int32)) hx hb dX9_tellWord_0 (by decide) ?_
  refine lv_istore_n (lv' := [(3, .int (0 : Int32)), (0, .ref a_p1), (1, .int p2), (2, .ref a_p3)]) hx hb dX9_tellWord_1 rfl hl (by decide) rfl (fun ls hl => ?_)
  refine lv_iconst (v := (1 : Int32)) hx hb dX9_tellWord_2 (by decide) ?_
  refine lv_istore (lv' := [(4, .int (1 : Int32)), (3, .int (0 : Int32)), (0, .ref a_p1), (1, .int p2), (2, .ref a_p3)]) hx hb dX9_tellWord_3 hl (by decide) rfl (fun ls hl => ?_)
  obtain ⟨out6, hX2, hr5, hF⟩ := bT_s1 hF
  have L1 : ∀ (k0 : Nat) (x3 : Int32) (x4 : Int32) (out8 : (Int32 × Int32 × (Nat → Int32) × (Nat → Int32) × (Nat → Int32) × (Nat → Int32)) ⊕ (Int32))  (H : Heap) (locs : List Loc) (ls : Array Slot), Text_tellWord_L5 p2 p1_len p1 p3_words p3_length p3_number p3_weight p3_lipsOf k0 x3 x4 = some out8 → m_H E A (wd_Text_tellWord E a_p1 a_p3 a_p3_leastLike a_p3_row a_p3_others a_p3_length a_p3_number a_p3_weight a_p3_lipsOf p1_len p1 p3_words p3_rowLips p3_girlKnows p3_length p3_number p3_weight p3_lipsOf) s.heap H locs → lv_has ls 5 [(4, .int x4), (3, .int x3), (0, .ref a_p1), (1, .int p2), (2, .ref a_p3)] → (∀ a, out8 = .inl a → a = ures) → (∀ (x3_2 : Int32) (H : Heap) (locs : List Loc) (ls : Array Slot), out8 = .inr x3_2 → m_H E A (wd_Text_tellWord E a_p1 a_p3 a_p3_leastLike a_p3_row a_p3_others a_p3_length a_p3_number a_p3_weight a_p3_lipsOf p1_len p1 p3_words p3_rowLips p3_girlKnows p3_length p3_number p3_weight p3_lipsOf) s.heap H locs → lv_has ls 5 [(3, .int x3_2), (0, .ref a_p1), (1, .int p2), (2, .ref a_p3)] → W p l e rm_Text_tellWord s m args below meth c H locs 0 0 Q (F0 m 39 ls [])) → W p l e rm_Text_tellWord s m args below meth c H locs 0 0 Q (F0 m 5 ls []) := by
    clear hF
    intro k0
    induction k0 with
    | zero =>
      intro x3 x4 out8 H locs ls hF
      cases hF
    | succ k0 ih4 =>
      intro x3 x4 out8 H locs ls hF hW hl hr7 hk3
      rw [Text_tellWord_L5] at hF
      refine lv_iload hx hb dX9_tellWord_5 (lv_at hl 0 rfl) ?_
      refine lv_iload_n hx hb dX9_tellWord_7 rfl (lv_at hl 3 rfl) ?_
      refine lv_icmp_gt (tgt := 39) hx hb dX9_tellWord_8 (by decide) (fun c9 => ?_) (fun c9 => ?_)
      · have hF := if_y c9 hF
        exact hk3 x3 _ _ _ (Option.some.inj hF).symm hW (lv_sub hl [1, 2, 3, 4] rfl)
      · have hF := if_n c9 hF
        refine lv_aload_n hx hb dX9_tellWord_11 rfl (lv_at hl 2 rfl) ?_
        refine lv_iload hx hb dX9_tellWord_12 (lv_at hl 0 rfl) ?_
        obtain ⟨g10, hF⟩ := gd_some hF
        refine m_iald X hW 0 (k := x4.toNatClampNeg) rfl g10 rfl dX9_tellWord_14 ?_
        refine lv_bipush (v := (6 : Int32)) hx hb dX9_tellWord_15 (by decide) ?_
        refine lv_icmp_lt (tgt := 23) hx hb dX9_tellWord_17 (by decide) (fun c11 => ?_) (fun c11 => ?_)
        · have hF := if_y c11 hF
          refine lv_iload_n hx hb dX9_tellWord_23 rfl (lv_at hl 1 rfl) ?_
          refine lv_bipush (v := (6 : Int32)) hx hb dX9_tellWord_24 (by decide) ?_
          refine lv_imul hx hb dX9_tellWord_26 ?_
          refine lv_aload_n hx hb dX9_tellWord_27 rfl (lv_at hl 2 rfl) ?_
          refine lv_iload hx hb dX9_tellWord_28 (lv_at hl 0 rfl) ?_
          refine m_iald X hW 0 (k := x4.toNatClampNeg) rfl g10 rfl dX9_tellWord_30 ?_
          refine lv_iadd hx hb dX9_tellWord_31 ?_
          refine lv_istore_n (lv' := [(3, .int ((x3 * (6 : Int32)) + (p1 x4.toNatClampNeg))), (4, .int x4), (0, .ref a_p1), (1, .int p2), (2, .ref a_p3)]) hx hb dX9_tellWord_32 rfl hl (by decide) rfl (fun ls hl => ?_)
          refine lv_iinc (v := (x4 + (1 : Int32))) (lv' := [(4, .int (x4 + (1 : Int32))), (3, .int ((x3 * (6 : Int32)) + (p1 x4.toNatClampNeg))), (0, .ref a_p1), (1, .int p2), (2, .ref a_p3)]) hx hb dX9_tellWord_33 hl (k := 1) rfl rfl (by decide) rfl (fun ls hl => ?_)
          refine lv_goto (tgt := 5) hx hb dX9_tellWord_36 (by decide) ?_
          exact ih4 ((x3 * (6 : Int32)) + (p1 x4.toNatClampNeg)) (x4 + (1 : Int32)) out8 _ _ _ hF hW (lv_sub hl [0, 1, 2, 3, 4] rfl) hr7 hk3
        · have hF := if_n c11 hF
          refine lv_bipush (v := (-2 : Int32)) hx hb dX9_tellWord_20 (by decide) ?_
          have hq := (Option.some.inj hF).symm
          have hq := hr7 _ hq
          subst hq
          exact hret _ _ _ _ hW dX9_tellWord_22
  refine L1 N (0 : Int32) (1 : Int32) out6 _ _ _ hX2 hW (lv_sub hl [0, 1, 2, 3, 4] rfl) hr5 ?_
  intro x3_2 H locs ls ho hW hl
  have hF := hF x3_2 ho
  clear L1
  refine lv_aload_n hx hb dX9_tellWord_39 rfl (lv_at hl 3 rfl) ?_
  refine lv_iload_n hx hb dX9_tellWord_40 rfl (lv_at hl 2 rfl) ?_
  refine lv_iload_n hx hb dX9_tellWord_41 rfl (lv_at hl 0 rfl) ?_
  refine lv_aload_n hx hb dX9_tellWord_42 rfl (lv_at hl 1 rfl) ?_
  refine lv_iconst (v := (0 : Int32)) hx hb dX9_tellWord_43 (by decide) ?_
  obtain ⟨g12, hF⟩ := gd_some hF
  refine m_iald X hW 0 (k := 0) rfl g12 rfl dX9_tellWord_44 ?_
  obtain ⟨r45, p3_words'_2, p3_length'_2, p3_number'_2, p3_weight'_2, p3_lipsOf'_2, hC13, hF⟩ := bO_s6 hF
  refine m_callV X hW hA hl.1 lkX9_149 (c_Lexicon_addWord l E _ N a_p3 a_p3_leastLike a_p3_row a_p3_others a_p3_length a_p3_number a_p3_weight a_p3_lipsOf p3_words p3_rowLips p3_girlKnows p3_length p3_number p3_weight p3_lipsOf p2 x3_2 (p1 0) (r45, p3_words'_2, p3_length'_2, p3_number'_2, p3_weight'_2, p3_lipsOf'_2) hC13) ([1, 2, 3, 4, 5]) (by decide) rfl rfl (ws' := (wd_Text_tellWord E a_p1 a_p3 a_p3_leastLike a_p3_row a_p3_others a_p3_length a_p3_number a_p3_weight a_p3_lipsOf p1_len p1 p3_words'_2 p3_rowLips p3_girlKnows p3_length'_2 p3_number'_2 p3_weight'_2 p3_lipsOf'_2)) rfl 1 rfl rfl rfl (As := [.int p2, .int x3_2, .int (p1 0)]) (rest := []) rfl rfl ⟨rfl, rfl, Nat.le_of_ble_eq_true rfl, Nat.le_of_ble_eq_true rfl⟩ (Nat.le_of_ble_eq_true rfl) (Nat.zero_le _) (Nat.zero_le _) dX9_tellWord_45 (fun H locs hW => ?_)
  clear hC13
  have hq := Option.some.inj hF
  subst hq
  exact hret _ _ _ _ hW dX9_tellWord_48
abbrev wd_Text_tellItem (E : m_E) (a_t : Nat) (a_t_row : Nat) (a_t_itemKind : Nat) (a_t_numbersOf : Nat) (a_t_number : Nat) (a_p2 : Nat) (a_p2_sightings : Nat) (a_p2_level : Nat) (a_p2_loss : Nat) (a_p2_floor : Nat) (a_p2_floor_place : Nat) (a_p2_floor_way : Nat) (a_p2_floor_tell : Nat) (a_p2_floor_look : Nat) (a_p2_floor_farSquare : Nat) (a_p2_lexicon : Nat) (a_p2_lexicon_row : Nat) (a_p2_lexicon_others : Nat) (a_p2_lexicon_length : Nat) (a_p2_lexicon_number : Nat) (a_p2_lexicon_weight : Nat) (a_p2_lexicon_leastLike : Nat) (a_p2_lexicon_lipsOf : Nat) (r_t_number : Nat → Nat) (t_bytes : Int32) (t_items : Int32) (t_at : Int32) (t_token : Int32) (t_tokenAt : Int32) (t_tokenNumber : Int32) (t_itemKind : Nat → Int32) (t_numbersOf : Nat → Int32) (t_number : Nat → Nat → Int32) (p2_clearness : Int32) (p2_isKept : Int32) (p2_floor_pillars : Int64) (p2_floor_weavers : Int32) (p2_floor_place : Nat → Int32) (p2_floor_way : Nat → Int32) (p2_floor_tell : Nat → Int32) (p2_floor_look : Nat → Int32) (p2_floor_farSquare : Nat → Int32) (p2_lexicon_words : Int32) (p2_lexicon_rowLips : Int32) (p2_lexicon_girlKnows : Int32) (p2_lexicon_length : Nat → Int32) (p2_lexicon_number : Nat → Int32) (p2_lexicon_weight : Nat → Int32) (p2_lexicon_leastLike : Nat → Int32) (p2_lexicon_lipsOf : Nat → Int32) : va_W := [(a_t, .inr (9, [.int t_bytes, .int t_items, .ref a_t_row, .ref a_t_itemKind, .ref a_t_numbersOf, .ref a_t_number, .int t_at, .int t_token, .int t_tokenAt, .int t_tokenNumber])), (a_t_itemKind, .inl (E.2.1 0, 34, .inl t_itemKind)), (a_t_numbersOf, .inl (E.2.1 0, 34, .inl t_numbersOf)), (a_t_number, .inl (E.2.1 3, 34, .inr (.inr (.inr (.inr (fun i => some (r_t_number i))))))), (a_p2, .inr (7, [.ref a_p2_floor, .ref a_p2_sightings, .ref a_p2_lexicon, .ref a_p2_level, .ref a_p2_loss, .int p2_clearness, .int p2_isKept])), (a_p2_floor, .inr (1, [.long p2_floor_pillars, .int p2_floor_weavers, .ref a_p2_floor_place, .ref a_p2_floor_way, .ref a_p2_floor_tell, .ref a_p2_floor_look, .ref a_p2_floor_farSquare])), (a_p2_floor_place, .inl (E.2.1 0, 8, .inl p2_floor_place)), (a_p2_floor_way, .inl (E.2.1 0, 8, .inl p2_floor_way)), (a_p2_floor_tell, .inl (E.2.1 0, 8, .inl p2_floor_tell)), (a_p2_floor_look, .inl (E.2.1 0, 8, .inl p2_floor_look)), (a_p2_floor_farSquare, .inl (E.2.1 0, 2, .inl p2_floor_farSquare)), (a_p2_lexicon, .inr (3, [.int p2_lexicon_words, .ref a_p2_lexicon_length, .ref a_p2_lexicon_number, .ref a_p2_lexicon_weight, .ref a_p2_lexicon_leastLike, .ref a_p2_lexicon_row, .int p2_lexicon_rowLips, .int p2_lexicon_girlKnows, .ref a_p2_lexicon_lipsOf, .ref a_p2_lexicon_others])), (a_p2_lexicon_length, .inl (E.2.1 0, 10, .inl p2_lexicon_length)), (a_p2_lexicon_number, .inl (E.2.1 0, 10, .inl p2_lexicon_number)), (a_p2_lexicon_weight, .inl (E.2.1 0, 10, .inl p2_lexicon_weight)), (a_p2_lexicon_leastLike, .inl (E.2.1 0, 6, .inl p2_lexicon_leastLike)), (a_p2_lexicon_lipsOf, .inl (E.2.1 0, 60, .inl p2_lexicon_lipsOf))] ++ (m_fam 34 (fun i => (r_t_number i, .inl (E.2.1 0, 7, .inl (t_number i)))) ++ [])
def rm_Text_tellItem : Room := { frames := 3, cells := 0, slots := 0, locals := 71 }
set_option maxHeartbeats 4000000 in
set_option maxRecDepth 100000 in
theorem c_Text_tellItem (l : Launch) (E : m_E) (sz N : Nat) (a_t : Nat) (a_t_row : Nat) (a_t_itemKind : Nat) (a_t_numbersOf : Nat) (a_t_number : Nat) (a_p2 : Nat) (a_p2_sightings : Nat) (a_p2_level : Nat) (a_p2_loss : Nat) (a_p2_floor : Nat) (a_p2_floor_place : Nat) (a_p2_floor_way : Nat) (a_p2_floor_tell : Nat) (a_p2_floor_look : Nat) (a_p2_floor_farSquare : Nat) (a_p2_lexicon : Nat) (a_p2_lexicon_row : Nat) (a_p2_lexicon_others : Nat) (a_p2_lexicon_length : Nat) (a_p2_lexicon_number : Nat) (a_p2_lexicon_weight : Nat) (a_p2_lexicon_leastLike : Nat) (a_p2_lexicon_lipsOf : Nat) (r_t_number : Nat → Nat) (t_bytes : Int32) (t_items : Int32) (t_at : Int32) (t_token : Int32) (t_tokenAt : Int32) (t_tokenNumber : Int32) (t_itemKind : Nat → Int32) (t_numbersOf : Nat → Int32) (t_number : Nat → Nat → Int32) (p2_clearness : Int32) (p2_isKept : Int32) (p2_floor_pillars : Int64) (p2_floor_weavers : Int32) (p2_floor_place : Nat → Int32) (p2_floor_way : Nat → Int32) (p2_floor_tell : Nat → Int32) (p2_floor_look : Nat → Int32) (p2_floor_farSquare : Nat → Int32) (p2_lexicon_words : Int32) (p2_lexicon_rowLips : Int32) (p2_lexicon_girlKnows : Int32) (p2_lexicon_length : Nat → Int32) (p2_lexicon_number : Nat → Int32) (p2_lexicon_weight : Nat → Int32) (p2_lexicon_leastLike : Nat → Int32) (p2_lexicon_lipsOf : Nat → Int32) (p1 : Int32) (ures : Int32 × Int64 × Int32 × (Nat → Int32) × (Nat → Int32) × (Nat → Int32) × (Nat → Int32) × (Nat → Int32) × Int32 × (Nat → Int32) × (Nat → Int32) × (Nat → Int32) × (Nat → Int32) × (Nat → Int32)) (hF : F_Text_tellItem N p1 t_items t_itemKind t_numbersOf t_number p2_floor_pillars p2_floor_weavers p2_floor_place p2_floor_way p2_floor_tell p2_floor_look p2_floor_farSquare p2_lexicon_words p2_lexicon_length p2_lexicon_number p2_lexicon_weight p2_lexicon_leastLike p2_lexicon_lipsOf = some ures) : m_Met l yX9_tellItem cX9_tellItem 5 (some .int) rm_Text_tellItem E (wd_Text_tellItem E a_t a_t_row a_t_itemKind a_t_numbersOf a_t_number a_p2 a_p2_sightings a_p2_level a_p2_loss a_p2_floor a_p2_floor_place a_p2_floor_way a_p2_floor_tell a_p2_floor_look a_p2_floor_farSquare a_p2_lexicon a_p2_lexicon_row a_p2_lexicon_others a_p2_lexicon_length a_p2_lexicon_number a_p2_lexicon_weight a_p2_lexicon_leastLike a_p2_lexicon_lipsOf r_t_number t_bytes t_items t_at t_token t_tokenAt t_tokenNumber t_itemKind t_numbersOf t_number p2_clearness p2_isKept p2_floor_pillars p2_floor_weavers p2_floor_place p2_floor_way p2_floor_tell p2_floor_look p2_floor_farSquare p2_lexicon_words p2_lexicon_rowLips p2_lexicon_girlKnows p2_lexicon_length p2_lexicon_number p2_lexicon_weight p2_lexicon_leastLike p2_lexicon_lipsOf) (wd_Text_tellItem E a_t a_t_row a_t_itemKind a_t_numbersOf a_t_number a_p2 a_p2_sightings a_p2_level a_p2_loss a_p2_floor a_p2_floor_place a_p2_floor_way a_p2_floor_tell a_p2_floor_look a_p2_floor_farSquare a_p2_lexicon a_p2_lexicon_row a_p2_lexicon_others a_p2_lexicon_length a_p2_lexicon_number a_p2_lexicon_weight a_p2_lexicon_leastLike a_p2_lexicon_lipsOf r_t_number t_bytes t_items t_at t_token t_tokenAt t_tokenNumber t_itemKind t_numbersOf t_number p2_clearness p2_isKept ures.2.1 ures.2.2.1 ures.2.2.2.1 ures.2.2.2.2.1 ures.2.2.2.2.2.1 ures.2.2.2.2.2.2.1 ures.2.2.2.2.2.2.2.1 ures.2.2.2.2.2.2.2.2.1 p2_lexicon_rowLips p2_lexicon_girlKnows ures.2.2.2.2.2.2.2.2.2.1 ures.2.2.2.2.2.2.2.2.2.2.1 ures.2.2.2.2.2.2.2.2.2.2.2.1 ures.2.2.2.2.2.2.2.2.2.2.2.2.1 ures.2.2.2.2.2.2.2.2.2.2.2.2.2) sz [.ref a_t, .int p1, .ref a_p2] (some (.int ures.1)) := by
  refine m_ofI (by decide) (Nat.le_of_ble_eq_true rfl) ?_
  intro p e s m args below meth c A Q ls X hW hA hl hret
  obtain ⟨hx, hb, -, hown, hts, hK, -, hG⟩ := id X
  have hl : lv_has ls 5 [(0, .ref a_t), (1, .int p1), (2, .ref a_p2)] := hl
  unfold F_Text_tellItem at hF
  refine lv_iload_n hx hb dX9_tellItem_0 rfl (lv_at hl 1 rfl) ?_
  refine lv_iconst (v := (0 : Int32)) hx hb dX9_tellItem_1 (by decide) ?_
  refine lv_aload_n hx hb dX9_tellItem_2 rfl (lv_at hl 0 rfl) ?_
  refine m_get X hW fdX9_36 0 rfl rfl dX9_tellItem_3 ?_
  refine lv_iconst (v := (1 : Int32)) hx hb dX9_tellItem_6 (by decide) ?_
  refine lv_isub hx hb dX9_tellItem_7 ?_
  refine m_callN X hW hA hl.1 lkX9_26 (c_S_within l E _ N   p1 (0 : Int32) (t_items - (1 : Int32)) (F_S_within p1 (0 : Int32) (t_items - (1 : Int32))) rfl) ([]) (by decide) rfl rfl (ws' := (wd_Text_tellItem E a_t a_t_row a_t_itemKind a_t_numbersOf a_t_number a_p2 a_p2_sightings a_p2_level a_p2_loss a_p2_floor a_p2_floor_place a_p2_floor_way a_p2_floor_tell a_p2_floor_look a_p2_floor_farSquare a_p2_lexicon a_p2_lexicon_row a_p2_lexicon_others a_p2_lexicon_length a_p2_lexicon_number a_p2_lexicon_weight a_p2_lexicon_leastLike a_p2_lexicon_lipsOf r_t_number t_bytes t_items t_at t_token t_tokenAt t_tokenNumber t_itemKind t_numbersOf t_number p2_clearness p2_isKept p2_floor_pillars p2_floor_weavers p2_floor_place p2_floor_way p2_floor_tell p2_floor_look p2_floor_farSquare p2_lexicon_words p2_lexicon_rowLips p2_lexicon_girlKnows p2_lexicon_length p2_lexicon_number p2_lexicon_weight p2_lexicon_leastLike p2_lexicon_lipsOf)) rfl (As := [.int p1, .int (0 : Int32), .int (t_items - (1 : Int32))]) (rest := []) rfl rfl ⟨rfl, rfl, Nat.le_of_ble_eq_true rfl, Nat.le_of_ble_eq_true rfl⟩ (Nat.le_of_ble_eq_true rfl) (Nat.zero_le _) (Nat.zero_le _) dX9_tellItem_8 (fun H locs hW => ?_)
  refine lv_if_ne (tgt := 17) hx hb dX9_tellItem_11 (by decide) (fun c1 => ?_) (fun c1 => ?_)
  · have hF := if_n c1 hF
    refine lv_aload_n hx hb dX9_tellItem_17 rfl (lv_at hl 0 rfl) ?_
    refine m_get X hW fdX9_23 0 rfl rfl dX9_tellItem_18 ?_
    refine lv_iload_n hx hb dX9_tellItem_21 rfl (lv_at hl 1 rfl) ?_
    obtain ⟨g2, hF⟩ := gd_some hF
    refine m_aaldA X hW 3 (k := p1.toNatClampNeg) rfl g2 rfl dX9_tellItem_22 ?_
    refine lv_astore_n (lv' := [(3, .ref (r_t_number (p1.toNatClampNeg))), (0, .ref a_t), (1, .int p1), (2, .ref a_p2)]) hx hb dX9_tellItem_23 rfl hl (by decide) rfl (fun ls hl => ?_)
    refine lv_aload_n hx hb dX9_tellItem_24 rfl (lv_at hl 3 rfl) ?_
    refine m_get X hW fdX9_110 4 rfl rfl dX9_tellItem_25 ?_
    refine lv_astore (lv' := [(4, .ref a_p2_floor), (3, .ref (r_t_number (p1.toNatClampNeg))), (0, .ref a_t), (1, .int p1), (2, .ref a_p2)]) hx hb dX9_tellItem_28 hl (by decide) rfl (fun ls hl => ?_)
    refine lv_aload_n hx hb dX9_tellItem_30 rfl (lv_at hl 2 rfl) ?_
    refine m_get X hW fdX9_15 0 rfl rfl dX9_tellItem_31 ?_
    refine lv_iload_n hx hb dX9_tellItem_34 rfl (lv_at hl 3 rfl) ?_
    refine m_iald X hW 1 (k := p1.toNatClampNeg) rfl g2 rfl dX9_tellItem_35 ?_
    by_cases c3 : (t_itemKind p1.toNatClampNeg) = (0 : Int32)
    · have hF := if_y c3 hF
      refine lv_tableIn (tgt := 76) hx hb dX9_tellItem_36 (by rw [c3]; decide) (by rw [c3]; decide) (by rw [c3]; rfl) (by decide) ?_
      refine lv_aload hx hb dX9_tellItem_76 (lv_at hl 0 rfl) ?_
      refine lv_aload_n hx hb dX9_tellItem_78 rfl (lv_at hl 1 rfl) ?_
      refine lv_iconst (v := (0 : Int32)) hx hb dX9_tellItem_79 (by decide) ?_
      refine m_iald X hW (17 + (p1.toNatClampNeg)) (k := 0) (m_fg (b := 17) rfl (by rfl) (ixb_lt g2)) (by decide) rfl dX9_tellItem_80 ?_
      obtain ⟨r81, p2_floor_pillars'_2, hC4, hF⟩ := bO_s2 hF
      refine m_callV X hW hA hl.1 lkX9_116 (c_Floor_putPillar l E _ N a_p2_floor a_p2_floor_way a_p2_floor_tell a_p2_floor_look a_p2_floor_farSquare a_p2_floor_place p2_floor_pillars p2_floor_weavers p2_floor_place ((t_number p1.toNatClampNeg) 0) (r81, p2_floor_pillars'_2) hC4) ([5, 6]) (by decide) rfl rfl (ws' := (wd_Text_tellItem E a_t a_t_row a_t_itemKind a_t_numbersOf a_t_number a_p2 a_p2_sightings a_p2_level a_p2_loss a_p2_floor a_p2_floor_place a_p2_floor_way a_p2_floor_tell a_p2_floor_look a_p2_floor_farSquare a_p2_lexicon a_p2_lexicon_row a_p2_lexicon_others a_p2_lexicon_length a_p2_lexicon_number a_p2_lexicon_weight a_p2_lexicon_leastLike a_p2_lexicon_lipsOf r_t_number t_bytes t_items t_at t_token t_tokenAt t_tokenNumber t_itemKind t_numbersOf t_number p2_clearness p2_isKept p2_floor_pillars'_2 p2_floor_weavers p2_floor_place p2_floor_way p2_floor_tell p2_floor_look p2_floor_farSquare p2_lexicon_words p2_lexicon_rowLips p2_lexicon_girlKnows p2_lexicon_length p2_lexicon_number p2_lexicon_weight p2_lexicon_leastLike p2_lexicon_lipsOf)) rfl 5 rfl rfl rfl (As := [.int ((t_number p1.toNatClampNeg) 0)]) (rest := []) rfl rfl ⟨rfl, rfl, Nat.le_of_ble_eq_true rfl, Nat.le_of_ble_eq_true rfl⟩ (Nat.le_of_ble_eq_true rfl) (Nat.zero_le _) (Nat.zero_le _) dX9_tellItem_81 (fun H locs hW => ?_)
      clear hC4
      have hq := Option.some.inj hF
      subst hq
      exact hret _ _ _ _ hW dX9_tellItem_84
    · have hF := if_n c3 hF
      by_cases c5 : (t_itemKind p1.toNatClampNeg) = (1 : Int32)
      · have hF := if_y c5 hF
        refine lv_tableIn (tgt := 85) hx hb dX9_tellItem_36 (by rw [c5]; decide) (by rw [c5]; decide) (by rw [c5]; rfl) (by decide) ?_
        refine lv_aload hx hb dX9_tellItem_85 (lv_at hl 0 rfl) ?_
        refine lv_aload_n hx hb dX9_tellItem_87 rfl (lv_at hl 1 rfl) ?_
        refine lv_iconst (v := (0 : Int32)) hx hb dX9_tellItem_88 (by decide) ?_
        refine m_iald X hW (17 + (p1.toNatClampNeg)) (k := 0) (m_fg (b := 17) rfl (by rfl) (ixb_lt g2)) (by decide) rfl dX9_tellItem_89 ?_
        refine lv_aload_n hx hb dX9_tellItem_90 rfl (lv_at hl 1 rfl) ?_
        refine lv_iconst (v := (1 : Int32)) hx hb dX9_tellItem_91 (by decide) ?_
        refine m_iald X hW (17 + (p1.toNatClampNeg)) (k := 1) (m_fg (b := 17) rfl (by rfl) (ixb_lt g2)) (by decide) rfl dX9_tellItem_92 ?_
        obtain ⟨r93, p2_floor_weavers'_2, p2_floor_place'_2, p2_floor_way'_2, p2_floor_tell'_4, p2_floor_look'_4, hC6, hF⟩ := bO_s6 hF
        refine m_callV X hW hA hl.1 lkX9_121 (c_Floor_putWeaver l E _ N a_p2_floor a_p2_floor_farSquare a_p2_floor_place a_p2_floor_way a_p2_floor_tell a_p2_floor_look p2_floor_pillars p2_floor_weavers p2_floor_place p2_floor_way p2_floor_tell p2_floor_look ((t_number p1.toNatClampNeg) 0) ((t_number p1.toNatClampNeg) 1) (r93, p2_floor_weavers'_2, p2_floor_place'_2, p2_floor_way'_2, p2_floor_tell'_4, p2_floor_look'_4) hC6) ([5, 6, 7, 8, 9]) (by decide) rfl rfl (ws' := (wd_Text_tellItem E a_t a_t_row a_t_itemKind a_t_numbersOf a_t_number a_p2 a_p2_sightings a_p2_level a_p2_loss a_p2_floor a_p2_floor_place a_p2_floor_way a_p2_floor_tell a_p2_floor_look a_p2_floor_farSquare a_p2_lexicon a_p2_lexicon_row a_p2_lexicon_others a_p2_lexicon_length a_p2_lexicon_number a_p2_lexicon_weight a_p2_lexicon_leastLike a_p2_lexicon_lipsOf r_t_number t_bytes t_items t_at t_token t_tokenAt t_tokenNumber t_itemKind t_numbersOf t_number p2_clearness p2_isKept p2_floor_pillars p2_floor_weavers'_2 p2_floor_place'_2 p2_floor_way'_2 p2_floor_tell'_4 p2_floor_look'_4 p2_floor_farSquare p2_lexicon_words p2_lexicon_rowLips p2_lexicon_girlKnows p2_lexicon_length p2_lexicon_number p2_lexicon_weight p2_lexicon_leastLike p2_lexicon_lipsOf)) rfl 5 rfl rfl rfl (As := [.int ((t_number p1.toNatClampNeg) 0), .int ((t_number p1.toNatClampNeg) 1)]) (rest := []) rfl rfl ⟨rfl, rfl, Nat.le_of_ble_eq_true rfl, Nat.le_of_ble_eq_true rfl⟩ (Nat.le_of_ble_eq_true rfl) (Nat.zero_le _) (Nat.zero_le _) dX9_tellItem_93 (fun H locs hW => ?_)
        clear hC6
        have hq := Option.some.inj hF
        subst hq
        exact hret _ _ _ _ hW dX9_tellItem_96
      · have hF := if_n c5 hF
        by_cases c7 : (t_itemKind p1.toNatClampNeg) = (2 : Int32)
        · have hF := if_y c7 hF
          refine lv_tableIn (tgt := 97) hx hb dX9_tellItem_36 (by rw [c7]; decide) (by rw [c7]; decide) (by rw [c7]; rfl) (by decide) ?_
          refine lv_aload hx hb dX9_tellItem_97 (lv_at hl 0 rfl) ?_
          refine lv_aload_n hx hb dX9_tellItem_99 rfl (lv_at hl 1 rfl) ?_
          refine lv_iconst (v := (0 : Int32)) hx hb dX9_tellItem_100 (by decide) ?_
          refine m_iald X hW (17 + (p1.toNatClampNeg)) (k := 0) (m_fg (b := 17) rfl (by rfl) (ixb_lt g2)) (by decide) rfl dX9_tellItem_101 ?_
          refine lv_iconst (v := (0 : Int32)) hx hb dX9_tellItem_102 (by decide) ?_
          refine lv_aload_n hx hb dX9_tellItem_103 rfl (lv_at hl 1 rfl) ?_
          refine lv_iconst (v := (1 : Int32)) hx hb dX9_tellItem_104 (by decide) ?_
          refine m_iald X hW (17 + (p1.toNatClampNeg)) (k := 1) (m_fg (b := 17) rfl (by rfl) (ixb_lt g2)) (by decide) rfl dX9_tellItem_105 ?_
          refine lv_aload_n hx hb dX9_tellItem_106 rfl (lv_at hl 1 rfl) ?_
          refine lv_iconst (v := (2 : Int32)) hx hb dX9_tellItem_107 (by decide) ?_
          refine m_iald X hW (17 + (p1.toNatClampNeg)) (k := 2) (m_fg (b := 17) rfl (by rfl) (ixb_lt g2)) (by decide) rfl dX9_tellItem_108 ?_
          obtain ⟨r109, p2_floor_tell'_5, p2_floor_look'_5, hC8, hF⟩ := bO_s3 hF
          refine m_callV X hW hA hl.1 lkX9_124 (c_Floor_setFree l E _ N a_p2_floor a_p2_floor_place a_p2_floor_way a_p2_floor_farSquare a_p2_floor_tell a_p2_floor_look p2_floor_pillars p2_floor_weavers p2_floor_tell p2_floor_look ((t_number p1.toNatClampNeg) 0) (0 : Int32) ((t_number p1.toNatClampNeg) 1) ((t_number p1.toNatClampNeg) 2) (r109, p2_floor_tell'_5, p2_floor_look'_5) hC8) ([5, 8, 9]) (by decide) rfl rfl (ws' := (wd_Text_tellItem E a_t a_t_row a_t_itemKind a_t_numbersOf a_t_number a_p2 a_p2_sightings a_p2_level a_p2_loss a_p2_floor a_p2_floor_place a_p2_floor_way a_p2_floor_tell a_p2_floor_look a_p2_floor_farSquare a_p2_lexicon a_p2_lexicon_row a_p2_lexicon_others a_p2_lexicon_length a_p2_lexicon_number a_p2_lexicon_weight a_p2_lexicon_leastLike a_p2_lexicon_lipsOf r_t_number t_bytes t_items t_at t_token t_tokenAt t_tokenNumber t_itemKind t_numbersOf t_number p2_clearness p2_isKept p2_floor_pillars p2_floor_weavers p2_floor_place p2_floor_way p2_floor_tell'_5 p2_floor_look'_5 p2_floor_farSquare p2_lexicon_words p2_lexicon_rowLips p2_lexicon_girlKnows p2_lexicon_length p2_lexicon_number p2_lexicon_weight p2_lexicon_leastLike p2_lexicon_lipsOf)) rfl 5 rfl rfl rfl (As := [.int ((t_number p1.toNatClampNeg) 0), .int (0 : Int32), .int ((t_number p1.toNatClampNeg) 1), .int ((t_number p1.toNatClampNeg) 2)]) (rest := []) rfl rfl ⟨rfl, rfl, Nat.le_of_ble_eq_true rfl, Nat.le_of_ble_eq_true rfl⟩ (Nat.le_of_ble_eq_true rfl) (Nat.zero_le _) (Nat.zero_le _) dX9_tellItem_109 (fun H locs hW => ?_)
          clear hC8
          have hq := Option.some.inj hF
          subst hq
          exact hret _ _ _ _ hW dX9_tellItem_112
        · have hF := if_n c7 hF
          by_cases c9 : (t_itemKind p1.toNatClampNeg) = (3 : Int32)
          · have hF := if_y c9 hF
            refine lv_tableIn (tgt := 113) hx hb dX9_tellItem_36 (by rw [c9]; decide) (by rw [c9]; decide) (by rw [c9]; rfl) (by decide) ?_
            refine lv_aload hx hb dX9_tellItem_113 (lv_at hl 0 rfl) ?_
            refine lv_aload_n hx hb dX9_tellItem_115 rfl (lv_at hl 1 rfl) ?_
            refine lv_iconst (v := (0 : Int32)) hx hb dX9_tellItem_116 (by decide) ?_
            refine m_iald X hW (17 + (p1.toNatClampNeg)) (k := 0) (m_fg (b := 17) rfl (by rfl) (ixb_lt g2)) (by decide) rfl dX9_tellItem_117 ?_
            refine lv_iconst (v := (1 : Int32)) hx hb dX9_tellItem_118 (by decide) ?_
            refine lv_aload_n hx hb dX9_tellItem_119 rfl (lv_at hl 1 rfl) ?_
            refine lv_iconst (v := (1 : Int32)) hx hb dX9_tellItem_120 (by decide) ?_
            refine m_iald X hW (17 + (p1.toNatClampNeg)) (k := 1) (m_fg (b := 17) rfl (by rfl) (ixb_lt g2)) (by decide) rfl dX9_tellItem_121 ?_
            refine lv_aload_n hx hb dX9_tellItem_122 rfl (lv_at hl 1 rfl) ?_
            refine lv_iconst (v := (2 : Int32)) hx hb dX9_tellItem_123 (by decide) ?_
            refine m_iald X hW (17 + (p1.toNatClampNeg)) (k := 2) (m_fg (b := 17) rfl (by rfl) (ixb_lt g2)) (by decide) rfl dX9_tellItem_124 ?_
            obtain ⟨r125, p2_floor_tell'_6, p2_floor_look'_6, hC10, hF⟩ := bO_s3 hF
            refine m_callV X hW hA hl.1 lkX9_124 (c_Floor_setFree l E _ N a_p2_floor a_p2_floor_place a_p2_floor_way a_p2_floor_farSquare a_p2_floor_tell a_p2_floor_look p2_floor_pillars p2_floor_weavers p2_floor_tell p2_floor_look ((t_number p1.toNatClampNeg) 0) (1 : Int32) ((t_number p1.toNatClampNeg) 1) ((t_number p1.toNatClampNeg) 2) (r125, p2_floor_tell'_6, p2_floor_look'_6) hC10) ([5, 8, 9]) (by decide) rfl rfl (ws' := (wd_Text_tellItem E a_t a_t_row a_t_itemKind a_t_numbersOf a_t_number a_p2 a_p2_sightings a_p2_level a_p2_loss a_p2_floor a_p2_floor_place a_p2_floor_way a_p2_floor_tell a_p2_floor_look a_p2_floor_farSquare a_p2_lexicon a_p2_lexicon_row a_p2_lexicon_others a_p2_lexicon_length a_p2_lexicon_number a_p2_lexicon_weight a_p2_lexicon_leastLike a_p2_lexicon_lipsOf r_t_number t_bytes t_items t_at t_token t_tokenAt t_tokenNumber t_itemKind t_numbersOf t_number p2_clearness p2_isKept p2_floor_pillars p2_floor_weavers p2_floor_place p2_floor_way p2_floor_tell'_6 p2_floor_look'_6 p2_floor_farSquare p2_lexicon_words p2_lexicon_rowLips p2_lexicon_girlKnows p2_lexicon_length p2_lexicon_number p2_lexicon_weight p2_lexicon_leastLike p2_lexicon_lipsOf)) rfl 5 rfl rfl rfl (As := [.int ((t_number p1.toNatClampNeg) 0), .int (1 : Int32), .int ((t_number p1.toNatClampNeg) 1), .int ((t_number p1.toNatClampNeg) 2)]) (rest := []) rfl rfl ⟨rfl, rfl, Nat.le_of_ble_eq_true rfl, Nat.le_of_ble_eq_true rfl⟩ (Nat.le_of_ble_eq_true rfl) (Nat.zero_le _) (Nat.zero_le _) dX9_tellItem_125 (fun H locs hW => ?_)
            clear hC10
            have hq := Option.some.inj hF
            subst hq
            exact hret _ _ _ _ hW dX9_tellItem_128
          · have hF := if_n c9 hF
            by_cases c11 : (t_itemKind p1.toNatClampNeg) = (4 : Int32)
            · have hF := if_y c11 hF
              refine lv_tableIn (tgt := 129) hx hb dX9_tellItem_36 (by rw [c11]; decide) (by rw [c11]; decide) (by rw [c11]; rfl) (by decide) ?_
              refine lv_aload hx hb dX9_tellItem_129 (lv_at hl 0 rfl) ?_
              refine lv_iconst (v := (0 : Int32)) hx hb dX9_tellItem_131 (by decide) ?_
              refine lv_aload_n hx hb dX9_tellItem_132 rfl (lv_at hl 1 rfl) ?_
              refine lv_iconst (v := (0 : Int32)) hx hb dX9_tellItem_133 (by decide) ?_
              refine m_iald X hW (17 + (p1.toNatClampNeg)) (k := 0) (m_fg (b := 17) rfl (by rfl) (ixb_lt g2)) (by decide) rfl dX9_tellItem_134 ?_
              obtain ⟨r135, p2_floor_farSquare'_3, hC12, hF⟩ := bO_s2 hF
              refine m_callV X hW hA hl.1 lkX9_128 (c_Floor_setFar l E _ N a_p2_floor a_p2_floor_place a_p2_floor_way a_p2_floor_tell a_p2_floor_look a_p2_floor_farSquare p2_floor_pillars p2_floor_weavers p2_floor_farSquare (0 : Int32) ((t_number p1.toNatClampNeg) 0) (r135, p2_floor_farSquare'_3) hC12) ([5, 10]) (by decide) rfl rfl (ws' := (wd_Text_tellItem E a_t a_t_row a_t_itemKind a_t_numbersOf a_t_number a_p2 a_p2_sightings a_p2_level a_p2_loss a_p2_floor a_p2_floor_place a_p2_floor_way a_p2_floor_tell a_p2_floor_look a_p2_floor_farSquare a_p2_lexicon a_p2_lexicon_row a_p2_lexicon_others a_p2_lexicon_length a_p2_lexicon_number a_p2_lexicon_weight a_p2_lexicon_leastLike a_p2_lexicon_lipsOf r_t_number t_bytes t_items t_at t_token t_tokenAt t_tokenNumber t_itemKind t_numbersOf t_number p2_clearness p2_isKept p2_floor_pillars p2_floor_weavers p2_floor_place p2_floor_way p2_floor_tell p2_floor_look p2_floor_farSquare'_3 p2_lexicon_words p2_lexicon_rowLips p2_lexicon_girlKnows p2_lexicon_length p2_lexicon_number p2_lexicon_weight p2_lexicon_leastLike p2_lexicon_lipsOf)) rfl 5 rfl rfl rfl (As := [.int (0 : Int32), .int ((t_number p1.toNatClampNeg) 0)]) (rest := []) rfl rfl ⟨rfl, rfl, Nat.le_of_ble_eq_true rfl, Nat.le_of_ble_eq_true rfl⟩ (Nat.le_of_ble_eq_true rfl) (Nat.zero_le _) (Nat.zero_le _) dX9_tellItem_135 (fun H locs hW => ?_)
              clear hC12
              refine lv_aload hx hb dX9_tellItem_138 (lv_at hl 0 rfl) ?_
              refine lv_iconst (v := (1 : Int32)) hx hb dX9_tellItem_140 (by decide) ?_
              refine lv_aload_n hx hb dX9_tellItem_141 rfl (lv_at hl 1 rfl) ?_
              refine lv_iconst (v := (1 : Int32)) hx hb dX9_tellItem_142 (by decide) ?_
              refine m_iald X hW (17 + (p1.toNatClampNeg)) (k := 1) (m_fg (b := 17) rfl (by rfl) (ixb_lt g2)) (by decide) rfl dX9_tellItem_143 ?_
              obtain ⟨r144, p2_floor_farSquare'_4, hC13, hF⟩ := bO_s2 hF
              refine m_callV X hW hA hl.1 lkX9_128 (c_Floor_setFar l E _ N a_p2_floor a_p2_floor_place a_p2_floor_way a_p2_floor_tell a_p2_floor_look a_p2_floor_farSquare p2_floor_pillars p2_floor_weavers p2_floor_farSquare'_3 (1 : Int32) ((t_number p1.toNatClampNeg) 1) (r144, p2_floor_farSquare'_4) hC13) ([5, 10]) (by decide) rfl rfl (ws' := (wd_Text_tellItem E a_t a_t_row a_t_itemKind a_t_numbersOf a_t_number a_p2 a_p2_sightings a_p2_level a_p2_loss a_p2_floor a_p2_floor_place a_p2_floor_way a_p2_floor_tell a_p2_floor_look a_p2_floor_farSquare a_p2_lexicon a_p2_lexicon_row a_p2_lexicon_others a_p2_lexicon_length a_p2_lexicon_number a_p2_lexicon_weight a_p2_lexicon_leastLike a_p2_lexicon_lipsOf r_t_number t_bytes t_items t_at t_token t_tokenAt t_tokenNumber t_itemKind t_numbersOf t_number p2_clearness p2_isKept p2_floor_pillars p2_floor_weavers p2_floor_place p2_floor_way p2_floor_tell p2_floor_look p2_floor_farSquare'_4 p2_lexicon_words p2_lexicon_rowLips p2_lexicon_girlKnows p2_lexicon_length p2_lexicon_number p2_lexicon_weight p2_lexicon_leastLike p2_lexicon_lipsOf)) rfl 5 rfl rfl rfl (As := [.int (1 : Int32), .int ((t_number p1.toNatClampNeg) 1)]) (rest := [.int r135]) rfl rfl ⟨rfl, rfl, Nat.le_of_ble_eq_true rfl, Nat.le_of_ble_eq_true rfl⟩ (Nat.le_of_ble_eq_true rfl) (Nat.zero_le _) (Nat.zero_le _) dX9_tellItem_144 (fun H locs hW => ?_)
              clear hC13
              refine va_mmin hx hb (X.2.2.1.trans hl.1.symm) hown (hts _ wk_1022) (hts _ wk_579) (hts _ wk_15) (hts _ wk_580) (Nat.le_of_ble_eq_true rfl) (Nat.le_of_ble_eq_true rfl) (Nat.zero_le _) (Nat.zero_le _) dX9_tellItem_147 ?_
              have hq := Option.some.inj hF
              subst hq
              exact hret _ _ _ _ hW dX9_tellItem_150
            · have hF := if_n c11 hF
              by_cases c14 : (t_itemKind p1.toNatClampNeg) = (5 : Int32)
              · have hF := if_y c14 hF
                refine lv_tableIn (tgt := 151) hx hb dX9_tellItem_36 (by rw [c14]; decide) (by rw [c14]; decide) (by rw [c14]; rfl) (by decide) ?_
                refine lv_aload_n hx hb dX9_tellItem_151 rfl (lv_at hl 1 rfl) ?_
                refine lv_aload_n hx hb dX9_tellItem_152 rfl (lv_at hl 2 rfl) ?_
                refine m_get X hW fdX9_18 0 rfl rfl dX9_tellItem_153 ?_
                refine lv_iload_n hx hb dX9_tellItem_156 rfl (lv_at hl 3 rfl) ?_
                refine m_iald X hW 2 (k := p1.toNatClampNeg) rfl g2 rfl dX9_tellItem_157 ?_
                refine lv_iconst (v := (1 : Int32)) hx hb dX9_tellItem_158 (by decide) ?_
                refine lv_isub hx hb dX9_tellItem_159 ?_
                refine lv_aload_n hx hb dX9_tellItem_160 rfl (lv_at hl 4 rfl) ?_
                refine m_get X hW fdX9_136 4 rfl rfl dX9_tellItem_161 ?_
                obtain ⟨r164, p2_lexicon_words'_2, p2_lexicon_length'_2, p2_lexicon_number'_2, p2_lexicon_weight'_2, p2_lexicon_lipsOf'_2, hC15, hF⟩ := bO_s6 hF
                refine m_callS X hW hA hl.1 lkX9_140 (c_Text_tellWord l E _ N (r_t_number (p1.toNatClampNeg)) a_p2_lexicon a_p2_lexicon_leastLike a_p2_lexicon_row a_p2_lexicon_others a_p2_lexicon_length a_p2_lexicon_number a_p2_lexicon_weight a_p2_lexicon_lipsOf 7 (t_number p1.toNatClampNeg) p2_lexicon_words p2_lexicon_rowLips p2_lexicon_girlKnows p2_lexicon_length p2_lexicon_number p2_lexicon_weight p2_lexicon_lipsOf ((t_numbersOf p1.toNatClampNeg) - (1 : Int32)) (r164, p2_lexicon_words'_2, p2_lexicon_length'_2, p2_lexicon_number'_2, p2_lexicon_weight'_2, p2_lexicon_lipsOf'_2) hC15) ([(17 + (p1.toNatClampNeg)), 11, 12, 13, 14, 16]) (m_nd (by have := (ixb_lt g2); simp only [va_nd, List.mem_cons, List.not_mem_nil, or_false, not_or, decide_eq_true_eq, Bool.and_eq_true, not_false_eq_true, and_true, true_and]; omega)) (m_Cc (m_fg (b := 17) rfl (by rfl) (ixb_lt g2)) (m_Cc rfl (m_Cc rfl (m_Cc rfl (m_Cc rfl (m_Cc rfl m_Cn)))))) rfl (ws' := (wd_Text_tellItem E a_t a_t_row a_t_itemKind a_t_numbersOf a_t_number a_p2 a_p2_sightings a_p2_level a_p2_loss a_p2_floor a_p2_floor_place a_p2_floor_way a_p2_floor_tell a_p2_floor_look a_p2_floor_farSquare a_p2_lexicon a_p2_lexicon_row a_p2_lexicon_others a_p2_lexicon_length a_p2_lexicon_number a_p2_lexicon_weight a_p2_lexicon_leastLike a_p2_lexicon_lipsOf r_t_number t_bytes t_items t_at t_token t_tokenAt t_tokenNumber t_itemKind t_numbersOf t_number p2_clearness p2_isKept p2_floor_pillars p2_floor_weavers p2_floor_place p2_floor_way p2_floor_tell p2_floor_look p2_floor_farSquare p2_lexicon_words'_2 p2_lexicon_rowLips p2_lexicon_girlKnows p2_lexicon_length'_2 p2_lexicon_number'_2 p2_lexicon_weight'_2 p2_lexicon_leastLike p2_lexicon_lipsOf'_2)) (m_putc (ws1 := (wd_Text_tellItem E a_t a_t_row a_t_itemKind a_t_numbersOf a_t_number a_p2 a_p2_sightings a_p2_level a_p2_loss a_p2_floor a_p2_floor_place a_p2_floor_way a_p2_floor_tell a_p2_floor_look a_p2_floor_farSquare a_p2_lexicon a_p2_lexicon_row a_p2_lexicon_others a_p2_lexicon_length a_p2_lexicon_number a_p2_lexicon_weight a_p2_lexicon_leastLike a_p2_lexicon_lipsOf r_t_number t_bytes t_items t_at t_token t_tokenAt t_tokenNumber t_itemKind t_numbersOf t_number p2_clearness p2_isKept p2_floor_pillars p2_floor_weavers p2_floor_place p2_floor_way p2_floor_tell p2_floor_look p2_floor_farSquare p2_lexicon_words p2_lexicon_rowLips p2_lexicon_girlKnows p2_lexicon_length p2_lexicon_number p2_lexicon_weight p2_lexicon_leastLike p2_lexicon_lipsOf)) (m_fset (b := 17) rfl (by rfl) (ixb_lt g2) rfl (by intro i _; by_cases h : i = (p1.toNatClampNeg) <;> simp [va_up, h])) (m_putc (ws1 := (wd_Text_tellItem E a_t a_t_row a_t_itemKind a_t_numbersOf a_t_number a_p2 a_p2_sightings a_p2_level a_p2_loss a_p2_floor a_p2_floor_place a_p2_floor_way a_p2_floor_tell a_p2_floor_look a_p2_floor_farSquare a_p2_lexicon a_p2_lexicon_row a_p2_lexicon_others a_p2_lexicon_length a_p2_lexicon_number a_p2_lexicon_weight a_p2_lexicon_leastLike a_p2_lexicon_lipsOf r_t_number t_bytes t_items t_at t_token t_tokenAt t_tokenNumber t_itemKind t_numbersOf t_number p2_clearness p2_isKept p2_floor_pillars p2_floor_weavers p2_floor_place p2_floor_way p2_floor_tell p2_floor_look p2_floor_farSquare p2_lexicon_words'_2 p2_lexicon_rowLips p2_lexicon_girlKnows p2_lexicon_length p2_lexicon_number p2_lexicon_weight p2_lexicon_leastLike p2_lexicon_lipsOf)) rfl (m_putc (ws1 := (wd_Text_tellItem E a_t a_t_row a_t_itemKind a_t_numbersOf a_t_number a_p2 a_p2_sightings a_p2_level a_p2_loss a_p2_floor a_p2_floor_place a_p2_floor_way a_p2_floor_tell a_p2_floor_look a_p2_floor_farSquare a_p2_lexicon a_p2_lexicon_row a_p2_lexicon_others a_p2_lexicon_length a_p2_lexicon_number a_p2_lexicon_weight a_p2_lexicon_leastLike a_p2_lexicon_lipsOf r_t_number t_bytes t_items t_at t_token t_tokenAt t_tokenNumber t_itemKind t_numbersOf t_number p2_clearness p2_isKept p2_floor_pillars p2_floor_weavers p2_floor_place p2_floor_way p2_floor_tell p2_floor_look p2_floor_farSquare p2_lexicon_words'_2 p2_lexicon_rowLips p2_lexicon_girlKnows p2_lexicon_length'_2 p2_lexicon_number p2_lexicon_weight p2_lexicon_leastLike p2_lexicon_lipsOf)) rfl (m_putc (ws1 := (wd_Text_tellItem E a_t a_t_row a_t_itemKind a_t_numbersOf a_t_number a_p2 a_p2_sightings a_p2_level a_p2_loss a_p2_floor a_p2_floor_place a_p2_floor_way a_p2_floor_tell a_p2_floor_look a_p2_floor_farSquare a_p2_lexicon a_p2_lexicon_row a_p2_lexicon_others a_p2_lexicon_length a_p2_lexicon_number a_p2_lexicon_weight a_p2_lexicon_leastLike a_p2_lexicon_lipsOf r_t_number t_bytes t_items t_at t_token t_tokenAt t_tokenNumber t_itemKind t_numbersOf t_number p2_clearness p2_isKept p2_floor_pillars p2_floor_weavers p2_floor_place p2_floor_way p2_floor_tell p2_floor_look p2_floor_farSquare p2_lexicon_words'_2 p2_lexicon_rowLips p2_lexicon_girlKnows p2_lexicon_length'_2 p2_lexicon_number'_2 p2_lexicon_weight p2_lexicon_leastLike p2_lexicon_lipsOf)) rfl (m_putc (ws1 := (wd_Text_tellItem E a_t a_t_row a_t_itemKind a_t_numbersOf a_t_number a_p2 a_p2_sightings a_p2_level a_p2_loss a_p2_floor a_p2_floor_place a_p2_floor_way a_p2_floor_tell a_p2_floor_look a_p2_floor_farSquare a_p2_lexicon a_p2_lexicon_row a_p2_lexicon_others a_p2_lexicon_length a_p2_lexicon_number a_p2_lexicon_weight a_p2_lexicon_leastLike a_p2_lexicon_lipsOf r_t_number t_bytes t_items t_at t_token t_tokenAt t_tokenNumber t_itemKind t_numbersOf t_number p2_clearness p2_isKept p2_floor_pillars p2_floor_weavers p2_floor_place p2_floor_way p2_floor_tell p2_floor_look p2_floor_farSquare p2_lexicon_words'_2 p2_lexicon_rowLips p2_lexicon_girlKnows p2_lexicon_length'_2 p2_lexicon_number'_2 p2_lexicon_weight'_2 p2_lexicon_leastLike p2_lexicon_lipsOf)) rfl (m_putc (ws1 := (wd_Text_tellItem E a_t a_t_row a_t_itemKind a_t_numbersOf a_t_number a_p2 a_p2_sightings a_p2_level a_p2_loss a_p2_floor a_p2_floor_place a_p2_floor_way a_p2_floor_tell a_p2_floor_look a_p2_floor_farSquare a_p2_lexicon a_p2_lexicon_row a_p2_lexicon_others a_p2_lexicon_length a_p2_lexicon_number a_p2_lexicon_weight a_p2_lexicon_leastLike a_p2_lexicon_lipsOf r_t_number t_bytes t_items t_at t_token t_tokenAt t_tokenNumber t_itemKind t_numbersOf t_number p2_clearness p2_isKept p2_floor_pillars p2_floor_weavers p2_floor_place p2_floor_way p2_floor_tell p2_floor_look p2_floor_farSquare p2_lexicon_words'_2 p2_lexicon_rowLips p2_lexicon_girlKnows p2_lexicon_length'_2 p2_lexicon_number'_2 p2_lexicon_weight'_2 p2_lexicon_leastLike p2_lexicon_lipsOf'_2)) rfl m_putn)))))) (As := [.ref (r_t_number (p1.toNatClampNeg)), .int ((t_numbersOf p1.toNatClampNeg) - (1 : Int32)), .ref a_p2_lexicon]) (rest := []) rfl rfl ⟨rfl, rfl, Nat.le_of_ble_eq_true rfl, Nat.le_of_ble_eq_true rfl⟩ (Nat.le_of_ble_eq_true rfl) (Nat.zero_le _) (Nat.zero_le _) dX9_tellItem_164 (fun H locs hW => ?_)
                clear hC15
                have hq := Option.some.inj hF
                subst hq
                exact hret _ _ _ _ hW dX9_tellItem_167
              · have hF := if_n c14 hF
                refine lv_tableOut (tgt := 168) hx hb dX9_tellItem_36 (m_sw_0_5 c3 c5 c7 c9 c11 c14) (by decide) ?_
                refine lv_aload_n hx hb dX9_tellItem_168 rfl (lv_at hl 4 rfl) ?_
                refine m_get X hW fdX9_136 4 rfl rfl dX9_tellItem_169 ?_
                refine lv_aload_n hx hb dX9_tellItem_172 rfl (lv_at hl 1 rfl) ?_
                refine lv_iconst (v := (0 : Int32)) hx hb dX9_tellItem_173 (by decide) ?_
                refine m_iald X hW (17 + (p1.toNatClampNeg)) (k := 0) (m_fg (b := 17) rfl (by rfl) (ixb_lt g2)) (by decide) rfl dX9_tellItem_174 ?_
                refine lv_aload_n hx hb dX9_tellItem_175 rfl (lv_at hl 1 rfl) ?_
                refine lv_iconst (v := (1 : Int32)) hx hb dX9_tellItem_176 (by decide) ?_
                refine m_iald X hW (17 + (p1.toNatClampNeg)) (k := 1) (m_fg (b := 17) rfl (by rfl) (ixb_lt g2)) (by decide) rfl dX9_tellItem_177 ?_
                obtain ⟨r178, p2_lexicon_leastLike'_2, hC16, hF⟩ := bO_s2 hF
                refine m_callV X hW hA hl.1 lkX9_144 (c_Lexicon_makeAlike l E _ N a_p2_lexicon a_p2_lexicon_length a_p2_lexicon_number a_p2_lexicon_weight a_p2_lexicon_row a_p2_lexicon_lipsOf a_p2_lexicon_others a_p2_lexicon_leastLike p2_lexicon_words p2_lexicon_rowLips p2_lexicon_girlKnows p2_lexicon_leastLike ((t_number p1.toNatClampNeg) 0) ((t_number p1.toNatClampNeg) 1) (r178, p2_lexicon_leastLike'_2) hC16) ([11, 15]) (by decide) rfl rfl (ws' := (wd_Text_tellItem E a_t a_t_row a_t_itemKind a_t_numbersOf a_t_number a_p2 a_p2_sightings a_p2_level a_p2_loss a_p2_floor a_p2_floor_place a_p2_floor_way a_p2_floor_tell a_p2_floor_look a_p2_floor_farSquare a_p2_lexicon a_p2_lexicon_row a_p2_lexicon_others a_p2_lexicon_length a_p2_lexicon_number a_p2_lexicon_weight a_p2_lexicon_leastLike a_p2_lexicon_lipsOf r_t_number t_bytes t_items t_at t_token t_tokenAt t_tokenNumber t_itemKind t_numbersOf t_number p2_clearness p2_isKept p2_floor_pillars p2_floor_weavers p2_floor_place p2_floor_way p2_floor_tell p2_floor_look p2_floor_farSquare p2_lexicon_words p2_lexicon_rowLips p2_lexicon_girlKnows p2_lexicon_length p2_lexicon_number p2_lexicon_weight p2_lexicon_leastLike'_2 p2_lexicon_lipsOf)) rfl 11 rfl rfl rfl (As := [.int ((t_number p1.toNatClampNeg) 0), .int ((t_number p1.toNatClampNeg) 1)]) (rest := []) rfl rfl ⟨rfl, rfl, Nat.le_of_ble_eq_true rfl, Nat.le_of_ble_eq_true rfl⟩ (Nat.le_of_ble_eq_true rfl) (Nat.zero_le _) (Nat.zero_le _) dX9_tellItem_178 (fun H locs hW => ?_)
                clear hC16
                have hq := Option.some.inj hF
                subst hq
                exact hret _ _ _ _ hW dX9_tellItem_181
  · have hF := if_y c1 hF
    refine lv_bipush (v := (-2 : Int32)) hx hb dX9_tellItem_14 (by decide) ?_
    have hq := Option.some.inj hF
    subst hq
    exact hret _ _ _ _ hW dX9_tellItem_16
